/-! blocks and moves -/
def okBlocks (mach w : Int → Int) (wl : Int) (e : Int → Int) (nb : Int) : Prop :=
  (1 ≤ nb ∧ nb ≤ wl) ∧ e 0 = 0 ∧ e nb = wl ∧ (∀ b, 0 ≤ b → b < nb → e b < e (b + 1)) ∧ (∀ b i, 0 ≤ b → b < nb → e b ≤ i → i + 1 < e (b + 1) → mach (w (i + 1)) = mach (w i)) ∧ (∀ b, 0 < b → b < nb → mach (w (e b)) ≠ mach (w (e b - 1)))
theorem okBlocks.mono {mach w : Int → Int} {wl : Int} {e : Int → Int} {nb : Int} (h : okBlocks mach w wl e nb) : ∀ (d : Nat) (b : Int), 0 ≤ b → b + d ≤ nb → e b + d ≤ e (b + d) := by
  intro d
  induction d with
  | zero => intro b a c; simp
  | succ d ih =>
    intro b a c
    have := ih b a (by omega)
    have := h.2.2.2.1 (b + d) (by omega) (by omega)
    rw [show b + ((d + 1 : Nat) : Int) = b + d + 1 by omega]
    omega
theorem okBlocks.at {mach w : Int → Int} {wl : Int} {e : Int → Int} {nb : Int} (h : okBlocks mach w wl e nb) {b : Int} (b0 : 0 ≤ b) (b1 : b ≤ nb) : b ≤ e b ∧ e b + (nb - b) ≤ wl := by
  have h1 := h.mono b.toNat 0 (by omega) (by omega)
  have h2 := h.mono (nb - b).toNat b b0 (by omega)
  rw [show (0 : Int) + (b.toNat : Int) = b by omega, h.2.1] at h1
  rw [show b + ((nb - b).toNat : Int) = nb by omega, h.2.2.1] at h2
  omega
theorem okBlocks.unique {mach mach' w w' : Int → Int} {wl : Int} {e e' : Int → Int} {nb nb' : Int} (hm : ∀ i, 0 ≤ i → i < wl → mach' (w' i) = mach (w i)) (h : okBlocks mach w wl e nb) (h' : okBlocks mach' w' wl e' nb') : nb = nb' ∧ ∀ b, 0 ≤ b → b ≤ nb → e b = e' b := by
  have key : ∀ (k : Nat) (b : Int), 0 ≤ b → b < k → b ≤ nb → b ≤ nb' → e b = e' b := by
    intro k
    induction k with
    | zero => intro b a c; omega
    | succ k ih =>
      intro b a c d f
      by_cases z : b = 0
      · rw [z, h.2.1, h'.2.1]
      · have eb := ih (b - 1) (by omega) (by omega) (by omega) (by omega)
        have s1 := h.2.2.2.1 (b - 1) (by omega) (by omega)
        have s2 := h'.2.2.2.1 (b - 1) (by omega) (by omega)
        rw [show b - 1 + 1 = b by omega] at s1 s2
        have r1 := h.at a d
        have r2 := h'.at a f
        have p1 := h.at (b := b - 1) (by omega) (by omega)
        by_cases x : e b < e' b
        · exfalso
          have q1 := h'.2.2.2.2.1 (b - 1) (e b - 1) (by omega) (by omega) (by omega) (by rw [show b - 1 + 1 = b by omega]; omega)
          rw [show e b - 1 + 1 = e b by omega, hm _ (by omega) (by omega), hm _ (by omega) (by omega)] at q1
          by_cases y : b < nb
          · exact h.2.2.2.2.2 b (by omega) y q1
          · have : b = nb := by omega
            subst this
            have := h.2.2.1
            omega
        · by_cases x2 : e' b < e b
          · exfalso
            have q1 := h.2.2.2.2.1 (b - 1) (e' b - 1) (by omega) (by omega) (by omega) (by rw [show b - 1 + 1 = b by omega]; omega)
            rw [show e' b - 1 + 1 = e' b by omega, ← hm _ (by omega) (by omega), ← hm _ (by omega) (by omega)] at q1
            by_cases y : b < nb'
            · exact h'.2.2.2.2.2 b (by omega) y q1
            · have : b = nb' := by omega
              subst this
              have := h'.2.2.1
              omega
          · omega
  have hnb : nb = nb' := by
    have := h.1
    have := h'.1
    by_cases x : nb < nb'
    · have q := key (nb.toNat + 1) nb (by omega) (by omega) (by omega) (by omega)
      have := h'.at (b := nb) (by omega) (by omega)
      rw [h.2.2.1] at q
      omega
    · by_cases x2 : nb' < nb
      · have q := key (nb'.toNat + 1) nb' (by omega) (by omega) (by omega) (by omega)
        have := h.at (b := nb') (by omega) (by omega)
        rw [h'.2.2.1] at q
        omega
      · omega
  exact ⟨hnb, fun b a c => key (b.toNat + 1) b a (by omega) c (by omega)⟩
theorem okBlocks.one {mach w e : Int → Int} : okBlocks mach w 1 (up1 (up1 e 0 0) 1 1) 1 := by
  refine ⟨by omega, ?_, ?_, fun b a c => ?_, fun b i a c d f => ?_, fun b a c => by omega⟩
  · rw [up1_ne (by omega), up1_eq]
  · rw [up1_eq]
  · have : b = 0 := by omega
    subst this
    rw [up1_ne (by omega), up1_eq, show (0 : Int) + 1 = 1 from rfl, up1_eq]; omega
  · have : b = 0 := by omega
    subst this
    rw [up1_ne (by omega), up1_eq] at d
    rw [show (0 : Int) + 1 = 1 from rfl, up1_eq] at f
    omega
theorem okBlocks.same {mach w e : Int → Int} {i nb : Int} (h : okBlocks mach w i (up1 e nb i) nb) (he : mach (w i) = mach (w (i - 1))) : okBlocks mach w (i + 1) (up1 e nb (i + 1)) nb := by
  obtain ⟨h1, h2, h3, h4, h5, h6⟩ := id h
  have lt : ∀ b, 0 ≤ b → b < nb → up1 e nb (i + 1) b = e b ∧ up1 e nb i b = e b := fun b a c => ⟨up1_ne (by omega), up1_ne (by omega)⟩
  refine ⟨by omega, ?_, up1_eq, fun b a c => ?_, fun b j a c d f => ?_, fun b a c => ?_⟩
  · rw [(lt 0 (by omega) (by omega)).1, ← (lt 0 (by omega) (by omega)).2]; exact h2
  · have q := h4 b a c
    rw [(lt b a c).2] at q
    rw [(lt b a c).1]
    by_cases z : b + 1 = nb
    · rw [z, up1_eq] at q ⊢; omega
    · rw [up1_ne z] at q ⊢; omega
  · rw [(lt b a c).1] at d
    by_cases z : b + 1 = nb
    · rw [z, up1_eq] at f
      by_cases y : j + 1 = i
      · rw [y, show j = i - 1 by omega]; exact he
      · exact h5 b j a c (by rw [(lt b a c).2]; exact d) (by rw [z, up1_eq]; omega)
    · rw [up1_ne z] at f
      exact h5 b j a c (by rw [(lt b a c).2]; exact d) (by rw [up1_ne z]; exact f)
  · have q := h6 b a c
    rw [(lt b (by omega) c).2] at q
    rw [(lt b (by omega) c).1]; exact q
theorem okBlocks.cut {mach w e : Int → Int} {i nb : Int} (h : okBlocks mach w i (up1 e nb i) nb) (he : mach (w i) ≠ mach (w (i - 1))) : okBlocks mach w (i + 1) (up1 (up1 e nb i) (nb + 1) (i + 1)) (nb + 1) := by
  obtain ⟨h1, h2, h3, h4, h5, h6⟩ := id h
  have lt : ∀ b, 0 ≤ b → b ≤ nb → up1 (up1 e nb i) (nb + 1) (i + 1) b = up1 e nb i b := fun b a c => up1_ne (by omega)
  refine ⟨by omega, ?_, up1_eq, fun b a c => ?_, fun b j a c d f => ?_, fun b a c => ?_⟩
  · rw [lt 0 (by omega) (by omega)]; exact h2
  · rw [lt b a (by omega)]
    by_cases z : b = nb
    · subst z; rw [up1_eq, up1_eq]; omega
    · rw [lt (b + 1) (by omega) (by omega)]; exact h4 b a (by omega)
  · rw [lt b a (by omega)] at d
    by_cases z : b = nb
    · subst z; rw [up1_eq] at d f; omega
    · rw [lt (b + 1) (by omega) (by omega)] at f; exact h5 b j a (by omega) d f
  · rw [lt b (by omega) (by omega)]
    by_cases z : b = nb
    · subst z; rw [up1_eq]; exact he
    · exact h6 b a (by omega)
set_option maxHeartbeats 1000000 in
theorem r_cutBlocks {h : aH} {Q : aQ} (hw : 1 ≤ h 38 1 ∧ h 38 1 ≤ 24) (hr : ∀ i, 0 ≤ i → i < h 38 1 → 0 ≤ h 39 i ∧ h 39 i < 24)
    (k : ∀ g, (∀ c, c ≠ 38 → c ≠ 40 → g c = h c) → (∀ i, i ≠ 3 → g 38 i = h 38 i) → okBlocks (h 6) (h 39) (h 38 1) (g 40) (g 38 3) → Q 0 g) : aRun mX6_cutBlocks 0 [aR 38, aR 3] h Q := by
  refine e_X6_cutBlocks ?_
  suffices H : ∀ (d : Nat) (i : Int) (g : aH), 0 ≤ i → i ≤ h 38 1 → h 38 1 - i ≤ d → (∀ c, c ≠ 38 → c ≠ 40 → g c = h c) → (∀ j, j ≠ 3 → g 38 j = h 38 j) → ((i = 0 ∧ g 38 3 = 0) ∨ okBlocks (h 6) (h 39) i (up1 (g 40) (g 38 3) i) (g 38 3)) → AW mX6_cutBlocks 0 7 [some (aR 38), some (aR 3), some (aI i)] [] g Q by
    exact H 24 0 _ (by omega) (by omega) (by omega) (fun c a _ => a_up_ne a) (fun j hj => by rw [a_up_fn, up1_ne hj]) (Or.inl ⟨rfl, by rw [a_up_fn, up1_eq]⟩)
  intro d
  induction d with
  | zero =>
    intro i g i0 i1 hd hf hfi hb
    have e1 : g 38 1 = h 38 1 := hfi 1 (by decide)
    have hb : okBlocks (h 6) (h 39) i (up1 (g 40) (g 38 3) i) (g 38 3) := by
      rcases hb with z | z
      · omega
      · exact z
    have ei : i = h 38 1 := by omega
    have b1 := hb.1
    refine s_X6_cutBlocks_7 ⟨fun q => ⟨by omega, ?_⟩, fun q => absurd q (by omega)⟩
    rw [e1]
    refine k _ (fun c a b => by rw [a_up_ne b]; exact hf c a b) (fun j hj => by rw [a_up_ne (by decide)]; exact hfi j hj) ?_
    rw [a_up_fn, a_up_ne (by decide), ← ei]
    exact hb
  | succ d ih =>
    intro i g i0 i1 hd hf hfi hb
    have e1 : g 38 1 = h 38 1 := hfi 1 (by decide)
    refine s_X6_cutBlocks_7 ⟨fun q => ?_, fun q => ⟨fun q1 => ?_, fun q1 => ?_⟩⟩
    · have hb : okBlocks (h 6) (h 39) i (up1 (g 40) (g 38 3) i) (g 38 3) := by
        rcases hb with z | z
        · omega
        · exact z
      have ei : i = h 38 1 := by omega
      have b1 := hb.1
      refine ⟨by omega, ?_⟩
      rw [e1]
      refine k _ (fun c a b => by rw [a_up_ne b]; exact hf c a b) (fun j hj => by rw [a_up_ne (by decide)]; exact hfi j hj) ?_
      rw [a_up_fn, a_up_ne (by decide), ← ei]
      exact hb
    · subst q1
      have h3 : g 38 3 = 0 := by
        rcases hb with z | z
        · exact z.2
        · have := z.1; omega
      rw [h3]
      refine ⟨by omega, by omega, by omega, ?_⟩
      refine ih (0 + 1) _ (by omega) (by omega) (by omega) (fun c a b => by rw [a_up_ne a, a_up_ne b]; exact hf c a b) (fun j hj => by rw [a_up_fn, up1_ne hj, a_up_ne (by decide)]; exact hfi j hj) (Or.inr ?_)
      rw [a_up_fn, up1_eq, a_up_ne (by decide), a_up_fn]
      exact okBlocks.one
    · have hb : okBlocks (h 6) (h 39) i (up1 (g 40) (g 38 3) i) (g 38 3) := by
        rcases hb with z | z
        · omega
        · exact z
      have b1 := hb.1
      have r1 := hr i i0 (by omega)
      have r2 := hr (i - 1) (by omega) (by omega)
      rw [hf 39 (by decide) (by decide), hf 6 (by decide) (by decide)]
      refine ⟨by omega, by omega, by omega, by omega, by omega, fun q2 => ⟨by omega, ?_⟩, fun q2 => ⟨by omega, by omega, by omega, ?_⟩⟩
      · exact ih (i + 1) g (by omega) (by omega) (by omega) hf hfi (Or.inr (hb.same q2))
      · refine ih (i + 1) _ (by omega) (by omega) (by omega) (fun c a b => by rw [a_up_ne a, a_up_ne b]; exact hf c a b) (fun j hj => by rw [a_up_fn, up1_ne hj, a_up_ne (by decide)]; exact hfi j hj) (Or.inr ?_)
        rw [a_up_fn, up1_eq, a_up_ne (by decide), a_up_fn]
        exact hb.cut q2
def mvAdd (job w : Int → Int) (p to : Int) (L : List Int) : List Int := if p + 1 < to ∧ job (w p) ≠ job (w (p + 1)) then L ++ [p] else L
def mvStep (nb : Int) (e job w : Int → Int) (b : Int) (L : List Int) : List Int :=
  if b < nb - 1 ∧ e b ≤ e (b + 1) - 2 ∧ ¬ (0 < b ∧ e (b + 1) - e b = 2) then mvAdd job w (e (b + 1) - 2) (e (b + 1)) (if 0 < b then mvAdd job w (e b) (e (b + 1)) L else L) else (if 0 < b then mvAdd job w (e b) (e (b + 1)) L else L)
def mvL (nb : Int) (e job w : Int → Int) : Nat → List Int
  | 0 => []
  | b + 1 => mvStep nb e job w b (mvL nb e job w b)
def mvF (nb : Int) (e job w : Int → Int) : List Int := if nb < 2 then [] else mvL nb e job w nb.toNat
def okMv (L : List Int) (f : Int → Int) (n : Int) : Prop := n = L.length ∧ ∀ i : Nat, i < L.length → L[i]? = some (f (i : Int))
theorem okMv.push {L : List Int} {f : Int → Int} {n a : Int} (h : okMv L f n) : okMv (L ++ [a]) (up1 f n a) (n + 1) := by
  refine ⟨by rw [h.1]; simp, fun i hi => ?_⟩
  simp at hi
  by_cases z : i = L.length
  · subst z
    rw [List.getElem?_append_right (Nat.le_refl _), show ((L.length : Nat) : Int) = n from h.1.symm, up1_eq]
    simp
  · rw [List.getElem?_append_left (by omega), up1_ne (by rw [h.1]; omega)]
    exact h.2 i (by omega)
theorem mvAdd_len {job w : Int → Int} {p to : Int} {L : List Int} : (mvAdd job w p to L).length ≤ L.length + 1 ∧ (to ≤ p + 1 → mvAdd job w p to L = L) := by
  unfold mvAdd
  split
  · simp; omega
  · simp
theorem mvStep_len {nb : Int} {e job w : Int → Int} {b : Int} {L : List Int} (hb : 0 ≤ b) (he : e b < e (b + 1)) (hL : (L.length : Int) ≤ e b) : ((mvStep nb e job w b L).length : Int) ≤ e (b + 1) := by
  unfold mvStep
  have a1 := mvAdd_len (job := job) (w := w) (p := e b) (to := e (b + 1)) (L := L)
  by_cases z : 0 < b
  · rw [if_pos z]
    have a2 := mvAdd_len (job := job) (w := w) (p := e (b + 1) - 2) (to := e (b + 1)) (L := mvAdd job w (e b) (e (b + 1)) L)
    split
    · omega
    · by_cases y : e (b + 1) ≤ e b + 1
      · rw [a1.2 y]; omega
      · omega
  · rw [if_neg z]
    have a2 := mvAdd_len (job := job) (w := w) (p := e (b + 1) - 2) (to := e (b + 1)) (L := L)
    split
    · omega
    · omega
