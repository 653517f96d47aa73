set_option maxHeartbeats 1000000 in
theorem r_parts {h : aH} {Q : aQ} (hn : 0 < h 85 1 ∧ h 85 1 ≤ 24) (ht : rkT h)
    (k : ∀ g, (∀ c, c ≠ 85 → c ≠ 103 → c ≠ 104 → g c = h c) → (∀ i, i ≠ 28 → i ≠ 30 → g 85 i = h 85 i) → okWay (h 85 1) (jN (h 85 1) (h 86)) (h 98) (h 89) (h 99) (mcr h) (h 85 26) (g 103) (g 85 28) → okBlocks (h 88) (g 103) (g 85 28) (g 104) (g 85 30) → Q 0 g) : aRun mX10_parts 4 [aR 85] h Q := by
  refine e_X10_parts (r_walks hn ht (fun h2 f1 f2 hw => ?_))
  have hr : ∀ i, 0 ≤ i → i < h2 85 28 → 0 ≤ h2 103 i ∧ h2 103 i < 24 := fun i a b => by have := (hw.2.2.2.2 i a b).1; omega
  have hw1 := hw.1
  suffices H : ∀ (d : Nat) (i : Int) (g : aH), 0 ≤ i → i ≤ h2 85 28 → h2 85 28 - i ≤ d → (∀ c, c ≠ 85 → c ≠ 104 → g c = h2 c) → (∀ j, j ≠ 30 → g 85 j = h2 85 j) → ((i = 0 ∧ g 85 30 = 0) ∨ okBlocks (h 88) (h2 103) i (up1 (g 104) (g 85 30) i) (g 85 30)) → AW mX10_parts 4 11 [some (aR 85), some (aI i)] [] g Q by
    exact H 24 0 _ (by omega) (by omega) (by omega) (fun c a _ => a_up_ne a) (fun j hj => by rw [a_up_fn, up1_ne hj]) (Or.inl ⟨rfl, by rw [a_up_fn, up1_eq]⟩)
  have fin : ∀ (i : Int) (g : aH), i = h2 85 28 → (∀ c, c ≠ 85 → c ≠ 104 → g c = h2 c) → (∀ j, j ≠ 30 → g 85 j = h2 85 j) → okBlocks (h 88) (h2 103) i (up1 (g 104) (g 85 30) i) (g 85 30) → (0 ≤ g 85 30 ∧ g 85 30 < 25) ∧ Q 0 (a_up g 104 (g 85 30) (g 85 28)) := by
    intro i g ei hf hfi hb
    have e1 : g 85 28 = h2 85 28 := hfi 28 (by decide)
    have b1 := hb.1
    refine ⟨by omega, ?_⟩
    rw [e1]
    refine k _ (fun c a b c' => by rw [a_up_ne c', hf c a c']; exact f1 c a b) (fun j a b => by rw [a_up_ne (by decide), hfi j b]; exact f2 j a) ?_ ?_
    · rw [a_up_ne (by decide), a_up_ne (by decide), hf 103 (by decide) (by decide), e1]; exact hw
    · rw [a_up_ne (show 103 ≠ 104 by decide), a_up_fn, a_up_ne (show 85 ≠ 104 by decide), hf 103 (by decide) (by decide), e1, ← ei]; exact hb
  intro d
  induction d with
  | zero =>
    intro i g i0 i1 hd hf hfi hb
    have e1 : g 85 28 = h2 85 28 := hfi 28 (by decide)
    have hb : okBlocks (h 88) (h2 103) i (up1 (g 104) (g 85 30) i) (g 85 30) := by
      rcases hb with z | z
      · omega
      · exact z
    exact s_X10_parts_11 ⟨fun q => fin i g (by omega) hf hfi hb, fun q => absurd q (by omega)⟩
  | succ d ih =>
    intro i g i0 i1 hd hf hfi hb
    have e1 : g 85 28 = h2 85 28 := hfi 28 (by decide)
    refine s_X10_parts_11 ⟨fun q => ?_, fun q => ⟨fun q1 => ?_, fun q1 => ?_⟩⟩
    · have hb : okBlocks (h 88) (h2 103) i (up1 (g 104) (g 85 30) i) (g 85 30) := by
        rcases hb with z | z
        · omega
        · exact z
      exact fin i g (by omega) hf hfi hb
    · subst q1
      have h3 : g 85 30 = 0 := by
        rcases hb with z | z
        · exact z.2
        · have := z.1; omega
      rw [h3]
      refine ⟨by omega, by omega, by omega, ?_⟩
      refine ih (0 + 1) _ (by omega) (by omega) (by omega) (fun c a b => by rw [a_up_ne a, a_up_ne b]; exact hf c a b) (fun j hj => by rw [a_up_fn, up1_ne hj, a_up_ne (by decide)]; exact hfi j hj) (Or.inr ?_)
      rw [a_up_fn, up1_eq, a_up_ne (by decide), a_up_fn]
      exact okBlocks.one
    · have hb : okBlocks (h 88) (h2 103) i (up1 (g 104) (g 85 30) i) (g 85 30) := by
        rcases hb with z | z
        · omega
        · exact z
      have b1 := hb.1
      have r1 := hr i i0 (by omega)
      have r2 := hr (i - 1) (by omega) (by omega)
      rw [hf 103 (by decide) (by decide), hf 88 (by decide) (by decide), f1 88 (by decide) (by decide)]
      refine ⟨by omega, by omega, by omega, by omega, by omega, fun q2 => ⟨by omega, ?_⟩, fun q2 => ⟨by omega, by omega, by omega, ?_⟩⟩
      · exact ih (i + 1) g (by omega) (by omega) (by omega) hf hfi (Or.inr (hb.same q2))
      · refine ih (i + 1) _ (by omega) (by omega) (by omega) (fun c a b => by rw [a_up_ne a, a_up_ne b]; exact hf c a b) (fun j hj => by rw [a_up_fn, up1_ne hj, a_up_ne (by decide)]; exact hfi j hj) (Or.inr ?_)
        rw [a_up_fn, up1_eq, a_up_ne (by decide), a_up_fn]
        exact hb.cut q2
/-- what a move of a, then b brings at least -/
def lB (ja jn pa pn l S T : Int → Int) (a b : Int) : Int := (max (((max (eo S l (ja b)) (eo S l (pa a))) + (l b)) + (max (ro T l (jn b)) ((l a) + (max (ro T l (jn a)) (ro T l (pn b)))))) (((max ((max (eo S l (ja b)) (eo S l (pa a))) + (l b)) (eo S l (ja a))) + (l a)) + (max (ro T l (jn a)) (ro T l (pn b)))))
def mLB (h : aH) : Int → Int → Int := lB (jA (h 87)) (jN (h 85 1) (h 86)) (h 97) (h 98) (h 89) (h 99) (h 100)
theorem f_least {h : aH} {a b : Int} : f_X10_leastBy h a b = mLB h a b := by
  unfold f_X10_leastBy mLB lB
  simp only [f_mE, f_mR, f_mJA, f_mJN]
theorem rkT.eoB {h : aH} (ht : rkT h) {u : Int} (hu : u < h 85 1) : 0 ≤ eo (h 99) (h 89) u ∧ eo (h 99) (h 89) u ≤ 2475 := by
  by_cases z : u < 0
  · rw [eo_neg z]; omega
  · have a := ht.2.2 u (by omega) hu
    have b := ht.1.2.2.2.2.2.2 u (by omega) hu
    rw [eo_pos (by omega)]; omega
theorem rkT.roB {h : aH} (ht : rkT h) {u : Int} (hu : u < h 85 1) : 0 ≤ ro (h 100) (h 89) u ∧ ro (h 100) (h 89) u ≤ 2475 := by
  by_cases z : u < 0
  · rw [ro_neg z]; omega
  · have a := ht.2.2 u (by omega) hu
    have b := ht.1.2.2.2.2.2.2 u (by omega) hu
    rw [ro_pos (by omega)]; omega
theorem o_least {h : aH} {a b : Int} (ht : rkT h) (hn : h 85 1 ≤ 24) (ha : 0 ≤ a ∧ a < h 85 1) (hb : 0 ≤ b ∧ b < h 85 1) : o_X10_leastBy h a b := by
  have ra := ht.1.rng ha.1 ha.2
  have rb := ht.1.rng hb.1 hb.2
  have la := ht.1.2.2.2.2.2.2 a ha.1 ha.2
  have lb := ht.1.2.2.2.2.2.2 b hb.1 hb.2
  unfold o_X10_leastBy
  simp only [f_mE, f_mR, f_mJA, f_mJN]
  have e1 := ht.eoB (u := jA (h 87) b) (by omega)
  have e2 := ht.eoB (u := h 97 a) (by omega)
  have e3 := ht.eoB (u := jA (h 87) a) (by omega)
  have e4 := ht.roB (u := jN (h 85 1) (h 86) a) (by omega)
  have e5 := ht.roB (u := h 98 b) (by omega)
  have e6 := ht.roB (u := jN (h 85 1) (h 86) b) (by omega)
  generalize eo (h 99) (h 89) (jA (h 87) b) = x1 at *
  generalize eo (h 99) (h 89) (h 97 a) = x2 at *
  generalize eo (h 99) (h 89) (jA (h 87) a) = x3 at *
  generalize ro (h 100) (h 89) (jN (h 85 1) (h 86) a) = x4 at *
  generalize ro (h 100) (h 89) (h 98 b) = x5 at *
  generalize ro (h 100) (h 89) (jN (h 85 1) (h 86) b) = x6 at *
  refine ⟨o_mJA hb.1 (by omega), o_mE ht (by omega) hn, by omega, o_mE ht (by omega) hn, by omega, by omega, o_mJA ha.1 (by omega), o_mE ht (by omega) hn, o_mJN ha.1 (by omega) hn, o_mR ht (by omega) hn, o_mR ht (by omega) hn, o_mJN hb.1 (by omega) hn, o_mR ht (by omega) hn, by omega, by omega, by omega, by omega⟩
def okMM (L : List Int) (w : Int → Int) (lb : Int → Int → Int) (f g : Int → Int) (n : Int) : Prop := n = L.length ∧ ∀ i : Nat, i < L.length → ∃ p, L[i]? = some p ∧ f (i : Int) = 100 * w p + w (p + 1) ∧ g (i : Int) = lb (w p) (w (p + 1))
theorem okMM.push {L : List Int} {w : Int → Int} {lb : Int → Int → Int} {f g : Int → Int} {n p : Int} (h : okMM L w lb f g n) : okMM (L ++ [p]) w lb (up1 f n (100 * w p + w (p + 1))) (up1 g n (lb (w p) (w (p + 1)))) (n + 1) := by
  refine ⟨by rw [h.1]; simp, fun i hi => ?_⟩
  simp at hi
  by_cases z : i = L.length
  · subst z
    refine ⟨p, ?_, ?_, ?_⟩
    · rw [List.getElem?_append_right (Nat.le_refl _)]; simp
    · rw [show ((L.length : Nat) : Int) = n from h.1.symm, up1_eq]
    · rw [show ((L.length : Nat) : Int) = n from h.1.symm, up1_eq]
  · obtain ⟨p', a, b, c⟩ := h.2 i (by omega)
    refine ⟨p', ?_, ?_, ?_⟩
    · rw [List.getElem?_append_left (by omega)]; exact a
    · rw [up1_ne (by rw [h.1]; omega)]; exact b
    · rw [up1_ne (by rw [h.1]; omega)]; exact c
theorem r_comesMove {h : aH} {Q : aQ} {p to : Int} {L : List Int} (ht : rkT h) (hn : h 85 1 ≤ 24) (hp : 0 ≤ p ∧ p + 1 < to ∧ to ≤ 24) (hw : ∀ i, 0 ≤ i → i < to → 0 ≤ h 103 i ∧ h 103 i < h 85 1) (hL : okMM L (h 103) (mLB h) (h 105) (h 106) (h 85 33)) (hlen : L.length < 24)
    (k : ∀ g, (∀ c, c ≠ 85 → c ≠ 105 → c ≠ 106 → g c = h c) → (∀ i, i ≠ 33 → g 85 i = h 85 i) → okMM (mvAdd (h 86) (h 103) p to L) (h 103) (mLB h) (g 105) (g 106) (g 85 33) → Q 0 g) : aRun mX10_comesMove 2 [aR 85, aI p] h Q := by
  have w1 := hw p hp.1 (by omega)
  have w2 := hw (p + 1) (by omega) hp.2.1
  refine e_X10_comesMove ⟨by omega, by omega, by omega, by omega, by omega, fun q => ?_, fun q => ?_⟩
  · refine k h (fun _ _ _ _ => rfl) (fun _ _ => rfl) ?_
    unfold mvAdd
    rw [if_neg (fun z => z.2 q)]
    exact hL
  · have h3 := hL.1
    refine ⟨by omega, by omega, by omega, o_least (h := h) ht hn ⟨w1.1, w1.2⟩ ⟨w2.1, w2.2⟩, by omega, ?_⟩
    have eL : f_X10_leastBy (a_up h 105 (h 85 33) (100 * h 103 p + h 103 (p + 1))) (h 103 p) (h 103 (p + 1)) = mLB h (h 103 p) (h 103 (p + 1)) := (show f_X10_leastBy (a_up h 105 (h 85 33) (100 * h 103 p + h 103 (p + 1))) (h 103 p) (h 103 (p + 1)) = f_X10_leastBy h (h 103 p) (h 103 (p + 1)) from rfl).trans f_least
    rw [eL]
    refine k _ (fun c a b d => by rw [a_up_ne a, a_up_ne d, a_up_ne b]) (fun i hi => by rw [a_up_fn, up1_ne hi, a_up_ne (by decide), a_up_ne (by decide)]) ?_
    rw [a_up_ne (show 105 ≠ 85 by decide), a_up_ne (show 105 ≠ 106 by decide), a_up_fn, a_up_ne (show 106 ≠ 85 by decide), a_up_fn, a_up_ne (show 106 ≠ 105 by decide), a_up_fn, up1_eq]
    unfold mvAdd
    rw [if_pos ⟨hp.2.1, q⟩]
    exact hL.push
