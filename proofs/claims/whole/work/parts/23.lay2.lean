theorem kahn.bound {n : Int} {ja pa l dj dp w S q : Int → Int} {qd : Int} (h : kahn n ja pa l dj dp w S q qd) (hl : ∀ t, 0 ≤ t → t < n → 1 ≤ l t ∧ l t ≤ 99) : ∀ (d : Nat) (j : Int), 0 ≤ j → j < qd → j < d → S (q j) ≤ 99 * j := by
  obtain ⟨h1, h2, h3, h4, h5, h6, h7, h8, h9, h10⟩ := id h
  intro d
  induction d with
  | zero => intro j a b c; omega
  | succ d ih =>
    intro j a b c
    have hq := (h4 j a b).1
    have e := h7 (q j) hq.1 hq.2
    have key : ∀ (a1 d1 : Int → Int), (0 ≤ a1 (q j) → ∃ j', 0 ≤ j' ∧ j' < j ∧ q j' = a1 (q j)) → st1 a1 d1 S l (q j) ≤ 99 * j := by
      intro a1 d1 hx
      unfold st1
      split
      · rename_i z
        obtain ⟨j', p0, p1, p2⟩ := hx z.1
        have := ih j' p0 (by omega) (by omega)
        have hq' := (h4 j' p0 (by omega)).1
        have := hl (q j') hq'.1 hq'.2
        rw [← p2]
        omega
      · omega
    have k1 := key ja dj (h10 j a b).1
    have k2 := key pa dp (h10 j a b).2
    omega
def frL (x : Nat) (h g : aH) : Prop := ∀ c, c ≠ x → c ≠ x + 4 → c ≠ x + 7 → c ≠ x + 8 → g c = h c
theorem frL.trans {x : Nat} {h g g' : aH} (a : frL x h g) (b : frL x g g') : frL x h g' := fun c h1 h2 h3 h4 => (b c h1 h2 h3 h4).trans (a c h1 h2 h3 h4)
set_option maxHeartbeats 1000000 in
theorem r_release {x : Nat} (hx : isT x) {n : Int} {ja jn pa l dj dp : Int → Int} {g : aH} {Q : aQ} {t u e : Int} (hk : kahn n ja pa l dj dp (g (x + 7)) (g (x + 4)) (g (x + 8)) (g x 8)) (hn : 0 ≤ n ∧ n ≤ 24) (hl : ∀ t, 0 ≤ t → t < n → 1 ≤ l t) (hd : dual n ja jn) (hpr : ∀ v, 0 ≤ v → v < n → pa v < n) (h0 : 0 ≤ t) (ht : t < n) (hw : g (x + 7) t = 0) (hdj : dj t = 0) (hu : u = jn t) (he : e = g (x + 4) t + l t)
    (k : ∀ g', frL x g g' → (∀ i, i ≠ 8 → g' x i = g x i) → kahn n ja pa l (up1 dj t 1) dp (g' (x + 7)) (g' (x + 4)) (g' (x + 8)) (g' x 8) → (∀ v, 0 ≤ v → v < n → g (x + 7) v = 0 → g' (x + 4) v = g (x + 4) v ∧ g' (x + 7) v = 0) → (∀ j, 0 ≤ j → j < g x 8 → g' (x + 8) j = g (x + 8) j) → g x 8 ≤ g' x 8 → Q 0 g') : aRun mX8_release 1 [aR x, aI u, aI e] g Q := by
  refine e_X8_release hx ⟨fun q => ?_, fun q => ?_⟩
  · exact k g (fun _ _ _ _ _ => rfl) (fun _ _ => rfl) (hk.none hd h0 ht hw (by omega)) (fun v a b c => ⟨rfl, c⟩) (fun _ _ _ => rfl) (by omega)
  have hun : 0 ≤ u ∧ u < n := by
    rcases (hd t h0 ht).2 with z | ⟨z, -⟩ <;> omega
  obtain ⟨w1, w2, hqn, ka, kb⟩ := hk.some hn.1 hl hd hpr h0 ht hw hdj hun.1 hun.2 hu.symm
  have hqd := hk.2.1
  subst he
  have hv : ∀ v, 0 ≤ v → v < n → g (x + 7) v = 0 → v ≠ u := fun v a b c d => by rw [d] at c; omega
  refine ⟨by omega, by omega, fun z => ⟨fun z2 => absurd z2 (by omega), fun z2 => ⟨by omega, by omega, ?_⟩⟩, fun z => ?_⟩
  · have e7 : (a_up (a_up (a_up (a_up g (x + 4) u (max (g (x + 4) u) (g (x + 4) t + l t))) (x + 7) u (g (x + 7) u - 1)) (x + 8) (g x 8) u) x 8 (g x 8 + 1)) (x + 7) = up1 (g (x + 7)) u (g (x + 7) u - 1) := by
      rw [a_up_ne (by omega), a_up_ne (by omega), a_up_fn, a_up_ne (by omega)]
    have e4 : (a_up (a_up (a_up (a_up g (x + 4) u (max (g (x + 4) u) (g (x + 4) t + l t))) (x + 7) u (g (x + 7) u - 1)) (x + 8) (g x 8) u) x 8 (g x 8 + 1)) (x + 4) = up1 (g (x + 4)) u (max (g (x + 4) u) (g (x + 4) t + l t)) := by
      rw [a_up_ne (by omega), a_up_ne (by omega), a_up_ne (by omega), a_up_fn]
    have e8 : (a_up (a_up (a_up (a_up g (x + 4) u (max (g (x + 4) u) (g (x + 4) t + l t))) (x + 7) u (g (x + 7) u - 1)) (x + 8) (g x 8) u) x 8 (g x 8 + 1)) (x + 8) = up1 (g (x + 8)) (g x 8) u := by
      rw [a_up_ne (by omega), a_up_fn, a_up_ne (by omega), a_up_ne (by omega)]
    have e0 : (a_up (a_up (a_up (a_up g (x + 4) u (max (g (x + 4) u) (g (x + 4) t + l t))) (x + 7) u (g (x + 7) u - 1)) (x + 8) (g x 8) u) x 8 (g x 8 + 1)) x = up1 (g x) 8 (g x 8 + 1) := by
      rw [a_up_fn, a_up_ne (by omega), a_up_ne (by omega), a_up_ne (by omega)]
    refine k _ (fun c a1 a2 a3 a4 => ?_) (fun i hi => ?_) ?_ (fun v a b c => ?_) (fun j a b => ?_) ?_
    · rw [a_up_ne a1, a_up_ne a4, a_up_ne a3, a_up_ne a2]
    · rw [e0, up1_ne hi]
    · rw [e7, e4, e8, e0, up1_eq]
      exact ka z
    · rw [e7, e4, up1_ne (hv v a b c), up1_ne (hv v a b c)]
      exact ⟨rfl, c⟩
    · rw [e8, up1_ne (by omega)]
    · rw [e0, up1_eq]; omega
  · have e7 : (a_up (a_up g (x + 4) u (max (g (x + 4) u) (g (x + 4) t + l t))) (x + 7) u (g (x + 7) u - 1)) (x + 7) = up1 (g (x + 7)) u (g (x + 7) u - 1) := by
      rw [a_up_fn, a_up_ne (by omega)]
    have e4 : (a_up (a_up g (x + 4) u (max (g (x + 4) u) (g (x + 4) t + l t))) (x + 7) u (g (x + 7) u - 1)) (x + 4) = up1 (g (x + 4)) u (max (g (x + 4) u) (g (x + 4) t + l t)) := by
      rw [a_up_ne (by omega), a_up_fn]
    have e8 : (a_up (a_up g (x + 4) u (max (g (x + 4) u) (g (x + 4) t + l t))) (x + 7) u (g (x + 7) u - 1)) (x + 8) = g (x + 8) := by
      rw [a_up_ne (by omega), a_up_ne (by omega)]
    have e0 : (a_up (a_up g (x + 4) u (max (g (x + 4) u) (g (x + 4) t + l t))) (x + 7) u (g (x + 7) u - 1)) x = g x := by
      rw [a_up_ne (by omega), a_up_ne (by omega)]
    refine k _ (fun c a1 a2 a3 a4 => ?_) (fun i hi => ?_) ?_ (fun v a b c => ?_) (fun j a b => ?_) ?_
    · rw [a_up_ne a3, a_up_ne a2]
    · rw [e0]
    · rw [e7, e4, e8, e0]
      exact kb z
    · rw [e7, e4, up1_ne (hv v a b c), up1_ne (hv v a b c)]
      exact ⟨rfl, c⟩
    · rw [e8]
    · rw [e0]; omega
def d0 : Int → Int := fun _ => 0
theorem f_JA {h : aH} {t : Int} : f_X5_jobAhead h 3 t = jA (h 5) t := rfl
theorem f_JN {h : aH} {t : Int} : f_X5_jobNext h 3 t = jN (h 3 1) (h 4) t := rfl
theorem o_JA {h : aH} {t : Int} (h0 : 0 ≤ t) (h1 : t < 24) : o_X5_jobAhead h 3 t := by
  unfold o_X5_jobAhead
  exact ⟨by omega, fun _ => by omega⟩
theorem o_JN {h : aH} {t : Int} (h0 : 0 ≤ t) (h1 : t < 24) (hn : h 3 1 ≤ 24) : o_X5_jobNext h 3 t := by
  unfold o_X5_jobNext
  exact ⟨by omega, fun q => by omega⟩
theorem wt_d0 {a : Int → Int} {t : Int} (h : a t = -1 ∨ 0 ≤ a t) : (if a t = -1 then (0 : Int) else 1) = wt a d0 t := by
  unfold wt d0
  rcases h with h | h
  · rw [if_pos h, if_neg (by omega)]
  · rw [if_neg (by omega), if_pos h]; rfl
set_option maxHeartbeats 1000000 in
theorem r_queueFree {x : Nat} (hx : isT x) {h : aH} {Q : aQ} {l : Int → Int} (hs : cShop h) (hpa : ∀ t, 0 ≤ t → t < h 3 1 → h (x + 2) t = -1 ∨ 0 ≤ h (x + 2) t)
    (k : ∀ g, frL x h g → (∀ i, i ≠ 8 → g x i = h x i) → kahn (h 3 1) (jA (h 5)) (h (x + 2)) l d0 d0 (g (x + 7)) (g (x + 4)) (g (x + 8)) (g x 8) → Q 0 g) : aRun mX8_queueFree 1 [aR x, aR 3] h Q := by
  refine e_X8_queueFree hx ?_
  have hn := hs.1.1
  have hja : ∀ t, 0 ≤ t → t < h 3 1 → jA (h 5) t = -1 ∨ 0 ≤ jA (h 5) t := fun t a b => by
    rcases (hs.1.dual t a b).1 with z | z <;> omega
  suffices H : ∀ (d : Nat) (t : Int) (g : aH), 0 ≤ t → t ≤ h 3 1 → h 3 1 - t ≤ d → frL x h g → (∀ i, i ≠ 8 → g x i = h x i) → (0 ≤ g x 8 ∧ g x 8 ≤ t) → (∀ v, 0 ≤ v → v < t → g (x + 4) v = 0 ∧ g (x + 7) v = wt (jA (h 5)) d0 v + wt (h (x + 2)) d0 v) → (∀ j, 0 ≤ j → j < g x 8 → (0 ≤ g (x + 8) j ∧ g (x + 8) j < t) ∧ g (x + 7) (g (x + 8) j) = 0) → (∀ j j', 0 ≤ j → j < g x 8 → 0 ≤ j' → j' < g x 8 → g (x + 8) j = g (x + 8) j' → j = j') → (∀ v, 0 ≤ v → v < t → g (x + 7) v = 0 → ∃ j, 0 ≤ j ∧ j < g x 8 ∧ g (x + 8) j = v) → AW mX8_queueFree 1 7 [some (aR x), some (aR 3), some (aI t)] [] g Q by
    refine H 24 0 _ (by omega) (by omega) (by omega) (fun c a1 _ _ _ => a_up_ne a1) (fun i hi => ?_) ?_ (fun v a b => by omega) (fun j a b => ?_) (fun j j' a b => ?_) (fun v a b => by omega)
    · rw [a_up_fn, up1_ne hi]
    · rw [a_up_fn, up1_eq]; omega
    · rw [a_up_fn, up1_eq] at b; omega
    · rw [a_up_fn, up1_eq] at b; omega
  have fin : ∀ (t : Int) (g : aH), t = h 3 1 → frL x h g → (∀ i, i ≠ 8 → g x i = h x i) → (0 ≤ g x 8 ∧ g x 8 ≤ t) → (∀ v, 0 ≤ v → v < t → g (x + 4) v = 0 ∧ g (x + 7) v = wt (jA (h 5)) d0 v + wt (h (x + 2)) d0 v) → (∀ j, 0 ≤ j → j < g x 8 → (0 ≤ g (x + 8) j ∧ g (x + 8) j < t) ∧ g (x + 7) (g (x + 8) j) = 0) → (∀ j j', 0 ≤ j → j < g x 8 → 0 ≤ j' → j' < g x 8 → g (x + 8) j = g (x + 8) j' → j = j') → (∀ v, 0 ≤ v → v < t → g (x + 7) v = 0 → ∃ j, 0 ≤ j ∧ j < g x 8 ∧ g (x + 8) j = v) → Q 0 g := by
    intro t g e hf hfi hq hv hj hi hc
    subst e
    refine k g hf hfi ⟨fun t => ⟨Or.inl rfl, Or.inl rfl⟩, hq, fun t a b => (hv t a b).2, hj, hi, hc, fun t a b => ?_, fun t a b => by have := (hv t a b).1; omega, fun t a b c => ?_, fun j a b => ?_⟩
    · rw [(hv t a b).1]
      have z : ∀ a1 : Int → Int, st1 a1 d0 (g (x + 4)) l t = 0 := fun a1 => by
        unfold st1 d0
        rw [if_neg (by omega)]
      rw [z, z]; rfl
    · unfold d0 at c; omega
    · have q1 := hj j a b
      have q2 := (hv _ q1.1.1 q1.1.2).2
      rw [q1.2] at q2
      have w1 : ∀ a1 : Int → Int, wt a1 d0 (g (x + 8) j) = 0 ∨ wt a1 d0 (g (x + 8) j) = 1 := fun a1 => by
        unfold wt d0; split <;> omega
      have w2 : ∀ a1 : Int → Int, wt a1 d0 (g (x + 8) j) = 0 → ¬ (0 ≤ a1 (g (x + 8) j)) := fun a1 z y => by
        unfold wt d0 at z; rw [if_pos y] at z; omega
      have p1 := w1 (jA (h 5))
      have p2 := w1 (h (x + 2))
      exact ⟨fun y => absurd y (w2 _ (by omega)), fun y => absurd y (w2 _ (by omega))⟩
  intro d
  induction d with
  | zero =>
    intro t g t0 t1 hd hf hfi hq hv hj hi hc
    refine s_X8_queueFree_7 hx ⟨fun q => fin t g (by omega) hf hfi hq hv hj hi hc, fun q => absurd q (by rw [hf 3 (by omega) (by omega) (by omega) (by omega)]; omega)⟩
  | succ d ih =>
    intro t g t0 t1 hd hf hfi hq hv hj hi hc
    have e3 : g 3 = h 3 := hf 3 (by omega) (by omega) (by omega) (by omega)
    have e5 : g 5 = h 5 := hf 5 (by omega) (by omega) (by omega) (by omega)
    have e2 : g (x + 2) = h (x + 2) := hf (x + 2) (by omega) (by omega) (by omega) (by omega)
    refine s_X8_queueFree_7 hx ⟨fun q => fin t g (by rw [e3] at q; omega) hf hfi hq hv hj hi hc, fun q => ?_⟩
    rw [e3] at q
    have eJ : f_X5_jobAhead (a_up g (x + 4) t 0) 3 t = jA (h 5) t := by
      rw [f_JA, a_up_ne (by omega), e5]
    rw [eJ, e2, wt_d0 (hja t t0 (by omega)), wt_d0 (hpa t t0 (by omega))]
    have w1 : ∀ a1 : Int → Int, wt a1 d0 t = 0 ∨ wt a1 d0 t = 1 := fun a1 => by
      unfold wt d0; split <;> omega
    have p1 := w1 (jA (h 5))
    have p2 := w1 (h (x + 2))
    generalize hW : wt (jA (h 5)) d0 t + wt (h (x + 2)) d0 t = wv
    refine ⟨by omega, o_JA t0 (by omega), by omega, fun z => ⟨by omega, by omega, by omega, ?_⟩, fun z => ⟨by omega, ?_⟩⟩
    · have e7 : (a_up (a_up (a_up (a_up g (x + 4) t 0) (x + 7) t wv) (x + 8) (g x 8) t) x 8 (g x 8 + 1)) (x + 7) = up1 (g (x + 7)) t wv := by
        rw [a_up_ne (by omega), a_up_ne (by omega), a_up_fn, a_up_ne (by omega)]
      have e4 : (a_up (a_up (a_up (a_up g (x + 4) t 0) (x + 7) t wv) (x + 8) (g x 8) t) x 8 (g x 8 + 1)) (x + 4) = up1 (g (x + 4)) t 0 := by
        rw [a_up_ne (by omega), a_up_ne (by omega), a_up_ne (by omega), a_up_fn]
      have e8 : (a_up (a_up (a_up (a_up g (x + 4) t 0) (x + 7) t wv) (x + 8) (g x 8) t) x 8 (g x 8 + 1)) (x + 8) = up1 (g (x + 8)) (g x 8) t := by
        rw [a_up_ne (by omega), a_up_fn, a_up_ne (by omega), a_up_ne (by omega)]
      have e0 : (a_up (a_up (a_up (a_up g (x + 4) t 0) (x + 7) t wv) (x + 8) (g x 8) t) x 8 (g x 8 + 1)) x = up1 (g x) 8 (g x 8 + 1) := by
        rw [a_up_fn, a_up_ne (by omega), a_up_ne (by omega), a_up_ne (by omega)]
      refine ih (t + 1) _ (by omega) (by omega) (by omega) (fun c a1 a2 a3 a4 => ?_) (fun i hi => ?_) ?_ (fun v a b => ?_) (fun j a b => ?_) (fun j j' a b c d e => ?_) (fun v a b c => ?_)
      · rw [a_up_ne a1, a_up_ne a4, a_up_ne a3, a_up_ne a2]; exact hf c a1 a2 a3 a4
      · rw [e0, up1_ne hi]; exact hfi i hi
      · rw [e0, up1_eq]; omega
      · rw [e4, e7]
        by_cases y : v = t
        · rw [y, up1_eq, up1_eq]; exact ⟨rfl, hW.symm⟩
        · rw [up1_ne y, up1_ne y]; exact hv v a (by omega)
      · rw [e0, up1_eq] at b
        rw [e8, e7]
        by_cases y : j = g x 8
        · rw [y, up1_eq, up1_eq]; omega
        · rw [up1_ne y]
          have := hj j a (by omega)
          rw [up1_ne (by omega)]
          omega
      · rw [e0, up1_eq] at b d
        rw [e8, up1_at, up1_at] at e
        split at e <;> split at e
        · omega
        · have := hj j' c (by omega); omega
        · have := hj j a (by omega); omega
        · exact hi j j' a (by omega) c (by omega) e
      · rw [e7] at c
        rw [e0, up1_eq, e8]
        by_cases y : v = t
        · exact ⟨g x 8, hq.1, by omega, by rw [up1_eq, y]⟩
        · rw [up1_ne y] at c
          obtain ⟨j, j0, j1, j2⟩ := hc v a (by omega) c
          exact ⟨j, j0, by omega, by rw [up1_ne (by omega)]; exact j2⟩
    · have e7 : (a_up (a_up g (x + 4) t 0) (x + 7) t wv) (x + 7) = up1 (g (x + 7)) t wv := by
        rw [a_up_fn, a_up_ne (by omega)]
      have e4 : (a_up (a_up g (x + 4) t 0) (x + 7) t wv) (x + 4) = up1 (g (x + 4)) t 0 := by
        rw [a_up_ne (by omega), a_up_fn]
      have e8 : (a_up (a_up g (x + 4) t 0) (x + 7) t wv) (x + 8) = g (x + 8) := by
        rw [a_up_ne (by omega), a_up_ne (by omega)]
      have e0 : (a_up (a_up g (x + 4) t 0) (x + 7) t wv) x = g x := by
        rw [a_up_ne (by omega), a_up_ne (by omega)]
      refine ih (t + 1) _ (by omega) (by omega) (by omega) (fun c a1 a2 a3 a4 => ?_) (fun i hi => ?_) ?_ (fun v a b => ?_) (fun j a b => ?_) (fun j j' a b c d e => ?_) (fun v a b c => ?_)
      · rw [a_up_ne a3, a_up_ne a2]; exact hf c a1 a2 a3 a4
      · rw [e0]; exact hfi i hi
      · rw [e0]; omega
      · rw [e4, e7]
        by_cases y : v = t
        · rw [y, up1_eq, up1_eq]; exact ⟨rfl, hW.symm⟩
        · rw [up1_ne y, up1_ne y]; exact hv v a (by omega)
      · rw [e0] at b
        rw [e8, e7]
        have := hj j a b
        rw [up1_ne (by omega)]
        omega
      · rw [e0] at b d
        rw [e8] at e
        exact hi j j' a b c d e
      · rw [e7] at c
        rw [e0, e8]
        by_cases y : v = t
        · rw [y, up1_eq] at c; exact absurd c z
        · rw [up1_ne y] at c
          exact hc v a (by omega) c
