/-! pairs: tabu, undo, redo, best -/
theorem Sim.forget {c m c' m' : aH} (H : Sim c m) (a : ∀ k, k < 85 → k ≠ 0 → k ≠ 42 → c' k = c k) (a1 : c' 0 15 = -1) (a3 : c' 42 1 = 0) (a4 : 0 ≤ c' 42 2 ∧ c' 42 2 ≤ 9)
    (b : ∀ k, 85 ≤ k → k ≠ 85 → m' k = m k) (b1 : ∀ i, i ≠ 34 → i ≠ 36 → i ≠ 37 → m' 85 i = m 85 i) (b2 : m' 85 34 = c' 42 2) (b3 : m' 85 36 = 0) (b4 : m' 85 37 = 0) : Sim c' m' := by
  obtain ⟨h1, h2, h3, h4, h5, h6, h7, h8, h9, h10⟩ := H
  have a' : ∀ k, 3 ≤ k → k ≤ 10 → c' k = c k := fun k k1 k2 => a k (by omega) (by omega) (by omega)
  have e : ∀ k i, k < 85 → k ≠ 0 → k ≠ 42 → c' k i = c k i := fun k i k0 k1 k2 => congrFun (a k k0 k1 k2) i
  refine ⟨?_, ?_, ?_, ?_, ?_, ?_, ?_, ?_, ?_, ?_⟩
  · exact h1.congr (e 1 1 (by omega) (by omega) (by omega)) (a 2 (by omega) (by omega) (by omega)) (b1 9 (by omega) (by omega) (by omega)) (b 92 (by omega) (by omega))
  · exact h2.congr a' (a 19 (by omega) (by omega) (by omega)) (b1 0 (by omega) (by omega) (by omega)) (b1 1 (by omega) (by omega) (by omega)) (fun k k1 k2 => b k (by omega) (by omega))
  · exact h3.congr a' (fun k k1 k2 => a k (by omega) (by omega) (by omega)) (fun k k1 k2 => a k (by omega) (by omega) (by omega))
  · exact ⟨[], ⟨by rw [a3]; rfl, fun i hi => absurd hi (by simp)⟩, ⟨by rw [b3]; rfl, fun i hi => absurd hi (by simp)⟩, by omega, b2, a4.1, a4.2⟩
  · exact Or.inl ⟨a1, b4⟩
  · exact h6.congr a' (e 44 1 (by omega) (by omega) (by omega)) (e 44 2 (by omega) (by omega) (by omega)) (fun k k1 k2 => a k (by omega) (by omega) (by omega)) (b1 18 (by omega) (by omega) (by omega)) (b1 19 (by omega) (by omega) (by omega)) (b 96 (by omega) (by omega))
  · exact h7.congr (by have := h6.1; omega) (a' 10 (by omega) (by omega)) (a 19 (by omega) (by omega) (by omega)) (e 44 1 (by omega) (by omega) (by omega)) (e 44 2 (by omega) (by omega) (by omega)) (e 3 1 (by omega) (by omega) (by omega)) (fun k k1 k2 => a k (by omega) (by omega) (by omega))
  · exact h8.congr (fun k k1 k2 => a k (by omega) (by omega) (by omega)) (b1 51 (by omega) (by omega) (by omega)) (b 115 (by omega) (by omega))
  · exact h9.congr a' (a 72 (by omega) (by omega) (by omega))
  · exact h10.congr a' (e 73 1 (by omega) (by omega) (by omega)) (e 73 2 (by omega) (by omega) (by omega)) (e 73 3 (by omega) (by omega) (by omega))
theorem pr_tabu : a_pair Inv mX9_tabu mX10_tabu 1 1 1 := by
  intro n h a b hn hI hh ha hb
  have hin : ∀ g : aH, f_X10_in g a 0 9 = 0 ↔ ¬ (0 ≤ a ∧ a ≤ 9) := fun g => f_in_0
  have ok : (-1 : Int) = -1 ∧ Inv (n + 1) h := ⟨rfl, hI.mono⟩
  obtain ⟨L, t1, t2, t3, t4, t5, t6⟩ := hI.1.2.2.2.1
  refine e_X9_tabu ⟨fun z => ?_, fun z => ⟨fun y => ?_, fun y => ?_⟩⟩
  · exact e_X10_tabu ⟨fun _ => ok, fun v => absurd ((hin h).2 (by omega)) v⟩
  · generalize hg : a_up (a_up (a_up h 42 2 a) 42 1 0) 0 15 (-1) = g
    have g1 : ∀ k, k ≠ 0 → k ≠ 42 → g k = h k := fun k k1 k2 => by rw [← hg, a_up_ne k1, a_up_ne k2, a_up_ne k2]
    have g2 : g 0 15 = -1 := by rw [← hg, a_up_eq]
    have g3 : g 42 1 = 0 := by rw [← hg, a_up_ne (by omega), a_up_eq]
    have g4 : g 42 2 = a := by rw [← hg, a_up_ne (by omega), a_up_off (by omega), a_up_eq]
    have g5 : g 0 16 = h 0 16 := by rw [← hg, a_up_off (by omega), a_up_ne (by omega), a_up_ne (by omega)]
    refine e_X10_tabu ⟨fun v => absurd (show 0 ≤ a ∧ a ≤ 9 by omega) ((hin _).1 v), fun _ => ?_⟩
    generalize hm : a_up (a_up (a_up g 85 34 a) 85 36 0) 85 37 0 = m
    have m1 : ∀ k, k ≠ 85 → m k = g k := fun k k1 => by rw [← hm, a_up_ne k1, a_up_ne k1, a_up_ne k1]
    have m2 : ∀ i, i ≠ 34 → i ≠ 36 → i ≠ 37 → m 85 i = h 85 i := fun i i1 i2 i3 => by rw [← hm, a_up_off i3, a_up_off i2, a_up_off i1, g1 85 (by omega) (by omega)]
    have m3 : m 85 34 = a := by rw [← hm, a_up_off (by omega), a_up_off (by omega), a_up_eq]
    have m4 : m 85 36 = 0 := by rw [← hm, a_up_off (by omega), a_up_eq]
    have m5 : m 85 37 = 0 := by rw [← hm, a_up_eq]
    refine ⟨?_, ?_, ?_⟩
    · rw [g1 85 (by omega) (by omega)]; exact t4.symm
    · refine hI.1.forget (fun k k0 k1 k2 => (m1 k (by omega)).trans (g1 k k1 k2)) ?_ ?_ ?_ (fun k k0 k1 => (m1 k k1).trans (g1 k (by omega) (by omega))) m2 ?_ m4 m5
      · rw [m1 0 (by omega)]; exact g2
      · rw [m1 42 (by omega)]; exact g3
      · rw [m1 42 (by omega), g4]; omega
      · rw [m1 42 (by omega), g4, m3]
    · have := hI.2
      rw [m2 40 (by omega) (by omega) (by omega), m1 0 (by omega), g5]
      omega
  · exact e_X10_tabu ⟨fun _ => ok, fun v => absurd ((hin h).2 (by omega)) v⟩
/-- another of the rows kept becomes the orders -/
theorem Sim.goTo {c m c' m' : aH} (H : Sim c m) (hn : 0 < c 3 1) {D : Nat} (hD : (D : Int) ≤ c 44 2) (a : ∀ k, (k < 19 ∨ 28 < k) → (k < 38 ∨ 41 < k) → k ≠ 44 → k < 85 → c' k = c k) (a1 : c' 44 1 = D) (a2 : c' 44 2 = c 44 2) (a3 : ∀ x, 0 ≤ x → x < 24 → c' 19 x = c (46 + D) x) (S : Settled c')
    (b : ∀ k, 85 ≤ k → k ≠ 85 → k ≠ 90 → m' k = m k) (b1 : ∀ i, i ≠ 18 → i ≠ 19 → m' 85 i = m 85 i) (b2 : m' 85 18 = D) (b3 : m' 85 19 = c 44 2 - D) (b4 : ∀ x, 0 ≤ x → x < 120 → m' 90 x = m 96 (120 * (D : Int) + x)) : Sim c' m' := by
  obtain ⟨h1, h2, h3, h4, h5, h6, h7, h8, h9, h10⟩ := H
  have a' : ∀ k, 3 ≤ k → k ≤ 10 → c' k = c k := fun k k1 k2 => a k (by omega) (by omega) (by omega) (by omega)
  have e : ∀ k i, (k < 19 ∨ 28 < k) → (k < 38 ∨ 41 < k) → k ≠ 44 → k < 85 → c' k i = c k i := fun k i k0 k1 k2 k3 => congrFun (a k k0 k1 k2 k3) i
  have eS : cSz c' = cSz c := by unfold cSz; rw [a' 10 (by omega) (by omega)]
  have hq := h6.2.2.2 D hD
  have row : sameO (cSz c) (cO c (46 + D)) (cO c' 19) := by
    intro M k k0 k1 k2 k3
    have q := h2.1.1.2.at k0 k1
    have q2 := h2.1.1.1.1
    have q3 : k < c 10 (M + 1) - c 10 M := k3
    show _ = c' 19 (c' 10 M + k)
    rw [a' 10 (by omega) (by omega), a3 _ (by omega) (by omega)]
    rfl
  have ln : sameO (cSz c) (fun M k => m 96 (120 * (D : Int) + (24 * M + k))) (mO m') := by
    intro M k k0 k1 k2 k3
    have q4 := h2.1.2.1.2 M k0 k1
    have q5 := h2.1.2.2.2.2.2 M k0 k1
    exact (b4 _ (by omega) (by omega)).symm
  have h2' : sS c' m' := by
    refine ⟨?_, ⟨?_, ?_⟩, ?_, ?_⟩
    · have := h2.1
      unfold sShop mShop cShop cSz at this ⊢
      rw [a' 3 (by omega) (by omega), a' 4 (by omega) (by omega), a' 5 (by omega) (by omega), a' 6 (by omega) (by omega), a' 7 (by omega) (by omega), a' 10 (by omega) (by omega), b1 0 (by omega) (by omega), b1 1 (by omega) (by omega), b 86 (by omega) (by omega) (by omega), b 87 (by omega) (by omega) (by omega), b 88 (by omega) (by omega) (by omega), b 89 (by omega) (by omega) (by omega), b 91 (by omega) (by omega) (by omega)]
      exact this
    · rw [a' 3 (by omega) (by omega), a' 6 (by omega) (by omega), eS]
      exact hq.1.same h2.1.1.mach row
    · rw [eS]
      exact row.symm.trans (hq.2.trans ln)
    · have := h2.2.2.1
      unfold cBA at this ⊢
      rw [a' 3 (by omega) (by omega), a' 4 (by omega) (by omega), a' 5 (by omega) (by omega), a' 7 (by omega) (by omega), a' 8 (by omega) (by omega), a' 9 (by omega) (by omega)]
      exact this
    · have := h2.2.2.2
      unfold cCnt at this ⊢
      rw [eS, a' 3 (by omega) (by omega), a' 6 (by omega) (by omega)]
      exact this
  refine ⟨?_, h2', fun _ => S, ?_, ?_, ?_, ?_, ?_, ?_, ?_⟩
  · exact h1.congr (e 1 1 (by omega) (by omega) (by omega) (by omega)) (a 2 (by omega) (by omega) (by omega) (by omega)) (b1 9 (by omega) (by omega)) (b 92 (by omega) (by omega) (by omega))
  · exact h4.congr (e 42 1 (by omega) (by omega) (by omega) (by omega)) (e 42 2 (by omega) (by omega) (by omega) (by omega)) (a 43 (by omega) (by omega) (by omega) (by omega)) (b1 34 (by omega) (by omega)) (b1 36 (by omega) (by omega)) (b 107 (by omega) (by omega) (by omega))
  · exact h5.congr a' (e 0 15 (by omega) (by omega) (by omega) (by omega)) (a 84 (by omega) (by omega) (by omega) (by omega)) (b1 37 (by omega) (by omega)) (b1 38 (by omega) (by omega)) (b 108 (by omega) (by omega) (by omega))
  · obtain ⟨u1, u2, u3, u4⟩ := h6
    refine ⟨by omega, by omega, by omega, fun j hj => ?_⟩
    have q := u4 j (by omega)
    unfold cSz cO at q ⊢
    rw [a' 3 (by omega) (by omega), a' 6 (by omega) (by omega), a' 10 (by omega) (by omega), a (46 + j) (by omega) (by omega) (by omega) (by omega), b 96 (by omega) (by omega) (by omega)]
    exact q
  · refine ⟨?_, fun _ => by rw [a' 3 (by omega) (by omega)]; exact hn⟩
    have hh := h6.1
    rw [eS, a1, show ((D : Nat) : Int).toNat = D from rfl]
    refine row.symm.trans (fun M k k0 k1 k2 k3 => ?_)
    show c (46 + D) (c 10 M + k) = c' (46 + D) (c' 10 M + k)
    rw [a' 10 (by omega) (by omega), a (46 + D) (by omega) (by omega) (by omega) (by omega)]
  · exact h8.congr (fun k k1 k2 => a k (by omega) (by omega) (by omega) (by omega)) (b1 51 (by omega) (by omega)) (b 115 (by omega) (by omega) (by omega))
  · exact h9.congr a' (a 72 (by omega) (by omega) (by omega) (by omega))
  · exact h10.congr a' (e 73 1 (by omega) (by omega) (by omega) (by omega)) (e 73 2 (by omega) (by omega) (by omega) (by omega)) (e 73 3 (by omega) (by omega) (by omega) (by omega))
/-- the class goes to row D and settles, the reference goes there too -/
theorem goTo_run {n : Nat} {h g1 : aH} {Q : aQ} (hI : Inv n h) (hn : 0 < h 3 1) {D : Nat} (hD : (D : Int) ≤ h 44 2) (f : ∀ k, k ≠ 19 → k ≠ 44 → g1 k = h k) (f1 : g1 44 1 = D) (f2 : g1 44 2 = h 44 2) (f3 : ∀ x, 0 ≤ x → x < 24 → g1 19 x = h (46 + D) x)
    (k : ∀ g, (∀ x, 85 ≤ x → g x = h x) → g 44 1 = (D : Int) → g 44 2 = h 44 2 → (∀ m', (∀ x, x < 85 → m' x = g x) → (∀ x, 85 ≤ x → x ≠ 85 → x ≠ 90 → m' x = h x) → (∀ i, i ≠ 18 → i ≠ 19 → m' 85 i = h 85 i) → m' 85 18 = (D : Int) → m' 85 19 = h 44 2 - D → (∀ x, 0 ≤ x → x < 120 → m' 90 x = h 96 (120 * (D : Int) + x)) → Inv (n + 1) m') → Q 0 g) : aRun mX9_settle 3 [aR 0] g1 Q := by
  have hs := hI.1.2.1.1.1
  have hH := hI.1.2.2.2.2.2.1
  have hq := hH.2.2.2 D hD
  have a : ∀ k, 3 ≤ k → k ≤ 10 → g1 k = h k := fun k k1 k2 => f k (by omega) (by omega)
  have row : sameO (cSz h) (cO h (46 + D)) (cO g1 19) := by
    intro M k k0 k1 k2 k3
    have q := hs.2.at k0 k1
    have q2 := hs.1.1
    have q3 : k < h 10 (M + 1) - h 10 M := k3
    show _ = g1 19 (g1 10 M + k)
    rw [a 10 (by omega) (by omega), f3 _ (by omega) (by omega)]
    rfl
  have ho : okOrd (g1 3 1) (g1 6) (cSz g1) (cO g1 19) := by
    have eS : cSz g1 = cSz h := by unfold cSz; rw [a 10 (by omega) (by omega)]
    rw [a 3 (by omega) (by omega), a 6 (by omega) (by omega), eS]
    exact hq.1.same hs.mach row
  refine r_settle (hs.congr a) (by rw [a 3 (by omega) (by omega)]; exact hn) ho (fun g fg S => ?_)
  have e44 : g 44 = g1 44 := fg 44 (by omega) (by omega)
  refine k g (fun x hx => (fg x (by omega) (by omega)).trans (f x (by omega) (by omega))) (by rw [e44]; exact f1) (by rw [e44]; exact f2) (fun m' lo u1 u2 u3 u4 u5 => ?_)
  refine ⟨?_, ?_⟩
  · refine hI.1.goTo hn hD (fun k k1 k2 k3 k4 => (lo k k4).trans ((fg k (by omega) k2).trans (f k (by omega) k3))) ?_ ?_ (fun x x0 x1 => ?_) ?_ u1 u2 u3 u4 u5
    · rw [lo 44 (by omega), e44]; exact f1
    · rw [lo 44 (by omega), e44]; exact f2
    · rw [lo 19 (by omega), fg 19 (by omega) (by omega)]; exact f3 x x0 x1
    · exact S.congr (fun k k1 k2 => lo k (by omega)) (fun k k1 k2 => lo k (by omega)) (fun k k1 k2 => lo k (by omega))
  · rw [u2 40 (by omega) (by omega), lo 0 (by omega), fg 0 (by omega) (by omega), f 0 (by omega) (by omega)]
    have := hI.2
    omega
theorem pr_undo : a_pair Inv mX9_undo mX10_undo 4 1 0 := by
  intro n h a b hn hI hh ha hb
  have hH := hI.1.2.2.2.2.2.1
  obtain ⟨u1, u2, u3, -⟩ := id hH
  refine e_X9_undo (e_X4_goBack ⟨fun z => ⟨by unfold inR; omega, by omega, fun w => by omega, fun _ => ?_⟩, fun z => ⟨fun _ => ?_, fun w => absurd rfl w⟩⟩)
  · have n3 := hI.1.2.2.2.2.2.2.1.2 (by omega)
    refine goTo_run hI n3 (D := (h 44 1 - 1).toNat) (by omega) (fun k k1 k2 => ?_) ?_ ?_ (fun x x0 x1 => ?_) (fun g e85 d1 d2 fin => ?_)
    · rw [a_cp_ne k1, a_up_ne k2]
    · rw [a_cp_ne (by omega), a_up_eq]; omega
    · rw [a_cp_ne (by omega), a_up_off (by omega)]
    · rw [a_cp_at, if_pos (by omega), a_up_ne (by omega)]
      congr 1; omega
    · have e18 : g 85 18 = h 44 1 := by rw [e85 85 (by omega)]; exact u2
      have e19 : g 85 19 = h 44 2 - h 44 1 := by rw [e85 85 (by omega)]; exact u3
      refine e_X10_undo ⟨fun w => by omega, fun _ => ⟨by unfold inR; omega, by unfold inR; omega, ?_⟩⟩
      generalize hm : a_up (a_up g 85 18 (g 85 18 - 1)) 85 19 (g 85 19 + 1) = m
      have m1 : ∀ k, k ≠ 85 → m k = g k := fun k k1 => by rw [← hm, a_up_ne k1, a_up_ne k1]
      have m2 : ∀ i, i ≠ 18 → i ≠ 19 → m 85 i = h 85 i := fun i i1 i2 => by rw [← hm, a_up_off i2, a_up_off i1, e85 85 (by omega)]
      have m3 : m 85 18 = h 44 1 - 1 := by rw [← hm, a_up_off (by omega), a_up_eq, e18]
      have m4 : m 85 19 = h 44 2 - h 44 1 + 1 := by rw [← hm, a_up_eq, e19]
      refine r_fetches (by omega) ⟨?_, fin _ (fun x hx => ?_) (fun x x0 x1 x2 => ?_) (fun i i1 i2 => ?_) ?_ ?_ (fun x x0 x1 => ?_)⟩
      · rw [a_cp_ne (by omega), m3, d1]; omega
      · rw [a_cp_ne (by omega), m1 x (by omega)]
      · rw [a_cp_ne x2, m1 x x1, e85 x x0]
      · rw [a_cp_ne (by omega)]; exact m2 i i1 i2
      · rw [a_cp_ne (by omega), m3]; omega
      · rw [a_cp_ne (by omega), m4]; omega
      · rw [a_cp_at, if_pos (by omega), m1 96 (by omega), e85 96 (by omega), m3]
        congr 1; omega
  · exact e_X10_undo ⟨fun _ => ⟨rfl, hI.mono⟩, fun w => by omega⟩
theorem pr_redo : a_pair Inv mX9_redo mX10_redo 4 1 0 := by
  intro n h a b hn hI hh ha hb
  have hH := hI.1.2.2.2.2.2.1
  obtain ⟨u1, u2, u3, -⟩ := id hH
  refine e_X9_redo (e_X4_goAhead ⟨fun z => ⟨by unfold inR; omega, by omega, fun w => by omega, fun _ => ?_⟩, fun z => ⟨fun _ => ?_, fun w => absurd rfl w⟩⟩)
  · have n3 := hI.1.2.2.2.2.2.2.1.2 (by omega)
    refine goTo_run hI n3 (D := (h 44 1 + 1).toNat) (by omega) (fun k k1 k2 => ?_) ?_ ?_ (fun x x0 x1 => ?_) (fun g e85 d1 d2 fin => ⟨by unfold inR; omega, ?_⟩)
    · rw [a_cp_ne k1, a_up_ne k2]
    · rw [a_cp_ne (by omega), a_up_eq]; omega
    · rw [a_cp_ne (by omega), a_up_off (by omega)]
    · rw [a_cp_at, if_pos (by omega), a_up_ne (by omega)]
      congr 1; omega
    · have e18 : g 85 18 = h 44 1 := by rw [e85 85 (by omega)]; exact u2
      have e19 : g 85 19 = h 44 2 - h 44 1 := by rw [e85 85 (by omega)]; exact u3
      refine e_X10_redo ⟨fun w => by omega, fun _ => ⟨by unfold inR; omega, by unfold inR; omega, ?_⟩⟩
      generalize hm : a_up (a_up g 85 18 (g 85 18 + 1)) 85 19 (g 85 19 - 1) = m
      have m1 : ∀ k, k ≠ 85 → m k = g k := fun k k1 => by rw [← hm, a_up_ne k1, a_up_ne k1]
      have m2 : ∀ i, i ≠ 18 → i ≠ 19 → m 85 i = h 85 i := fun i i1 i2 => by rw [← hm, a_up_off i2, a_up_off i1, e85 85 (by omega)]
      have m3 : m 85 18 = h 44 1 + 1 := by rw [← hm, a_up_off (by omega), a_up_eq, e18]
      have m4 : m 85 19 = h 44 2 - h 44 1 - 1 := by rw [← hm, a_up_eq, e19]
      refine r_fetches (by omega) ⟨?_, fin _ (fun x hx => ?_) (fun x x0 x1 x2 => ?_) (fun i i1 i2 => ?_) ?_ ?_ (fun x x0 x1 => ?_)⟩
      · rw [a_cp_ne (by omega), m4, d1, d2]; omega
      · rw [a_cp_ne (by omega), m1 x (by omega)]
      · rw [a_cp_ne x2, m1 x x1, e85 x x0]
      · rw [a_cp_ne (by omega)]; exact m2 i i1 i2
      · rw [a_cp_ne (by omega), m3]; omega
      · rw [a_cp_ne (by omega), m4]; omega
      · rw [a_cp_at, if_pos (by omega), m1 96 (by omega), e85 96 (by omega), m3]
        congr 1; omega
  · exact e_X10_redo ⟨fun _ => ⟨rfl, hI.mono⟩, fun w => by omega⟩
