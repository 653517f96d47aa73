/-! pairs: image, back -/
theorem ns_iff {h : aH} : f_X9_noShop h = 0 ↔ ¬ h 3 1 = 0 := by
  unfold f_X9_noShop
  by_cases e : h 3 1 = 0
  · rw [if_pos e]; omega
  · rw [if_neg e]; omega
theorem pr_image : a_pair Inv mX9_image mX10_image 3 3 0 := by
  intro n h a b hn hI hh ha hb
  have h1 := hI.1.2.1.1.2.2.2.1
  have hn0 := hI.1.2.1.1.1.1.1
  refine e_X9_image ⟨fun z => ?_, fun z => ?_⟩
  · have z := ns_iff.1 z
    generalize hg : a_cp (a_cp (a_cp (a_cp (a_cp (a_cp (a_cp (a_cp (a_up (a_up h 75 0 (h 3 0)) 75 1 (h 3 1)) 4 0 76 0 24) 5 0 77 0 24) 6 0 78 0 24) 7 0 79 0 24) 8 0 80 0 24) 9 0 81 0 24) 10 0 82 0 6) 19 0 83 0 24 = g
    have g1 : ∀ k, (k < 75 ∨ 83 < k) → g k = h k := fun k hk => by
      rw [← hg, a_cp_ne (by omega), a_cp_ne (by omega), a_cp_ne (by omega), a_cp_ne (by omega), a_cp_ne (by omega), a_cp_ne (by omega), a_cp_ne (by omega), a_cp_ne (by omega), a_up_ne (by omega), a_up_ne (by omega)]
    have g75 : g 75 0 = h 3 0 ∧ g 75 1 = h 3 1 := by
      rw [← hg]
      constructor
      · rw [a_cp_ne (by omega), a_cp_ne (by omega), a_cp_ne (by omega), a_cp_ne (by omega), a_cp_ne (by omega), a_cp_ne (by omega), a_cp_ne (by omega), a_cp_ne (by omega), a_up_off (by omega), a_up_eq]
      · rw [a_cp_ne (by omega), a_cp_ne (by omega), a_cp_ne (by omega), a_cp_ne (by omega), a_cp_ne (by omega), a_cp_ne (by omega), a_cp_ne (by omega), a_cp_ne (by omega), a_up_eq]
    have gk : ∀ x, 0 ≤ x → x < 24 → g 76 x = h 4 x ∧ g 77 x = h 5 x ∧ g 78 x = h 6 x ∧ g 79 x = h 7 x ∧ g 80 x = h 8 x ∧ g 81 x = h 9 x ∧ g 83 x = h 19 x := fun x x0 x1 => by
      have e : 0 + (x - 0) = x := by omega
      rw [← hg]
      refine ⟨?_, ?_, ?_, ?_, ?_, ?_, ?_⟩
      · rw [a_cp_ne (by omega), a_cp_ne (by omega), a_cp_ne (by omega), a_cp_ne (by omega), a_cp_ne (by omega), a_cp_ne (by omega), a_cp_ne (by omega), a_cp_at, if_pos (by omega), e, a_up_ne (by omega), a_up_ne (by omega)]
      · rw [a_cp_ne (by omega), a_cp_ne (by omega), a_cp_ne (by omega), a_cp_ne (by omega), a_cp_ne (by omega), a_cp_ne (by omega), a_cp_at, if_pos (by omega), e, a_cp_ne (by omega), a_up_ne (by omega), a_up_ne (by omega)]
      · rw [a_cp_ne (by omega), a_cp_ne (by omega), a_cp_ne (by omega), a_cp_ne (by omega), a_cp_ne (by omega), a_cp_at, if_pos (by omega), e, a_cp_ne (by omega), a_cp_ne (by omega), a_up_ne (by omega), a_up_ne (by omega)]
      · rw [a_cp_ne (by omega), a_cp_ne (by omega), a_cp_ne (by omega), a_cp_ne (by omega), a_cp_at, if_pos (by omega), e, a_cp_ne (by omega), a_cp_ne (by omega), a_cp_ne (by omega), a_up_ne (by omega), a_up_ne (by omega)]
      · rw [a_cp_ne (by omega), a_cp_ne (by omega), a_cp_ne (by omega), a_cp_at, if_pos (by omega), e, a_cp_ne (by omega), a_cp_ne (by omega), a_cp_ne (by omega), a_cp_ne (by omega), a_up_ne (by omega), a_up_ne (by omega)]
      · rw [a_cp_ne (by omega), a_cp_ne (by omega), a_cp_at, if_pos (by omega), e, a_cp_ne (by omega), a_cp_ne (by omega), a_cp_ne (by omega), a_cp_ne (by omega), a_cp_ne (by omega), a_up_ne (by omega), a_up_ne (by omega)]
      · rw [a_cp_at, if_pos (by omega), e, a_cp_ne (by omega), a_cp_ne (by omega), a_cp_ne (by omega), a_cp_ne (by omega), a_cp_ne (by omega), a_cp_ne (by omega), a_cp_ne (by omega), a_up_ne (by omega), a_up_ne (by omega)]
    have g82 : ∀ x, 0 ≤ x → x < 6 → g 82 x = h 10 x := fun x x0 x1 => by
      have e : 0 + (x - 0) = x := by omega
      rw [← hg, a_cp_ne (by omega), a_cp_at, if_pos (by omega), e, a_cp_ne (by omega), a_cp_ne (by omega), a_cp_ne (by omega), a_cp_ne (by omega), a_cp_ne (by omega), a_cp_ne (by omega), a_up_ne (by omega), a_up_ne (by omega)]
    refine e_X10_image ⟨fun w => ?_, fun _ => ?_⟩
    · rw [g1 85 (by omega)] at w
      omega
    have k1 : ∀ c, c ≠ 85 → a_up g 85 51 1 c = g c := fun c c1 => a_up_ne c1
    have k2 : ∀ i, i ≠ 51 → a_up g 85 51 1 85 i = h 85 i := fun i i1 => by rw [a_up_off i1, g1 85 (by omega)]
    have k3 : a_up g 85 51 1 85 51 = 1 := a_up_eq
    refine r_passAK (fun m m1 m2 m3 m4 m5 m6 m7 => ⟨?_, ?_, ?_⟩)
    · rw [m2 1 (by omega) (by omega), k2 1 (by omega), h1]
    · have hlo : ∀ k, (k < 75 ∨ 83 < k) → k ≠ 85 → k ≠ 115 → m k = h k := fun k k0 k1' k2' => (m1 k k1' k2').trans ((k1 k k1').trans (g1 k k0))
      have h85 : ∀ i, i ≠ 51 → i ≠ 52 → i ≠ 53 → m 85 i = h 85 i := fun i i1 i2 i3 => (m2 i i2 i3).trans (k2 i i1)
      have mg : ∀ k, k < 85 → m k = g k := fun k hk => (m1 k (by omega) (by omega)).trans (k1 k (by omega))
      obtain ⟨H1, H2, H3, H4, H5, H6, H7, H8, H9, H10⟩ := hI.1
      have a' : ∀ k, 3 ≤ k → k ≤ 10 → m k = h k := fun k k1 k2 => hlo k (by omega) (by omega) (by omega)
      have e : ∀ k i, k < 75 → m k i = h k i := fun k i hk => congrFun (hlo k (by omega) (by omega) (by omega)) i
      refine ⟨?_, ?_, ?_, ?_, ?_, ?_, ?_, ?_, ?_, ?_⟩
      · exact H1.congr (e 1 1 (by omega)) (hlo 2 (by omega) (by omega) (by omega)) (h85 9 (by omega) (by omega) (by omega)) (hlo 92 (by omega) (by omega) (by omega))
      · exact H2.congr a' (hlo 19 (by omega) (by omega) (by omega)) (h85 0 (by omega) (by omega) (by omega)) (h85 1 (by omega) (by omega) (by omega)) (fun k k1 k2 => hlo k (by omega) (by omega) (by omega))
      · exact H3.congr a' (fun k k1 k2 => hlo k (by omega) (by omega) (by omega)) (fun k k1 k2 => hlo k (by omega) (by omega) (by omega))
      · exact H4.congr (e 42 1 (by omega)) (e 42 2 (by omega)) (hlo 43 (by omega) (by omega) (by omega)) (h85 34 (by omega) (by omega) (by omega)) (h85 36 (by omega) (by omega) (by omega)) (hlo 107 (by omega) (by omega) (by omega))
      · exact H5.congr a' (e 0 15 (by omega)) (hlo 84 (by omega) (by omega) (by omega)) (h85 37 (by omega) (by omega) (by omega)) (h85 38 (by omega) (by omega) (by omega)) (hlo 108 (by omega) (by omega) (by omega))
      · exact H6.congr a' (e 44 1 (by omega)) (e 44 2 (by omega)) (fun k k1 k2 => hlo k (by omega) (by omega) (by omega)) (h85 18 (by omega) (by omega) (by omega)) (h85 19 (by omega) (by omega) (by omega)) (hlo 96 (by omega) (by omega) (by omega))
      · exact H7.congr (by have := H6.1; omega) (a' 10 (by omega) (by omega)) (hlo 19 (by omega) (by omega) (by omega)) (e 44 1 (by omega)) (e 44 2 (by omega)) (e 3 1 (by omega)) (fun k k1 k2 => hlo k (by omega) (by omega) (by omega))
      · refine Or.inr ⟨?_, ?_, H2.range ?_ ?_ (fun k k1 k2 x x0 x1 => ?_) (fun x x0 x1 => ?_) (fun x x0 x1 => ?_) ?_ ?_ (fun k w1 w2 x x0 x1 => ?_) (fun x x0 x1 => ?_) (fun x x0 x1 => ?_)⟩
        · rw [m2 51 (by omega) (by omega), k3]; omega
        · rw [mg 75 (by omega), g75.2]; omega
        · show m 75 0 = h 3 0
          rw [mg 75 (by omega), g75.1]
        · show m 75 1 = h 3 1
          rw [mg 75 (by omega), g75.2]
        · have q := gk x x0 x1
          have : k = 4 ∨ k = 5 ∨ k = 6 ∨ k = 7 ∨ k = 8 ∨ k = 9 := by omega
          rcases this with rfl | rfl | rfl | rfl | rfl | rfl
          · show m 76 x = _; rw [mg 76 (by omega)]; exact q.1
          · show m 77 x = _; rw [mg 77 (by omega)]; exact q.2.1
          · show m 78 x = _; rw [mg 78 (by omega)]; exact q.2.2.1
          · show m 79 x = _; rw [mg 79 (by omega)]; exact q.2.2.2.1
          · show m 80 x = _; rw [mg 80 (by omega)]; exact q.2.2.2.2.1
          · show m 81 x = _; rw [mg 81 (by omega)]; exact q.2.2.2.2.2.1
        · show m 82 x = _; rw [mg 82 (by omega)]; exact g82 x x0 x1
        · show m 83 x = _; rw [mg 83 (by omega)]; exact (gk x x0 x1).2.2.2.2.2.2
        · show m 115 0 = _; rw [m3, k2 0 (by omega)]
        · show m 115 1 = _; rw [m4, k2 1 (by omega)]
        · have q := m6 x x0 x1
          have : k = 86 ∨ k = 87 ∨ k = 88 ∨ k = 89 := by omega
          rcases this with rfl | rfl | rfl | rfl
          · show m 115 (7 + x) = _; rw [q.1, k1 86 (by omega), g1 86 (by omega)]
          · show m 115 (31 + x) = _; rw [q.2.1, k1 87 (by omega), g1 87 (by omega)]
          · show m 115 (55 + x) = _; rw [q.2.2.1, k1 88 (by omega), g1 88 (by omega)]
          · show m 115 (79 + x) = _; rw [q.2.2.2, k1 89 (by omega), g1 89 (by omega)]
        · show m 115 (103 + x) = _; rw [m7 x x0 x1, k1 90 (by omega), g1 90 (by omega)]
        · show m 115 (2 + x) = _; rw [m5 x x0 x1, k1 91 (by omega), g1 91 (by omega)]
      · exact H9.congr a' (hlo 72 (by omega) (by omega) (by omega))
      · exact H10.congr a' (e 73 1 (by omega)) (e 73 2 (by omega)) (e 73 3 (by omega))
    · rw [m2 40 (by omega) (by omega), k2 40 (by omega), m1 0 (by omega) (by omega), k1 0 (by omega), g1 0 (by omega)]
      have := hI.2
      omega
  · have e : h 85 1 = 0 := by
      have : h 3 1 = 0 := Classical.byContradiction (fun w => z (ns_iff.2 w))
      omega
    exact e_X10_image ⟨fun _ => ⟨rfl, hI.mono⟩, fun w => absurd e w⟩
theorem pr_back : a_pair Inv mX9_back mX10_back 5 3 0 := by
  intro n h a b hn hI hh ha hb
  refine e_X9_back ⟨fun z => ?_, fun z => ?_⟩
  · have e : h 85 51 = 0 := by
      rcases hI.1.2.2.2.2.2.2.2.1 with w | w
      · exact w.2
      · omega
    exact e_X10_back ⟨fun _ => ⟨rfl, hI.mono⟩, fun w => absurd e w⟩
  · have him : ¬ h 85 51 = 0 ∧ 0 < h 75 1 ∧ sS (ic h) (im h) := by
      rcases hI.1.2.2.2.2.2.2.2.1 with w | w
      · exact absurd w.1 z
      · exact w
    obtain ⟨i1, i2, i3⟩ := him
    generalize hg : a_cp (a_cp (a_cp (a_cp (a_cp (a_cp (a_cp (a_cp (a_up (a_up h 3 0 (h 75 0)) 3 1 (h 75 1)) 76 0 4 0 24) 77 0 5 0 24) 78 0 6 0 24) 79 0 7 0 24) 80 0 8 0 24) 81 0 9 0 24) 82 0 10 0 6) 83 0 19 0 24 = g
    have g1 : ∀ k, (k < 3 ∨ 10 < k) → k ≠ 19 → g k = h k := fun k hk hk2 => by
      rw [← hg, a_cp_ne (by omega), a_cp_ne (by omega), a_cp_ne (by omega), a_cp_ne (by omega), a_cp_ne (by omega), a_cp_ne (by omega), a_cp_ne (by omega), a_cp_ne (by omega), a_up_ne (by omega), a_up_ne (by omega)]
    have g3 : g 3 0 = h 75 0 ∧ g 3 1 = h 75 1 := by
      rw [← hg]
      constructor
      · rw [a_cp_ne (by omega), a_cp_ne (by omega), a_cp_ne (by omega), a_cp_ne (by omega), a_cp_ne (by omega), a_cp_ne (by omega), a_cp_ne (by omega), a_cp_ne (by omega), a_up_off (by omega), a_up_eq]
      · rw [a_cp_ne (by omega), a_cp_ne (by omega), a_cp_ne (by omega), a_cp_ne (by omega), a_cp_ne (by omega), a_cp_ne (by omega), a_cp_ne (by omega), a_cp_ne (by omega), a_up_eq]
    have gk : ∀ x, 0 ≤ x → x < 24 → g 4 x = h 76 x ∧ g 5 x = h 77 x ∧ g 6 x = h 78 x ∧ g 7 x = h 79 x ∧ g 8 x = h 80 x ∧ g 9 x = h 81 x ∧ g 19 x = h 83 x := fun x x0 x1 => by
      have e : 0 + (x - 0) = x := by omega
      rw [← hg]
      refine ⟨?_, ?_, ?_, ?_, ?_, ?_, ?_⟩
      · rw [a_cp_ne (by omega), a_cp_ne (by omega), a_cp_ne (by omega), a_cp_ne (by omega), a_cp_ne (by omega), a_cp_ne (by omega), a_cp_ne (by omega), a_cp_at, if_pos (by omega), e, a_up_ne (by omega), a_up_ne (by omega)]
      · rw [a_cp_ne (by omega), a_cp_ne (by omega), a_cp_ne (by omega), a_cp_ne (by omega), a_cp_ne (by omega), a_cp_ne (by omega), a_cp_at, if_pos (by omega), e, a_cp_ne (by omega), a_up_ne (by omega), a_up_ne (by omega)]
      · rw [a_cp_ne (by omega), a_cp_ne (by omega), a_cp_ne (by omega), a_cp_ne (by omega), a_cp_ne (by omega), a_cp_at, if_pos (by omega), e, a_cp_ne (by omega), a_cp_ne (by omega), a_up_ne (by omega), a_up_ne (by omega)]
      · rw [a_cp_ne (by omega), a_cp_ne (by omega), a_cp_ne (by omega), a_cp_ne (by omega), a_cp_at, if_pos (by omega), e, a_cp_ne (by omega), a_cp_ne (by omega), a_cp_ne (by omega), a_up_ne (by omega), a_up_ne (by omega)]
      · rw [a_cp_ne (by omega), a_cp_ne (by omega), a_cp_ne (by omega), a_cp_at, if_pos (by omega), e, a_cp_ne (by omega), a_cp_ne (by omega), a_cp_ne (by omega), a_cp_ne (by omega), a_up_ne (by omega), a_up_ne (by omega)]
      · rw [a_cp_ne (by omega), a_cp_ne (by omega), a_cp_at, if_pos (by omega), e, a_cp_ne (by omega), a_cp_ne (by omega), a_cp_ne (by omega), a_cp_ne (by omega), a_cp_ne (by omega), a_up_ne (by omega), a_up_ne (by omega)]
      · rw [a_cp_at, if_pos (by omega), e, a_cp_ne (by omega), a_cp_ne (by omega), a_cp_ne (by omega), a_cp_ne (by omega), a_cp_ne (by omega), a_cp_ne (by omega), a_cp_ne (by omega), a_up_ne (by omega), a_up_ne (by omega)]
    have g10 : ∀ x, 0 ≤ x → x < 6 → g 10 x = h 82 x := fun x x0 x1 => by
      have e : 0 + (x - 0) = x := by omega
      rw [← hg, a_cp_ne (by omega), a_cp_at, if_pos (by omega), e, a_cp_ne (by omega), a_cp_ne (by omega), a_cp_ne (by omega), a_cp_ne (by omega), a_cp_ne (by omega), a_cp_ne (by omega), a_up_ne (by omega), a_up_ne (by omega)]
    have toS : ∀ m : aH, m 85 0 = h 115 0 → m 85 1 = h 115 1 → (∀ x, 0 ≤ x → x < 24 → m 86 x = h 115 (7 + x) ∧ m 87 x = h 115 (31 + x) ∧ m 88 x = h 115 (55 + x) ∧ m 89 x = h 115 (79 + x)) → (∀ x, 0 ≤ x → x < 120 → m 90 x = h 115 (103 + x)) → (∀ x, 0 ≤ x → x < 5 → m 91 x = h 115 (2 + x)) → sS g m := by
      intro m m0 m1 m2 m3 m4
      refine i3.range g3.1 g3.2 (fun k k1 k2 x x0 x1 => ?_) g10 (fun x x0 x1 => (gk x x0 x1).2.2.2.2.2.2) m0 m1 (fun k k1 k2 x x0 x1 => ?_) m3 m4
      · have q := gk x x0 x1
        have : k = 4 ∨ k = 5 ∨ k = 6 ∨ k = 7 ∨ k = 8 ∨ k = 9 := by omega
        rcases this with rfl | rfl | rfl | rfl | rfl | rfl
        · exact q.1
        · exact q.2.1
        · exact q.2.2.1
        · exact q.2.2.2.1
        · exact q.2.2.2.2.1
        · exact q.2.2.2.2.2.1
      · have q := m2 x x0 x1
        have : k = 86 ∨ k = 87 ∨ k = 88 ∨ k = 89 := by omega
        rcases this with rfl | rfl | rfl | rfl
        · exact q.1
        · exact q.2.1
        · exact q.2.2.1
        · exact q.2.2.2
    have S0 : sS g (im h) := toS (im h) rfl rfl (fun x _ _ => ⟨rfl, rfl, rfl, rfl⟩) (fun x _ _ => rfl) (fun x _ _ => rfl)
    have hn' : 0 < g 3 1 := by rw [g3.2]; exact i2
    refine r_startAnew S0.1.1 hn' S0.2.1.1 (fun g' x S => ?_)
    have e85 : ∀ k, 85 ≤ k → g' k = h k := fun k hk => (x.1 k (by omega) (by omega) (by omega) (by omega) (by omega) (by omega) (by omega)).trans (g1 k (by omega) (by omega))
    refine e_X10_back ⟨fun w => ?_, fun _ => ?_⟩
    · rw [e85 85 (by omega)] at w
      exact absurd w i1
    refine r_passAL (fun m m1 m2 m3 m4 m5 m6 m7 => r_begins (fun m' y => ⟨?_, ?_, ?_⟩))
    · rw [y.2.1 1 (by omega) (by omega) (by omega) (by omega), m4, x.1 3 (by omega) (by omega) (by omega) (by omega) (by omega) (by omega) (by omega), g3.2, e85 115 (by omega)]
      exact i3.1.2.2.2.1.symm
    · have hS1 : sS g m := by
        rw [e85 115 (by omega)] at m3 m4 m5 m6 m7
        exact toS m m3 m4 m6 m7 m5
      have lo : ∀ k, k < 85 → m k = g' k := fun k hk => m1 k (by omega) (by omega)
      have hi : ∀ k, 91 < k → m k = h k := fun k hk => (m1 k (by omega) (by omega)).trans (e85 k (by omega))
      have m85 : ∀ i, i ≠ 0 → i ≠ 1 → i ≠ 52 → i ≠ 53 → m 85 i = h 85 i := fun i j1 j2 j3 j4 => (m2 i j1 j2 j3 j4).trans (congrFun (e85 85 (by omega)) i)
      obtain ⟨L, t1, t2, t3, t4, t5, t6⟩ := hI.1.2.2.2.1
      have hT : sTape g m := hI.1.1.congr (congrFun (g1 1 (by omega) (by omega)) 1) (g1 2 (by omega) (by omega)) (m85 9 (by omega) (by omega) (by omega) (by omega)) (hi 92 (by omega))
      have hIm : sImg g m := hI.1.2.2.2.2.2.2.2.1.congr (fun k k1 k2 => g1 k (by omega) (by omega)) (m85 51 (by omega) (by omega) (by omega) (by omega)) (hi 115 (by omega))
      have R := Sim.anew hn' hT hS1 hIm (by rw [g1 42 (by omega) (by omega), m85 34 (by omega) (by omega) (by omega) (by omega)]; exact ⟨t5, t6, t4⟩) x S y
      refine R.frame (fun k _ _ _ _ k5 => (y.1 k (by omega) (by omega)).trans (lo k k5)) mK.refl
    · rw [y.2.1 40 (by omega) (by omega) (by omega) (by omega), m2 40 (by omega) (by omega) (by omega) (by omega), e85 85 (by omega), y.1 0 (by omega) (by omega), m1 0 (by omega) (by omega), x.2.2.1 16 (by omega), g1 0 (by omega) (by omega)]
      have := hI.2
      omega
