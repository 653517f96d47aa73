/-! one step: on the reference, behind the class; step -/
def LstM (m : aH) (s : Int) (m1 : aH) : Prop := ((m 85 37 = 0 ∨ s < m 85 38) ∧ m1 = a_cp (a_up (a_up m 85 37 1) 85 38 s) 90 0 108 0 120) ∨ (¬ m 85 37 = 0 ∧ ¬ s < m 85 38 ∧ m1 = m)
theorem r_lstM {m : aH} {Q : aQ} {s : Int} (k : ∀ m1, LstM m s m1 → Q 0 m1) : aRun mX10_notes 0 [aR 85, aI s] m Q := r_notes (fun z => k _ (Or.inl ⟨z, rfl⟩)) (fun z y => k _ (Or.inr ⟨z, y, rfl⟩))
theorem LstM.fr {m m1 : aH} {s : Int} (x : LstM m s m1) : (∀ k, k ≠ 85 → k ≠ 108 → m1 k = m k) ∧ ∀ i, i ≠ 37 → i ≠ 38 → m1 85 i = m 85 i := by
  rcases x with ⟨-, e⟩ | ⟨-, -, e⟩
  · subst e
    exact ⟨fun k k0 k1 => by rw [a_cp_ne k1, a_up_ne k0, a_up_ne k0], fun i i1 i2 => by rw [a_cp_ne (by omega), a_up_off i2, a_up_off i1]⟩
  · subst e
    exact ⟨fun _ _ _ => rfl, fun _ _ _ => rfl⟩
theorem Sim.lst {c m c1 m1 : aH} (H : Sim c m) (hn : 0 < c 3 1) (hr : c 20 10 = 0) (x : LstC c c1) (y : LstM m (c 20 9) m1) : Sim c1 m1 := by
  have S := H.2.2.1 hn
  have T := (S.paths hr).1
  obtain ⟨h1, h2, h3, h4, h5, h6, h7, h8, h9, h10⟩ := H
  have f := x.fr
  have g := y.fr
  have a : ∀ k, 3 ≤ k → k ≤ 10 → c1 k = c k := fun k k1 k2 => f.1 k (by omega) (by omega)
  refine ⟨?_, ?_, ?_, ?_, ?_, ?_, ?_, ?_, ?_, ?_⟩
  · exact h1.congr (congrFun (f.1 1 (by omega) (by omega)) 1) (f.1 2 (by omega) (by omega)) (g.2 9 (by omega) (by omega)) (g.1 92 (by omega) (by omega))
  · exact h2.congr a (f.1 19 (by omega) (by omega)) (g.2 0 (by omega) (by omega)) (g.2 1 (by omega) (by omega)) (fun k k1 k2 => g.1 k (by omega) (by omega))
  · exact h3.congr a (fun k k1 k2 => f.1 k (by omega) (by omega)) (fun k k1 k2 => f.1 k (by omega) (by omega))
  · exact h4.congr (congrFun (f.1 42 (by omega) (by omega)) 1) (congrFun (f.1 42 (by omega) (by omega)) 2) (f.1 43 (by omega) (by omega)) (g.2 34 (by omega) (by omega)) (g.2 36 (by omega) (by omega)) (g.1 107 (by omega) (by omega))
  · by_cases z : c 0 15 = -1 ∨ c 20 9 < c 0 15
    · rcases x with ⟨-, e⟩ | ⟨w, -⟩
      · have w : m 85 37 = 0 ∨ c 20 9 < m 85 38 := by
          rcases h5 with ⟨u1, u2⟩ | ⟨u1, u2, u3, -⟩
          · exact Or.inl u2
          · right; rw [u2]; omega
        rcases y with ⟨-, e2⟩ | ⟨w1, w2, -⟩
        · subst e e2
          refine Or.inr ⟨?_, ?_, ?_, ?_, ?_, ?_⟩
          · rw [a_cp_ne (by omega), a_up_off (by omega), a_up_eq]
          · rw [a_cp_ne (by omega), a_up_eq, a_cp_ne (by omega), a_up_eq]
          · rw [a_cp_ne (by omega), a_up_eq]; exact T.2.1
          · have hso : sameO (cSz c) (cO c 19) (cO (a_cp (a_up c 0 15 (c 20 9)) 19 0 84 0 24) 84) := by
              intro M k k0 k1 k2 k3
              have q := h2.1.1.2.at k0 k1
              have q2 := h2.1.1.1.1
              have q3 : k < c 10 (M + 1) - c 10 M := k3
              show c 19 (c 10 M + k) = a_cp (a_up c 0 15 (c 20 9)) 19 0 84 0 24 84 (c 10 M + k)
              rw [a_cp_at, if_pos (by omega), a_up_ne (by omega), show 0 + (c 10 M + k - 0) = c 10 M + k by omega]
            exact h2.2.1.1.same h2.1.1.mach hso
          · intro M k k0 k1 k2 k3
            have q := h2.1.1.2.at k0 k1
            have q2 := h2.1.1.1.1
            have q3 : k < c 10 (M + 1) - c 10 M := k3
            have q4 := h2.1.2.1.2 M k0 k1
            have q5 := h2.1.2.2.2.2.2 M k0 k1
            have q6 : m 91 M = c 10 (M + 1) - c 10 M := q5
            show a_cp (a_up c 0 15 (c 20 9)) 19 0 84 0 24 84 (c 10 M + k) = a_cp (a_up (a_up m 85 37 1) 85 38 (c 20 9)) 90 0 108 0 120 108 (24 * M + k)
            rw [a_cp_at, if_pos (by omega), a_up_ne (by omega), show 0 + (c 10 M + k - 0) = c 10 M + k by omega, a_cp_at, if_pos (by omega), a_up_ne (by omega), a_up_ne (by omega), show 0 + (24 * M + k - 0) = 24 * M + k by omega]
            exact h2.2.1.2 M k k0 k1 k2 k3
          · obtain ⟨pa, pn, S', u1, u2⟩ := S.spanIs hr
            have hso : sameO (cSz c) (cO c 19) (cO (a_cp (a_up c 0 15 (c 20 9)) 19 0 84 0 24) 84) := by
              intro M k k0 k1 k2 k3
              have q := h2.1.1.2.at k0 k1
              have q2 := h2.1.1.1.1
              have q3 : k < c 10 (M + 1) - c 10 M := k3
              show c 19 (c 10 M + k) = a_cp (a_up c 0 15 (c 20 9)) 19 0 84 0 24 84 (c 10 M + k)
              rw [a_cp_at, if_pos (by omega), a_up_ne (by omega), show 0 + (c 10 M + k - 0) = c 10 M + k by omega]
            refine ⟨pa, pn, S', u1.of hso, ?_⟩
            rw [show a_cp (a_up c 0 15 (c 20 9)) 19 0 84 0 24 0 15 = c 20 9 by rw [a_cp_ne (by omega), a_up_eq]]
            exact u2
        · omega
      · exact absurd z w
    · rcases x with ⟨w, -⟩ | ⟨-, e⟩
      · exact absurd w z
      · subst e
        rcases h5 with ⟨u1, u2⟩ | ⟨u1, u2, u3, u4⟩
        · omega
        · rcases y with ⟨w, -⟩ | ⟨-, -, e2⟩
          · omega
          · subst e2
            exact Or.inr ⟨u1, u2, u3, u4⟩
  · exact h6.congr a (congrFun (f.1 44 (by omega) (by omega)) 1) (congrFun (f.1 44 (by omega) (by omega)) 2) (fun k k1 k2 => f.1 k (by omega) (by omega)) (g.2 18 (by omega) (by omega)) (g.2 19 (by omega) (by omega)) (g.1 96 (by omega) (by omega))
  · exact h7.congr (by have := h6.1; omega) (a 10 (by omega) (by omega)) (f.1 19 (by omega) (by omega)) (congrFun (f.1 44 (by omega) (by omega)) 1) (congrFun (f.1 44 (by omega) (by omega)) 2) (congrFun (a 3 (by omega) (by omega)) 1) (fun k k1 k2 => f.1 k (by omega) (by omega))
  · exact h8.congr (fun k k1 k2 => f.1 k (by omega) (by omega)) (g.2 51 (by omega) (by omega)) (g.1 115 (by omega) (by omega))
  · exact h9.congr a (f.1 72 (by omega) (by omega))
  · exact h10.congr a (congrFun (f.1 73 (by omega) (by omega)) 1) (congrFun (f.1 73 (by omega) (by omega)) 2) (congrFun (f.1 73 (by omega) (by omega)) 3)
theorem StC.of {c m : aH} (H : Sim c m) (hn : 0 < c 3 1) (hr : c 20 10 = 0) : StC c := by
  obtain ⟨L, t1, t2, t3, t4, t5, t6⟩ := H.2.2.2.1
  have hh := H.2.2.2.2.2.1.1
  have := t1.1
  exact ⟨H.2.1.1.1, hn, H.2.1.2.1.1, H.2.2.1 hn, hr, by omega, by omega⟩
/-- TABU, behind a keep on both sides -/
theorem Sim.keep {c m c' m' : aH} {L : List Int} {v rx : Int} (H : Sim c m) (hL : okMv L (c 43) (c 42 1)) (hx : isIx L v rx) (f : ∀ k, k ≠ 42 → k ≠ 43 → c' k = c k) (f2 : ∀ j, j ≠ 1 → c' 42 j = c 42 j) (f3 : okMv (keepL (c 42 2) L v rx) (c' 43) (c' 42 1))
    (g : ∀ k, k ≠ 85 → k ≠ 107 → m' k = m k) (g2 : ∀ j, j ≠ 36 → j ≠ 40 → m' 85 j = m 85 j) (g3 : okMv (keepL (c 42 2) L v rx) (m' 107) (m' 85 36)) : Sim c' m' := by
  obtain ⟨h1, h2, h3, h4, h5, h6, h7, h8, h9, h10⟩ := H
  have a : ∀ k, 3 ≤ k → k ≤ 10 → c' k = c k := fun k k1 k2 => f k (by omega) (by omega)
  refine ⟨?_, ?_, ?_, ?_, ?_, ?_, ?_, ?_, ?_, ?_⟩
  · exact h1.congr (congrFun (f 1 (by omega) (by omega)) 1) (f 2 (by omega) (by omega)) (g2 9 (by omega) (by omega)) (g 92 (by omega) (by omega))
  · exact h2.congr a (f 19 (by omega) (by omega)) (g2 0 (by omega) (by omega)) (g2 1 (by omega) (by omega)) (fun k k1 k2 => g k (by omega) (by omega))
  · exact h3.congr a (fun k k1 k2 => f k (by omega) (by omega)) (fun k k1 k2 => f k (by omega) (by omega))
  · obtain ⟨L', t1, t2, t3, t4, t5, t6⟩ := h4
    have e := f3.1
    have e2 := keepL_len (most := c 42 2) (by have := hL.1; omega) hx
    exact ⟨_, f3, g3, by rw [f2 2 (by omega)]; omega, by rw [g2 34 (by omega) (by omega), f2 2 (by omega)]; exact t4, by rw [f2 2 (by omega)]; exact t5, by rw [f2 2 (by omega)]; exact t6⟩
  · exact h5.congr a (congrFun (f 0 (by omega) (by omega)) 15) (f 84 (by omega) (by omega)) (g2 37 (by omega) (by omega)) (g2 38 (by omega) (by omega)) (g 108 (by omega) (by omega))
  · exact h6.congr a (congrFun (f 44 (by omega) (by omega)) 1) (congrFun (f 44 (by omega) (by omega)) 2) (fun k k1 k2 => f k (by omega) (by omega)) (g2 18 (by omega) (by omega)) (g2 19 (by omega) (by omega)) (g 96 (by omega) (by omega))
  · exact h7.congr (by have := h6.1; omega) (a 10 (by omega) (by omega)) (f 19 (by omega) (by omega)) (congrFun (f 44 (by omega) (by omega)) 1) (congrFun (f 44 (by omega) (by omega)) 2) (congrFun (a 3 (by omega) (by omega)) 1) (fun k k1 k2 => f k (by omega) (by omega))
  · exact h8.congr (fun k k1 k2 => f k (by omega) (by omega)) (g2 51 (by omega) (by omega)) (g 115 (by omega) (by omega))
  · exact h9.congr a (f 72 (by omega) (by omega))
  · exact h10.congr a (congrFun (f 73 (by omega) (by omega)) 1) (congrFun (f 73 (by omega) (by omega)) 2) (congrFun (f 73 (by omega) (by omega)) 3)
set_option maxHeartbeats 1000000 in
theorem r_mSteps {c m c' : aH} {r : Int} {Q : aQ} (H : Sim c m) (St : StC c) (x : RelC c r c') (hb : 0 ≤ m 85 40 ∧ m 85 40 ≤ 1000000) (k : ∀ m', Sim c' m' → m' 85 40 = m 85 40 + r → (∀ k, k < 85 → m' k = m k) → Q r m') : aRun mX10_steps 6 [aR 85] m Q := by
  obtain ⟨s1, s2, s3, s4, s5, s6, s7⟩ := id St
  have P := s4.paths s5
  have cn := P.2.cnt s1
  obtain ⟨c1, x1, xx⟩ := x
  refine e_X10_steps ?_
  refine r_reckS H.2.1.1 H.2.1.2.1 s4 (fun r1 g hF hs' ho' hN hres => ?_)
  have hres : r1 = 1 ∧ rkT g := by
    rcases hres with ⟨a, b⟩ | ⟨a, -, d⟩
    · omega
    · exact ⟨a, d⟩
  obtain ⟨er1, hT⟩ := hres
  have Hg : Sim c g := H.frame cK.refl (mK.rk hF)
  have ts := times_same hs' ho' s2 s4.2.1 P.1 hN hT
  rw [ts.1]
  refine r_lstM (fun m1 y1 => ?_)
  have fm := y1.fr
  have H1 := Hg.lst s2 s5 x1 y1
  have hT1 : rkT m1 := rkT_congr (fun c a b => fm.1 c (by omega) (by omega)) (fm.2 1 (by omega) (by omega)) (fm.2 26 (by omega) (by omega)) hT
  have hN1 : lnkN (m1 91) (mO m1) (m1 97) (m1 98) := by
    unfold mO
    rw [fm.1 91 (by omega) (by omega), fm.1 90 (by omega) (by omega), fm.1 97 (by omega) (by omega), fm.1 98 (by omega) (by omega)]
    exact hN
  have hSm : sS c m1 := Hg.2.1.congr (fun _ _ _ => rfl) rfl (fm.2 0 (by omega) (by omega)) (fm.2 1 (by omega) (by omega)) (fun k k1 k2 => fm.1 k (by omega) (by omega))
  refine r_findsS hSm.1 hSm.2.1 s2 s4.2.1 P.1 P.2 hN1 hT1 (fun g4 f1 f2 w1 w2 e33 hmv => ?_)
  have H4 : Sim c1 g4 := H1.frame cK.refl ⟨fun k k1 k2 k3 k4 => f1 k (by omega) (by omega), fun i hi => f2 i (by omega) (by omega) (by omega)⟩
  have hS4 : sS c g4 := hSm.congr (fun _ _ _ => rfl) rfl (f2 0 (by omega) (by omega) (by omega)) (f2 1 (by omega) (by omega) (by omega)) (fun k k1 k2 => f1 k (by omega) (by omega))
  obtain ⟨L, t1, t2, t3, t4, t5, t6⟩ := H4.2.2.2.1
  have fc := x1.fr
  rw [fc.1 43 (by omega) (by omega), fc.1 42 (by omega) (by omega)] at t1
  rw [fc.1 42 (by omega) (by omega)] at t3 t4 t5 t6
  have n1 := t1.1
  have n2 := t2.1
  refine r_mChosen (v := vB c) (q := qB L c) (by omega) (fun i _ _ => (qB_rng t1 (by omega) i).1) (fun g i Q' hg i0 i1 hk => ?_) (fun g i Q' hg i0 i1 hk => ?_) (fun g5 r7 F5 hv hr7 => ?_)
  · have e105 : g 105 = g4 105 := hg.1 105 (by omega) (by omega) (by omega)
    have hSg : sS c g := hS4.congr (fun _ _ _ => rfl) rfl (hg.2 0 (by omega)) (hg.2 1 (by omega)) (fun k k1 k2 => hg.1 k (by omega) (by omega) (by omega))
    have := r_mB (g := g) (Q := Q') hSg s2 s4 s5 i0 (by omega) (by rw [e105]; exact (hmv i i0 (by omega)).2.1) hk
    rw [e105] at this
    exact this
  · have e105 : g 105 = g4 105 := hg.1 105 (by omega) (by omega) (by omega)
    have := r_mK (c := c) (g := g) (Q := Q') (L := L) (i := i) (by rw [hg.1 107 (by omega) (by omega) (by omega), hg.2 36 (by omega)]; exact t2) (by rw [hg.2 36 (by omega)]; omega) (by rw [e105]; exact (hmv i i0 (by omega)).2.1) hk
    rw [e105] at this
    exact this
  have H5 : Sim c1 g5 := H4.frame cK.refl ⟨fun k k1 k2 k3 k4 => F5.1 k (by omega) (by omega) (by omega), fun i hi => F5.2 i (by omega)⟩
  have hS5 : sS c g5 := hS4.congr (fun _ _ _ => rfl) rfl (F5.2 0 (by omega)) (F5.2 1 (by omega)) (fun k k1 k2 => F5.1 k (by omega) (by omega) (by omega))
  have lo5 : ∀ k, k < 85 → g5 k = m k := fun k hk => (F5.1 k (by omega) (by omega) (by omega)).trans ((f1 k (by omega) (by omega)).trans ((fm.1 k (by omega) (by omega)).trans (hF.1 k (by omega) (by omega))))
  have e40 : g5 85 40 = m 85 40 := (F5.2 40 (by omega)).trans ((f2 40 (by omega) (by omega) (by omega)).trans ((fm.2 40 (by omega) (by omega)).trans (hF.2 40 (by omega))))
  rcases xx with ⟨z, er, ec⟩ | ⟨er, z, kk', L', M, kk, c2, c4, c5, rx, y1', y2, y3, y4, ⟨hM, hk, y5, y6⟩, y7, S4, y8, y9, y10, y11, y12, y13, x6⟩
  · have : r7 = -1 := by
      rcases hr7 with a | a
      · exact a.2
      · omega
    subst er ec
    refine ⟨fun _ => k g5 H5 (by omega) lo5, fun w => by omega⟩
  have eL : L' = L := y1'.unique t1
  subst eL
  have el : g4 85 38 = c1 0 15 := by
    rcases H4.2.2.2.2.1 with ⟨u, -⟩ | ⟨-, u, -⟩
    · exfalso
      have := P.1.2.1
      rcases x1 with ⟨-, e⟩ | ⟨w, e⟩
      · rw [e, a_cp_ne (by omega), a_up_eq] at u
        omega
      · rw [e] at u
        exact w (Or.inl u)
    · exact u
  have er7 : r7 = kk' := by
    rcases hr7 with a | ⟨-, a⟩
    · omega
    · rw [e33, el] at a
      exact a.unique y3
  subst er7
  have e105 : g5 105 = g4 105 := F5.1 105 (by omega) (by omega) (by omega)
  have em : g5 105 r7 = 100 * c 39 (c 41 r7) + c 39 (c 41 r7 + 1) := by rw [e105]; exact (hmv r7 y2.1 y2.2).2.1
  have mo := mv_of s2 s4 s5 y2.1 y2.2
  have mr := mv_rng s1 s2 P.2 mo
  have nn := s1.1.1
  have ea : g5 105 r7 % 100 = c 39 (c 41 r7 + 1) := by omega
  have eb : g5 105 r7 / 100 = c 39 (c 41 r7) := by omega
  refine ⟨fun w => by omega, fun _ => ⟨fun w => by omega, fun _ => ⟨by omega, ?_⟩⟩⟩
  rw [ea, eb, em]
  have z91 : g5 91 M = cSz c M := hS5.1.2.2.2.2.2 M hM.1 hM.2
  have o1 : mO g5 M kk = c 39 (c 41 r7) := (hS5.2.1.2 M kk hM.1 hM.2 hk.1 (by omega)).symm.trans y5
  have o2 : mO g5 M (kk + 1) = c 39 (c 41 r7 + 1) := (hS5.2.1.2 M (kk + 1) hM.1 hM.2 (by omega) (by omega)).symm.trans y6
  refine r_swapsMove (i := kk) hS5.1.2.1 (hS5.1.mOrd hS5.2.1) hM (by omega) (Or.inl ⟨o1.symm, o2.symm⟩) ?_
  have H52 : Sim c2 g5 := H5.frame (fun k k1 k2 k3 k4 k5 => y4 k k2) mK.refl
  have f2c : ∀ x, x ≠ 0 → x ≠ 84 → (x < 29 ∨ 37 < x) → c2 x = c x := fun x a b d => (y4 x d).trans (fc.1 x a b)
  have e10 : c2 10 = c 10 := f2c 10 (by omega) (by omega) (by omega)
  have hSw := H52.2.1.swap (m := g5) hM (k := kk) (by unfold cSz; rw [e10]; exact hk)
  rw [e10] at hSw
  have Pw : Pre (setC c2 19 (sw2 (c2 19) (c 10 M + kk))) (setC g5 90 (sw2 (g5 90) (24 * M + kk))) := H52.pre.orders hSw (fun k k1 _ => setC_ne k1) (fun k k1 _ => setC_ne k1)
  have e18 : g5 85 18 = c2 44 1 := H52.2.2.2.2.2.1.2.1
  have hD := H52.2.2.2.2.2.1.1
  refine r_mChg (show 0 ≤ g5 85 18 ∧ g5 85 18 ≤ 16 by omega) (fun g7 y7' => ?_)
  have H7 : Sim c4 g7 := Pre.chg (c := setC c2 19 (sw2 (c2 19) (c 10 M + kk))) (show 0 < c2 3 1 by rw [f2c 3 (by omega) (by omega) (by omega)]; exact s2) Pw y7 y7' S4
  have e740 : g7 85 40 = m 85 40 := (y7'.2.1 40 (by omega) (by omega)).trans ((congrFun (setC_ne (by omega)) 40).trans e40)
  refine ⟨by unfold inR; omega, by omega, by unfold inR; omega, by unfold inR; omega, ?_⟩
  have e42 : c4 42 = c 42 := (y7.1 42 (by omega) (by omega) (by omega) (by omega)).trans ((setC_ne (by omega)).trans (f2c 42 (by omega) (by omega) (by omega)))
  have e43 : c4 43 = c 43 := (y7.1 43 (by omega) (by omega) (by omega) (by omega)).trans ((setC_ne (by omega)).trans (f2c 43 (by omega) (by omega) (by omega)))
  have e107 : g7 107 = g4 107 := (y7'.1 107 (by omega) (by omega)).trans ((setC_ne (by omega)).trans (F5.1 107 (by omega) (by omega) (by omega)))
  have e36 : g7 85 36 = g4 85 36 := (y7'.2.1 36 (by omega) (by omega)).trans ((congrFun (setC_ne (by omega)) 36).trans (F5.2 36 (by omega)))
  have e34 : g7 85 34 = c 42 2 := (y7'.2.1 34 (by omega) (by omega)).trans ((congrFun (setC_ne (by omega)) 34).trans ((F5.2 34 (by omega)).trans t4))
  refine r_keepsMove (L := L') ?_ ?_ ?_ (fun rx' g8 hx8 f8 f9 f10 => ?_)
  · rw [a_up_ne (by omega), a_up_off (by omega), e107, e36]; exact t2
  · rw [a_up_off (by omega), e34]; omega
  · rw [a_up_off (by omega), a_up_off (by omega), e34, e36]; omega
  have erx : rx' = rx := hx8.unique y10
  subst erx
  rw [a_up_off (by omega), e34] at f10
  have H8 : Sim c5 g8 := H7.keep (L := L') (v := 100 * c 39 (c 41 r7 + 1) + c 39 (c 41 r7)) (rx := rx') (by rw [e42, e43]; exact t1) y10 y11 y12 (by rw [e42]; exact y13) (fun k k1 k2 => (f8 k k1 k2).trans (a_up_ne k1)) (fun j j1 j2 => (f9 j j1).trans (a_up_off j2)) (by rw [e42]; exact f10)
  have e109 : g8 109 r7 = c5 20 9 := by
    rw [f8 109 (by omega) (by omega), a_up_ne (by omega), y7'.1 109 (by omega) (by omega), setC_ne (by omega), hv r7 y2.1 (by omega), y11 20 (by omega) (by omega), y9]
  rw [e109]
  refine r_lstM (fun g9 y9' => ?_)
  have H9 : Sim c' g9 := H8.lst ?_ ?_ x6 y9'
  · subst er
    have lo7 : ∀ k, k < 85 → g7 k = g5 k := fun k hk => (y7'.1 k (by omega) (by omega)).trans (setC_ne (by omega))
    refine k g9 H9 ?_ (fun k hk => ?_)
    · rw [y9'.fr.2 40 (by omega) (by omega), f9 40 (by omega), a_up_eq, e740]
    · rw [y9'.fr.1 k (by omega) (by omega), f8 k (by omega) (by omega), a_up_ne (by omega), lo7 k hk]
      exact lo5 k hk
  · rw [y11 3 (by omega) (by omega), y7.1 3 (by omega) (by omega) (by omega) (by omega), setC_ne (by omega), f2c 3 (by omega) (by omega) (by omega)]
    exact s2
  · rw [y11 20 (by omega) (by omega)]
    exact y8
def ChainC : Nat → aH → aH → Prop
  | 0, c, c' => c' = c
  | j + 1, c, c' => ∃ d, RelC c 1 d ∧ ChainC j d c'
theorem ChainC.snoc : ∀ (j : Nat) (c d e : aH), ChainC j c d → RelC d 1 e → ChainC (j + 1) c e := by
  intro j
  induction j with
  | zero =>
    intro c d e x y
    have x : d = c := x
    subst x
    exact ⟨e, y, rfl⟩
  | succ j ih =>
    intro c d e x y
    obtain ⟨d1, x1, x2⟩ := x
    exact ⟨d1, x1, ih d1 d e x2 y⟩
theorem RelC.fr {c c' : aH} {r : Int} (x : RelC c r c') : (∀ k, 85 ≤ k → c' k = c k) ∧ c' 0 16 = c 0 16 := by
  obtain ⟨c1, x1, ⟨-, -, e⟩ | ⟨-, -, k, L, M, kk, c2, c4, c5, rx, y1, y2, y3, y4, -, y7, S4, y8, y9, y10, y11, y12, y13, x6⟩⟩ := x
  · subst e
    exact ⟨fun k hk => x1.fr.1 k (by omega) (by omega), x1.fr.2 16 (by omega)⟩
  · refine ⟨fun k hk => ?_, ?_⟩
    · rw [x6.fr.1 k (by omega) (by omega), y11 k (by omega) (by omega), y7.lo k hk, setC_ne (by omega), y4 k (by omega), x1.fr.1 k (by omega) (by omega)]
    · rw [x6.fr.2 16 (by omega), y11 0 (by omega) (by omega), y7.1 0 (by omega) (by omega) (by omega) (by omega), setC_ne (by omega), y4 0 (by omega), x1.fr.2 16 (by omega)]
/-- what the class's loop leaves: j moves done, of n -/
def EndC (n : Int) (c : aH) (j : Nat) (c' : aH) : Prop := ((j : Int) = n ∧ ChainC j c c') ∨ ((j : Int) < n ∧ ∃ d, ChainC j c d ∧ RelC d 0 c')
theorem r_cStep {c : aH} {Q : aQ} {n : Int} (H : StC c) (hn : 1 ≤ n ∧ n ≤ 30) (hb : 0 ≤ c 0 16 ∧ c 0 16 ≤ 1000000) (k : ∀ (j : Nat) c', EndC n c j c' → (∀ k, 85 ≤ k → c' k = c k) → c' 0 16 = c 0 16 → Q j (a_up c' 0 16 (c' 0 16 + j))) : AW mX9_step 6 26 [some (aR 0), some (aI n), none, some (aI 0)] [] c Q := by
  suffices Hh : ∀ (d j : Nat) (e : aH), (j : Int) ≤ n → n - j ≤ d → ChainC j c e → StC e → (∀ k, 85 ≤ k → e k = c k) → e 0 16 = c 0 16 → AW mX9_step 6 26 [some (aR 0), some (aI n), none, some (aI (j : Int))] [] e Q from
    Hh 30 0 c (by omega) (by omega) rfl H (fun _ _ => rfl) rfl
  intro d
  induction d with
  | zero =>
    intro j e j1 hd hC hS lo e16
    refine s_X9_step_26 ⟨fun _ => ⟨by unfold inR; omega, k j e (Or.inl ⟨by omega, hC⟩) lo e16⟩, fun w => by omega⟩
  | succ d ih =>
    intro j e j1 hd hC hS lo e16
    refine s_X9_step_26 ⟨fun _ => ⟨by unfold inR; omega, k j e (Or.inl ⟨by omega, hC⟩) lo e16⟩, fun w => ?_⟩
    refine r_cGoOn hS (fun e' r x => ⟨fun z => ?_, fun z => ?_⟩)
    · subst z
      have f := x.fr
      refine ⟨by unfold inR; omega, k j e' (Or.inr ⟨by omega, e, hC, x⟩) (fun k hk => (f.1 k hk).trans (lo k hk)) (f.2.trans e16)⟩
    · have er : r = 1 := by
        obtain ⟨c1, x1, y | y⟩ := x
        · exact absurd y.2.1 z
        · exact y.1
      subst er
      have f := x.fr
      refine ⟨by unfold inR; omega, ?_⟩
      exact ih (j + 1) e' (by omega) (by omega) (hC.snoc j c e e' x) (x.st hS) (fun k hk => (f.1 k hk).trans (lo k hk)) (f.2.trans e16)
theorem r_mStep {c' : aH} {Q : aQ} {n : Int} (hn : 1 ≤ n ∧ n ≤ 30) : ∀ (d j i : Nat) (c m : aH), n - i ≤ d → (i : Int) + j ≤ n → Sim c m → StC c → (((i : Int) + j = n ∧ ChainC j c c') ∨ ((i : Int) + j < n ∧ ∃ e, ChainC j c e ∧ RelC e 0 c')) → (0 ≤ m 85 40 ∧ m 85 40 + n - i ≤ 1000000) → (∀ m', Sim c' m' → m' 85 40 = m 85 40 + j → (∀ k, k < 85 → m' k = m k) → Q (i + j) m') → AW mX10_step 7 25 [some (aR 85), some (aI n), none, some (aI (i : Int))] [] m Q := by
  intro d
  induction d with
  | zero =>
    intro j i c m hd hij H St hE hb k
    have ej : j = 0 := by omega
    subst ej
    rcases hE with ⟨-, e⟩ | ⟨w, -⟩
    · have e : c' = c := e
      subst e
      refine s_X10_step_25 ⟨fun _ => ?_, fun w => by omega⟩
      have := k m H (by omega) (fun _ _ => rfl)
      rw [show (i : Int) + ((0 : Nat) : Int) = i by omega] at this
      exact this
    · omega
  | succ d ih =>
    intro j i c m hd hij H St hE hb k
    by_cases z : (i : Int) = n
    · have ej : j = 0 := by omega
      subst ej
      rcases hE with ⟨-, e⟩ | ⟨w, -⟩
      · have e : c' = c := e
        subst e
        refine s_X10_step_25 ⟨fun _ => ?_, fun w => by omega⟩
        have := k m H (by omega) (fun _ _ => rfl)
        rw [show (i : Int) + ((0 : Nat) : Int) = i by omega] at this
        exact this
      · omega
    refine s_X10_step_25 ⟨fun w => by omega, fun _ => ?_⟩
    rcases j with _ | j
    · rcases hE with ⟨w, -⟩ | ⟨-, e, e1, e2⟩
      · omega
      · have e1 : e = c := e1
        subst e1
        refine r_mSteps H St e2 (by omega) (fun m' H' e40 lo => ⟨fun _ => ?_, fun w => absurd rfl w⟩)
        have := k m' H' (by omega) lo
        rw [show (i : Int) + ((0 : Nat) : Int) = i by omega] at this
        exact this
    · have hE' : ∃ e, RelC c 1 e ∧ (((i + 1 : Nat) : Int) + j = n ∧ ChainC j e c' ∨ ((i + 1 : Nat) : Int) + j < n ∧ ∃ e', ChainC j e e' ∧ RelC e' 0 c') := by
        rcases hE with ⟨w, e, e1, e2⟩ | ⟨w, e, ⟨e1, e2, e3⟩, e4⟩
        · exact ⟨e, e1, Or.inl ⟨by omega, e2⟩⟩
        · exact ⟨e1, e2, Or.inr ⟨by omega, e, e3, e4⟩⟩
      obtain ⟨e, e1, e2⟩ := hE'
      refine r_mSteps H St e1 (by omega) (fun m' H' e40 lo => ⟨fun w => by omega, fun _ => ⟨by unfold inR; omega, ?_⟩⟩)
      refine ih j (i + 1) e m' (by omega) (by omega) H' (e1.st St) e2 (by omega) (fun m'' H'' e40' lo' => ?_)
      have := k m'' H'' (by omega) (fun x hx => (lo' x hx).trans (lo x hx))
      rw [show (i : Int) + ((j + 1 : Nat) : Int) = ((i + 1 : Nat) : Int) + j by omega] at this
      exact this
theorem pr_step : a_pair Inv mX9_step mX10_step 6 7 1 := by
  intro n h a b hn hI hh ha hb
  have hs := hI.1.2.1.1
  have ho := hI.1.2.1.2.1
  have h0 := hs.1.1.1
  have hSt := hI.1.2.2.1
  have hin : ∀ g : aH, f_X10_in g a 1 30 = 0 ↔ ¬ (1 ≤ a ∧ a ≤ 30) := fun g => f_in_0
  have ok : (-1 : Int) = -1 ∧ Inv (n + 1) h := ⟨rfl, hI.mono⟩
  refine e_X9_step ⟨fun z => ?_, fun z => ⟨fun y => ⟨fun hr => ?_, fun hr => ?_⟩, fun y => ?_⟩⟩
  · exact e_X10_step ⟨fun _ => ok, fun v => absurd ((hin h).2 (by omega)) v⟩
  · obtain ⟨q1, q2⟩ := refused_ok h0.1 hr
    have hc := hI.2
    have St := StC.of hI.1 q1 q2
    refine r_cStep St (by omega) (by omega) (fun j c' E lo e16 => ?_)
    -- the reference, behind it
    have hj : (j : Int) ≤ a := by
      rcases E with ⟨e, -⟩ | ⟨e, -⟩ <;> omega
    generalize hg : a_up c' 0 16 (c' 0 16 + j) = g
    have g0 : ∀ k, k ≠ 0 → g k = c' k := fun k hk => by rw [← hg, a_up_ne hk]
    have g16 : g 0 16 = h 0 16 + j := by rw [← hg, a_up_eq, e16]
    have g0i : ∀ i, i ≠ 16 → g 0 i = c' 0 i := fun i hi => by rw [← hg, a_up_off hi]
    have e85 : ∀ k, 85 ≤ k → g k = h k := fun k hk => (g0 k (by omega)).trans (lo k hk)
    have Hg : Sim h g := hI.1.frame cK.refl ⟨fun k k1 _ _ _ => e85 k (by omega), fun i _ => congrFun (e85 85 (by omega)) i⟩
    refine e_X10_step ⟨fun v => absurd (show 1 ≤ a ∧ a ≤ 30 by omega) ((hin g).1 v), fun _ => ?_⟩
    refine r_wrongS Hg.2.1.1 Hg.2.1.2.1 hSt (fun n' e => by omega) (fun g' n' hF _ _ r' e => by omega) (fun g3 n' hF hs' ho' hN hr3 hT e => ⟨fun _ => ?_, fun w => by omega⟩)
    have e40 : g3 85 40 = h 0 16 := (hF.2 40 (by omega)).trans ((congrFun (e85 85 (by omega)) 40).trans hc.1)
    refine r_mStep (c' := c') (n := a) (by omega) 30 j 0 h g3 (by omega) (by omega) (Hg.frame cK.refl (mK.rk hF)) St ?_ (by omega) (fun m' H' e40' lo' => ?_)
    · rcases E with ⟨e, e2⟩ | ⟨e, e2⟩
      · exact Or.inl ⟨by omega, e2⟩
      · exact Or.inr ⟨by omega, e2⟩
    · have lo3 : ∀ k, k < 85 → m' k = g k := fun k hk => (lo' k hk).trans (hF.1 k (by omega) (by omega))
      refine ⟨by omega, ?_, ?_⟩
      · have hx : Sim g m' := by
          obtain ⟨h1, h2, h3, h4, h5, h6, h7, h8, h9, h10⟩ := H'
          have a' : ∀ k, 3 ≤ k → k ≤ 10 → g k = c' k := fun k k1 k2 => g0 k (by omega)
          exact ⟨h1.congr (congrFun (g0 1 (by omega)) 1) (g0 2 (by omega)) rfl rfl, h2.congr a' (g0 19 (by omega)) rfl rfl (fun _ _ _ => rfl), h3.congr a' (fun k k1 k2 => g0 k (by omega)) (fun k k1 k2 => g0 k (by omega)), h4.congr (congrFun (g0 42 (by omega)) 1) (congrFun (g0 42 (by omega)) 2) (g0 43 (by omega)) rfl rfl rfl, h5.congr a' (g0i 15 (by omega)) (g0 84 (by omega)) rfl rfl rfl, h6.congr a' (congrFun (g0 44 (by omega)) 1) (congrFun (g0 44 (by omega)) 2) (fun k k1 k2 => g0 k (by omega)) rfl rfl rfl, h7.congr (by have := h6.1; omega) (a' 10 (by omega) (by omega)) (g0 19 (by omega)) (congrFun (g0 44 (by omega)) 1) (congrFun (g0 44 (by omega)) 2) (congrFun (a' 3 (by omega) (by omega)) 1) (fun k k1 k2 => g0 k (by omega)), h8.congr (fun k k1 k2 => g0 k (by omega)) rfl rfl, h9.congr a' (g0 72 (by omega)), h10.congr a' (congrFun (g0 73 (by omega)) 1) (congrFun (g0 73 (by omega)) 2) (congrFun (g0 73 (by omega)) 3)⟩
        exact hx.frame (fun k _ _ _ _ k5 => lo3 k k5) mK.refl
      · rw [e40', e40, lo3 0 (by omega), g16]
        omega
  · refine e_X10_step ⟨fun v => absurd (show 1 ≤ a ∧ a ≤ 30 by omega) ((hin h).1 v), fun _ => ?_⟩
    refine r_wrongS hs ho hSt (fun n' e => ⟨fun w => by omega, fun _ => ⟨e, hI.mono⟩⟩) (fun g' n' hF _ _ r' e => ⟨fun w => by omega, fun _ => ⟨e, hI.frame (cK.rk hF) (mK.rk hF)⟩⟩) (fun g3 n' hF hs' ho' hN hr3 hT e => absurd e hr)
  · exact e_X10_step ⟨fun _ => ok, fun v => absurd ((hin h).2 (by omega)) v⟩
