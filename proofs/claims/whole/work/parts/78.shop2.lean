/-! pair: shop, whole -/
theorem cnM_congr {mach mach' : Int → Int} {M n : Int} (h : ∀ t, 0 ≤ t → t < n → mach' t = mach t) {t : Int} (t0 : 0 ≤ t) (t1 : t ≤ n) : cnM mach' M t = cnM mach M t := by
  unfold cnM
  refine cntB_congr _ (fun u hu => ?_)
  rw [h u (by omega) (by omega)]
theorem ordN.congr {n : Int} {mach mach' : Int → Int} {o : Int → Int → Int} (h : ordN n mach o) (e : ∀ t, 0 ≤ t → t < n → mach' t = mach t) : ordN n mach' o := by
  intro t a b
  rw [e t a b, cnM_congr e a (by omega)]
  exact h t a b
set_option maxHeartbeats 2000000 in
theorem pr_shop : a_pair Inv mX9_shop mX10_shop 5 5 0 := by
  intro n h a b hn hI hh ha hb
  have hT := hI.1.1
  have hl := hT.1
  have lts := lt_same hT
  refine e_X9_shop (r_readInto hl (fun i r g f pf => ⟨fun w => ?_, fun _ => ?_⟩) (fun i g f pg h1 h0 T => ?_))
  · -- a fault is never -1
    exfalso
    have pr := pst_rng (ltF (h 1 1) (h 2)) i
    have pe := pE_rng (ltF (h 1 1) (h 2)) i
    rcases pf.2.2 with x | x <;> omega
  · have pr := pst_rng (ltF (h 1 1) (h 2)) i
    have pe := pE_rng (ltF (h 1 1) (h 2)) i
    have rr : 0 ≤ r ∧ r ≤ 200 := by
      have := pf.2.1
      rcases pf.2.2 with x | x <;> omega
    refine ⟨by unfold inR; omega, ?_⟩
    generalize hG : a_up g 1 1 0 = G
    have G1 : ∀ c, c ≠ 1 → (c < 11 ∨ 15 < c) → G c = h c := fun c c1 c2 => by rw [← hG, a_up_ne c1]; exact f c c2
    have G2 : G 1 1 = 0 := by rw [← hG, a_up_eq]
    have e85 : ∀ k, 85 ≤ k → G k = h k := fun k hk => G1 k (by omega) (by omega)
    have tG : sTape h G := hT.congr rfl rfl (by rw [e85 85 (by omega)]) (e85 92 (by omega))
    have ltG := lt_same tG
    have len : G 85 9 = h 1 1 := tG.2.1
    refine e_X10_shop (r_readsAll tG.mTp (fun i' m mf pf' e11 e10 => ⟨fun _ => ?_, fun w => absurd e11 w⟩) (fun i' m mf pg' _ _ _ _ => ?_))
    · rw [ltG, len] at pf'
      have er : m 85 10 = r := pf'.unique pf
      rw [er]
      refine ⟨by unfold inR; omega, rfl, ?_, ?_⟩
      · refine hI.1.retape (c' := a_up m 85 9 0) (m' := a_up m 85 9 0) ?_ (fun k k1 k2 k3 k4 => ?_) (fun k k1 k2 k3 => ?_) (fun i i1 i2 i3 i4 i5 => ?_)
        · unfold sTape
          rw [a_up_ne (show (1 : Nat) ≠ 85 by omega), mf.1 1 (by omega) (by omega), G2, a_up_eq]
          exact ⟨by omega, rfl, fun i a b => by omega⟩
        · rw [a_up_ne (by omega), mf.1 k (by omega) (by omega)]; exact G1 k k1 (by omega)
        · rw [a_up_ne (by omega), mf.1 k (by omega) (by omega)]; exact G1 k (by omega) (by omega)
        · rw [a_up_off i1, mf.2 i i2 i3 i4 i5, e85 85 (by omega)]
      · rw [a_up_off (by omega), mf.2 40 (by omega) (by omega) (by omega) (by omega), e85 85 (by omega), a_up_ne (by omega), mf.1 0 (by omega) (by omega), G1 0 (by omega) (by omega)]
        have := hI.2
        omega
    · rw [ltG, len] at pg'
      exact (pg'.not pf).elim
  · -- a shop
    have S0 := pg.shop T
    rw [← h1, ← h0] at S0
    refine r_finish S0 (fun g2 f2 rec sl cn => ⟨fun _ => ?_, fun w => absurd rfl w⟩)
    have i24 := pg.2.1
    refine p_X5_copyOf (x := 3) (y := 11) (Or.inl rfl) (Or.inr (Or.inl rfl)) ?_
    generalize hB : a_up g2 1 1 0 = B
    have B1 : ∀ c, c ≠ 1 → B c = g2 c := fun c c1 => by rw [← hB, a_up_ne c1]
    have B2 : B 1 1 = 0 := by rw [← hB, a_up_eq]
    generalize hC : a_cp (a_cp (a_cp (a_cp (a_cp (a_cp (a_cp (a_up (a_up B 3 0 (B 11 0)) 3 1 ((a_up B 3 0 (B 11 0)) 11 1)) (11 + 1) 0 (3 + 1) 0 24) (11 + 2) 0 (3 + 2) 0 24) (11 + 3) 0 (3 + 3) 0 24) (11 + 4) 0 (3 + 4) 0 24) (11 + 5) 0 (3 + 5) 0 24) (11 + 6) 0 (3 + 6) 0 24) (11 + 7) 0 (3 + 7) 0 6 = C
    have Co : ∀ c, (c < 3 ∨ 10 < c) → C c = B c := fun c hc => by rw [← hC, a_cp_ne (by omega), a_cp_ne (by omega), a_cp_ne (by omega), a_cp_ne (by omega), a_cp_ne (by omega), a_cp_ne (by omega), a_cp_ne (by omega), a_up_ne (by omega), a_up_ne (by omega)]
    have C3 : C 3 0 = g 11 0 ∧ C 3 1 = g 11 1 := by
      rw [← hC]
      constructor
      · rw [a_cp_ne (by omega), a_cp_ne (by omega), a_cp_ne (by omega), a_cp_ne (by omega), a_cp_ne (by omega), a_cp_ne (by omega), a_cp_ne (by omega), a_up_off (by omega), a_up_eq, B1 11 (by omega), f2 11 (by omega)]
      · rw [a_cp_ne (by omega), a_cp_ne (by omega), a_cp_ne (by omega), a_cp_ne (by omega), a_cp_ne (by omega), a_cp_ne (by omega), a_cp_ne (by omega), a_up_eq, a_up_ne (by omega), B1 11 (by omega), f2 11 (by omega)]
    have Ck : ∀ x, 0 ≤ x → x < 24 → C 4 x = g 12 x ∧ C 5 x = g 13 x ∧ C 6 x = g 14 x ∧ C 7 x = g 15 x ∧ C 8 x = g2 16 x ∧ C 9 x = g2 17 x := fun x x0 x1 => by
      have e : 0 + (x - 0) = x := by omega
      rw [← hC]
      refine ⟨?_, ?_, ?_, ?_, ?_, ?_⟩
      · rw [a_cp_ne (by omega), a_cp_ne (by omega), a_cp_ne (by omega), a_cp_ne (by omega), a_cp_ne (by omega), a_cp_ne (by omega), show (4 : Nat) = 3 + 1 from rfl, a_cp_at, if_pos (by omega), e, a_up_ne (by omega), a_up_ne (by omega), B1 (11 + 1) (by omega), f2 (11 + 1) (by omega)]
      · rw [a_cp_ne (by omega), a_cp_ne (by omega), a_cp_ne (by omega), a_cp_ne (by omega), a_cp_ne (by omega), show (5 : Nat) = 3 + 2 from rfl, a_cp_at, if_pos (by omega), e, a_cp_ne (by omega), a_up_ne (by omega), a_up_ne (by omega), B1 (11 + 2) (by omega), f2 (11 + 2) (by omega)]
      · rw [a_cp_ne (by omega), a_cp_ne (by omega), a_cp_ne (by omega), a_cp_ne (by omega), show (6 : Nat) = 3 + 3 from rfl, a_cp_at, if_pos (by omega), e, a_cp_ne (by omega), a_cp_ne (by omega), a_up_ne (by omega), a_up_ne (by omega), B1 (11 + 3) (by omega), f2 (11 + 3) (by omega)]
      · rw [a_cp_ne (by omega), a_cp_ne (by omega), a_cp_ne (by omega), show (7 : Nat) = 3 + 4 from rfl, a_cp_at, if_pos (by omega), e, a_cp_ne (by omega), a_cp_ne (by omega), a_cp_ne (by omega), a_up_ne (by omega), a_up_ne (by omega), B1 (11 + 4) (by omega), f2 (11 + 4) (by omega)]
      · rw [a_cp_ne (by omega), a_cp_ne (by omega), show (8 : Nat) = 3 + 5 from rfl, a_cp_at, if_pos (by omega), e, a_cp_ne (by omega), a_cp_ne (by omega), a_cp_ne (by omega), a_cp_ne (by omega), a_up_ne (by omega), a_up_ne (by omega), B1 (11 + 5) (by omega)]
      · rw [a_cp_ne (by omega), show (9 : Nat) = 3 + 6 from rfl, a_cp_at, if_pos (by omega), e, a_cp_ne (by omega), a_cp_ne (by omega), a_cp_ne (by omega), a_cp_ne (by omega), a_cp_ne (by omega), a_up_ne (by omega), a_up_ne (by omega), B1 (11 + 6) (by omega)]
    have C10 : ∀ x, 0 ≤ x → x < 6 → C 10 x = g2 18 x := fun x x0 x1 => by
      have e : 0 + (x - 0) = x := by omega
      rw [← hC, show (10 : Nat) = 3 + 7 from rfl, a_cp_at, if_pos (by omega), e, a_cp_ne (by omega), a_cp_ne (by omega), a_cp_ne (by omega), a_cp_ne (by omega), a_cp_ne (by omega), a_cp_ne (by omega), a_up_ne (by omega), a_up_ne (by omega), B1 (11 + 7) (by omega)]
    have CS : cShop C := by
      refine ⟨?_, ?_⟩
      · rw [C3.1, C3.2]
        exact S0.range (fun t a b => ⟨(Ck t a b).1, (Ck t a b).2.1, (Ck t a b).2.2.1, (Ck t a b).2.2.2.1⟩)
      · rw [C3.2]
        exact ⟨by rw [C10 0 (by omega) (by omega)]; exact sl.1, by rw [C10 5 (by omega) (by omega)]; exact sl.2.1, fun M x y => by rw [C10 M (by omega) (by omega), C10 (M + 1) (by omega) (by omega)]; exact sl.2.2 M x y⟩
    have CB : cBA C := by
      intro t t0 t1
      rw [C3.2] at t1
      have q := rec t t0 t1
      have c := Ck t t0 (by omega)
      have ej : jN (C 3 1) (C 4) t = jN (g 11 1) (g 12) t := by
        unfold jN
        rw [C3.2]
        by_cases z : g 11 1 ≤ t + 1
        · rw [if_pos z, if_pos z]
        · rw [if_neg z, if_neg z, c.1, (Ck (t + 1) (by omega) (by omega)).1]
      rw [ej, c.2.1, c.2.2.2.2.1, c.2.2.2.2.2]
      refine ⟨q.1.trans ?_, q.2.trans ?_⟩
      · by_cases z : g 13 t ≤ 0
        · rw [if_pos z, if_pos z]
        · have w := S0.pl t t0 t1 (by omega)
          have c' := Ck (t - 1) (by omega) (by omega)
          rw [if_neg z, if_neg z, c'.2.2.2.2.1, c'.2.2.2.1]
      · by_cases z : jN (g 11 1) (g 12) t < 0
        · rw [if_pos z, if_pos z]
        · have w : t + 1 < g 11 1 := by
            rcases jN_cases (n := g 11 1) (job := g 12) t with ⟨-, w⟩ | ⟨w, -⟩
            · omega
            · exact w
          have c' := Ck (t + 1) (by omega) (by omega)
          rw [if_neg z, if_neg z, c'.2.2.2.2.2, c'.2.2.2.1]
    have CC : cCnt C := by
      intro M x y
      unfold cSz
      rw [C10 M (by omega) (by omega), C10 (M + 1) (by omega) (by omega), cn M x y, C3.2]
      exact cntB_congr _ (fun u hu => by rw [(Ck u (by omega) (by omega)).2.2.1])
    refine r_byNum (r := 19) (Or.inl rfl) CS CC (fun D fD oD => ?_)
    have D' : ∀ k, 3 ≤ k → k ≤ 10 → D k = C k := fun k k1 k2 => fD k (by omega)
    have DS : cShop D := CS.congr D'
    have eSz : cSz D = cSz C := by unfold cSz; rw [D' 10 (by omega) (by omega)]
    have zC : ∀ M, 0 ≤ M → M < 5 → cSz C M = cnM (C 6) M (C 3 1) := fun M x y => CC M x y
    have oOK : okOrd (D 3 1) (D 6) (cSz D) (cO D 19) := by
      rw [D' 3 (by omega) (by omega), D' 6 (by omega) (by omega), eSz]
      exact oD.ok CS.1.1.1 CS.mach zC
    have hn0 : 0 < D 3 1 := by rw [D' 3 (by omega) (by omega), C3.2, h1]; omega
    refine r_startAnew DS hn0 oOK (fun E x S => ?_)
    have Dh : ∀ c, c ≠ 1 → (c < 3 ∨ 18 < c) → c ≠ 19 → D c = h c := fun c c1 c2 c3 => by rw [fD c c3, Co c (by omega), B1 c c1, f2 c (by omega), f c (by omega)]
    have e85 : ∀ k, 85 ≤ k → E k = h k := fun k hk => (x.1 k (by omega) (by omega) (by omega) (by omega) (by omega) (by omega) (by omega)).trans (Dh k (by omega) (by omega) (by omega))
    have tE' : sTape h E := hT.congr rfl rfl (by rw [e85 85 (by omega)]) (e85 92 (by omega))
    have ltE := lt_same tE'
    have len : E 85 9 = h 1 1 := tE'.2.1
    have E31 : E 3 1 = (i : Int) + 1 := by rw [x.1 3 (by omega) (by omega) (by omega) (by omega) (by omega) (by omega) (by omega), D' 3 (by omega) (by omega), C3.2, h1]
    refine e_X10_shop (r_readsAll tE'.mTp (fun i' m mf pf' e11 e10 => ?_) (fun i' m mf pg' e11 e12 e13 T' => ⟨fun w => by omega, fun _ => ?_⟩))
    · rw [ltE, len] at pf'
      exact (pg.not pf').elim
    rw [ltE, len] at pg'
    have ei : i' = i := pg'.unique pg
    subst ei
    rw [ltE] at e12 T'
    generalize hL : a_up (a_up (a_up m 85 9 0) 85 0 (m 85 12)) 85 1 (m 85 13) = L
    have Lo : ∀ c, c ≠ 85 → L c = m c := fun c c1 => by rw [← hL, a_up_ne c1, a_up_ne c1, a_up_ne c1]
    have L85 : ∀ j, j ≠ 9 → j ≠ 0 → j ≠ 1 → L 85 j = m 85 j := fun j j1 j2 j3 => by rw [← hL, a_up_off j3, a_up_off j2, a_up_off j1]
    have L9 : L 85 9 = 0 := by rw [← hL, a_up_off (by omega), a_up_off (by omega), a_up_eq]
    have L0 : L 85 0 = g 11 0 := by rw [← hL, a_up_off (by omega), a_up_eq, e12, h0]
    have L1 : L 85 1 = (i' : Int) + 1 := by rw [← hL, a_up_eq, e13]
    have lm : ∀ t, 0 ≤ t → t < (i' : Int) + 1 → L 94 t = g 14 t := by
      intro t a b
      have q := T' t.toNat (by omega)
      have q2 := T t.toNat (by omega)
      rw [show ((t.toNat : Nat) : Int) = t by omega] at q q2
      rw [Lo 94 (by omega), q.2.1, q2.2.2.1]
    refine r_mLoad (lt := ltF (h 1 1) (h 2)) (i := i') i24 L1 (by rw [Lo 93 (by omega), Lo 94 (by omega), Lo 95 (by omega)]; exact T') (fun t a b => by rw [lm t a b]; exact (S0.2.2.1 t a (by omega)).2.2.1) (fun m2 mo pt om zm => ?_)
    refine r_begins (fun m3 y => ⟨?_, ?_, ?_⟩)
    · rw [y.2.1 1 (by omega) (by omega) (by omega) (by omega), mo 85 (by omega), L1, E31]
    · have hS : sS D m2 := by
        have S1 := pg.shop pt
        have zD : ∀ M, 0 ≤ M → M < 5 → m2 91 M = cSz D M := by
          intro M a b
          rw [zm M a b, eSz, zC M a b, C3.2, h1]
          exact cnM_congr (n := (i' : Int) + 1) (fun t t0 t1 => by rw [lm t t0 t1, (Ck t t0 (by omega)).2.2.1]) (by omega) (Int.le_refl _)
        refine ⟨⟨DS, ⟨?_, fun M a b => ?_⟩, ?_, ?_, fun t a b => ?_, zD⟩, ⟨oOK, ?_⟩, ?_, ?_⟩
        · rw [mo 85 (by omega), L1, L0, h0]
          exact S1
        · rw [zm M a b]
          have := cnM_rng (mach := L 94) (M := M) (t := (i' : Int) + 1) (by omega)
          omega
        · rw [mo 85 (by omega), L0, D' 3 (by omega) (by omega), C3.1]
        · rw [mo 85 (by omega), L1, D' 3 (by omega) (by omega), C3.2, h1]
        · rw [D' 3 (by omega) (by omega), C3.2, h1] at b
          have p1 := pt t.toNat (by omega)
          have p2 := T t.toNat (by omega)
          rw [show ((t.toNat : Nat) : Int) = t by omega] at p1 p2
          have c := Ck t a (by omega)
          rw [D' 4 (by omega) (by omega), D' 5 (by omega) (by omega), D' 6 (by omega) (by omega), D' 7 (by omega) (by omega), c.1, c.2.1, c.2.2.1, c.2.2.2.1, p1.1, p1.2.1, p1.2.2.1, p1.2.2.2, p2.1, p2.2.1, p2.2.2.1, p2.2.2.2]
          exact ⟨rfl, rfl, rfl, rfl⟩
        · have om' : ordN (C 3 1) (C 6) (mO m2) := by
            rw [C3.2, h1]
            exact om.congr (fun t a b => by rw [lm t a b, (Ck t a (by omega)).2.2.1])
          rw [eSz]
          exact oD.same om' CS.1.1.1 zC
        · unfold cBA at CB ⊢
          rw [D' 3 (by omega) (by omega), D' 4 (by omega) (by omega), D' 5 (by omega) (by omega), D' 7 (by omega) (by omega), D' 8 (by omega) (by omega), D' 9 (by omega) (by omega)]
          exact CB
        · unfold cCnt at CC ⊢
          rw [eSz, D' 3 (by omega) (by omega), D' 6 (by omega) (by omega)]
          exact CC
      have m2h : ∀ c, 91 < c → (c < 93 ∨ 95 < c) → m2 c = h c := fun c c1 c2 => by rw [mo c (by omega), Lo c (by omega), mf.1 c (by omega) c2, e85 c (by omega)]
      have m2e : ∀ j, j ≠ 9 → j ≠ 0 → j ≠ 1 → j ≠ 10 → j ≠ 11 → j ≠ 12 → j ≠ 13 → m2 85 j = h 85 j := fun j j1 j2 j3 j4 j5 j6 j7 => by rw [mo 85 (by omega), L85 j j1 j2 j3, mf.2 j j4 j5 j6 j7, e85 85 (by omega)]
      obtain ⟨Lt, t1, t2, t3, t4, t5, t6⟩ := hI.1.2.2.2.1
      have hT2 : sTape D m2 := by
        refine ⟨?_, ?_, fun j a b => ?_⟩
        · rw [fD 1 (by omega), Co 1 (by omega), B2]; omega
        · rw [mo 85 (by omega), L9, fD 1 (by omega), Co 1 (by omega), B2]
        · rw [fD 1 (by omega), Co 1 (by omega), B2] at b; omega
      have hIm : sImg D m2 := hI.1.2.2.2.2.2.2.2.1.congr (fun k k1 k2 => Dh k (by omega) (by omega) (by omega)) (m2e 51 (by omega) (by omega) (by omega) (by omega) (by omega) (by omega) (by omega)) (m2h 115 (by omega) (by omega))
      have R := Sim.anew hn0 hT2 hS hIm (by rw [Dh 42 (by omega) (by omega) (by omega), m2e 34 (by omega) (by omega) (by omega) (by omega) (by omega) (by omega) (by omega)]; exact ⟨t5, t6, t4⟩) x S y
      refine R.frame (fun k _ _ _ _ k5 => ?_) mK.refl
      rw [y.1 k (by omega) (by omega), mo k (by omega), Lo k (by omega), mf.1 k (by omega) (by omega)]
    · rw [y.2.1 40 (by omega) (by omega) (by omega) (by omega), mo 85 (by omega), L85 40 (by omega) (by omega) (by omega), mf.2 40 (by omega) (by omega) (by omega) (by omega), e85 85 (by omega), y.1 0 (by omega) (by omega), mo 0 (by omega), Lo 0 (by omega), mf.1 0 (by omega) (by omega), x.2.2.1 16 (by omega), Dh 0 (by omega) (by omega) (by omega)]
      have := hI.2
      omega
