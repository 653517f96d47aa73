/-! way and block: both answer alike -/
theorem times_same {c g : aH} (hs : sShop c g) (ho : sOrd c g) (hn : 0 < c 3 1) (hN : lnkN (cSz c) (cO c 19) (c 22) (c 23)) (hT : timesOK c) (hM : lnkN (g 91) (mO g) (g 97) (g 98)) (ht : rkT g) :
    g 85 26 = c 20 9 ∧ ∀ t, 0 ≤ t → t < c 3 1 → g 99 t = c 24 t ∧ g 100 t = c 25 t := by
  have hlk := hs.lnk ho hN hM
  have hja := hs.ja
  have hgr := ht.1
  rw [hs.2.2.2.1] at hgr hja
  exact hT.1.same hn hgr (fun t a b => ⟨(hja t a b).1, (hja t a b).2, (hlk t a b).1.symm, (hlk t a b).2.symm, (hs.2.2.2.2.1 t a b).2.2.2⟩)
theorem ways_same {c g g2 : aH} (hs : sShop c g) (ho : sOrd c g) (hn : 0 < c 3 1) (hN : lnkN (cSz c) (cO c 19) (c 22) (c 23)) (hT : timesOK c) (hP : pathOK c) (hM : lnkN (g 91) (mO g) (g 97) (g 98)) (ht : rkT g)
    (hw : okWay (g 85 1) (jN (g 85 1) (g 86)) (g 98) (g 89) (g 99) (mcr g) (g 85 26) (g2 103) (g2 85 28)) : g2 85 28 = c 38 1 ∧ ∀ i, 0 ≤ i → i < c 38 1 → g2 103 i = c 39 i := by
  have hlk := hs.lnk ho hN hM
  have hja := hs.ja
  have hsame := times_same hs ho hn hN hT hM ht
  have h5 := hs.2.2.2.2.1
  rw [hs.2.2.2.1] at hw hja
  have hway := okWay.unique (fun t a b => (hT.1.2.2.2.2.2.2 t a b).1) hT.1.2.2.2.2.2.1 (fun t a b => ⟨(hja t a b).2, (hlk t a b).2.symm, (h5 t a b).2.2.2, (hsame.2 t a b).1, ?_⟩) hsame.1 hP.1 hw
  · exact ⟨hway.1.symm, fun i a b => (hway.2 i a b).symm⟩
  · rw [hT.ci t a b]
    unfold mcr crit
    rw [(h5 t a b).2.2.2, (hsame.2 t a b).1, (hsame.2 t a b).2, hsame.1]
theorem blocks_same {c g g2 : aH} (hs : sShop c g) (hP : pathOK c) (hw : g2 85 28 = c 38 1 ∧ ∀ i, 0 ≤ i → i < c 38 1 → g2 103 i = c 39 i) (hb : okBlocks (g 88) (g2 103) (g2 85 28) (g2 104) (g2 85 30)) : g2 85 30 = c 38 3 ∧ ∀ b, 0 ≤ b → b ≤ c 38 3 → g2 104 b = c 40 b := by
  rw [hw.1] at hb
  have hbl := okBlocks.unique (mach := c 6) (w := c 39) (mach' := g 88) (w' := g2 103) (fun i a b => ?_) hP.2.1 hb
  · exact ⟨hbl.1.symm, fun b x y => (hbl.2 b x y).symm⟩
  · rw [hw.2 i a b]
    have r := (hP.1.2.2.2.2 i a b).1
    exact (hs.2.2.2.2.1 _ r.1 r.2).2.2.1
theorem refused_ok {h : aH} (h0 : 0 ≤ h 3 1) (hr : f_X9_refusedByState h = 0) : 0 < h 3 1 ∧ h 20 10 = 0 := by
  unfold f_X9_refusedByState f_X9_noShop at hr
  by_cases z : h 3 1 = 0
  · rw [if_pos z, if_neg (by omega)] at hr
    omega
  · rw [if_neg z, if_pos rfl] at hr
    by_cases y : h 20 10 = 0
    · exact ⟨by omega, y⟩
    · rw [if_neg y] at hr
      omega
theorem fmF.refl {h : aH} : fmF h h := ⟨fun _ _ _ => rfl, fun _ _ _ _ _ => rfl⟩
theorem fmF.rk {h g : aH} (hF : rkF h g) : fmF h g := ⟨fun c x y => hF.1 c x (by omega), fun i x _ _ _ => hF.2 i x⟩
theorem r_wayS {h : aH} {Q : Int → Int → aH → Prop} {a : Int} (hs : sShop h h) (ho : sOrd h h) (hS : sSet h)
    (k : ∀ r g, fmF h g → Q r r g) : aRun mX9_way 2 [aR 0, aI a] h (fun r h1 => aRun mX10_way 5 [aR 85, aI a] h1 (fun r' h2 => Q r r' h2)) := by
  have h0 := hs.1.1.1
  have h1 := hs.2.2.2.1
  refine p_X9_way (fun z hr y x => ?_) ?_
  · have q := refused_ok h0.1 hr
    have w := ((hS q.1).paths q.2).2.1.1
    omega
  · refine e_X10_way ⟨fun z => ?_, fun z => ?_⟩
    · refine r_wrongS hs ho hS (fun n e => ⟨fun w => by omega, fun _ => ?_⟩) (fun g n hF _ _ _ e => ⟨fun w => by omega, fun _ => ?_⟩) (fun g n hF hs' ho' hN hr hT e => ⟨fun _ => ?_, fun w => by omega⟩)
      · have e2 : f_X9_way h a = -5 := by
          unfold f_X9_way
          rw [if_pos z, e, if_neg (by omega)]
        rw [e2]
        exact k _ h fmF.refl
      · have e2 : f_X9_way h a = -4 := by
          unfold f_X9_way
          rw [if_pos z, e, if_neg (by omega)]
        rw [e2]
        exact k _ g (fmF.rk hF)
      · have hp := (hS n).paths hr
        have h1' := hs'.2.2.2.1
        have w := hp.2.1.1
        refine r_walks (by omega) hT (fun g2 f1 f2 hw => ?_)
        have hws := ways_same hs' ho' n (hS n).2.1 hp.1 hp.2 hN hT hw
        have e2 : f_X9_way h a = f_X10_toldAt g2 103 24 (g2 85 28) a := by
          unfold f_X9_way f_X10_toldAt
          rw [if_pos z, e, if_pos rfl, hws.1]
          by_cases y : a = -1
          · rw [if_pos y, if_neg (by omega)]
          · rw [if_neg y, if_pos (show 0 ≤ a by omega)]
            by_cases x : h 38 1 ≤ a
            · rw [if_pos x, if_pos x]
            · rw [if_neg x, if_neg x, hws.2 a (by omega) (by omega)]
        rw [e2]
        refine ⟨fun x y => ⟨x, by omega⟩, k _ g2 ⟨fun c x y => (f1 c x (by omega)).trans (hF.1 c x (by omega)), fun i x1 x2 x3 x4 => (f2 i x2).trans (hF.2 i x1)⟩⟩
    · have e2 : f_X9_way h a = -1 := by
        unfold f_X9_way
        rw [if_neg z]
      rw [e2]
      exact k _ h fmF.refl
theorem r_blockS {h : aH} {Q : Int → Int → aH → Prop} {a : Int} (hs : sShop h h) (ho : sOrd h h) (hS : sSet h)
    (k : ∀ r g, fmF h g → Q r r g) : aRun mX9_block 2 [aR 0, aI a] h (fun r h1 => aRun mX10_block 5 [aR 85, aI a] h1 (fun r' h2 => Q r r' h2)) := by
  have h0 := hs.1.1.1
  have h1 := hs.2.2.2.1
  refine p_X9_block (fun z hr y x => ?_) ?_
  · have q := refused_ok h0.1 hr
    have P := ((hS q.1).paths q.2).2
    have w := P.1.1
    have b := P.2.1.1
    have b1 := P.2.1.at (b := a) (by omega) (by omega)
    have b2 := P.2.1.at (b := a + 1) (by omega) (by omega)
    unfold inR
    omega
  · refine e_X10_block ⟨fun z => ?_, fun z => ?_⟩
    · refine r_wrongS hs ho hS (fun n e => ⟨fun w => by omega, fun _ => ?_⟩) (fun g n hF _ _ _ e => ⟨fun w => by omega, fun _ => ?_⟩) (fun g n hF hs' ho' hN hr hT e => ⟨fun _ => ?_, fun w => by omega⟩)
      · have e2 : f_X9_block h a = -5 := by
          unfold f_X9_block
          rw [if_pos z, e, if_neg (by omega)]
        rw [e2]
        exact k _ h fmF.refl
      · have e2 : f_X9_block h a = -4 := by
          unfold f_X9_block
          rw [if_pos z, e, if_neg (by omega)]
        rw [e2]
        exact k _ g (fmF.rk hF)
      · have hp := (hS n).paths hr
        have h1' := hs'.2.2.2.1
        have w := hp.2.1.1
        have b := hp.2.2.1.1
        refine r_parts (by omega) hT (fun g2 f1 f2 hw hb => ?_)
        have hws := ways_same hs' ho' n (hS n).2.1 hp.1 hp.2 hN hT hw
        have hbs := blocks_same hs' hp.2 hws hb
        rw [hbs.1]
        refine ⟨fun x y => ?_, ?_⟩
        · have b1 := hp.2.2.1.at (b := a) (by omega) (by omega)
          have b2 := hp.2.2.1.at (b := a + 1) (by omega) (by omega)
          rw [hbs.2 a (by omega) (by omega), hbs.2 (a + 1) (by omega) (by omega)]
          unfold inR
          omega
        · have e2 : f_X9_block h a = (if 0 ≤ a then (if h 38 3 ≤ a then ((-2) : Int) else (g2 104 (a + 1) - g2 104 a)) else h 38 3) := by
            unfold f_X9_block
            rw [if_pos z, e, if_pos rfl]
            by_cases y : a = -1
            · rw [if_pos y, if_neg (by omega)]
            · rw [if_neg y, if_pos (show 0 ≤ a by omega)]
              by_cases x : h 38 3 ≤ a
              · rw [if_pos x, if_pos x]
              · rw [if_neg x, if_neg x, hbs.2 a (by omega) (by omega), hbs.2 (a + 1) (by omega) (by omega)]
          rw [e2]
          exact k _ g2 ⟨fun c x y => (f1 c x (by omega) (by omega)).trans (hF.1 c x (by omega)), fun i x1 x2 x3 x4 => (f2 i x2 x3).trans (hF.2 i x1)⟩
    · have e2 : f_X9_block h a = -1 := by
        unfold f_X9_block
        rw [if_neg z]
      rw [e2]
      exact k _ h fmF.refl
