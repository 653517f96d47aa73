/-! way and block: both answer alike -/
theorem times_same {c g : aH} (hs : sShop c g) (ho : sOrd c g) (hn : 0 < c 3 1) (hN : lnkN (cSz c) (cO c 19) (c 22) (c 23)) (hT : timesOK c) (hM : lnkN (g 91) (mO g) (g 97) (g 98)) (ht : rkT g) :
    g 85 26 = c 20 9 ∧ ∀ t, 0 ≤ t → t < c 3 1 → g 99 t = c 24 t ∧ g 100 t = c 25 t := by
  have hlk := hs.lnk ho hN hM
  have hja := hs.ja
  have hgr := ht.1
  rw [hs.2.2.2.1] at hgr hja
  exact hT.1.same hn hgr (fun t a b => ⟨(hja t a b).1, (hja t a b).2, (hlk t a b).1.symm, (hlk t a b).2.symm, (hs.2.2.2.2.1 t a b).2.2.2⟩)
theorem ways_same {c g g2 : aH} (hs : sShop c g) (ho : sOrd c g) (hn : 0 < c 3 1) (hN : lnkN (cSz c) (cO c 19) (c 22) (c 23)) (hT : timesOK c) (hP : pathOK c) (hM : lnkN (g 91) (mO g) (g 97) (g 98)) (ht : rkT g)
    (hw : okWay (g 85 1) (jN (g 85 1) (g 86)) (g 98) (g 89) (g 99) (mcr g) (g 85 26) (g2 103) (g2 85 28)) : g2 85 28 = c 38 1 ∧ ∀ i, 0 ≤ i → i < c 38 1 → g2 103 i = c 39 i := by
  have hlk := hs.lnk ho hN hM
  have hja := hs.ja
  have hsame := times_same hs ho hn hN hT hM ht
  have h5 := hs.2.2.2.2.1
  rw [hs.2.2.2.1] at hw hja
  have hway := okWay.unique (fun t a b => (hT.1.2.2.2.2.2.2 t a b).1) hT.1.2.2.2.2.2.1 (fun t a b => ⟨(hja t a b).2, (hlk t a b).2.symm, (h5 t a b).2.2.2, (hsame.2 t a b).1, ?_⟩) hsame.1 hP.1 hw
  · exact ⟨hway.1.symm, fun i a b => (hway.2 i a b).symm⟩
  · rw [hT.ci t a b]
    unfold mcr crit
    rw [(h5 t a b).2.2.2, (hsame.2 t a b).1, (hsame.2 t a b).2, hsame.1]
theorem blocks_same {c g g2 : aH} (hs : sShop c g) (hP : pathOK c) (hw : g2 85 28 = c 38 1 ∧ ∀ i, 0 ≤ i → i < c 38 1 → g2 103 i = c 39 i) (hb : okBlocks (g 88) (g2 103) (g2 85 28) (g2 104) (g2 85 30)) : g2 85 30 = c 38 3 ∧ ∀ b, 0 ≤ b → b ≤ c 38 3 → g2 104 b = c 40 b := by
  rw [hw.1] at hb
  have hbl := okBlocks.unique (mach := c 6) (w := c 39) (mach' := g 88) (w' := g2 103) (fun i a b => ?_) hP.2.1 hb
  · exact ⟨hbl.1.symm, fun b x y => (hbl.2 b x y).symm⟩
  · rw [hw.2 i a b]
    have r := (hP.1.2.2.2.2 i a b).1
    exact (hs.2.2.2.2.1 _ r.1 r.2).2.2.1
