/-! spanBehind, on both sides -/
theorem lnkN.of {sz : Int → Int} {o o' : Int → Int → Int} {pa pn : Int → Int} (hs : sameO sz o o') (h : lnkN sz o pa pn) : lnkN sz o' pa pn := by
  intro m k a b c d
  have e := h m k a b c d
  rw [hs m k a b c d] at e
  refine ⟨e.1.trans ?_, e.2.trans ?_⟩
  · by_cases z : k ≤ 0
    · rw [if_pos z, if_pos z]
    · rw [if_neg z, if_neg z, hs m (k - 1) a b (by omega) (by omega)]
  · by_cases z : sz m ≤ k + 1
    · rw [if_pos z, if_pos z]
    · rw [if_neg z, if_neg z, hs m (k + 1) a b (by omega) (by omega)]
/-- a change of places that makes no ring -/
def noR (n : Int) (ja sz : Int → Int) (o : Int → Int → Int) : Prop := ∀ pa pn, lnkN sz o pa pn → acyc n ja pa
theorem noR.same {n : Int} {ja ja' sz : Int → Int} {o o' : Int → Int → Int} (h : noR n ja sz o) (hs : sameO sz o o') (hj : ∀ t, 0 ≤ t → t < n → ja' t = ja t) : noR n ja' sz o' := by
  intro pa pn hl
  obtain ⟨pos, hp⟩ := h pa pn (hl.of hs.symm)
  refine ⟨pos, fun t a b => ?_⟩
  rw [hj t a b]
  exact hp t a b
theorem mv_noR {n nj : Int} {job place mach sz l : Int → Int} {o : Int → Int → Int} {pa pn S T w : Int → Int} {cr : Int → Prop} {span wl p : Int} (hs : okShop n nj job place mach l) (ho : okOrd n mach sz o) (hl : lnkN sz o pa pn) (hg : okS n (jA place) pa l S) (hw : okWay n (jN n job) pn l S cr span w wl) (hp : mvOK mach job w wl p) : ∃ k, (0 ≤ k ∧ k + 1 < sz (mach (w p))) ∧ o (mach (w p)) k = w p ∧ o (mach (w p)) (k + 1) = w (p + 1) ∧ (0 ≤ mach (w p) ∧ mach (w p) < 5) ∧ noR n (jA place) sz (swO o (mach (w p)) k) := by
  have hm : ∀ t, 0 ≤ t → t < n → 0 ≤ mach t ∧ mach t < 5 := fun t h0 ht => (hs.2.2.1 t h0 ht).2.2.1
  obtain ⟨k, hk, ha, hb, hc⟩ := mv_adj ho hm hl hw hp
  obtain ⟨⟨p0, p1⟩, hmm, hj⟩ := hp
  have r1 := (hw.2.2.2.2 p p0 (by omega)).1
  have r2 := (hw.2.2.2.2 (p + 1) (by omega) p1).1
  have hM := hm _ r1.1 r1.2
  have hd := hs.dual
  have unl : ∀ x y, 0 ≤ x → x < n → 0 ≤ y → job y ≠ job x → jA place x ≠ y := by
    intro x y x0 x1 y0 hxy e
    rcases jA_cases (place := place) x with ⟨-, z⟩ | ⟨z1, z⟩
    · omega
    · have q := (hs.2.2.2.1 x x0 x1).2 z1
      rw [z] at e
      rw [← e] at hxy
      exact hxy q.2.1.symm
  refine ⟨k, hk, ha, hb, hM, fun pa' pn' hl' => ?_⟩
  refine no_ring hs.1 ho hm hM hk hl hl' (fun t a b => ?_) (fun t a b => (hs.2.2.1 t a b).2.2.2.1) hg ?_ ?_ ?_
  · have := (hd t a b).1
    omega
  · rw [ha, hb]; exact hc
  · rw [ha, hb]
    exact unl _ _ r2.1 r2.2 r1.1 hj
  · rw [ha, hb]
    exact unl _ _ r1.1 r1.2 r2.1 (fun e => hj e.symm)
theorem r_cBehind {h : aH} {Q : aQ} {i M kk : Int} (hs : cShop h) (ho : okOrd (h 3 1) (h 6) (cSz h) (cO h 19)) (hR : lnkR (cSz h) (cO h 19) (h 21)) (hi : 0 ≤ i ∧ i < 24) (hi2 : 0 ≤ h 41 i ∧ h 41 i < 24) (hM : 0 ≤ M ∧ M < 5) (hk : 0 ≤ kk ∧ kk + 1 < cSz h M) (ha : cO h 19 M kk = f_X6_first h i) (hno : noR (h 3 1) (jA (h 5)) (cSz h) (swO (cO h 19) M kk))
    (k : ∀ g v, (∀ c, (c < 29 ∨ 37 < c) → g c = h c) → (0 ≤ v ∧ v ≤ 2376) → spanIs (h 3 1) (jA (h 5)) (h 7) (cSz h) (swO (cO h 19) M kk) v → Q v g) : aRun mX9_spanBehind 3 [aR 0, aI i] h Q := by
  have hn := hs.1.1
  have ht := ho.1 M kk hM.1 hM.2 hk.1 (by omega)
  have hrk := hR M kk hM.1 hM.2 hk.1 (by omega)
  rw [ha] at ht hrk
  have hsl := hs.2.at hM.1 hM.2
  have hk2 : kk + 1 < h 10 (M + 1) - h 10 M := hk.2
  have hslot : f_X9_slotOf h (f_X6_first h i) = h 10 M + kk := by
    unfold f_X9_slotOf
    rw [ht.2, hrk]
  have hcs := cO_swap (row := h 19) hs.2 hM ⟨hk.1, hk2⟩
  refine e_X9_spanBehind ⟨⟨hi, hi2⟩, ⟨⟨ht.1.1, by omega⟩, by rw [ht.2]; omega, ?_⟩, ?_⟩
  · rw [ht.2, hrk]
    unfold inR
    omega
  rw [hslot]
  refine r_changePlaces (by omega) (by omega) ?_
  have hs2 : cShop (setC h 19 (sw2 (h 19) (h 10 M + kk))) := hs
  have ho2 : okOrd (h 3 1) (h 6) (cSz h) (fun m i => sw2 (h 19) (h 10 M + kk) (h 10 m + i)) := (ho.swap hM hk).same hs.mach hcs.symm
  refine r_lay (x := 29) (Or.inr rfl) (r := 19) (Or.inl rfl) hs2 ho2 (fun g hg => ?_)
  refine r_changePlaces (by omega) (by omega) ?_
  obtain ⟨hf, hR2, hN2, hres⟩ := hg
  have g19 : g 19 = sw2 (h 19) (h 10 M + kk) := (hf 19 (by omega)).trans setC_eq
  have hN3 : lnkN (cSz h) (swO (cO h 19) M kk) (g 31) (g 32) := lnkN.of hcs hN2
  have hfr : ∀ c, (c < 29 ∨ 37 < c) → setC g 19 (sw2 (g 19) (h 10 M + kk)) c = h c := by
    intro c hc
    by_cases z : c = 19
    · rw [z, setC_eq, g19, sw2_sw2]
    · rw [setC_ne z, hf c (by omega), setC_ne z]
  have e : setC g 19 (sw2 (g 19) (h 10 M + kk)) 29 9 = g 29 9 := rfl
  rw [e]
  rcases hres with ⟨-, b⟩ | ⟨-, b1, b2, b3, -, b4⟩
  · exact absurd (hno _ _ hN3) b
  · exact k _ _ hfr b4 ⟨g 31, g 32, g 33, hN3, b1, b2, b3⟩
theorem r_mBehind {h : aH} {Q : aQ} {a b M kk : Int} (hs : mShop h) (ho : okOrd (h 85 1) (h 88) (h 91) (mO h)) (hM : 0 ≤ M ∧ M < 5) (hk : 0 ≤ kk ∧ kk + 1 < h 91 M) (ha : a = mO h M kk) (hb : b = mO h M (kk + 1)) (hno : noR (h 85 1) (jA (h 87)) (h 91) (swO (mO h) M kk))
    (k : ∀ g v, rkF h g → (0 ≤ v ∧ v ≤ 2376) → spanIs (h 85 1) (jA (h 87)) (h 89) (h 91) (swO (mO h) M kk) v → Q v g) : aRun mX10_spanBehind 4 [aR 85, aI (100 * a + b)] h Q := by
  have hn := hs.1.1
  refine e_X10_spanBehind ?_
  refine r_swapsMove hs ho hM hk (Or.inl ⟨ha, hb⟩) ?_
  have hcs := mO_swap (row := h 90) (fun m a b => (hs.2 m a b).2) hM hk
  have hs2 : mShop (setC h 90 (sw2 (h 90) (24 * M + kk))) := hs
  have ho2 : okOrd (h 85 1) (h 88) (h 91) (fun m i => sw2 (h 90) (24 * M + kk) (24 * m + i)) := (ho.swap hM hk).same hs.mach hcs.symm
  refine r_reckons hs2 ho2 (fun r g hF hN hres => ?_)
  have hN3 : lnkN (h 91) (swO (mO h) M kk) (g 97) (g 98) := lnkN.of hcs hN
  have g90 : g 90 = sw2 (h 90) (24 * M + kk) := (hF.1 90 (by omega) (by omega)).trans setC_eq
  have gc : ∀ c, c ≠ 85 → (c < 97 ∨ 102 < c) → c ≠ 90 → g c = h c := fun c x y z => (hF.1 c x y).trans (setC_ne z)
  have g85 : ∀ j, j ≠ 26 → g 85 j = h 85 j := fun j z => hF.2 j z
  have hs4 : mShop g := by
    unfold mShop
    rw [g85 0 (by omega), g85 1 (by omega), gc 86 (by omega) (by omega) (by omega), gc 87 (by omega) (by omega) (by omega), gc 88 (by omega) (by omega) (by omega), gc 89 (by omega) (by omega) (by omega), gc 91 (by omega) (by omega) (by omega)]
    exact hs
  have ho4 : okOrd (g 85 1) (g 88) (g 91) (mO g) := by
    unfold mO
    rw [g85 1 (by omega), gc 88 (by omega) (by omega) (by omega), gc 91 (by omega) (by omega) (by omega), g90]
    exact ho2
  have i1 : mO g M kk = b := by
    unfold mO
    rw [g90, sw2_a, hb]
    unfold mO
    rw [show 24 * M + kk + 1 = 24 * M + (kk + 1) by omega]
  have i2 : mO g M (kk + 1) = a := by
    unfold mO
    rw [g90, show 24 * M + (kk + 1) = 24 * M + kk + 1 by omega, sw2_b, ha]
    rfl
  refine r_swapsMove hs4 ho4 hM (by rw [gc 91 (by omega) (by omega) (by omega)]; exact hk) (Or.inr ⟨i1.symm, i2.symm⟩) ?_
  have hfr : rkF h (setC g 90 (sw2 (g 90) (24 * M + kk))) := by
    refine ⟨fun c x y => ?_, fun j z => ?_⟩
    · by_cases z : c = 90
      · rw [z, setC_eq, g90, sw2_sw2]
      · rw [setC_ne z, gc c x y z]
    · rw [setC_ne (by omega), g85 j z]
  rw [show setC g 90 (sw2 (g 90) (24 * M + kk)) 85 26 = g 85 26 from rfl]
  rcases hres with ⟨-, z⟩ | ⟨z, zt⟩
  · exact absurd (hno _ _ hN3) z
  · rw [z, if_neg (by omega)]
    refine k _ _ hfr zt.2.1 ?_
    obtain ⟨zg, -⟩ := zt
    unfold grT at zg
    rw [g85 1 (by omega), gc 86 (by omega) (by omega) (by omega), gc 87 (by omega) (by omega) (by omega), gc 89 (by omega) (by omega) (by omega)] at zg
    exact ⟨g 97, g 98, g 99, hN3, zg.2.2.1, zg.2.2.2.1, zg.2.2.2.2.2.1⟩
