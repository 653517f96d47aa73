/-! the reference reckons what the class holds -/
theorem okOrd.conv {n n' : Int} {mach mach' sz sz' : Int → Int} {o : Int → Int → Int} (h : okOrd n mach sz o) (hm : ∀ t, 0 ≤ t → t < n → 0 ≤ mach t ∧ mach t < 5) (hn : n' = n) (hmm : ∀ t, 0 ≤ t → t < n → mach' t = mach t) (hz : ∀ M, 0 ≤ M → M < 5 → sz' M = sz M) : okOrd n' mach' sz' o := by
  subst hn
  obtain ⟨h1, h2, h3⟩ := h
  refine ⟨fun m k a b c d => ?_, fun m k k' a b c d e f => ?_, fun t a b => ?_⟩
  · rw [hz m a b] at d
    have q := h1 m k a b c d
    exact ⟨q.1, by rw [hmm _ q.1.1 q.1.2]; exact q.2⟩
  · rw [hz m a b] at d f
    exact h2 m k k' a b c d e f
  · obtain ⟨k, x, y, z⟩ := h3 t a b
    have q := hm t a b
    refine ⟨k, x, ?_, ?_⟩
    · rw [hmm t a b, hz _ q.1 q.2]; exact y
    · rw [hmm t a b]; exact z
theorem sShop.mOrd {c m : aH} (hs : sShop c m) (ho : sOrd c m) : okOrd (m 85 1) (m 88) (m 91) (mO m) :=
  (ho.1.same hs.1.mach ho.2).conv hs.1.mach hs.2.2.2.1 (fun t a b => (hs.2.2.2.2.1 t a b).2.2.1) hs.2.2.2.2.2
theorem sShop.rk {c m g : aH} (hs : sShop c m) (hF : rkF m g) : sShop c g := by
  unfold sShop mShop at hs ⊢
  rw [hF.2 0 (by omega), hF.2 1 (by omega), hF.1 86 (by omega) (by omega), hF.1 87 (by omega) (by omega), hF.1 88 (by omega) (by omega), hF.1 89 (by omega) (by omega), hF.1 91 (by omega) (by omega)]
  exact hs
theorem sOrd.rk {c m g : aH} (hs : sOrd c m) (hF : rkF m g) : sOrd c g := by
  unfold sOrd mO at hs ⊢
  rw [hF.1 90 (by omega) (by omega)]
  exact hs
theorem acyc_congr {n : Int} {ja ja' pa pa' : Int → Int} (h : ∀ t, 0 ≤ t → t < n → ja' t = ja t ∧ pa' t = pa t) (a : acyc n ja pa) : acyc n ja' pa' := by
  obtain ⟨pos, hp⟩ := a
  refine ⟨pos, fun t x y => ?_⟩
  rw [(h t x y).1, (h t x y).2]
  exact hp t x y
theorem r_reckS {c h : aH} {Q : aQ} (hs : sShop c h) (ho : sOrd c h) (hS : Settled c)
    (k : ∀ r g, rkF h g → sShop c g → sOrd c g → lnkN (g 91) (mO g) (g 97) (g 98) → ((r = 0 ∧ c 20 10 = 1) ∨ (r = 1 ∧ c 20 10 = 0 ∧ rkT g)) → Q r g) : aRun mX10_reckons 3 [aR 85] h Q := by
  refine r_reckons hs.2.1 (hs.mOrd ho) (fun r g hF hN hres => ?_)
  have hs' := hs.rk hF
  have ho' := ho.rk hF
  have hN' : lnkN (g 91) (mO g) (g 97) (g 98) := by
    unfold mO
    rw [hF.1 90 (by omega) (by omega), hF.1 91 (by omega) (by omega)]
    exact hN
  have hlk := hs'.lnk ho' hS.2.1 hN'
  have hja := hs.ja
  have h1 := hs.2.2.2.1
  refine k r g hF hs' ho' hN' ?_
  rcases hres with ⟨a, b⟩ | ⟨a, b⟩
  · rcases hS.2.2 with ⟨x, y⟩ | ⟨x, y, z⟩
    · exact Or.inl ⟨a, x⟩
    · exfalso
      refine b ?_
      rw [h1]
      exact acyc_congr (fun t p q => ⟨(hja t p q).1, (hlk t p q).1.symm⟩) y.1.2.2.1
  · rcases hS.2.2 with ⟨x, y⟩ | ⟨x, y, z⟩
    · exfalso
      refine y ?_
      have q := b.1.2.2.1
      rw [hs'.2.2.2.1] at q
      exact acyc_congr (fun t p q => ⟨(hs'.ja t p q).1.symm, (hlk t p q).1⟩) q
    · exact Or.inr ⟨a, x, b⟩
theorem r_wrongS {c h : aH} {Q : aQ} (hs : sShop c h) (ho : sOrd c h) (hS : sSet c)
    (k0 : c 3 1 = 0 → f_X9_refusedByState c = -5 → Q (-5) h)
    (k1 : ∀ g, 0 < c 3 1 → rkF h g → sShop c g → sOrd c g → c 20 10 = 1 → f_X9_refusedByState c = -4 → Q (-4) g)
    (k2 : ∀ g, 0 < c 3 1 → rkF h g → sShop c g → sOrd c g → lnkN (g 91) (mO g) (g 97) (g 98) → c 20 10 = 0 → rkT g → f_X9_refusedByState c = 0 → Q 0 g) : aRun mX10_wrong 4 [aR 85] h Q := by
  have h1 := hs.2.2.2.1
  have h0 := hs.1.1.1
  refine e_X10_wrong ⟨fun z => ?_, fun z => ?_⟩
  · refine k0 (by omega) ?_
    unfold f_X9_refusedByState f_X9_noShop
    rw [if_pos (show c 3 1 = 0 by omega), if_neg (by omega)]
  · have hn : 0 < c 3 1 := by omega
    refine r_reckS hs ho (hS hn) (fun r g hF hs' ho' hN hres => ?_)
    rcases hres with ⟨a, b⟩ | ⟨a, b, d⟩
    · rw [if_pos a]
      refine k1 g hn hF hs' ho' b ?_
      unfold f_X9_refusedByState f_X9_noShop
      rw [if_neg (show ¬ c 3 1 = 0 by omega), if_pos rfl, if_neg (by omega)]
    · rw [if_neg (by omega)]
      refine k2 g hn hF hs' ho' hN b d ?_
      unfold f_X9_refusedByState f_X9_noShop
      rw [if_neg (show ¬ c 3 1 = 0 by omega), if_pos rfl, if_pos b]
theorem r_spanS {h : aH} {Q : aQ} (hs : sShop h h) (ho : sOrd h h) (hS : sSet h) (k : ∀ g, rkF h g → Q (f_X9_span h) g) : aRun mX10_span 4 [aR 85] h Q := by
  have h1 := hs.2.2.2.1
  have h0 := hs.1.1.1
  refine e_X10_span ⟨fun z => ?_, fun z => ?_⟩
  · have e : f_X9_span h = -5 := by
      unfold f_X9_span f_X9_refusedByState f_X9_noShop
      rw [if_pos (show h 3 1 = 0 by omega), if_neg (by omega), if_neg (by omega)]
    rw [← e]
    exact k h ⟨fun _ _ _ => rfl, fun _ _ => rfl⟩
  · have hn : 0 < h 3 1 := by omega
    have hSn := hS hn
    refine r_reckS hs ho hSn (fun r g hF hs' ho' hN hres => ?_)
    have e : (if r = 0 then (-4 : Int) else g 85 26) = f_X9_span h := by
      unfold f_X9_span f_X9_refusedByState f_X9_noShop
      rw [if_neg (show ¬ h 3 1 = 0 by omega), if_pos rfl]
      rcases hres with ⟨a, b⟩ | ⟨a, b, d⟩
      · rw [if_pos a, if_neg (show ¬ h 20 10 = 0 by omega), if_neg (by omega)]
      · rw [if_neg (by omega), if_pos b, if_pos rfl]
        have hT : timesOK h := by
          rcases hSn.2.2 with x | x
          · omega
          · exact x.2.1
        have hlk := hs'.lnk ho' hSn.2.1 hN
        have hgr := d.1
        have hja := hs'.ja
        rw [hs'.2.2.2.1] at hgr hja
        exact (hT.1.same hn hgr (fun t a b => ⟨(hja t a b).1, (hja t a b).2, (hlk t a b).1.symm, (hlk t a b).2.symm, (hs'.2.2.2.2.1 t a b).2.2.2⟩)).1
    rw [e]
    exact k g hF
