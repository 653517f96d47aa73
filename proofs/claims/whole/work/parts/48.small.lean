/-! the reference reckons what the class holds -/
theorem okOrd.conv {n n' : Int} {mach mach' sz sz' : Int → Int} {o : Int → Int → Int} (h : okOrd n mach sz o) (hm : ∀ t, 0 ≤ t → t < n → 0 ≤ mach t ∧ mach t < 5) (hn : n' = n) (hmm : ∀ t, 0 ≤ t → t < n → mach' t = mach t) (hz : ∀ M, 0 ≤ M → M < 5 → sz' M = sz M) : okOrd n' mach' sz' o := by
  subst hn
  obtain ⟨h1, h2, h3⟩ := h
  refine ⟨fun m k a b c d => ?_, fun m k k' a b c d e f => ?_, fun t a b => ?_⟩
  · rw [hz m a b] at d
    have q := h1 m k a b c d
    exact ⟨q.1, by rw [hmm _ q.1.1 q.1.2]; exact q.2⟩
  · rw [hz m a b] at d f
    exact h2 m k k' a b c d e f
  · obtain ⟨k, x, y, z⟩ := h3 t a b
    have q := hm t a b
    refine ⟨k, x, ?_, ?_⟩
    · rw [hmm t a b, hz _ q.1 q.2]; exact y
    · rw [hmm t a b]; exact z
theorem sShop.mOrd {c m : aH} (hs : sShop c m) (ho : sOrd c m) : okOrd (m 85 1) (m 88) (m 91) (mO m) :=
  (ho.1.same hs.1.mach ho.2).conv hs.1.mach hs.2.2.2.1 (fun t a b => (hs.2.2.2.2.1 t a b).2.2.1) hs.2.2.2.2.2
theorem sShop.rk {c m g : aH} (hs : sShop c m) (hF : rkF m g) : sShop c g := by
  unfold sShop mShop at hs ⊢
  rw [hF.2 0 (by omega), hF.2 1 (by omega), hF.1 86 (by omega) (by omega), hF.1 87 (by omega) (by omega), hF.1 88 (by omega) (by omega), hF.1 89 (by omega) (by omega), hF.1 91 (by omega) (by omega)]
  exact hs
theorem sOrd.rk {c m g : aH} (hs : sOrd c m) (hF : rkF m g) : sOrd c g := by
  unfold sOrd mO at hs ⊢
  rw [hF.1 90 (by omega) (by omega)]
  exact hs
theorem acyc_congr {n : Int} {ja ja' pa pa' : Int → Int} (h : ∀ t, 0 ≤ t → t < n → ja' t = ja t ∧ pa' t = pa t) (a : acyc n ja pa) : acyc n ja' pa' := by
  obtain ⟨pos, hp⟩ := a
  refine ⟨pos, fun t x y => ?_⟩
  rw [(h t x y).1, (h t x y).2]
  exact hp t x y
theorem r_reckS {c h : aH} {Q : aQ} (hs : sShop c h) (ho : sOrd c h) (hS : Settled c)
    (k : ∀ r g, rkF h g → sShop c g → sOrd c g → lnkN (g 91) (mO g) (g 97) (g 98) → ((r = 0 ∧ c 20 10 = 1) ∨ (r = 1 ∧ c 20 10 = 0 ∧ rkT g)) → Q r g) : aRun mX10_reckons 3 [aR 85] h Q := by
  refine r_reckons hs.2.1 (hs.mOrd ho) (fun r g hF hN hres => ?_)
  have hs' := hs.rk hF
  have ho' := ho.rk hF
  have hN' : lnkN (g 91) (mO g) (g 97) (g 98) := by
    unfold mO
    rw [hF.1 90 (by omega) (by omega), hF.1 91 (by omega) (by omega)]
    exact hN
  have hlk := hs'.lnk ho' hS.2.1 hN'
  have hja := hs.ja
  have h1 := hs.2.2.2.1
  refine k r g hF hs' ho' hN' ?_
  rcases hres with ⟨a, b⟩ | ⟨a, b⟩
  · rcases hS.2.2 with ⟨x, y⟩ | ⟨x, y, z⟩
    · exact Or.inl ⟨a, x⟩
    · exfalso
      refine b ?_
      rw [h1]
      exact acyc_congr (fun t p q => ⟨(hja t p q).1, (hlk t p q).1.symm⟩) y.1.2.2.1
  · rcases hS.2.2 with ⟨x, y⟩ | ⟨x, y, z⟩
    · exfalso
      refine y ?_
      have q := b.1.2.2.1
      rw [hs'.2.2.2.1] at q
      exact acyc_congr (fun t p q => ⟨(hs'.ja t p q).1.symm, (hlk t p q).1⟩) q
    · exact Or.inr ⟨a, x, b⟩
