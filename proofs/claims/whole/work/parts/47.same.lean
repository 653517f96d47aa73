/-! what both sides find is the same -/
theorem mvAdd_congr {job job' w w' : Int → Int} {p to : Int} {L : List Int} (h : p + 1 < to → job' (w' p) = job (w p) ∧ job' (w' (p + 1)) = job (w (p + 1))) : mvAdd job' w' p to L = mvAdd job w p to L := by
  unfold mvAdd
  by_cases z : p + 1 < to
  · rw [(h z).1, (h z).2]
  · rw [if_neg (fun y => z y.1), if_neg (fun y => z y.1)]
theorem mvL_congr {mach job job' w w' e e' : Int → Int} {wl nb : Int} (hb : okBlocks mach w wl e nb) (he : ∀ b, 0 ≤ b → b ≤ nb → e' b = e b) (hj : ∀ i, 0 ≤ i → i < wl → job' (w' i) = job (w i)) : ∀ (b : Nat), (b : Int) ≤ nb → mvL nb e' job' w' b = mvL nb e job w b := by
  intro b
  induction b with
  | zero => intro _; rfl
  | succ b ih =>
    intro hb1
    have c0 := hb.at (b := b) (by omega) (by omega)
    have c1 := hb.at (b := (b : Int) + 1) (by omega) (by omega)
    unfold mvL mvStep
    rw [ih (by omega), he b (by omega) (by omega), he ((b : Int) + 1) (by omega) (by omega)]
    rw [mvAdd_congr (p := e b) (fun z => ⟨hj _ (by omega) (by omega), hj _ (by omega) (by omega)⟩)]
    by_cases z : (b : Int) < nb - 1 ∧ e b ≤ e ((b : Int) + 1) - 2 ∧ ¬ (0 < (b : Int) ∧ e ((b : Int) + 1) - e b = 2)
    · rw [if_pos z, if_pos z]
      exact mvAdd_congr (fun _ => ⟨hj _ (by omega) (by omega), hj _ (by omega) (by omega)⟩)
    · rw [if_neg z, if_neg z]
theorem mvF_congr {mach job job' w w' e e' : Int → Int} {wl nb : Int} (hb : okBlocks mach w wl e nb) (he : ∀ b, 0 ≤ b → b ≤ nb → e' b = e b) (hj : ∀ i, 0 ≤ i → i < wl → job' (w' i) = job (w i)) : mvF nb e' job' w' = mvF nb e job w := by
  unfold mvF
  by_cases z : nb < 2
  · rw [if_pos z, if_pos z]
  · rw [if_neg z, if_neg z]
    exact mvL_congr hb he hj nb.toNat (by omega)
/-- two graphs of one shop: the same starts, tails, span -/
theorem grT.same {n : Int} {ja ja' jn jn' pa pa' pn pn' l l' S S' T T' : Int → Int} {span span' : Int} (hn : 0 < n) (g : grT n ja jn pa pn l S T span) (g' : grT n ja' jn' pa' pn' l' S' T' span') (hd : ∀ t, 0 ≤ t → t < n → ja' t = ja t ∧ jn' t = jn t ∧ pa' t = pa t ∧ pn' t = pn t ∧ l' t = l t) : span' = span ∧ ∀ t, 0 ≤ t → t < n → S' t = S t ∧ T' t = T t := by
  have hS := okS.unique (fun t a b => ⟨⟨(g.rng a b).1, (g.rng a b).2.1⟩, (hd t a b).1, (hd t a b).2.2.1, (hd t a b).2.2.2.2⟩) g.2.2.1 g.2.2.2.1 g'.2.2.2.1
  have hT := okT.unique g.1 g.2.1 (fun t a b => ⟨(hd t a b).2.1, (hd t a b).2.2.2.1, (hd t a b).2.2.2.2⟩) g.2.2.1 g.2.2.2.2.1 g'.2.2.2.2.1
  refine ⟨?_, fun t a b => ⟨(hS t a b).symm, (hT t a b).symm⟩⟩
  obtain ⟨t, a, b, c⟩ := g.2.2.2.2.2.1.2 hn
  obtain ⟨t', a', b', c'⟩ := g'.2.2.2.2.2.1.2 hn
  have x := g.2.2.2.2.2.1.1 t' a' b'
  have y := g'.2.2.2.2.2.1.1 t a b
  have z1 := hS t a b
  have z2 := hS t' a' b'
  have w1 := (hd t a b).2.2.2.2
  have w2 := (hd t' a' b').2.2.2.2
  omega
theorem sShop.ja {c m : aH} (hs : sShop c m) : ∀ t, 0 ≤ t → t < c 3 1 → jA (m 87) t = jA (c 5) t ∧ jN (m 85 1) (m 86) t = jN (c 3 1) (c 4) t := by
  obtain ⟨h1, h2, h3, h4, h5, h6⟩ := hs
  intro t a b
  refine ⟨?_, ?_⟩
  · unfold jA
    rw [(h5 t a b).2.1]
  · unfold jN
    rw [h4]
    by_cases z : c 3 1 ≤ t + 1
    · rw [if_pos z, if_pos z]
    · rw [if_neg z, if_neg z, (h5 (t + 1) (by omega) (by omega)).1, (h5 t a b).1]
theorem sShop.lnk {c m : aH} (hs : sShop c m) (ho : sOrd c m) (hN : lnkN (cSz c) (cO c 19) (c 22) (c 23)) (hM : lnkN (m 91) (mO m) (m 97) (m 98)) : ∀ t, 0 ≤ t → t < c 3 1 → c 22 t = m 97 t ∧ c 23 t = m 98 t := by
  refine lnkN.same ho.1 hs.1.mach ho.2 hN ?_
  intro M k a b d e
  have q := hM M k a b d (by rw [hs.2.2.2.2.2 M a b]; exact e)
  rw [hs.2.2.2.2.2 M a b] at q
  exact q
theorem moves_same {c g g2 : aH} (hs : sShop c g) (ho : sOrd c g) (hn : 0 < c 3 1) (hN : lnkN (cSz c) (cO c 19) (c 22) (c 23)) (hT : timesOK c) (hP : pathOK c) (hM : lnkN (g 91) (mO g) (g 97) (g 98)) (ht : rkT g)
    (hw : okWay (g 85 1) (jN (g 85 1) (g 86)) (g 98) (g 89) (g 99) (mcr g) (g 85 26) (g2 103) (g2 85 28)) (hb : okBlocks (g 88) (g2 103) (g2 85 28) (g2 104) (g2 85 30)) (hm : okMM (mvF (g2 85 30) (g2 104) (g 86) (g2 103)) (g2 103) (mLB g) (g2 105) (g2 106) (g2 85 33)) :
    (g 85 26 = c 20 9 ∧ ∀ t, 0 ≤ t → t < c 3 1 → g 99 t = c 24 t ∧ g 100 t = c 25 t) ∧ (g2 85 28 = c 38 1 ∧ ∀ i, 0 ≤ i → i < c 38 1 → g2 103 i = c 39 i) ∧ (g2 85 30 = c 38 3 ∧ ∀ b, 0 ≤ b → b ≤ c 38 3 → g2 104 b = c 40 b) ∧ g2 85 33 = c 38 5 ∧
    ∀ i, 0 ≤ i → i < c 38 5 → mvOK (c 6) (c 4) (c 39) (c 38 1) (c 41 i) ∧ g2 105 i = 100 * c 39 (c 41 i) + c 39 (c 41 i + 1) ∧ g2 106 i = mLB g (c 39 (c 41 i)) (c 39 (c 41 i + 1)) := by
  have hlk := hs.lnk ho hN hM
  have hja := hs.ja
  obtain ⟨h1, h2, h3, h4, h5, h6⟩ := hs
  have hgr := ht.1
  have hjn : jN (g 85 1) (g 86) = jN (c 3 1) (g 86) := by rw [h4]
  rw [h4] at hw hgr hja
  have hsame := hT.1.same hn hgr (fun t a b => ⟨(hja t a b).1, (hja t a b).2, (hlk t a b).1.symm, (hlk t a b).2.symm, (h5 t a b).2.2.2⟩)
  have hway := okWay.unique (fun t a b => (hT.1.2.2.2.2.2.2 t a b).1) hT.1.2.2.2.2.2.1 (fun t a b => ⟨(hja t a b).2, (hlk t a b).2.symm, (h5 t a b).2.2.2, (hsame.2 t a b).1, ?_⟩) hsame.1 hP.1 hw
  · have hwr := hP.1.2.2.2.2
    have hbl := okBlocks.unique (mach := c 6) (w := c 39) (mach' := g 88) (w' := g2 103) (fun i a b => ?_) hP.2.1 (by rw [hway.1]; exact hb)
    · have hmv : mvF (g2 85 30) (g2 104) (g 86) (g2 103) = mvF (c 38 3) (c 40) (c 4) (c 39) := by
        rw [← hbl.1]
        refine mvF_congr hP.2.1 (fun b x y => (hbl.2 b x y).symm) (fun i a b => ?_)
        rw [← hway.2 i a b]
        have r := (hwr i a b).1
        exact (h5 _ r.1 r.2).1
      rw [hmv] at hm
      have h38 : g2 85 33 = c 38 5 := by rw [hm.1, hP.2.2.1]
      refine ⟨hsame, ⟨hway.1.symm, fun i a b => (hway.2 i a b).symm⟩, ⟨hbl.1.symm, fun b x y => (hbl.2 b x y).symm⟩, h38, fun i a b => ?_⟩
      have e := hP.2.2.get a b
      have hmem := mvF_mem hP.2.1 (List.mem_of_getElem? e)
      obtain ⟨p, q1, q2, q3⟩ := hm.2 i.toNat (by have := hP.2.2.1; omega)
      rw [e] at q1
      have q1 : c 41 i = p := Option.some.inj q1
      rw [show ((i.toNat : Nat) : Int) = i by omega, ← q1] at q2 q3
      have w1 := hway.2 (c 41 i) hmem.1.1 (by have := hmem.1; omega)
      have w2 := hway.2 (c 41 i + 1) (by have := hmem.1; omega) hmem.1.2
      rw [← w1, ← w2] at q2 q3
      exact ⟨hmem, q2, q3⟩
    · rw [← hway.2 i a b]
      have r := (hwr i a b).1
      exact (h5 _ r.1 r.2).2.2.1
  · rw [hT.ci t a b]
    unfold mcr crit
    rw [(h5 t a b).2.2.2, (hsame.2 t a b).1, (hsame.2 t a b).2, hsame.1]
