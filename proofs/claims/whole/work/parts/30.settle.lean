/-- what settle() leaves: starts, tails, the way, its blocks and moves, of the orders on row 19 -/
def pathOK (h : aH) : Prop :=
  okWay (h 3 1) (jN (h 3 1) (h 4)) (h 23) (h 7) (h 24) (fun t => h 26 t = 0) (h 20 9) (h 39) (h 38 1) ∧ okBlocks (h 6) (h 39) (h 38 1) (h 40) (h 38 3) ∧ okMv (mvF (h 38 3) (h 40) (h 4) (h 39)) (h 41) (h 38 5)
def timesOK (h : aH) : Prop :=
  grT (h 3 1) (jA (h 5)) (jN (h 3 1) (h 4)) (h 22) (h 23) (h 7) (h 24) (h 25) (h 20 9) ∧ (0 ≤ h 20 9 ∧ h 20 9 ≤ 2376) ∧ ∀ t, 0 ≤ t → t < h 3 1 → h 26 t = h 20 9 - h 24 t - h 7 t - h 25 t ∧ (0 ≤ h 24 t ∧ h 24 t ≤ 2376) ∧ 0 ≤ h 25 t ∧ h 25 t ≤ 2376
def Settled (h : aH) : Prop :=
  lnkR (cSz h) (cO h 19) (h 21) ∧ lnkN (cSz h) (cO h 19) (h 22) (h 23) ∧
  ((h 20 10 = 1 ∧ ¬ acyc (h 3 1) (jA (h 5)) (h 22)) ∨ (h 20 10 = 0 ∧ timesOK h ∧ pathOK h))
theorem timesOK.ci {h : aH} (ht : timesOK h) : ∀ t, 0 ≤ t → t < h 3 1 → (h 26 t = 0 ↔ crit (h 7) (h 24) (h 25) (h 20 9) t) := fun t a b => by
  have := (ht.2.2 t a b).1
  unfold crit
  omega
theorem r_find {h : aH} {Q : aQ} (hn : 0 < h 3 1 ∧ h 3 1 ≤ 24) (ht : timesOK h) (k : ∀ g, (∀ c, (c < 38 ∨ 41 < c) → g c = h c) → pathOK g → Q 0 g) : aRun mX6_find 2 [aR 38, aR 3, aR 20] h Q := by
  refine e_X6_find ?_
  refine r_walk (T := h 25) hn ht.1 (fun t a b => (ht.2.2 t a b).2.1.2) ht.ci (fun g1 f1 f2 f3 => ?_)
  have w1 := f3.1
  have w2 : ∀ i, 0 ≤ i → i < g1 38 1 → 0 ≤ g1 39 i ∧ g1 39 i < 24 := fun i a b => by have := (f3.2.2.2.2 i a b).1; omega
  refine r_cutBlocks (by omega) w2 (fun g2 f4 f5 f6 => ?_)
  have e1 : g2 38 1 = g1 38 1 := f5 1 (by decide)
  have e39 : g2 39 = g1 39 := f4 39 (by decide) (by decide)
  rw [← e1, ← e39, ← f4 6 (by decide) (by decide)] at f6
  refine r_findMoves (by omega) (by rw [e1, e39]; exact w2) f6 (fun g3 f7 f8 f9 => ?_)
  have E : ∀ c, (c < 38 ∨ 41 < c) → g3 c = h c := fun c hc => (f7 c (by omega) (by omega)).trans ((f4 c (by omega) (by omega)).trans (f1 c (by omega) (by omega)))
  refine k g3 E ⟨?_, ?_, ?_⟩
  · rw [E 3 (by omega), E 4 (by omega), E 23 (by omega), E 7 (by omega), E 24 (by omega), E 26 (by omega), E 20 (by omega), f7 39 (by decide) (by decide), e39, f8 1 (by decide), e1]
    exact f3
  · rw [f7 6 (by decide) (by decide), f7 39 (by decide) (by decide), f8 1 (by decide), f7 40 (by decide) (by decide), f8 3 (by decide)]
    exact f6
  · rw [f8 3 (by decide), f7 40 (by decide) (by decide), f7 4 (by decide) (by decide), f7 39 (by decide) (by decide)]
    exact f9
set_option maxHeartbeats 1000000 in
theorem r_settle {h : aH} {Q : aQ} (hs : cShop h) (hn : 0 < h 3 1) (ho : okOrd (h 3 1) (h 6) (cSz h) (cO h 19)) (k : ∀ g, (∀ c, (c < 20 ∨ 28 < c) → (c < 38 ∨ 41 < c) → g c = h c) → Settled g → Q 0 g) : aRun mX9_settle 3 [aR 0] h Q := by
  refine e_X9_settle ?_
  have hn2 := hs.1.1
  refine r_lay (Or.inl rfl) (Or.inl rfl) hs ho (fun g1 hl => ?_)
  obtain ⟨hf, hR, hN, hcase⟩ := hl
  have e : ∀ c, c < 20 → g1 c = h c := fun c hc => hf c (by omega)
  have esz : cSz g1 = cSz h := by unfold cSz; rw [e 10 (by omega)]
  have eO : cO g1 19 = cO h 19 := by unfold cO; rw [e 10 (by omega), e 19 (by omega)]
  refine ⟨fun q => ?_, fun q => ?_⟩
  · rcases hcase with ⟨z, -⟩ | ⟨-, hac, hS, hsp, hq, hb⟩
    · omega
    have hac : acyc (h 3 1) (jA (h 5)) (g1 22) := hac
    have hS : okS (h 3 1) (jA (h 5)) (g1 22) (h 7) (g1 24) := hS
    have hdj : dual (h 3 1) (jA (h 5)) (jN (h 3 1) (h 4)) := hs.1.dual
    have hdp : dual (h 3 1) (g1 22) (g1 23) := ho.dual hs.mach hN
    have hl99 : ∀ t, 0 ≤ t → t < h 3 1 → 1 ≤ h 7 t ∧ h 7 t ≤ 99 := fun t a b => (hs.1.2.2.1 t a b).2.2.2
    have hS0 := okS.nonneg (fun t a b => (hl99 t a b).1) (fun t a b => by have := hdj t a b; have := hdp t a b; omega) hac hS
    have hSb : ∀ t, 0 ≤ t → t < h 3 1 → 0 ≤ g1 24 t ∧ g1 24 t ≤ 2376 := fun t a b => by
      have x1 := hS0 t a b
      have x2 := hsp.1 t a b
      have x3 := hl99 t a b
      have x1 : 0 ≤ g1 24 t := x1
      have x2 : g1 24 t + h 7 t ≤ g1 20 9 := x2
      have x4 : g1 20 9 ≤ 2376 := hb.2
      omega
    refine r_layTails (ja := jA (h 5)) (pa := g1 22) (by rw [e 3 (by omega)]; omega) (by rw [e 3 (by omega), e 7 (by omega)]; exact hl99) (by rw [e 3 (by omega)]; exact hSb) hb (by rw [e 3 (by omega)]; exact hq) (by rw [e 3 (by omega), e 4 (by omega)]; exact hdj) (by rw [e 3 (by omega)]; exact hdp) (fun g2 f1 f2 f3 => ?_)
    rw [e 3 (by omega), e 4 (by omega), e 7 (by omega)] at f2
    rw [e 3 (by omega), e 7 (by omega)] at f3
    have e2 : ∀ c, c < 20 → g2 c = h c := fun c hc => (f1 c (by omega) (by omega)).trans (e c hc)
    have ht2 : timesOK g2 := by
      refine ⟨?_, ?_, fun t a b => ?_⟩
      · rw [e2 3 (by omega), e2 4 (by omega), e2 5 (by omega), e2 7 (by omega), f1 22 (by decide) (by decide), f1 23 (by decide) (by decide), f1 24 (by decide) (by decide), f1 20 (by decide) (by decide)]
        exact ⟨hdj, hdp, hac, hS, f2, hsp, hl99⟩
      · rw [f1 20 (by decide) (by decide)]; exact hb
      · rw [e2 3 (by omega)] at b
        rw [f1 20 (by decide) (by decide), f1 24 (by decide) (by decide), e2 7 (by omega)]
        exact ⟨(f3 t a b).1, hSb t a b, (f3 t a b).2⟩
    refine r_find (by rw [e2 3 (by omega)]; omega) ht2 (fun g3 f4 f5 => ?_)
    have e3 : ∀ c, c < 20 → g3 c = h c := fun c hc => (f4 c (by omega)).trans (e2 c hc)
    refine k g3 (fun c a b => ?_) ⟨?_, ?_, Or.inr ⟨?_, ?_, f5⟩⟩
    · rw [f4 c b, f1 c (by omega) (by omega)]; exact hf c (by omega)
    · have : cSz g3 = cSz h := by unfold cSz; rw [e3 10 (by omega)]
      have e0 : cO g3 19 = cO h 19 := by unfold cO; rw [e3 10 (by omega), e3 19 (by omega)]
      rw [this, e0, f4 21 (by omega), f1 21 (by decide) (by decide)]
      exact hR
    · have : cSz g3 = cSz h := by unfold cSz; rw [e3 10 (by omega)]
      have e0 : cO g3 19 = cO h 19 := by unfold cO; rw [e3 10 (by omega), e3 19 (by omega)]
      rw [this, e0, f4 22 (by omega), f1 22 (by decide) (by decide), f4 23 (by omega), f1 23 (by decide) (by decide)]
      exact hN
    · rw [f4 20 (by omega), f1 20 (by decide) (by decide)]; exact q
    · unfold timesOK at ht2 ⊢
      rw [f4 3 (by omega), f4 4 (by omega), f4 5 (by omega), f4 7 (by omega), f4 20 (by omega), f4 22 (by omega), f4 23 (by omega), f4 24 (by omega), f4 25 (by omega), f4 26 (by omega)]
      exact ht2
  · rcases hcase with ⟨z, hna⟩ | ⟨z, -⟩
    · refine k g1 (fun c a b => hf c (by omega)) ⟨by rw [esz, eO]; exact hR, by rw [esz, eO]; exact hN, Or.inl ⟨z, ?_⟩⟩
      rw [e 3 (by omega), e 5 (by omega)]; exact hna
    · exact absurd z q
