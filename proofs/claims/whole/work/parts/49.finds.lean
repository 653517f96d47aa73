/-! the reference finds what the class holds -/
def fmF (h g : aH) : Prop := (∀ c, c ≠ 85 → (c < 97 ∨ 106 < c) → g c = h c) ∧ ∀ i, i ≠ 26 → i ≠ 28 → i ≠ 30 → i ≠ 33 → g 85 i = h 85 i
theorem r_findsS {c h : aH} {Q : aQ} (hs : sShop c h) (ho : sOrd c h) (hn : 0 < c 3 1) (hN : lnkN (cSz c) (cO c 19) (c 22) (c 23)) (hT : timesOK c) (hP : pathOK c) (hM : lnkN (h 91) (mO h) (h 97) (h 98)) (ht : rkT h)
    (k : ∀ g, (∀ c, c ≠ 85 → (c < 103 ∨ 106 < c) → g c = h c) → (∀ i, i ≠ 28 → i ≠ 30 → i ≠ 33 → g 85 i = h 85 i) → (g 85 28 = c 38 1 ∧ ∀ i, 0 ≤ i → i < c 38 1 → g 103 i = c 39 i) → (g 85 30 = c 38 3 ∧ ∀ b, 0 ≤ b → b ≤ c 38 3 → g 104 b = c 40 b) → g 85 33 = c 38 5 → (∀ i, 0 ≤ i → i < c 38 5 → mvOK (c 6) (c 4) (c 39) (c 38 1) (c 41 i) ∧ g 105 i = 100 * c 39 (c 41 i) + c 39 (c 41 i + 1) ∧ g 106 i = mLB h (c 39 (c 41 i)) (c 39 (c 41 i + 1))) → Q 0 g) : aRun mX10_findsMoves 5 [aR 85] h Q := by
  have h1 := hs.2.2.2.1
  have h0 := hs.1.1.1
  refine r_findsMoves (by omega) ht (fun g f1 f2 hw hb hm => ?_)
  have q := moves_same hs ho hn hN hT hP hM ht hw hb hm
  exact k g f1 f2 q.2.1 q.2.2.1 q.2.2.2.1 q.2.2.2.2
theorem Settled.paths {c : aH} (hS : Settled c) (hr : c 20 10 = 0) : timesOK c ∧ pathOK c := by
  rcases hS.2.2 with x | x
  · omega
  · exact x.2
theorem mv_rng {c : aH} (hs : cShop c) (hn : 0 < c 3 1) (hP : pathOK c) {p : Int} (hp : mvOK (c 6) (c 4) (c 39) (c 38 1) p) : (0 ≤ p ∧ p + 1 < 24) ∧ (0 ≤ c 39 p ∧ c 39 p < c 3 1) ∧ 0 ≤ c 39 (p + 1) ∧ c 39 (p + 1) < c 3 1 := by
  obtain ⟨⟨p0, p1⟩, -⟩ := hp
  have w := hP.1
  have r1 := (w.2.2.2.2 p p0 (by omega)).1
  have r2 := (w.2.2.2.2 (p + 1) (by omega) p1).1
  have b := w.1
  have h0 := hs.1.1
  refine ⟨by omega, r1, r2⟩
