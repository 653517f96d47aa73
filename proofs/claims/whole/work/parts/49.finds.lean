/-! the reference finds what the class holds -/
def fmF (h g : aH) : Prop := (∀ c, c ≠ 85 → (c < 97 ∨ 106 < c) → g c = h c) ∧ ∀ i, i ≠ 26 → i ≠ 28 → i ≠ 30 → i ≠ 33 → g 85 i = h 85 i
theorem r_findsS {c h : aH} {Q : aQ} (hs : sShop c h) (ho : sOrd c h) (hn : 0 < c 3 1) (hN : lnkN (cSz c) (cO c 19) (c 22) (c 23)) (hT : timesOK c) (hP : pathOK c) (hM : lnkN (h 91) (mO h) (h 97) (h 98)) (ht : rkT h)
    (k : ∀ g, (∀ c, c ≠ 85 → (c < 103 ∨ 106 < c) → g c = h c) → (∀ i, i ≠ 28 → i ≠ 30 → i ≠ 33 → g 85 i = h 85 i) → (g 85 28 = c 38 1 ∧ ∀ i, 0 ≤ i → i < c 38 1 → g 103 i = c 39 i) → (g 85 30 = c 38 3 ∧ ∀ b, 0 ≤ b → b ≤ c 38 3 → g 104 b = c 40 b) → g 85 33 = c 38 5 → (∀ i, 0 ≤ i → i < c 38 5 → mvOK (c 6) (c 4) (c 39) (c 38 1) (c 41 i) ∧ g 105 i = 100 * c 39 (c 41 i) + c 39 (c 41 i + 1) ∧ g 106 i = mLB h (c 39 (c 41 i)) (c 39 (c 41 i + 1))) → Q 0 g) : aRun mX10_findsMoves 5 [aR 85] h Q := by
  have h1 := hs.2.2.2.1
  have h0 := hs.1.1.1
  refine r_findsMoves (by omega) ht (fun g f1 f2 hw hb hm => ?_)
  have q := moves_same hs ho hn hN hT hP hM ht hw hb hm
  exact k g f1 f2 q.2.1 q.2.2.1 q.2.2.2.1 q.2.2.2.2
theorem Settled.paths {c : aH} (hS : Settled c) (hr : c 20 10 = 0) : timesOK c ∧ pathOK c := by
  rcases hS.2.2 with x | x
  · omega
  · exact x.2
theorem mv_rng {c : aH} (hs : cShop c) (hn : 0 < c 3 1) (hP : pathOK c) {p : Int} (hp : mvOK (c 6) (c 4) (c 39) (c 38 1) p) : (0 ≤ p ∧ p + 1 < 24) ∧ (0 ≤ c 39 p ∧ c 39 p < c 3 1) ∧ 0 ≤ c 39 (p + 1) ∧ c 39 (p + 1) < c 3 1 := by
  obtain ⟨⟨p0, p1⟩, -⟩ := hp
  have w := hP.1
  have r1 := (w.2.2.2.2 p p0 (by omega)).1
  have r2 := (w.2.2.2.2 (p + 1) (by omega) p1).1
  have b := w.1
  have h0 := hs.1.1
  refine ⟨by omega, r1, r2⟩
theorem mvL_cnt {mach job w e : Int → Int} {wl nb : Int} (hb : okBlocks mach w wl e nb) : ∀ (b : Nat), (b : Int) ≤ nb → ((mvL nb e job w b).length : Int) ≤ e b := by
  intro b
  induction b with
  | zero =>
    intro _
    have := hb.2.1
    show ((0 : Nat) : Int) ≤ e ((0 : Nat) : Int)
    rw [show ((0 : Nat) : Int) = 0 from rfl, this]
    omega
  | succ b ih =>
    intro h
    exact mvStep_len (by omega) (hb.2.2.2.1 b (by omega) (by omega)) (ih (by omega))
theorem pathOK.cnt {c : aH} (hs : cShop c) (hP : pathOK c) : 0 ≤ c 38 5 ∧ c 38 5 ≤ 24 := by
  have h0 := hs.1.1
  have w := hP.1.1
  have n := hP.2.2.1
  have b := hP.2.1
  refine ⟨by omega, ?_⟩
  have : ((mvF (c 38 3) (c 40) (c 4) (c 39)).length : Int) ≤ c 38 1 := by
    unfold mvF
    split
    · show ((0 : Nat) : Int) ≤ _
      omega
    · have q := mvL_cnt (job := c 4) b (c 38 3).toNat (by have := b.1; omega)
      rw [show (((c 38 3).toNat : Nat) : Int) = c 38 3 by have := b.1; omega, b.2.2.1] at q
      exact q
  omega
