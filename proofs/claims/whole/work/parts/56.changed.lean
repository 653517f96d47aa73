/-! a change: what is noted, on both sides; starts anew -/
def cChg (h g : aH) : Prop := (∀ c, (c < 20 ∨ 28 < c) → (c < 38 ∨ 41 < c) → c ≠ 44 → (c < 46 ∨ 62 < c) → g c = h c) ∧ ∃ s D : Nat, (h 44 1 + 1 = (D : Int) + s ∧ D ≤ 16 ∧ (s = 0 ∨ (s = 1 ∧ D = 16))) ∧ g 44 1 = D ∧ g 44 2 = D ∧ ∀ j : Nat, j ≤ D → ∀ x, 0 ≤ x → x < 24 → g (46 + j) x = if j = D then h 19 x else h (46 + (j + s)) x
def mChg (h g : aH) : Prop := (∀ c, c ≠ 85 → c ≠ 96 → g c = h c) ∧ (∀ i, i ≠ 18 → i ≠ 19 → g 85 i = h 85 i) ∧ ∃ s D : Nat, (h 85 18 + 1 = (D : Int) + s ∧ D ≤ 16 ∧ (s = 0 ∨ (s = 1 ∧ D = 16))) ∧ g 85 18 = D ∧ g 85 19 = 0 ∧ ∀ j : Nat, j ≤ D → ∀ x, 0 ≤ x → x < 120 → g 96 (120 * (j : Int) + x) = if j = D then h 90 x else h 96 (120 * ((j + s : Nat) : Int) + x)
theorem cShop.congr {h g : aH} (hs : cShop h) (a : ∀ k, 3 ≤ k → k ≤ 10 → g k = h k) : cShop g := by
  unfold cShop at hs ⊢
  rw [a 3 (by omega) (by omega), a 4 (by omega) (by omega), a 5 (by omega) (by omega), a 6 (by omega) (by omega), a 7 (by omega) (by omega), a 10 (by omega) (by omega)]
  exact hs
theorem cOrd.congr {h g : aH} {r : Nat} (ho : okOrd (h 3 1) (h 6) (cSz h) (cO h r)) (a : ∀ k, 3 ≤ k → k ≤ 10 → g k = h k) (b : g r = h r) : okOrd (g 3 1) (g 6) (cSz g) (cO g r) := by
  unfold cSz cO at ho ⊢
  rw [a 3 (by omega) (by omega), a 6 (by omega) (by omega), a 10 (by omega) (by omega), b]
  exact ho
theorem r_cChanged {h : aH} {Q : aQ} (hs : cShop h) (hn : 0 < h 3 1) (ho : okOrd (h 3 1) (h 6) (cSz h) (cO h 19)) (hD : 0 ≤ h 44 1 ∧ h 44 1 ≤ 16) (k : ∀ g, cChg h g → Settled g → Q 0 g) : aRun mX9_changed 4 [aR 0] h Q := by
  refine e_X9_changed ?_
  have fin : ∀ g1 : aH, (∀ c, c ≠ 44 → (c < 46 ∨ 62 < c) → g1 c = h c) → (∃ s D : Nat, (h 44 1 + 1 = (D : Int) + s ∧ D ≤ 16 ∧ (s = 0 ∨ (s = 1 ∧ D = 16))) ∧ g1 44 1 = D ∧ g1 44 2 = D ∧ ∀ j : Nat, j ≤ D → ∀ x, 0 ≤ x → x < 24 → g1 (46 + j) x = if j = D then h 19 x else h (46 + (j + s)) x) → aRun mX9_settle 3 [aR 0] g1 (fun r3 h4 => Q 0 h4) := by
    intro g1 f1 f2
    have a : ∀ k, 3 ≤ k → k ≤ 10 → g1 k = h k := fun k k1 k2 => f1 k (by omega) (by omega)
    refine r_settle (hs.congr a) (by rw [a 3 (by omega) (by omega)]; exact hn) (cOrd.congr ho a (f1 19 (by omega) (by omega))) (fun g f S => k g ⟨fun c c1 c2 c3 c4 => (f c c1 c2).trans (f1 c c3 c4), ?_⟩ S)
    obtain ⟨s, D, d1, d2, d3, d4⟩ := f2
    refine ⟨s, D, d1, ?_, ?_, fun j j1 x x0 x1 => ?_⟩
    · rw [f 44 (by omega) (by omega)]; exact d2
    · rw [f 44 (by omega) (by omega)]; exact d3
    · have := d1.2.1
      rw [f (46 + j) (by omega) (by omega)]; exact d4 j j1 x x0 x1
  refine r_cNote hD (fun z => ?_) (fun z g hg1 hg2 => ?_)
  · refine fin _ (fun c c1 c2 => ?_) ⟨0, (h 44 1 + 1).toNat, ?_, ?_, ?_, fun j j1 x x0 x1 => ?_⟩
    · rw [a_cp_ne (by omega), a_up_ne c1, a_up_ne c1]
    · omega
    · rw [a_cp_ne (by omega), a_up_off (by omega), a_up_eq]; omega
    · rw [a_cp_ne (by omega), a_up_eq]; omega
    · by_cases e : j = (h 44 1 + 1).toNat
      · rw [if_pos e, e, a_cp_at, if_pos (by omega), a_up_ne (by omega), a_up_ne (by omega)]
        congr 1; omega
      · rw [if_neg e, a_cp_ne (by omega), a_up_ne (by omega), a_up_ne (by omega)]; rfl
  · refine fin _ (fun c c1 c2 => ?_) ⟨1, 16, ?_, ?_, ?_, fun j j1 x x0 x1 => ?_⟩
    · rw [a_cp_ne (by omega), a_up_ne c1, a_up_ne c1]; exact hg1 c (by omega)
    · omega
    · rw [a_cp_ne (by omega), a_up_off (by omega), a_up_eq]; rfl
    · rw [a_cp_ne (by omega), a_up_eq]; rfl
    · by_cases e : j = 16
      · rw [if_pos e, e, a_cp_at, if_pos (by omega), a_up_ne (by omega), a_up_ne (by omega), hg1 19 (by omega)]
        congr 1; omega
      · rw [if_neg e, a_cp_ne (by omega), a_up_ne (by omega), a_up_ne (by omega)]
        exact hg2 j (by omega) x x0 x1
theorem r_mChg {h : aH} {Q : aQ} (hD : 0 ≤ h 85 18 ∧ h 85 18 ≤ 16) (k : ∀ g, mChg h g → Q 0 g) : aRun mX10_changed 1 [aR 85] h Q := by
  refine r_mChanged hD (fun z => k _ ⟨fun c c1 c2 => ?_, fun i i1 i2 => ?_, 0, (h 85 18 + 1).toNat, ?_, ?_, ?_, fun j j1 x x0 x1 => ?_⟩) (fun z => k _ ⟨fun c c1 c2 => ?_, fun i i1 i2 => ?_, 1, 16, ?_, ?_, ?_, fun j j1 x x0 x1 => ?_⟩)
  · rw [a_cp_ne c2, a_up_ne c1, a_up_ne c1]
  · rw [a_cp_ne (by omega), a_up_off i2, a_up_off i1]
  · omega
  · rw [a_cp_ne (by omega), a_up_off (by omega), a_up_eq]; omega
  · rw [a_cp_ne (by omega), a_up_eq]
  · rw [a_cp_at]
    by_cases e : j = (h 85 18 + 1).toNat
    · rw [if_pos e, if_pos (by omega), a_up_ne (by omega), a_up_ne (by omega)]
      congr 1; omega
    · rw [if_neg e, if_neg (by omega), a_up_ne (by omega), a_up_ne (by omega)]; rfl
  · rw [a_cp_ne c2, a_up_ne c1, a_cp_ne c2]
  · rw [a_cp_ne (by omega), a_up_off i2, a_cp_ne (by omega)]
  · omega
  · rw [a_cp_ne (by omega), a_up_off (by omega), a_cp_ne (by omega)]; omega
  · rw [a_cp_ne (by omega), a_up_eq]
  · rw [a_cp_at]
    by_cases e : j = 16
    · rw [if_pos e, if_pos (by omega), a_up_ne (by omega), a_cp_ne (by omega)]
      congr 1; omega
    · rw [if_neg e, if_neg (by omega), a_up_ne (by omega), a_cp_at, if_pos (by omega)]
      congr 1; omega
theorem sHist.chg {c m c' m' : aH} (hn : 0 < c 3 1) (hs : sShop c m) (ho : sOrd c m) (H : sHist c m) (x : cChg c c') (y : mChg m m') : sHist c' m' ∧ sNow c' := by
  obtain ⟨x1, s, D, x2, x3, x4, x5⟩ := x
  obtain ⟨y1, y2, s', D', y3, y4, y5, y6⟩ := y
  have hh := H.1
  have e18 := H.2.1
  have hD : D' = D := by omega
  have hs' : s' = s := by omega
  subst hD hs'
  have a : ∀ k, 3 ≤ k → k ≤ 10 → c' k = c k := fun k k1 k2 => x1 k (by omega) (by omega) (by omega) (by omega)
  have sl : ∀ M k, 0 ≤ M → M < 5 → 0 ≤ k → k < cSz c M → 0 ≤ c 10 M + k ∧ c 10 M + k < 24 := by
    intro M k a b d e
    have q := hs.1.2.at a b
    have n := hs.1.1.1
    unfold cSz at e
    omega
  have row : ∀ j : Nat, j ≤ D' → sameO (cSz c) (cO c' (46 + j)) (if j = D' then cO c 19 else cO c (46 + (j + s'))) := by
    intro j hj M k k0 k1 k2 k3
    have q := sl M k k0 k1 k2 k3
    show c' (46 + j) (c' 10 M + k) = _
    rw [a 10 (by omega) (by omega), x5 j hj _ q.1 q.2]
    by_cases e : j = D'
    · rw [if_pos e, if_pos e]; rfl
    · rw [if_neg e, if_neg e]; rfl
  have eS : cSz c' = cSz c := by unfold cSz; rw [a 10 (by omega) (by omega)]
  refine ⟨⟨?_, ?_, ?_, fun j hj => ?_⟩, ?_⟩
  · omega
  · rw [y4, x3]
  · rw [y5, x3, x4]; omega
  · rw [x4] at hj
    have hj : j ≤ D' := by omega
    have r := row j hj
    rw [a 3 (by omega) (by omega), a 6 (by omega) (by omega), eS]
    by_cases e : j = D'
    · rw [if_pos e] at r
      refine ⟨ho.1.same hs.1.mach r.symm, fun M k k0 k1 k2 k3 => ?_⟩
      have z := hs.2.1.2 M k0 k1
      rw [hs.2.2.2.2.2 M k0 k1] at z
      show _ = m' 96 (120 * (j : Int) + (24 * M + k))
      rw [r M k k0 k1 k2 k3, y6 j hj _ (by omega) (by omega), if_pos e]
      exact ho.2 M k k0 k1 k2 k3
    · rw [if_neg e] at r
      have hq := H.2.2.2 (j + s') (by omega)
      refine ⟨hq.1.same hs.1.mach r.symm, fun M k k0 k1 k2 k3 => ?_⟩
      have z := hs.2.1.2 M k0 k1
      rw [hs.2.2.2.2.2 M k0 k1] at z
      show _ = m' 96 (120 * (j : Int) + (24 * M + k))
      rw [r M k k0 k1 k2 k3, y6 j hj _ (by omega) (by omega), if_neg e]
      exact hq.2 M k k0 k1 k2 k3
  · have r := row D' (Nat.le_refl _)
    rw [if_pos rfl] at r
    refine ⟨?_, fun _ => by rw [a 3 (by omega) (by omega)]; exact hn⟩
    rw [x3, eS, show ((D' : Int)).toNat = D' from rfl]
    have : cO c' 19 = cO c 19 := by unfold cO; rw [a 10 (by omega) (by omega), x1 19 (by omega) (by omega) (by omega) (by omega)]
    rw [this]
    exact r.symm
/-- all that holds while orders are changed -/
def Pre (c m : aH) : Prop := sTape c m ∧ sS c m ∧ sTabu c m ∧ sLeast c m ∧ sHist c m ∧ sImg c m ∧ sAlone c ∧ sEvery c
theorem Sim.pre {c m : aH} (H : Sim c m) : Pre c m := ⟨H.1, H.2.1, H.2.2.2.1, H.2.2.2.2.1, H.2.2.2.2.2.1, H.2.2.2.2.2.2.2.1, H.2.2.2.2.2.2.2.2.1, H.2.2.2.2.2.2.2.2.2⟩
theorem Pre.chg {c m c' m' : aH} (hn : 0 < c 3 1) (H : Pre c m) (x : cChg c c') (y : mChg m m') (S : Settled c') : Sim c' m' := by
  obtain ⟨h1, h2, h4, h5, h6, h8, h9, h10⟩ := H
  have hh := h6.chg hn h2.1 h2.2.1 x y
  have a : ∀ k, 3 ≤ k → k ≤ 10 → c' k = c k := fun k k1 k2 => x.1 k (by omega) (by omega) (by omega) (by omega)
  have e : ∀ k, (k < 20 ∨ 28 < k) → (k < 38 ∨ 41 < k) → k ≠ 44 → (k < 46 ∨ 62 < k) → ∀ i, c' k i = c k i := fun k k1 k2 k3 k4 i => congrFun (x.1 k k1 k2 k3 k4) i
  refine ⟨?_, ?_, fun _ => S, ?_, ?_, hh.1, hh.2, ?_, ?_, ?_⟩
  · exact h1.congr (e 1 (by omega) (by omega) (by omega) (by omega) 1) (x.1 2 (by omega) (by omega) (by omega) (by omega)) (y.2.1 9 (by omega) (by omega)) (y.1 92 (by omega) (by omega))
  · exact h2.congr a (x.1 19 (by omega) (by omega) (by omega) (by omega)) (y.2.1 0 (by omega) (by omega)) (y.2.1 1 (by omega) (by omega)) (fun k k1 k2 => y.1 k (by omega) (by omega))
  · exact h4.congr (e 42 (by omega) (by omega) (by omega) (by omega) 1) (e 42 (by omega) (by omega) (by omega) (by omega) 2) (x.1 43 (by omega) (by omega) (by omega) (by omega)) (y.2.1 34 (by omega) (by omega)) (y.2.1 36 (by omega) (by omega)) (y.1 107 (by omega) (by omega))
  · exact h5.congr a (e 0 (by omega) (by omega) (by omega) (by omega) 15) (x.1 84 (by omega) (by omega) (by omega) (by omega)) (y.2.1 37 (by omega) (by omega)) (y.2.1 38 (by omega) (by omega)) (y.1 108 (by omega) (by omega))
  · exact h8.congr (fun k k1 k2 => x.1 k (by omega) (by omega) (by omega) (by omega)) (y.2.1 51 (by omega) (by omega)) (y.1 115 (by omega) (by omega))
  · exact h9.congr a (x.1 72 (by omega) (by omega) (by omega) (by omega))
  · exact h10.congr a (e 73 (by omega) (by omega) (by omega) (by omega) 1) (e 73 (by omega) (by omega) (by omega) (by omega) 2) (e 73 (by omega) (by omega) (by omega) (by omega) 3)
/-- other orders: the rest stays -/
theorem Pre.orders {c m c' m' : aH} (H : Pre c m) (hS : sS c' m') (a : ∀ k, k ≠ 19 → k < 85 → c' k = c k) (b : ∀ k, k ≠ 90 → 85 ≤ k → m' k = m k) : Pre c' m' := by
  obtain ⟨h1, h2, h4, h5, h6, h8, h9, h10⟩ := H
  have e : ∀ k i, k ≠ 19 → k < 85 → c' k i = c k i := fun k i k1 k2 => congrFun (a k k1 k2) i
  have f : ∀ k i, k ≠ 90 → 85 ≤ k → m' k i = m k i := fun k i k1 k2 => congrFun (b k k1 k2) i
  have a' : ∀ k, 3 ≤ k → k ≤ 10 → c' k = c k := fun k k1 k2 => a k (by omega) (by omega)
  refine ⟨?_, hS, ?_, ?_, ?_, ?_, ?_, ?_⟩
  · exact h1.congr (e 1 1 (by omega) (by omega)) (a 2 (by omega) (by omega)) (f 85 9 (by omega) (by omega)) (b 92 (by omega) (by omega))
  · exact h4.congr (e 42 1 (by omega) (by omega)) (e 42 2 (by omega) (by omega)) (a 43 (by omega) (by omega)) (f 85 34 (by omega) (by omega)) (f 85 36 (by omega) (by omega)) (b 107 (by omega) (by omega))
  · exact h5.congr a' (e 0 15 (by omega) (by omega)) (a 84 (by omega) (by omega)) (f 85 37 (by omega) (by omega)) (f 85 38 (by omega) (by omega)) (b 108 (by omega) (by omega))
  · exact h6.congr a' (e 44 1 (by omega) (by omega)) (e 44 2 (by omega) (by omega)) (fun k k1 k2 => a k (by omega) (by omega)) (f 85 18 (by omega) (by omega)) (f 85 19 (by omega) (by omega)) (b 96 (by omega) (by omega))
  · exact h8.congr (fun k k1 k2 => a k (by omega) (by omega)) (f 85 51 (by omega) (by omega)) (b 115 (by omega) (by omega))
  · exact h9.congr a' (a 72 (by omega) (by omega))
  · exact h10.congr a' (e 73 1 (by omega) (by omega)) (e 73 2 (by omega) (by omega)) (e 73 3 (by omega) (by omega))
theorem sS.swap {c m : aH} (H : sS c m) {M k : Int} (hM : 0 ≤ M ∧ M < 5) (hk : 0 ≤ k ∧ k + 1 < cSz c M) : sS (setC c 19 (sw2 (c 19) (c 10 M + k))) (setC m 90 (sw2 (m 90) (24 * M + k))) := by
  obtain ⟨h1, h2, h3, h4⟩ := H
  refine ⟨h1, ⟨?_, ?_⟩, h3, h4⟩
  · exact (h2.1.swap hM hk).same h1.1.mach (cO_swap (row := c 19) h1.1.2 hM hk).symm
  · have q1 := cO_swap (row := c 19) h1.1.2 hM hk
    have z : ∀ m', 0 ≤ m' → m' < 5 → cSz c m' ≤ 24 := fun m' a b => by
      have := (h1.2.1.2 m' a b).2
      rw [h1.2.2.2.2.2 m' a b] at this
      exact this
    have q2 := mO_swap (sz := cSz c) (row := m 90) z hM hk
    exact q1.trans ((h2.2.swap hM hk).trans q2.symm)
/-- the reference reckons: its answer is the class's -/
theorem r_reckT {h : aH} {Q : aQ} (H : Sim h h) (hn : 0 < h 3 1) (k : ∀ r g, rkF h g → (if r = 0 then (-4 : Int) else g 85 26) = f_X9_spanOrRing h → Q r g) : aRun mX10_reckons 3 [aR 85] h Q := by
  have S := H.2.2.1 hn
  refine r_reckS H.2.1.1 H.2.1.2.1 S (fun r g hF hs ho hN hres => k r g hF ?_)
  unfold f_X9_spanOrRing
  rcases hres with ⟨a, b⟩ | ⟨a, b, d⟩
  · rw [if_pos a, if_neg (show ¬ h 20 10 = 0 by omega)]
  · rw [if_neg (show ¬ r = 0 by omega), if_pos b]
    exact (times_same hs ho hn S.2.1 (S.paths b).1 hN d).1
