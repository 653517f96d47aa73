/-! a shop laid anew, its image -/
theorem okShop.range {n nj : Int} {job place mach lasts job' place' mach' lasts' : Int → Int} (h : okShop n nj job place mach lasts) (e : ∀ t, 0 ≤ t → t < 24 → job' t = job t ∧ place' t = place t ∧ mach' t = mach t ∧ lasts' t = lasts t) : okShop n nj job' place' mach' lasts' := by
  obtain ⟨h1, h2, h3, h4, h5, h6⟩ := h
  refine ⟨h1, h2, fun t a b => ?_, fun t a b => ?_, fun a => ?_, h6⟩
  · have q := e t a (by omega)
    rw [q.1, q.2.1, q.2.2.1, q.2.2.2]
    exact h3 t a b
  · have q := e t a (by omega)
    have r := h4 t a b
    rw [q.1, q.2.1]
    refine ⟨fun z => ?_, fun z => ?_⟩
    · rcases r.1 z with w | ⟨w1, w2⟩
      · exact Or.inl w
      · right
        rw [(e (t - 1) (by omega) (by omega)).1]
        exact ⟨w1, w2⟩
    · have w := r.2 z
      rw [(e (t - 1) (by omega) (by omega)).1, (e (t - 1) (by omega) (by omega)).2.1]
      exact w
  · rw [(e (n - 1) (by omega) (by omega)).1]
    exact h5 a
theorem cntB_congr {p q : Int → Bool} : ∀ k : Nat, (∀ i : Nat, i < k → p i = q i) → cntB p k = cntB q k := by
  intro k
  induction k with
  | zero => intro _; rfl
  | succ k ih =>
    intro h
    show cntB p k + (if p k then 1 else 0) = cntB q k + (if q k then 1 else 0)
    rw [ih (fun i hi => h i (by omega)), h k (by omega)]
theorem sS.range {c m c' m' : aH} (H : sS c m) (a0 : c' 3 0 = c 3 0) (a1 : c' 3 1 = c 3 1) (a : ∀ k, 4 ≤ k → k ≤ 9 → ∀ x, 0 ≤ x → x < 24 → c' k x = c k x) (a10 : ∀ x, 0 ≤ x → x < 6 → c' 10 x = c 10 x) (a19 : ∀ x, 0 ≤ x → x < 24 → c' 19 x = c 19 x)
    (b0 : m' 85 0 = m 85 0) (b1 : m' 85 1 = m 85 1) (b : ∀ k, 86 ≤ k → k ≤ 89 → ∀ x, 0 ≤ x → x < 24 → m' k x = m k x) (b90 : ∀ x, 0 ≤ x → x < 120 → m' 90 x = m 90 x) (b91 : ∀ x, 0 ≤ x → x < 5 → m' 91 x = m 91 x) : sS c' m' := by
  obtain ⟨⟨h1, h2, h3, h4, h5, h6⟩, ⟨h7, h8⟩, h9, h10⟩ := H
  have hn := h1.1.1
  have eS : ∀ M, 0 ≤ M → M < 5 → cSz c' M = cSz c M := fun M x y => by
    unfold cSz
    rw [a10 _ (by omega) (by omega), a10 _ (by omega) (by omega)]
  have hc : cShop c' := by
    refine ⟨?_, ?_⟩
    · rw [a0, a1]
      exact h1.1.range (fun t x y => ⟨a 4 (by omega) (by omega) t x y, a 5 (by omega) (by omega) t x y, a 6 (by omega) (by omega) t x y, a 7 (by omega) (by omega) t x y⟩)
    · rw [a1]
      refine ⟨?_, ?_, fun M x y => ?_⟩
      · rw [a10 0 (by omega) (by omega)]; exact h1.2.1
      · rw [a10 5 (by omega) (by omega)]; exact h1.2.2.1
      · rw [a10 M (by omega) (by omega), a10 (M + 1) (by omega) (by omega)]; exact h1.2.2.2 M x y
  have eO : sameO (cSz c) (cO c 19) (cO c' 19) := by
    intro M k k0 k1 k2 k3
    have q := h1.2.at k0 k1
    have q3 : k < c 10 (M + 1) - c 10 M := k3
    show _ = c' 19 (c' 10 M + k)
    rw [a10 _ (by omega) (by omega), a19 _ (by omega) (by omega)]
    rfl
  have eM : sameO (cSz c) (mO m) (mO m') := by
    intro M k k0 k1 k2 k3
    have q := h2.2 M k0 k1
    have q2 := h6 M k0 k1
    exact (b90 _ (by omega) (by omega)).symm
  refine ⟨⟨hc, ⟨?_, fun M x y => ?_⟩, ?_, ?_, fun t x y => ?_, fun M x y => ?_⟩, ⟨?_, ?_⟩, fun t x y => ?_, fun M x y => ?_⟩
  · rw [b0, b1]
    exact h2.1.range (fun t x y => ⟨b 86 (by omega) (by omega) t x y, b 87 (by omega) (by omega) t x y, b 88 (by omega) (by omega) t x y, b 89 (by omega) (by omega) t x y⟩)
  · rw [b91 M x y]; exact h2.2 M x y
  · rw [a0, b0]; exact h3
  · rw [a1, b1]; exact h4
  · rw [a1] at y
    rw [b 86 (by omega) (by omega) t x (by omega), b 87 (by omega) (by omega) t x (by omega), b 88 (by omega) (by omega) t x (by omega), b 89 (by omega) (by omega) t x (by omega), a 4 (by omega) (by omega) t x (by omega), a 5 (by omega) (by omega) t x (by omega), a 6 (by omega) (by omega) t x (by omega), a 7 (by omega) (by omega) t x (by omega)]
    exact h5 t x y
  · rw [b91 M x y, eS M x y]; exact h6 M x y
  · rw [a1]
    exact (h7.same h1.mach eO).conv h1.mach rfl (fun t x y => a 6 (by omega) (by omega) t x (by omega)) eS
  · intro M k k0 k1 k2 k3
    rw [eS M k0 k1] at k3
    rw [← eO M k k0 k1 k2 k3, ← eM M k k0 k1 k2 k3]
    exact h8 M k k0 k1 k2 k3
  · rw [a1] at y
    have r := h9 t x y
    rw [a 8 (by omega) (by omega) t x (by omega), a 9 (by omega) (by omega) t x (by omega), a 5 (by omega) (by omega) t x (by omega)]
    have ej : jN (c' 3 1) (c' 4) t = jN (c 3 1) (c 4) t := by
      unfold jN
      rw [a1]
      by_cases z : c 3 1 ≤ t + 1
      · rw [if_pos z, if_pos z]
      · rw [if_neg z, if_neg z, a 4 (by omega) (by omega) t x (by omega), a 4 (by omega) (by omega) (t + 1) (by omega) (by omega)]
    rw [ej]
    refine ⟨r.1.trans ?_, r.2.trans ?_⟩
    · by_cases z : c 5 t ≤ 0
      · rw [if_pos z, if_pos z]
      · have w := (h1.1.2.2.2.1 t x y).2 (by omega)
        rw [if_neg z, if_neg z, a 8 (by omega) (by omega) _ (by omega) (by omega), a 7 (by omega) (by omega) _ (by omega) (by omega)]
    · by_cases z : jN (c 3 1) (c 4) t < 0
      · rw [if_pos z, if_pos z]
      · have w : t + 1 < c 3 1 := by
          rcases jN_cases (n := c 3 1) (job := c 4) t with ⟨-, w⟩ | ⟨w, -⟩
          · omega
          · exact w
        rw [if_neg z, if_neg z, a 9 (by omega) (by omega) _ (by omega) (by omega), a 7 (by omega) (by omega) _ (by omega) (by omega)]
  · rw [eS M x y, a1, h10 M x y]
    refine cntB_congr _ (fun i hi => ?_)
    rw [a 6 (by omega) (by omega) i (by omega) (by omega)]
/-! starts anew -/
def anewC (h g : aH) : Prop := (∀ k, k ≠ 0 → (k < 20 ∨ 28 < k) → (k < 38 ∨ 42 < k) → k ≠ 44 → k ≠ 46 → k ≠ 72 → k ≠ 73 → g k = h k) ∧ g 0 15 = -1 ∧ (∀ i, i ≠ 15 → g 0 i = h 0 i) ∧ g 42 1 = 0 ∧ g 42 2 = h 42 2 ∧ g 44 1 = 0 ∧ g 44 2 = 0 ∧ (∀ x, 0 ≤ x → x < 24 → g 46 x = h 19 x) ∧ (∀ M, 0 ≤ M → M < 5 → g 72 M = -1) ∧ g 73 1 = 0
def anewM (m m' : aH) : Prop := (∀ k, k ≠ 85 → k ≠ 96 → m' k = m k) ∧ (∀ i, i ≠ 18 → i ≠ 19 → i ≠ 36 → i ≠ 37 → m' 85 i = m 85 i) ∧ m' 85 18 = 0 ∧ m' 85 19 = 0 ∧ m' 85 36 = 0 ∧ m' 85 37 = 0 ∧ ∀ x, 0 ≤ x → x < 120 → m' 96 x = m 90 x
theorem r_aForget {h : aH} {Q : aQ} (k : ∀ g, (∀ c, c ≠ 72 → g c = h c) → (∀ M, 0 ≤ M → M < 5 → g 72 M = -1) → Q 0 g) : aRun mX0_forget 0 [aR 69] h Q := by
  refine e_X0_forget ?_
  suffices H : ∀ (d : Nat) (i : Int) (g : aH), 0 ≤ i → i ≤ 5 → 5 - i ≤ d → (∀ c, c ≠ 72 → g c = h c) → (∀ M, 0 ≤ M → M < i → g 72 M = -1) → AW mX0_forget 0 2 [some (aR 69), some (aI i)] [] g Q from
    H 5 0 h (by omega) (by omega) (by omega) (fun _ _ => rfl) (fun M a b => by omega)
  intro d
  induction d with
  | zero =>
    intro i g i0 i1 hd f1 f2
    exact s_X0_forget_2 ⟨fun _ => k g f1 (fun M a b => f2 M a (by omega)), fun z => by omega⟩
  | succ d ih =>
    intro i g i0 i1 hd f1 f2
    refine s_X0_forget_2 ⟨fun _ => k g f1 (fun M a b => f2 M a (by omega)), fun z => ⟨by omega, by unfold inR; omega, ih (i + 1) _ (by omega) (by omega) (by omega) (fun c c1 => (a_up_ne c1).trans (f1 c c1)) (fun M a b => ?_)⟩⟩
    by_cases e : M = i
    · rw [e, a_up_eq]
    · rw [a_up_off e]; exact f2 M a (by omega)
theorem r_startAnew {h : aH} {Q : aQ} (hs : cShop h) (hn : 0 < h 3 1) (ho : okOrd (h 3 1) (h 6) (cSz h) (cO h 19)) (k : ∀ g, anewC h g → Settled g → Q 0 g) : aRun mX9_startAnew 4 [aR 0] h Q := by
  refine e_X9_startAnew (r_aForget (fun g1 f1 f2 => ?_))
  generalize hG : a_up (a_up (a_cp (a_up (a_up h 44 1 0) 44 2 0) 19 0 46 0 24) 42 1 0) 0 15 (-1) = G at f1
  have G1 : ∀ k, k ≠ 0 → k ≠ 42 → k ≠ 46 → k ≠ 44 → G k = h k := fun k k1 k2 k3 k4 => by rw [← hG, a_up_ne k1, a_up_ne k2, a_cp_ne k3, a_up_ne k4, a_up_ne k4]
  have a : ∀ j, 3 ≤ j → j ≤ 10 → a_up g1 73 1 0 j = h j := fun j j1 j2 => (a_up_ne (by omega)).trans ((f1 j (by omega)).trans (G1 j (by omega) (by omega) (by omega) (by omega)))
  have e19 : a_up g1 73 1 0 19 = h 19 := (a_up_ne (by omega)).trans ((f1 19 (by omega)).trans (G1 19 (by omega) (by omega) (by omega) (by omega)))
  refine r_settle (hs.congr a) (by rw [a 3 (by omega) (by omega)]; exact hn) (cOrd.congr ho a e19) (fun g f S => k g ⟨fun j j0 j1 j2 j3 j4 j5 j6 => ?_, ?_, fun i i1 => ?_, ?_, ?_, ?_, ?_, fun x x0 x1 => ?_, fun M M0 M1 => ?_, ?_⟩ S)
  · rw [f j j1 (by omega), a_up_ne j6, f1 j j5, G1 j j0 (by omega) j4 j3]
  · rw [f 0 (by omega) (by omega), a_up_ne (by omega), f1 0 (by omega), ← hG, a_up_eq]
  · rw [f 0 (by omega) (by omega), a_up_ne (by omega), f1 0 (by omega), ← hG, a_up_off i1, a_up_ne (by omega), a_cp_ne (by omega), a_up_ne (by omega), a_up_ne (by omega)]
  · rw [f 42 (by omega) (by omega), a_up_ne (by omega), f1 42 (by omega), ← hG, a_up_ne (by omega), a_up_eq]
  · rw [f 42 (by omega) (by omega), a_up_ne (by omega), f1 42 (by omega), ← hG, a_up_ne (by omega), a_up_off (by omega), a_cp_ne (by omega), a_up_ne (by omega), a_up_ne (by omega)]
  · rw [f 44 (by omega) (by omega), a_up_ne (by omega), f1 44 (by omega), ← hG, a_up_ne (by omega), a_up_ne (by omega), a_cp_ne (by omega), a_up_off (by omega), a_up_eq]
  · rw [f 44 (by omega) (by omega), a_up_ne (by omega), f1 44 (by omega), ← hG, a_up_ne (by omega), a_up_ne (by omega), a_cp_ne (by omega), a_up_eq]
  · rw [f 46 (by omega) (by omega), a_up_ne (by omega), f1 46 (by omega), ← hG, a_up_ne (by omega), a_up_ne (by omega), a_cp_at, if_pos (by omega), a_up_ne (by omega), a_up_ne (by omega)]
    congr 1; omega
  · rw [f 72 (by omega) (by omega), a_up_ne (by omega)]; exact f2 M M0 M1
  · rw [f 73 (by omega) (by omega), a_up_eq]
theorem r_begins {h : aH} {Q : aQ} (k : ∀ g, anewM h g → Q 0 g) : aRun mX10_begins 1 [aR 85] h Q := by
  refine e_X10_begins ?_
  have e : a_up (a_up h 85 18 0) 85 19 0 85 18 = 0 := by rw [a_up_off (by omega), a_up_eq]
  refine r_lays (by rw [e]; omega) ?_
  rw [e]
  refine k _ ⟨fun j j1 j2 => ?_, fun i i1 i2 i3 i4 => ?_, ?_, ?_, ?_, ?_, fun x x0 x1 => ?_⟩
  · rw [a_up_ne j1, a_up_ne j1, a_cp_ne j2, a_up_ne j1, a_up_ne j1]
  · rw [a_up_off i4, a_up_off i3, a_cp_ne (by omega), a_up_off i2, a_up_off i1]
  · rw [a_up_off (by omega), a_up_off (by omega), a_cp_ne (by omega), a_up_off (by omega), a_up_eq]
  · rw [a_up_off (by omega), a_up_off (by omega), a_cp_ne (by omega), a_up_eq]
  · rw [a_up_off (by omega), a_up_eq]
  · rw [a_up_eq]
  · rw [a_up_ne (by omega), a_up_ne (by omega), a_cp_at, if_pos (by omega), a_up_ne (by omega), a_up_ne (by omega)]
    congr 1; omega
theorem Sim.anew {c m c' m' : aH} (hn : 0 < c 3 1) (hT : sTape c m) (hS : sS c m) (hI : sImg c m) (hk : 0 ≤ c 42 2 ∧ c 42 2 ≤ 9 ∧ m 85 34 = c 42 2) (x : anewC c c') (S : Settled c') (y : anewM m m') : Sim c' m' := by
  obtain ⟨x1, x2, x3, x4, x5, x6, x7, x8, x9, x10⟩ := x
  obtain ⟨y1, y2, y3, y4, y5, y6, y7⟩ := y
  have a : ∀ k, 3 ≤ k → k ≤ 10 → c' k = c k := fun k k1 k2 => x1 k (by omega) (by omega) (by omega) (by omega) (by omega) (by omega) (by omega)
  have e19 : c' 19 = c 19 := x1 19 (by omega) (by omega) (by omega) (by omega) (by omega) (by omega) (by omega)
  have hS' : sS c' m' := hS.congr a e19 (y2 0 (by omega) (by omega) (by omega) (by omega)) (y2 1 (by omega) (by omega) (by omega) (by omega)) (fun k k1 k2 => y1 k (by omega) (by omega))
  have row : sameO (cSz c) (cO c 19) (cO c' 46) := by
    intro M k k0 k1 k2 k3
    have q := hS.1.1.2.at k0 k1
    have q2 := hS.1.1.1.1
    have q3 : k < c 10 (M + 1) - c 10 M := k3
    show _ = c' 46 (c' 10 M + k)
    rw [a 10 (by omega) (by omega), x8 _ (by omega) (by omega)]
    rfl
  have eS : cSz c' = cSz c := by unfold cSz; rw [a 10 (by omega) (by omega)]
  have eO : cO c' 19 = cO c 19 := by unfold cO; rw [a 10 (by omega) (by omega), e19]
  refine ⟨?_, hS', fun _ => S, ?_, Or.inl ⟨x2, y6⟩, ⟨by omega, by omega, by omega, fun j hj => ?_⟩, ⟨?_, fun _ => by rw [a 3 (by omega) (by omega)]; exact hn⟩, ?_, fun M M0 M1 => Or.inl (x9 M M0 M1), Or.inl x10⟩
  · exact hT.congr (congrFun (x1 1 (by omega) (by omega) (by omega) (by omega) (by omega) (by omega) (by omega)) 1) (x1 2 (by omega) (by omega) (by omega) (by omega) (by omega) (by omega) (by omega)) (y2 9 (by omega) (by omega) (by omega) (by omega)) (y1 92 (by omega) (by omega))
  · refine ⟨[], ⟨by rw [x4]; rfl, fun i hi => absurd hi (by simp)⟩, ⟨by rw [y5]; rfl, fun i hi => absurd hi (by simp)⟩, by omega, ?_, by omega, by omega⟩
    rw [y2 34 (by omega) (by omega) (by omega) (by omega), x5]
    exact hk.2.2
  · have ej : j = 0 := by omega
    subst ej
    rw [a 3 (by omega) (by omega), a 6 (by omega) (by omega), eS]
    refine ⟨hS.2.1.1.same hS.1.1.mach row, fun M k k0 k1 k2 k3 => ?_⟩
    have q := hS.1.2.1.2 M k0 k1
    have q2 := hS.1.2.2.2.2.2 M k0 k1
    show cO c' 46 M k = m' 96 (120 * ((0 : Nat) : Int) + (24 * M + k))
    rw [← row M k k0 k1 k2 k3, show 120 * ((0 : Nat) : Int) + (24 * M + k) = 24 * M + k by omega, y7 _ (by omega) (by omega)]
    exact hS.2.1.2 M k k0 k1 k2 k3
  · rw [eS, eO, x6]
    exact row
  · exact hI.congr (fun k k1 k2 => x1 k (by omega) (by omega) (by omega) (by omega) (by omega) (by omega) (by omega)) (y2 51 (by omega) (by omega) (by omega) (by omega)) (y1 115 (by omega) (by omega))
/-! the reference's image: rows pass by -/
theorem r_passK {r n br : Nat} (hr : a_T[r]? = some (.inl (0, n, br))) (hr0 : r ≠ 85 ∧ r ≠ 115) {h : aH} {Q : aQ} (hk : h 85 53 = 1) (hc : 0 ≤ h 85 52 ∧ h 85 52 + n ≤ 223) (k : ∀ g, (∀ c, c ≠ 85 → c ≠ 115 → g c = h c) → (∀ i, i ≠ 52 → g 85 i = h 85 i) → g 85 52 = h 85 52 + n → (∀ x, g 115 x = if h 85 52 ≤ x ∧ x < h 85 52 + n then h r (x - h 85 52) else h 115 x) → Q 0 g) : aRun mX10_passesRow 1 [aR 85, aR r] h Q := by
  refine e_X10_passesRow hr ?_
  suffices H : ∀ (d : Nat) (i : Int) (g : aH), 0 ≤ i → i ≤ n → n - i ≤ d → (∀ c, c ≠ 85 → c ≠ 115 → g c = h c) → (∀ j, j ≠ 52 → g 85 j = h 85 j) → g 85 52 = h 85 52 + i → (∀ x, g 115 x = if h 85 52 ≤ x ∧ x < h 85 52 + i then h r (x - h 85 52) else h 115 x) → AW mX10_passesRow 1 2 [some (aR 85), some (aR r), some (aI i)] [] g Q from
    H n 0 h (by omega) (by omega) (by omega) (fun _ _ _ => rfl) (fun _ _ => rfl) (by omega) (fun x => by rw [if_neg (by omega)])
  intro d
  induction d with
  | zero =>
    intro i g i0 i1 hd f1 f2 f3 f4
    have e : i = n := by omega
    rw [e] at f3 f4
    exact s_X10_passesRow_2 hr ⟨by unfold inR; omega, fun _ => k g f1 f2 f3 f4, fun z => by omega⟩
  | succ d ih =>
    intro i g i0 i1 hd f1 f2 f3 f4
    by_cases e : i = n
    · rw [e] at f3 f4
      exact s_X10_passesRow_2 hr ⟨by unfold inR; omega, fun _ => k g f1 f2 f3 f4, fun z => by omega⟩
    have e53 : g 85 53 = 1 := (f2 53 (by omega)).trans hk
    refine s_X10_passesRow_2 hr ⟨by unfold inR; omega, fun z => by omega, fun z => ⟨by omega, ⟨fun w => by omega, by omega, by unfold inR; omega⟩, by unfold inR; omega, ?_⟩⟩
    rw [if_neg (show ¬ g 85 53 = 0 by omega), f3]
    have er : g r = h r := f1 r hr0.1 hr0.2
    refine ih (i + 1) _ (by omega) (by omega) (by omega) (fun c c1 c2 => ?_) (fun j j1 => ?_) ?_ (fun x => ?_)
    · by_cases c3 : c = r
      · rw [c3]
        funext x
        by_cases x1 : x = i
        · rw [x1, a_up_eq, er]
        · rw [a_up_off x1, a_up_ne hr0.1, a_up_ne hr0.2, er]
      · rw [a_up_ne c3, a_up_ne c1, a_up_ne c2]; exact f1 c c1 c2
    · rw [a_up_ne (fun q => hr0.1 q.symm), a_up_off j1, a_up_ne (by omega)]; exact f2 j j1
    · rw [a_up_ne (fun q => hr0.1 q.symm), a_up_eq]; omega
    · rw [a_up_ne (fun q => hr0.2 q.symm), a_up_ne (by omega), a_up_at]
      by_cases x1 : x = h 85 52 + i
      · rw [if_pos x1, if_pos (by omega), er]
        congr 1; omega
      · rw [if_neg x1, f4 x]
        by_cases x2 : h 85 52 ≤ x ∧ x < h 85 52 + i
        · rw [if_pos x2, if_pos (by omega)]
        · rw [if_neg x2, if_neg (by omega)]
theorem r_passL {r n br : Nat} (hr : a_T[r]? = some (.inl (0, n, br))) (hr0 : r ≠ 85 ∧ r ≠ 115) {h : aH} {Q : aQ} (hk : h 85 53 = 0) (hc : 0 ≤ h 85 52 ∧ h 85 52 + n ≤ 223) (k : ∀ g, (∀ c, c ≠ 85 → c ≠ r → g c = h c) → (∀ i, i ≠ 52 → g 85 i = h 85 i) → g 85 52 = h 85 52 + n → (∀ x : Int, 0 ≤ x → x < n → g r x = h 115 (h 85 52 + x)) → Q 0 g) : aRun mX10_passesRow 1 [aR 85, aR r] h Q := by
  refine e_X10_passesRow hr ?_
  suffices H : ∀ (d : Nat) (i : Int) (g : aH), 0 ≤ i → i ≤ n → n - i ≤ d → (∀ c, c ≠ 85 → c ≠ r → g c = h c) → (∀ j, j ≠ 52 → g 85 j = h 85 j) → g 85 52 = h 85 52 + i → (∀ x, 0 ≤ x → x < i → g r x = h 115 (h 85 52 + x)) → AW mX10_passesRow 1 2 [some (aR 85), some (aR r), some (aI i)] [] g Q from
    H n 0 h (by omega) (by omega) (by omega) (fun _ _ _ => rfl) (fun _ _ => rfl) (by omega) (fun x a b => by omega)
  intro d
  induction d with
  | zero =>
    intro i g i0 i1 hd f1 f2 f3 f4
    have e : i = n := by omega
    rw [e] at f3 f4
    exact s_X10_passesRow_2 hr ⟨by unfold inR; omega, fun _ => k g f1 f2 f3 f4, fun z => by omega⟩
  | succ d ih =>
    intro i g i0 i1 hd f1 f2 f3 f4
    by_cases e : i = n
    · rw [e] at f3 f4
      exact s_X10_passesRow_2 hr ⟨by unfold inR; omega, fun _ => k g f1 f2 f3 f4, fun z => by omega⟩
    have e53 : g 85 53 = 0 := (f2 53 (by omega)).trans hk
    refine s_X10_passesRow_2 hr ⟨by unfold inR; omega, fun z => by omega, fun z => ⟨by omega, ⟨fun w => by omega, by omega, by unfold inR; omega⟩, by unfold inR; omega, ?_⟩⟩
    rw [if_pos e53, f3]
    have e115 : g 115 = h 115 := f1 115 (by omega) (fun q => hr0.2 q.symm)
    refine ih (i + 1) _ (by omega) (by omega) (by omega) (fun c c1 c2 => ?_) (fun j j1 => ?_) ?_ (fun x x0 x1 => ?_)
    · rw [a_up_ne c2, a_up_ne c1]
      by_cases c3 : c = 115
      · rw [c3]
        funext x
        by_cases x1 : x = h 85 52 + i
        · rw [x1, a_up_eq, e115]
        · rw [a_up_off x1, e115]
      · rw [a_up_ne c3]; exact f1 c c1 c2
    · rw [a_up_ne (fun q => hr0.1 q.symm), a_up_off j1, a_up_ne (by omega)]; exact f2 j j1
    · rw [a_up_ne (fun q => hr0.1 q.symm), a_up_eq]; omega
    · by_cases x2 : x = i
      · rw [x2, a_up_eq, e115]
      · rw [a_up_off x2, a_up_ne hr0.1, a_up_ne hr0.2]
        exact f4 x x0 (by omega)
theorem r_passAK {h : aH} {Q : aQ} (k : ∀ g, (∀ c, c ≠ 85 → c ≠ 115 → g c = h c) → (∀ i, i ≠ 52 → i ≠ 53 → g 85 i = h 85 i) → g 115 0 = h 85 0 → g 115 1 = h 85 1 → (∀ x, 0 ≤ x → x < 5 → g 115 (2 + x) = h 91 x) → (∀ x, 0 ≤ x → x < 24 → g 115 (7 + x) = h 86 x ∧ g 115 (31 + x) = h 87 x ∧ g 115 (55 + x) = h 88 x ∧ g 115 (79 + x) = h 89 x) → (∀ x, 0 ≤ x → x < 120 → g 115 (103 + x) = h 90 x) → Q 0 g) : aRun mX10_passesAll 2 [aR 85, aI 1] h Q := by
  refine e_X10_passesAll ⟨Or.inr rfl, ?_⟩
  generalize h0 : a_up (a_up h 85 53 1) 85 52 0 = g0
  have a1 : ∀ c, c ≠ 85 → g0 c = h c := fun c c1 => by rw [← h0, a_up_ne c1, a_up_ne c1]
  have a2 : ∀ i, i ≠ 52 → i ≠ 53 → g0 85 i = h 85 i := fun i i1 i2 => by rw [← h0, a_up_off i1, a_up_off i2]
  have a3 : g0 85 52 = 0 := by rw [← h0, a_up_eq]
  have a4 : g0 85 53 = 1 := by rw [← h0, a_up_off (by omega), a_up_eq]
  refine p_X10_passes ⟨fun w => by omega, by omega, by unfold inR; omega⟩ ?_
  rw [if_neg (by omega), a3]
  generalize h1 : a_up (a_up (a_up g0 115 0 (h 85 0)) 85 52 (0 + 1)) 85 0 (h 85 0) = g1
  have b0 : a_up (a_up g0 115 0 (h 85 0)) 85 52 (0 + 1) 85 1 = h 85 1 := by rw [a_up_off (by omega), a_up_ne (by omega)]; exact a2 1 (by omega) (by omega)
  rw [b0]
  have b1 : ∀ c, c ≠ 85 → c ≠ 115 → g1 c = h c := fun c c1 c2 => by rw [← h1, a_up_ne c1, a_up_ne c1, a_up_ne c2]; exact a1 c c1
  have b2 : ∀ i, i ≠ 52 → i ≠ 53 → g1 85 i = h 85 i := fun i i1 i2 => by
    rw [← h1]
    by_cases e : i = 0
    · rw [e, a_up_eq]
    · rw [a_up_off e, a_up_off i1, a_up_ne (by omega)]; exact a2 i i1 i2
  have b3 : g1 85 52 = 1 := by rw [← h1, a_up_off (by omega), a_up_eq]; rfl
  have b4 : g1 85 53 = 1 := by rw [← h1, a_up_off (by omega), a_up_off (by omega), a_up_ne (by omega)]; exact a4
  have b5 : g1 115 0 = h 85 0 := by rw [← h1, a_up_ne (by omega), a_up_ne (by omega), a_up_eq]
  refine p_X10_passes ⟨fun w => by omega, by omega, by unfold inR; omega⟩ ?_
  rw [if_neg (by omega), b3]
  generalize h2 : a_up (a_up (a_up g1 115 1 (h 85 1)) 85 52 (1 + 1)) 85 1 (h 85 1) = g2
  have c1 : ∀ c, c ≠ 85 → c ≠ 115 → g2 c = h c := fun c c1 c2 => by rw [← h2, a_up_ne c1, a_up_ne c1, a_up_ne c2]; exact b1 c c1 c2
  have c2 : ∀ i, i ≠ 52 → i ≠ 53 → g2 85 i = h 85 i := fun i i1 i2 => by
    rw [← h2]
    by_cases e : i = 1
    · rw [e, a_up_eq]
    · rw [a_up_off e, a_up_off i1, a_up_ne (by omega)]; exact b2 i i1 i2
  have c3 : g2 85 52 = 2 := by rw [← h2, a_up_off (by omega), a_up_eq]; rfl
  have c4 : g2 85 53 = 1 := by rw [← h2, a_up_off (by omega), a_up_off (by omega), a_up_ne (by omega)]; exact b4
  have c5 : g2 115 0 = h 85 0 := by rw [← h2, a_up_ne (by omega), a_up_ne (by omega), a_up_off (by omega)]; exact b5
  have c6 : g2 115 1 = h 85 1 := by rw [← h2, a_up_ne (by omega), a_up_ne (by omega), a_up_eq]
  refine r_passK sh_91 (by omega) c4 (by omega) (fun g3 d1 d2 d3 d5 => ?_)
  refine r_passK sh_86 (by omega) ((d2 53 (by omega)).trans c4) (by omega) (fun g4 e1 e2 e3 e5 => ?_)
  refine r_passK sh_87 (by omega) ((e2 53 (by omega)).trans ((d2 53 (by omega)).trans c4)) (by omega) (fun g5 f1 f2 f3 f5 => ?_)
  refine r_passK sh_88 (by omega) ((f2 53 (by omega)).trans ((e2 53 (by omega)).trans ((d2 53 (by omega)).trans c4))) (by omega) (fun g6 i1 i2 i3 i5 => ?_)
  refine r_passK sh_89 (by omega) ((i2 53 (by omega)).trans ((f2 53 (by omega)).trans ((e2 53 (by omega)).trans ((d2 53 (by omega)).trans c4)))) (by omega) (fun g7 j1 j2 j3 j5 => ?_)
  refine r_passK sh_90 (by omega) ((j2 53 (by omega)).trans ((i2 53 (by omega)).trans ((f2 53 (by omega)).trans ((e2 53 (by omega)).trans ((d2 53 (by omega)).trans c4))))) (by omega) (fun g8 k1 k2 k3 k5 => ?_)
  rw [c3] at d3 d5
  rw [d3] at e3 e5
  rw [e3] at f3 f5
  rw [f3] at i3 i5
  rw [i3] at j3 j5
  rw [j3] at k3 k5
  have t3 : ∀ c, c ≠ 85 → c ≠ 115 → g3 c = h c := fun c x y => (d1 c x y).trans (c1 c x y)
  have t4 : ∀ c, c ≠ 85 → c ≠ 115 → g4 c = h c := fun c x y => (e1 c x y).trans (t3 c x y)
  have t5 : ∀ c, c ≠ 85 → c ≠ 115 → g5 c = h c := fun c x y => (f1 c x y).trans (t4 c x y)
  have t6 : ∀ c, c ≠ 85 → c ≠ 115 → g6 c = h c := fun c x y => (i1 c x y).trans (t5 c x y)
  have t7 : ∀ c, c ≠ 85 → c ≠ 115 → g7 c = h c := fun c x y => (j1 c x y).trans (t6 c x y)
  refine k g8 (fun c x y => (k1 c x y).trans (t7 c x y)) (fun i x y => (k2 i x).trans ((j2 i x).trans ((i2 i x).trans ((f2 i x).trans ((e2 i x).trans ((d2 i x).trans (c2 i x y))))))) ?_ ?_ (fun x x0 x1 => ?_) (fun x x0 x1 => ⟨?_, ?_, ?_, ?_⟩) (fun x x0 x1 => ?_)
  · rw [k5, if_neg (by omega), j5, if_neg (by omega), i5, if_neg (by omega), f5, if_neg (by omega), e5, if_neg (by omega), d5, if_neg (by omega)]; exact c5
  · rw [k5, if_neg (by omega), j5, if_neg (by omega), i5, if_neg (by omega), f5, if_neg (by omega), e5, if_neg (by omega), d5, if_neg (by omega)]; exact c6
  · rw [k5, if_neg (by omega), j5, if_neg (by omega), i5, if_neg (by omega), f5, if_neg (by omega), e5, if_neg (by omega), d5, if_pos (by omega), c1 91 (by omega) (by omega)]; congr 1; omega
  · rw [k5, if_neg (by omega), j5, if_neg (by omega), i5, if_neg (by omega), f5, if_neg (by omega), e5, if_pos (by omega), t3 86 (by omega) (by omega)]; congr 1; omega
  · rw [k5, if_neg (by omega), j5, if_neg (by omega), i5, if_neg (by omega), f5, if_pos (by omega), t4 87 (by omega) (by omega)]; congr 1; omega
  · rw [k5, if_neg (by omega), j5, if_neg (by omega), i5, if_pos (by omega), t5 88 (by omega) (by omega)]; congr 1; omega
  · rw [k5, if_neg (by omega), j5, if_pos (by omega), t6 89 (by omega) (by omega)]; congr 1; omega
  · rw [k5, if_pos (by omega), t7 90 (by omega) (by omega)]; congr 1; omega
theorem r_passAL {h : aH} {Q : aQ} (k : ∀ g, (∀ c, c ≠ 85 → (c < 86 ∨ 91 < c) → g c = h c) → (∀ i, i ≠ 0 → i ≠ 1 → i ≠ 52 → i ≠ 53 → g 85 i = h 85 i) → g 85 0 = h 115 0 → g 85 1 = h 115 1 → (∀ x, 0 ≤ x → x < 5 → g 91 x = h 115 (2 + x)) → (∀ x, 0 ≤ x → x < 24 → g 86 x = h 115 (7 + x) ∧ g 87 x = h 115 (31 + x) ∧ g 88 x = h 115 (55 + x) ∧ g 89 x = h 115 (79 + x)) → (∀ x, 0 ≤ x → x < 120 → g 90 x = h 115 (103 + x)) → Q 0 g) : aRun mX10_passesAll 2 [aR 85, aI 0] h Q := by
  refine e_X10_passesAll ⟨Or.inl rfl, ?_⟩
  generalize h0 : a_up (a_up h 85 53 0) 85 52 0 = g0
  have a1 : ∀ c, c ≠ 85 → g0 c = h c := fun c c1 => by rw [← h0, a_up_ne c1, a_up_ne c1]
  have a2 : ∀ i, i ≠ 52 → i ≠ 53 → g0 85 i = h 85 i := fun i i1 i2 => by rw [← h0, a_up_off i1, a_up_off i2]
  have a3 : g0 85 52 = 0 := by rw [← h0, a_up_eq]
  have a4 : g0 85 53 = 0 := by rw [← h0, a_up_off (by omega), a_up_eq]
  have up_id : ∀ (g : aH) (i : Int), a_up g 115 i (g 115 i) = g := fun g i => by
    funext c x
    by_cases e : c = 115
    · rw [e]
      by_cases y : x = i
      · rw [y, a_up_eq]
      · rw [a_up_off y]
    · rw [a_up_ne e]
  refine p_X10_passes ⟨fun w => by omega, by omega, by unfold inR; omega⟩ ?_
  rw [if_pos a4, up_id, a3, a1 115 (by omega)]
  generalize h1 : a_up (a_up g0 85 52 (0 + 1)) 85 0 (h 115 0) = g1
  have b1 : ∀ c, c ≠ 85 → g1 c = h c := fun c c1 => by rw [← h1, a_up_ne c1, a_up_ne c1]; exact a1 c c1
  have b2 : ∀ i, i ≠ 0 → i ≠ 52 → i ≠ 53 → g1 85 i = h 85 i := fun i i0 i1 i2 => by
    rw [← h1, a_up_off i0, a_up_off i1]; exact a2 i i1 i2
  have b3 : g1 85 52 = 1 := by rw [← h1, a_up_off (by omega), a_up_eq]; rfl
  have b4 : g1 85 53 = 0 := by rw [← h1, a_up_off (by omega), a_up_off (by omega)]; exact a4
  have b5 : g1 85 0 = h 115 0 := by rw [← h1, a_up_eq]
  refine p_X10_passes ⟨fun w => by omega, by omega, by unfold inR; omega⟩ ?_
  rw [if_pos b4, up_id, b3, b1 115 (by omega)]
  generalize h2 : a_up (a_up g1 85 52 (1 + 1)) 85 1 (h 115 1) = g2
  have c1 : ∀ c, c ≠ 85 → g2 c = h c := fun c c1 => by rw [← h2, a_up_ne c1, a_up_ne c1]; exact b1 c c1
  have c2 : ∀ i, i ≠ 0 → i ≠ 1 → i ≠ 52 → i ≠ 53 → g2 85 i = h 85 i := fun i i0 i01 i1 i2 => by
    rw [← h2, a_up_off i01, a_up_off i1]; exact b2 i i0 i1 i2
  have c3 : g2 85 52 = 2 := by rw [← h2, a_up_off (by omega), a_up_eq]; rfl
  have c4 : g2 85 53 = 0 := by rw [← h2, a_up_off (by omega), a_up_off (by omega)]; exact b4
  have c5 : g2 85 0 = h 115 0 := by rw [← h2, a_up_off (by omega), a_up_off (by omega)]; exact b5
  have c6 : g2 85 1 = h 115 1 := by rw [← h2, a_up_eq]
  refine r_passL sh_91 (by omega) c4 (by omega) (fun g3 d1 d2 d3 d5 => ?_)
  refine r_passL sh_86 (by omega) ((d2 53 (by omega)).trans c4) (by omega) (fun g4 e1 e2 e3 e5 => ?_)
  refine r_passL sh_87 (by omega) ((e2 53 (by omega)).trans ((d2 53 (by omega)).trans c4)) (by omega) (fun g5 f1 f2 f3 f5 => ?_)
  refine r_passL sh_88 (by omega) ((f2 53 (by omega)).trans ((e2 53 (by omega)).trans ((d2 53 (by omega)).trans c4))) (by omega) (fun g6 i1 i2 i3 i5 => ?_)
  refine r_passL sh_89 (by omega) ((i2 53 (by omega)).trans ((f2 53 (by omega)).trans ((e2 53 (by omega)).trans ((d2 53 (by omega)).trans c4)))) (by omega) (fun g7 j1 j2 j3 j5 => ?_)
  refine r_passL sh_90 (by omega) ((j2 53 (by omega)).trans ((i2 53 (by omega)).trans ((f2 53 (by omega)).trans ((e2 53 (by omega)).trans ((d2 53 (by omega)).trans c4))))) (by omega) (fun g8 k1 k2 k3 k5 => ?_)
  rw [c3] at d3 d5
  rw [d3] at e3 e5
  rw [e3] at f3 f5
  rw [f3] at i3 i5
  rw [i3] at j3 j5
  rw [j3] at k3 k5
  have m3 : g3 115 = h 115 := (d1 115 (by omega) (by omega)).trans (c1 115 (by omega))
  have m4 : g4 115 = h 115 := (e1 115 (by omega) (by omega)).trans m3
  have m5 : g5 115 = h 115 := (f1 115 (by omega) (by omega)).trans m4
  have m6 : g6 115 = h 115 := (i1 115 (by omega) (by omega)).trans m5
  have m7 : g7 115 = h 115 := (j1 115 (by omega) (by omega)).trans m6
  refine k g8 (fun c x y => ?_) (fun i w0 w1 x y => (k2 i x).trans ((j2 i x).trans ((i2 i x).trans ((f2 i x).trans ((e2 i x).trans ((d2 i x).trans (c2 i w0 w1 x y))))))) ?_ ?_ (fun x x0 x1 => ?_) (fun x x0 x1 => ⟨?_, ?_, ?_, ?_⟩) (fun x x0 x1 => ?_)
  · rw [k1 c x (by omega), j1 c x (by omega), i1 c x (by omega), f1 c x (by omega), e1 c x (by omega), d1 c x (by omega), c1 c x]
  · rw [k2 0 (by omega), j2 0 (by omega), i2 0 (by omega), f2 0 (by omega), e2 0 (by omega), d2 0 (by omega)]; exact c5
  · rw [k2 1 (by omega), j2 1 (by omega), i2 1 (by omega), f2 1 (by omega), e2 1 (by omega), d2 1 (by omega)]; exact c6
  · rw [k1 91 (by omega) (by omega), j1 91 (by omega) (by omega), i1 91 (by omega) (by omega), f1 91 (by omega) (by omega), e1 91 (by omega) (by omega), d5 x x0 (by omega), c1 115 (by omega)]
  · rw [k1 86 (by omega) (by omega), j1 86 (by omega) (by omega), i1 86 (by omega) (by omega), f1 86 (by omega) (by omega), e5 x x0 (by omega), m3]; congr 1
  · rw [k1 87 (by omega) (by omega), j1 87 (by omega) (by omega), i1 87 (by omega) (by omega), f5 x x0 (by omega), m4]; congr 1
  · rw [k1 88 (by omega) (by omega), j1 88 (by omega) (by omega), i5 x x0 (by omega), m5]; congr 1
  · rw [k1 89 (by omega) (by omega), j5 x x0 (by omega), m6]; congr 1
  · rw [k5 x x0 (by omega), m7]; congr 1
