/-! two neighbours change places, on both sides -/
def sw2 (f : Int → Int) (i : Int) : Int → Int := up1 (up1 f i (f (i + 1))) (i + 1) (f i)
theorem sw2_a {f : Int → Int} {i : Int} : sw2 f i i = f (i + 1) := by unfold sw2; rw [up1_ne (by omega), up1_eq]
theorem sw2_b {f : Int → Int} {i : Int} : sw2 f i (i + 1) = f i := by unfold sw2; rw [up1_eq]
theorem sw2_ne {f : Int → Int} {i j : Int} (h1 : j ≠ i) (h2 : j ≠ i + 1) : sw2 f i j = f j := by unfold sw2; rw [up1_ne h2, up1_ne h1]
theorem sw2_sw2 {f : Int → Int} {i : Int} : sw2 (sw2 f i) i = f := by
  funext j
  by_cases a : j = i
  · rw [a, sw2_a, sw2_b]
  · by_cases b : j = i + 1
    · rw [b, sw2_b, sw2_a]
    · rw [sw2_ne a b, sw2_ne a b]
def setC (h : aH) (c : Nat) (f : Int → Int) : aH := fun c' => if c' = c then f else h c'
theorem setC_eq {h : aH} {c : Nat} {f : Int → Int} : setC h c f c = f := if_pos rfl
theorem setC_ne {h : aH} {c c' : Nat} {f : Int → Int} (hc : c' ≠ c) : setC h c f c' = h c' := if_neg hc
theorem setC_self {h : aH} {c : Nat} : setC h c (h c) = h := by
  funext c'
  by_cases e : c' = c
  · rw [e, setC_eq]
  · rw [setC_ne e]
theorem a_up_sw {h : aH} {c : Nat} {i : Int} : a_up (a_up h c i (h c (i + 1))) c (i + 1) (h c i) = setC h c (sw2 (h c) i) := by
  funext c'
  by_cases e : c' = c
  · subst e
    rw [a_up_fn, a_up_fn, setC_eq]
    rfl
  · rw [a_up_ne e, a_up_ne e, setC_ne e]
theorem r_changePlaces {h : aH} {Q : aQ} {i : Int} (h0 : 0 ≤ i) (h1 : i + 1 < 24) (k : Q 0 (setC h 19 (sw2 (h 19) i))) : aRun mX9_changePlaces 0 [aR 0, aI i] h Q := by
  refine e_X9_changePlaces ⟨fun q => by omega, fun q => ⟨by omega, fun q1 => ⟨by omega, by omega, ?_⟩, fun q1 => absurd h1 q1⟩⟩
  rw [a_up_sw]; exact k
theorem okSlots.mono {n : Int} {s : Int → Int} (h : okSlots n s) {m m' : Int} (a : 0 ≤ m) (b : m < m') (c : m' < 5) : s (m + 1) ≤ s m' := by
  have q := h.le
  have : m = 0 ∨ m = 1 ∨ m = 2 ∨ m = 3 := by omega
  have : m' = 1 ∨ m' = 2 ∨ m' = 3 ∨ m' = 4 := by omega
  rcases ‹m = 0 ∨ _› with rfl | rfl | rfl | rfl <;> rcases ‹m' = 1 ∨ _› with rfl | rfl | rfl | rfl <;> simp only [Int.zero_add, Int.reduceAdd] <;> omega
theorem cO_swap {n : Int} {s row : Int → Int} {M k : Int} (hs : okSlots n s) (hM : 0 ≤ M ∧ M < 5) (hk : 0 ≤ k ∧ k + 1 < s (M + 1) - s M) : sameO (fun m => s (m + 1) - s m) (fun m i => sw2 row (s M + k) (s m + i)) (swO (fun m i => row (s m + i)) M k) := by
  intro m i a b c d
  have d : i < s (m + 1) - s m := d
  show sw2 row (s M + k) (s m + i) = _
  by_cases z : m = M
  · subst z
    by_cases y : i = k
    · rw [y, swO_k, sw2_a]; congr 1; omega
    · by_cases x : i = k + 1
      · rw [x, swO_k1, show s m + (k + 1) = s m + k + 1 by omega, sw2_b]
      · rw [swO_ne (Or.inr ⟨y, x⟩), sw2_ne (by omega) (by omega)]
  · rw [swO_ne (Or.inl z)]
    by_cases y : m < M
    · have := hs.mono a y hM.2
      rw [sw2_ne (by omega) (by omega)]
    · have := hs.mono hM.1 (show M < m by omega) b
      rw [sw2_ne (by omega) (by omega)]
theorem mO_swap {sz row : Int → Int} {M k : Int} (hs : ∀ m, 0 ≤ m → m < 5 → sz m ≤ 24) (hM : 0 ≤ M ∧ M < 5) (hk : 0 ≤ k ∧ k + 1 < sz M) : sameO sz (fun m i => sw2 row (24 * M + k) (24 * m + i)) (swO (fun m i => row (24 * m + i)) M k) := by
  intro m i a b c d
  show sw2 row (24 * M + k) (24 * m + i) = _
  have h1 := hs m a b
  have h2 := hs M hM.1 hM.2
  by_cases z : m = M
  · subst z
    by_cases y : i = k
    · rw [y, swO_k, sw2_a]; congr 1; omega
    · by_cases x : i = k + 1
      · rw [x, swO_k1, show 24 * m + (k + 1) = 24 * m + k + 1 by omega, sw2_b]
      · rw [swO_ne (Or.inr ⟨y, x⟩), sw2_ne (by omega) (by omega)]
  · rw [swO_ne (Or.inl z), sw2_ne (by omega) (by omega)]
/-- valid orders by the same places -/
theorem okOrd.same {n : Int} {mach sz : Int → Int} {o o' : Int → Int → Int} (h : okOrd n mach sz o) (hm : ∀ t, 0 ≤ t → t < n → 0 ≤ mach t ∧ mach t < 5) (hs : sameO sz o o') : okOrd n mach sz o' := by
  refine ⟨fun m k a b c d => ?_, fun m k k' a b c d e f g => ?_, fun t a b => ?_⟩
  · rw [← hs m k a b c d]; exact h.1 m k a b c d
  · rw [← hs m k a b c d, ← hs m k' a b e f] at g; exact h.2.1 m k k' a b c d e f g
  · obtain ⟨k, x, y, z⟩ := h.2.2 t a b
    have := hm t a b
    exact ⟨k, x, y, by rw [← hs _ k this.1 this.2 x y]; exact z⟩
theorem sameO.symm {sz : Int → Int} {o o' : Int → Int → Int} (h : sameO sz o o') : sameO sz o' o := fun m k a b c d => (h m k a b c d).symm
theorem sameO.trans {sz : Int → Int} {o o' o'' : Int → Int → Int} (h : sameO sz o o') (h' : sameO sz o' o'') : sameO sz o o'' := fun m k a b c d => (h m k a b c d).trans (h' m k a b c d)
theorem sameO.swap {sz : Int → Int} {o o' : Int → Int → Int} {M k : Int} (h : sameO sz o o') (hM : 0 ≤ M ∧ M < 5) (hk : 0 ≤ k ∧ k + 1 < sz M) : sameO sz (swO o M k) (swO o' M k) := by
  intro m i a b c d
  by_cases z : m = M
  · subst z
    by_cases y : i = k
    · rw [y, swO_k, swO_k]; exact h m (k + 1) a b (by omega) hk.2
    · by_cases x : i = k + 1
      · rw [x, swO_k1, swO_k1]; exact h m k a b hk.1 (by omega)
      · rw [swO_ne (Or.inr ⟨y, x⟩), swO_ne (Or.inr ⟨y, x⟩)]; exact h m i a b c d
  · rw [swO_ne (Or.inl z), swO_ne (Or.inl z)]; exact h m i a b c d
theorem r_placeOf {h : aH} {Q : aQ} {t : Int} (hs : mShop h) (ho : okOrd (h 85 1) (h 88) (h 91) (mO h)) (ht : 0 ≤ t ∧ t < h 85 1) (k : ∀ i, (0 ≤ i ∧ i < h 91 (h 88 t)) → mO h (h 88 t) i = t → Q i h) : aRun mX10_placeOf 0 [aR 85, aI t] h Q := by
  have hn := hs.1.1
  have hm := hs.mach t ht.1 ht.2
  have hz := hs.2 (h 88 t) hm.1 hm.2
  obtain ⟨j, j0, j1, j2⟩ := ho.2.2 t ht.1 ht.2
  refine e_X10_placeOf ⟨by omega, by omega, ?_⟩
  suffices H : ∀ (d : Nat) (i : Int), 0 ≤ i → i ≤ j → j - i ≤ d → AW mX10_placeOf 0 10 [some (aR 85), some (aI t), some (aI (24 * h 88 t + i))] [] h Q by
    have := H 24 0 (by omega) (by omega) (by omega)
    rw [show 24 * h 88 t + 0 = 24 * h 88 t by omega] at this
    exact this
  have fin : ∀ i, 0 ≤ i → i ≤ j → h 90 (24 * h 88 t + i) = t → (0 ≤ t ∧ t < 24) ∧ inR (24 * h 88 t) ∧ inR (24 * h 88 t + i - 24 * h 88 t) ∧ Q (24 * h 88 t + i - 24 * h 88 t) h := fun i a b c => by
    refine ⟨by omega, by omega, by omega, ?_⟩
    rw [show 24 * h 88 t + i - 24 * h 88 t = i by omega]
    exact k i ⟨a, by omega⟩ c
  intro d
  induction d with
  | zero =>
    intro i i0 i1 hd
    have : i = j := by omega
    subst this
    exact s_X10_placeOf_10 ⟨by omega, fun q => fin i i0 i1 q, fun q => absurd j2 q⟩
  | succ d ih =>
    intro i i0 i1 hd
    refine s_X10_placeOf_10 ⟨by omega, fun q => fin i i0 i1 q, fun q => ⟨by omega, ?_⟩⟩
    have hne : i ≠ j := fun e => q (by rw [e]; exact j2)
    rw [show 24 * h 88 t + i + 1 = 24 * h 88 t + (i + 1) by omega]
    exact ih (i + 1) (by omega) (by omega) (by omega)
/-- a move, by its two tasks in either order of places -/
theorem r_swapsMove {h : aH} {Q : aQ} {a b M i : Int} (hs : mShop h) (ho : okOrd (h 85 1) (h 88) (h 91) (mO h)) (hM : 0 ≤ M ∧ M < 5) (hi : 0 ≤ i ∧ i + 1 < h 91 M) (hab : (a = mO h M i ∧ b = mO h M (i + 1)) ∨ (b = mO h M i ∧ a = mO h M (i + 1))) (k : Q 0 (setC h 90 (sw2 (h 90) (24 * M + i)))) : aRun mX10_swapsMove 1 [aR 85, aI (100 * a + b)] h Q := by
  have hn := hs.1.1
  have q1 := ho.1 M i hM.1 hM.2 hi.1 (by omega)
  have q2 := ho.1 M (i + 1) hM.1 hM.2 (by omega) hi.2
  have hz := hs.2 M hM.1 hM.2
  have ra : (0 ≤ a ∧ a < h 85 1) ∧ h 88 a = M := by rcases hab with ⟨x, y⟩ | ⟨x, y⟩ <;> rw [‹a = _›] <;> assumption
  have rb : (0 ≤ b ∧ b < h 85 1) ∧ h 88 b = M := by rcases hab with ⟨x, y⟩ | ⟨x, y⟩ <;> rw [‹b = _›] <;> assumption
  have ea : (100 * a + b) / 100 = a := by omega
  have eb : (100 * a + b) % 100 = b := by omega
  refine e_X10_swapsMove ?_
  rw [ea, eb]
  refine ⟨by omega, by omega, r_placeOf hs ho ra.1 (fun p hp ep => r_placeOf hs ho rb.1 (fun p' hp' ep' => ?_))⟩
  rw [ra.2] at hp ep ⊢
  rw [rb.2] at hp' ep'
  have hmin : min p p' = i := by
    rcases hab with ⟨x, y⟩ | ⟨x, y⟩
    · have e1 := ho.2.1 M p i hM.1 hM.2 hp.1 hp.2 hi.1 (by omega) (by rw [ep, x])
      have e2 := ho.2.1 M p' (i + 1) hM.1 hM.2 hp'.1 hp'.2 (by omega) hi.2 (by rw [ep', y])
      omega
    · have e1 := ho.2.1 M p (i + 1) hM.1 hM.2 hp.1 hp.2 (by omega) hi.2 (by rw [ep, y])
      have e2 := ho.2.1 M p' i hM.1 hM.2 hp'.1 hp'.2 hi.1 (by omega) (by rw [ep', x])
      omega
  rw [hmin, a_up_sw]
  exact ⟨⟨by omega, by omega, by omega, by omega, by omega, by omega, by omega, by omega⟩, k⟩
