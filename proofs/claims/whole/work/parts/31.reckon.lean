/-! The reference: neighbours, reckons -/
def mO (h : aH) : Int → Int → Int := fun m k => h 90 (24 * m + k)
def mShop (h : aH) : Prop := okShop (h 85 1) (h 85 0) (h 86) (h 87) (h 88) (h 89) ∧ ∀ m, 0 ≤ m → m < 5 → 0 ≤ h 91 m ∧ h 91 m ≤ 24
theorem mShop.mach {h : aH} (hs : mShop h) : ∀ t, 0 ≤ t → t < h 85 1 → 0 ≤ h 88 t ∧ h 88 t < 5 := fun t h0 ht => (hs.1.2.2.1 t h0 ht).2.2.1
set_option maxHeartbeats 1000000 in
theorem r_neighbours {h : aH} {Q : aQ} (hs : mShop h) (ho : okOrd (h 85 1) (h 88) (h 91) (mO h)) (k : ∀ g, (∀ c, c ≠ 97 → c ≠ 98 → g c = h c) → lnkN (h 91) (mO h) (g 97) (g 98) → Q 0 g) : aRun mX10_neighbours 0 [aR 85] h Q := by
  refine e_X10_neighbours ?_
  have hn := hs.1.1
  suffices H : ∀ (d : Nat) (m : Int) (g : aH), 0 ≤ m → m ≤ 5 → 5 - m ≤ d → (∀ c, c ≠ 97 → c ≠ 98 → g c = h c) → lnkD (h 91) (mO h) (fun t => h 97 t) (g 97) (g 98) m 0 ∨ True → (∀ m' k', 0 ≤ m' → m' < 5 → 0 ≤ k' → k' < h 91 m' → (m' < m ∨ (m' = m ∧ k' < 0)) → g 97 (mO h m' k') = (if k' ≤ 0 then -1 else mO h m' (k' - 1)) ∧ g 98 (mO h m' k') = (if h 91 m' ≤ k' + 1 then -1 else mO h m' (k' + 1))) → AW mX10_neighbours 0 2 [some (aR 85), some (aI m), none, none] [] g Q from
    H 5 0 h (by omega) (by omega) (by omega) (fun _ _ _ => rfl) (Or.inr trivial) (fun m' k' a b c d e => by omega)
  intro d
  induction d with
  | zero =>
    intro m g m0 m5 hd hf _ hl
    refine s_X10_neighbours_2 ⟨fun q => ?_, fun q => absurd q (by omega)⟩
    exact k g hf (fun m' k' a b c e => hl m' k' a b c e (by omega))
  | succ d ih =>
    intro m g m0 m5 hd hf _ hl
    refine s_X10_neighbours_2 ⟨fun q => ?_, fun q => ?_⟩
    · exact k g hf (fun m' k' a b c e => hl m' k' a b c e (by omega))
    have hsz := hs.2 m m0 (by omega)
    suffices H2 : ∀ (d2 : Nat) (s : Int) (g : aH), 0 ≤ s → s ≤ h 91 m → h 91 m - s ≤ d2 → (∀ c, c ≠ 97 → c ≠ 98 → g c = h c) → (∀ m' k', 0 ≤ m' → m' < 5 → 0 ≤ k' → k' < h 91 m' → (m' < m ∨ (m' = m ∧ k' < s)) → g 97 (mO h m' k') = (if k' ≤ 0 then -1 else mO h m' (k' - 1)) ∧ g 98 (mO h m' k') = (if h 91 m' ≤ k' + 1 then -1 else mO h m' (k' + 1))) → AW mX10_neighbours 0 9 [some (aR 85), some (aI m), some (aI s), none] [] g Q from
      H2 24 0 g (by omega) (by omega) (by omega) hf hl
    intro d2
    induction d2 with
    | zero =>
      intro s g s0 s1 hd2 hf hl
      refine s_X10_neighbours_9 ⟨by omega, fun q => ⟨by omega, ?_⟩, fun q => absurd q (by rw [hf 91 (by decide) (by decide)]; omega)⟩
      refine ih (m + 1) g (by omega) (by omega) (by omega) hf (Or.inr trivial) (fun m' k' a b c e w => hl m' k' a b c e ?_)
      by_cases hm' : m' = m
      · subst hm'; right; omega
      · omega
    | succ d2 ih2 =>
      intro s g s0 s1 hd2 hf hl
      have e91 : g 91 = h 91 := hf 91 (by decide) (by decide)
      have e90 : g 90 = h 90 := hf 90 (by decide) (by decide)
      refine s_X10_neighbours_9 ⟨by omega, fun q => ⟨by omega, ?_⟩, fun q => ?_⟩
      · rw [e91] at q
        refine ih (m + 1) g (by omega) (by omega) (by omega) hf (Or.inr trivial) (fun m' k' a b c e w => hl m' k' a b c e ?_)
        by_cases hm' : m' = m
        · subst hm'; right; omega
        · omega
      rw [e91] at q
      have qt := ho.1 m s m0 (by omega) s0 (by omega)
      have et : h 90 (24 * m + s) = mO h m s := rfl
      rw [e90, e91]
      rw [← et] at qt
      refine ⟨by omega, by omega, by omega, fun _ => by omega, by omega, by omega, fun _ => by omega, ?_⟩
      refine ih2 (s + 1) _ (by omega) (by omega) (by omega) (fun c a b => ?_) (fun m' k' a b c e w => ?_)
      · rw [a_up_ne b, a_up_ne a]; exact hf c a b
      · rw [a_up_ne (show 97 ≠ 98 by decide), a_up_at, a_up_at, a_up_ne (show 98 ≠ 97 by decide)]
        have q1 := ho.1 m' k' a b c e
        by_cases hsame : m' = m ∧ k' = s
        · obtain ⟨rfl, rfl⟩ := hsame
          rw [← et, if_pos rfl, if_pos rfl]
          refine ⟨?_, ?_⟩
          · by_cases z : k' ≤ 0
            · rw [if_pos z, if_pos z]
            · rw [if_neg z, if_neg z]
              show h 90 (24 * m' + k' - 1) = h 90 (24 * m' + (k' - 1))
              congr 1; omega
          · by_cases z : h 91 m' ≤ k' + 1
            · rw [if_pos z, if_pos z]
            · rw [if_neg z, if_neg z]
              show h 90 (24 * m' + k' + 1) = h 90 (24 * m' + (k' + 1))
              congr 1; omega
        · have hne : mO h m' k' ≠ h 90 (24 * m + s) := by
            intro he
            have hm : m' = m := by rw [← q1.2, he, qt.2]
            subst hm
            exact hsame ⟨rfl, ho.2.1 m' k' s a b c e s0 (by omega) (by rw [he, et])⟩
          rw [if_neg hne, if_neg hne]
          exact hl m' k' a b c e (by omega)
theorem f_mJA {h : aH} {t : Int} : f_X10_jobAhead h t = jA (h 87) t := rfl
theorem f_mJN {h : aH} {t : Int} : f_X10_jobBehind h t = jN (h 85 1) (h 86) t := rfl
theorem o_mJA {h : aH} {t : Int} (h0 : 0 ≤ t) (h1 : t < 24) : o_X10_jobAhead h t := ⟨by omega, fun _ => by omega⟩
theorem o_mJN {h : aH} {t : Int} (h0 : 0 ≤ t) (h1 : t < 24) (hn : h 85 1 ≤ 24) : o_X10_jobBehind h t := ⟨by omega, fun _ => by omega⟩
theorem f_mE {h : aH} {u : Int} : f_X10_endOf h u = eo (h 99) (h 89) u := by
  unfold f_X10_endOf eo
  by_cases z : 0 ≤ u
  · rw [if_pos z, if_neg (by omega)]
  · rw [if_neg z, if_pos (by omega)]
theorem f_mR {h : aH} {u : Int} : f_X10_restOf h u = ro (h 100) (h 89) u := by
  unfold f_X10_restOf ro
  by_cases z : 0 ≤ u
  · rw [if_pos z, if_neg (by omega)]
  · rw [if_neg z, if_pos (by omega)]
def ready (ja pa D : Int → Int) (t : Int) : Prop := D t = 0 ∧ (ja t < 0 ∨ ¬ D (ja t) = 0) ∧ (pa t < 0 ∨ ¬ D (pa t) = 0)
theorem f_ready {h : aH} {t : Int} : (¬ f_X10_isReady h t = 0) ↔ ready (jA (h 87)) (h 97) (h 102) t := by
  unfold f_X10_isReady ready
  rw [f_mJA]
  by_cases a : h 102 t = 0
  · rw [if_pos a]
    by_cases b : jA (h 87) t < 0
    · rw [if_pos b]
      by_cases c : h 97 t < 0
      · rw [if_pos c]; simp [a, b, c]
      · rw [if_neg c]
        by_cases d : h 102 (h 97 t) = 0
        · rw [if_pos d]; simp [c, d]
        · rw [if_neg d]; simp [a, b, d]
    · rw [if_neg b]
      by_cases e : h 102 (jA (h 87) t) = 0
      · rw [if_pos e]; simp [b, e]
      · rw [if_neg e]
        by_cases c : h 97 t < 0
        · rw [if_pos c]; simp [a, e, c]
        · rw [if_neg c]
          by_cases d : h 102 (h 97 t) = 0
          · rw [if_pos d]; simp [c, d]
          · rw [if_neg d]; simp [a, e, d]
  · rw [if_neg a]; simp [a]
theorem o_ready {h : aH} {t : Int} (h0 : 0 ≤ t) (h1 : t < 24) (hj : jA (h 87) t < 24) (hp : h 97 t < 24) : o_X10_isReady h t := by
  unfold o_X10_isReady
  rw [f_mJA]
  refine ⟨by omega, fun _ => ⟨o_mJA h0 h1, fun _ => fun _ => by omega, fun _ => ⟨by omega, fun _ => fun _ => by omega⟩⟩⟩
theorem r_nextReady {h : aH} {Q : aQ} (hn : 0 ≤ h 85 1 ∧ h 85 1 ≤ 24) (hr : ∀ t, 0 ≤ t → t < h 85 1 → jA (h 87) t < 24 ∧ h 97 t < 24) (k : ∀ r, (r = -1 ∧ ∀ t, 0 ≤ t → t < h 85 1 → ¬ ready (jA (h 87)) (h 97) (h 102) t) ∨ ((0 ≤ r ∧ r < h 85 1) ∧ ready (jA (h 87)) (h 97) (h 102) r) → Q r h) : aRun mX10_nextReady 2 [aR 85] h Q := by
  refine e_X10_nextReady ?_
  suffices H : ∀ (d : Nat) (i : Int), 0 ≤ i → i ≤ h 85 1 → h 85 1 - i ≤ d → (∀ v, 0 ≤ v → v < i → ¬ ready (jA (h 87)) (h 97) (h 102) v) → AW mX10_nextReady 2 2 [some (aR 85), some (aI i)] [] h Q from
    H 24 0 (by omega) (by omega) (by omega) (fun v a b => by omega)
  intro d
  induction d with
  | zero =>
    intro i i0 i1 hd hv
    exact s_X10_nextReady_2 ⟨fun q => k _ (Or.inl ⟨rfl, fun t a b => hv t a (by omega)⟩), fun q => absurd q (by omega)⟩
  | succ d ih =>
    intro i i0 i1 hd hv
    refine s_X10_nextReady_2 ⟨fun q => k _ (Or.inl ⟨rfl, fun t a b => hv t a (by omega)⟩), fun q => ⟨o_ready i0 (by omega) (hr i i0 (by omega)).1 (hr i i0 (by omega)).2, fun q1 => ⟨by omega, ?_⟩, fun q1 => k i (Or.inr ⟨by omega, f_ready.mp q1⟩)⟩⟩
    refine ih (i + 1) (by omega) (by omega) (by omega) (fun v a b => ?_)
    by_cases z : v = i
    · rw [z]; exact fun y => f_ready.mpr y q1
    · exact hv v a (by omega)
