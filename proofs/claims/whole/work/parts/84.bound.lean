/-! pair: bound -/
theorem pmL_sub : ∀ (n : Nat) (l p : List Int), l.length = n → p ∈ pmL l → ∀ x ∈ p, x ∈ l := by
  intro n
  induction n with
  | zero =>
    intro l p e hp x hx
    have : l = [] := List.length_eq_zero_iff.1 e
    subst this
    have : p = [] := List.mem_singleton.1 hp
    subst this
    exact hx
  | succ n ih =>
    intro l p e hp x hx
    have ne : l ≠ [] := fun w => by rw [w] at e; exact absurd e (by show ¬ (0 = n + 1); omega)
    obtain ⟨i, r, hi, hr, e2⟩ := (pmL_cons ne p).1 hp
    rw [e2] at hx
    rcases List.mem_cons.1 hx with y | y
    · rw [y, List.getD_eq_getElem?_getD, List.getElem?_eq_getElem hi]
      exact List.getElem_mem hi
    · have el : (l.eraseIdx i).length = n := by rw [List.length_eraseIdx_of_lt hi]; omega
      exact List.mem_of_mem_eraseIdx (ih _ r el hr x y)
theorem ovL_congr {bf ls af bf' ls' af' : Int → Int} : ∀ (p : List Int) (tm o : Int), (∀ x ∈ p, bf' x = bf x ∧ ls' x = ls x ∧ af' x = af x) → ovL bf' ls' af' p tm o = ovL bf ls af p tm o := by
  intro p
  induction p with
  | nil => intro tm o _; rfl
  | cons t r ih =>
    intro tm o h
    have q := h t (List.mem_cons_self)
    show ovL bf' ls' af' r (max tm (bf' t) + ls' t) (max o (max tm (bf' t) + ls' t + af' t)) = ovL bf ls af r (max tm (bf t) + ls t) (max o (max tm (bf t) + ls t + af t))
    rw [q.1, q.2.1, q.2.2]
    exact ih _ _ (fun x hx => h x (List.mem_cons_of_mem _ hx))
theorem onM_congr {n M : Int} {mach mach' : Int → Int} (h : ∀ t, 0 ≤ t → t < n → mach' t = mach t) : onM n mach' M = onM n mach M := by
  unfold onM
  refine List.filter_congr (fun x hx => ?_)
  unfold lsN at hx
  obtain ⟨u, hu, e⟩ := List.mem_map.1 hx
  rw [List.mem_range] at hu
  rw [h x (by omega) (by omega)]
theorem onM_mem {n M x : Int} {mach : Int → Int} (h : x ∈ onM n mach M) : (0 ≤ x ∧ x < n) ∧ mach x = M := by
  unfold onM lsN at h
  rw [List.mem_filter, List.mem_map] at h
  obtain ⟨⟨u, hu, e⟩, y⟩ := h
  rw [List.mem_range] at hu
  exact ⟨by omega, by simpa using y⟩
theorem bf_ok {c m : aH} (H : sS c m) : bfOK (m 85 1) (m 87) (m 89) (c 8) := by
  have hs := H.1
  have bnd := cBA.bnd hs.1 H.2.2.1
  have hn := hs.1.1.1
  have h1 := hs.2.2.2.1
  intro t a b
  rw [h1] at b
  have q := (H.2.2.1 t a b).1
  have r := bnd t a b
  refine ⟨?_, by omega⟩
  rw [q, (hs.2.2.2.2.1 t a b).2.1]
  by_cases z : c 5 t ≤ 0
  · rw [if_pos z, if_pos z]
  · have w := hs.1.1.pl t a b (by omega)
    rw [if_neg z, if_neg z, (hs.2.2.2.2.1 (t - 1) (by omega) (by omega)).2.2.2]
theorem cSz_cn {c m : aH} (H : sS c m) {M : Int} (hM : 0 ≤ M ∧ M < 5) : cSz c M = cnM (c 6) M (c 3 1) := H.2.2.2 M hM.1 hM.2
theorem r_mAlone {c g : aH} {Q : aQ} {M : Int} (H : sS c g) (hM : 0 ≤ M ∧ M < 5) (k0 : ∀ g', mK g g' → (∀ k, k < 85 → g' k = g k) → cSz c M = 0 → Q (-2) g') (k1 : ∀ g', mK g g' → (∀ k, k < 85 → g' k = g k) → 6 < cSz c M → Q (-7) g') (k2 : ∀ g' v, mK g g' → (∀ k, k < 85 → g' k = g k) → 0 < cSz c M → cSz c M ≤ 6 → aloneIs (c 3 1) (c 6) (c 8) (c 7) (c 9) M v → Q v g') : aRun mX10_alone 21 [aR 85, aI M] g Q := by
  have hn := H.1.1.1.1
  have h1 := H.1.2.2.2.1
  refine e_X10_alone (r_takes (by omega) (fun g' f1 f2 ok => ?_))
  have fr : mK g g' := ⟨fun k a b d e => f1 k (by omega) (by omega), fun i hi => f2 i (by omega)⟩
  have lo : ∀ k, k < 85 → g' k = g k := fun k hk => f1 k (by omega) (by omega)
  have eL : onM (g 85 1) (g 88) M = onM (c 3 1) (c 6) M := by
    rw [h1]
    exact onM_congr (fun t a b => (H.1.2.2.2.2.1 t a b).2.2.1)
  rw [eL] at ok
  have e46 : g' 85 46 = cSz c M := by
    rw [ok.1, cSz_cn H hM]
    have := onM_len (mach := c 6) (M := M) (c 3 1).toNat
    rw [show (((c 3 1).toNat : Nat) : Int) = c 3 1 by omega] at this
    exact this
  refine ⟨fun z => k0 g' fr lo (by omega), fun z => ⟨fun y => ?_, fun y => k1 g' fr lo (by omega)⟩⟩
  have sz0 : 0 ≤ cSz c M := by
    rw [cSz_cn H hM]
    exact (cnM_rng hn.1).1
  have es : g' 85 46 = (((cSz c M).toNat : Nat) : Int) := by omega
  have s6 : (cSz c M).toNat ≤ 6 := by omega
  have d6 := bitD6 _ s6
  rw [es, d6.2]
  have Hg : sS c g' := H.congr (fun _ _ _ => rfl) rfl (fr.2 0 (by omega)) (fr.2 1 (by omega)) (fun k a b => f1 k (by omega) (by omega))
  have p64 : 2 ^ (cSz c M).toNat ≤ 64 := Nat.pow_le_pow_right (n := 2) (by omega) s6
  have p1 : 0 < 2 ^ (cSz c M).toNat := Nat.pow_pos (by omega)
  refine ⟨?_, ?_⟩
  · unfold inR
    have : (((2 ^ (cSz c M).toNat - 1 : Nat)) : Int) ≤ 64 := by
      show _ ≤ ((64 : Nat) : Int)
      exact Int.ofNat_le.2 (Nat.le_trans (Nat.sub_le _ _) p64)
    have : (0 : Int) ≤ ((2 ^ (cSz c M).toNat - 1 : Nat) : Int) := Int.natCast_nonneg _
    omega
  refine r_bestOf (bf := c 8) (af := c 9) (s := (cSz c M).toNat) Hg.1.2.1 (bf_ok Hg) (af_ok Hg) s6 es (fun k a b => ?_) 7 _ 0 0 _ (Nat.le_refl _) ?_ ?_ ?_ (by omega) (by omega) (fun v hv => k2 g' v fr lo (by omega) (by omega) ?_)
  · have := onM_mem (List.mem_of_getElem? (ok.get a (by omega)))
    rw [fr.2 1 (by omega), h1]
    exact this.1
  · rw [d6.1, List.length_range]; omega
  · exact Nat.lt_of_lt_of_le (Nat.sub_lt p1 (by omega)) p64
  · exact Nat.sub_lt p1 (by omega)
  · unfold bestIs at hv
    unfold aloneIs
    have e2 : lfL (g' 113) (2 ^ (cSz c M).toNat - 1) = onM (c 3 1) (c 6) M := by
      unfold lfL
      rw [d6.1]
      have := okMv_toL ok
      rw [es] at this
      rw [this]
      rfl
    rw [e2] at hv
    have e3 : (pmL (onM (c 3 1) (c 6) M)).map (fun p => ovL (c 8) (g' 89) (c 9) p 0 0) = (pmL (onM (c 3 1) (c 6) M)).map (fun p => ovL (c 8) (c 7) (c 9) p 0 0) := by
      refine List.map_congr_left (fun p hp => ovL_congr p 0 0 (fun x hx => ⟨rfl, ?_, rfl⟩))
      have m := onM_mem (pmL_sub _ _ p rfl hp x hx)
      exact (Hg.1.2.2.2.2.1 x m.1.1 m.1.2).2.2.2
    rw [e3] at hv
    exact hv
/-- the value of a machine -/
noncomputable def vA (c : aH) (M : Int) : Int := Classical.epsilon (aloneIs (c 3 1) (c 6) (c 8) (c 7) (c 9) M)
theorem vA_eq {c : aH} {M v : Int} (h : aloneIs (c 3 1) (c 6) (c 8) (c 7) (c 9) M v) : vA c M = v := isMn.unique (Classical.epsilon_spec (p := aloneIs (c 3 1) (c 6) (c 8) (c 7) (c 9) M) ⟨v, h⟩) h
theorem vA_empty {c m : aH} (H : sS c m) {M : Int} (hM : 0 ≤ M ∧ M < 5) (hz : cSz c M = 0) : vA c M = 0 := by
  have hn := H.1.1.1.1
  have := onM_len (mach := c 6) (M := M) (c 3 1).toNat
  rw [show (((c 3 1).toNat : Nat) : Int) = c 3 1 by omega, ← cSz_cn H hM, hz] at this
  have e : onM (c 3 1) (c 6) M = [] := List.length_eq_zero_iff.1 (by omega)
  refine vA_eq ?_
  unfold aloneIs
  rw [e]
  exact best_nil (bf := c 8) (ls := c 7) (af := c 9)
noncomputable def mxV (c : aH) : Nat → Int
  | 0 => 0
  | M + 1 => max (mxV c M) (vA c M)
theorem mxV_nn (c : aH) : ∀ M : Nat, 0 ≤ mxV c M := by
  intro M
  induction M with
  | zero => exact Int.le_refl 0
  | succ M ih =>
    show 0 ≤ max (mxV c M) (vA c M)
    omega
/-- the longest job -/
def isLg (c : aH) (r : Int) : Prop := 0 ≤ r ∧ (r = 0 ∨ ∃ t, (0 ≤ t ∧ t < c 3 1) ∧ r = c 8 t + c 7 t) ∧ ∀ t, 0 ≤ t → t < c 3 1 → c 8 t + c 7 t ≤ r
theorem r_longest {h : aH} {Q : aQ} (hs : cShop h) (hb : cBA h) (k : ∀ r, isLg h r → Q r h) : aRun mX5_longestJob 1 [aR 3] h Q := by
  have hn := hs.1.1
  have bnd := cBA.bnd hs hb
  refine e_X5_longestJob ?_
  suffices H : ∀ (d : Nat) (i r : Int), 0 ≤ i → i ≤ h 3 1 → h 3 1 - i ≤ d → 0 ≤ r → (r = 0 ∨ ∃ t, (0 ≤ t ∧ t < h 3 1) ∧ r = h 8 t + h 7 t) → (∀ t, 0 ≤ t → t < i → h 8 t + h 7 t ≤ r) → AW mX5_longestJob 1 4 [some (aR 3), some (aI r), some (aI i)] [] h Q from
    H (h 3 1).toNat 0 0 (by omega) (by omega) (by omega) (by omega) (Or.inl rfl) (fun t a b => by omega)
  intro d
  induction d with
  | zero =>
    intro i r i0 i1 hd r0 h1 h2
    exact s_X5_longestJob_4 ⟨fun _ => k r ⟨r0, h1, fun t a b => h2 t a (by omega)⟩, fun w => by clear h1; omega⟩
  | succ d ih =>
    intro i r i0 i1 hd r0 h1 h2
    refine s_X5_longestJob_4 ⟨fun w => k r ⟨r0, h1, fun t a b => h2 t a (by omega)⟩, fun w => ?_⟩
    have b := bnd i i0 (by clear h1; omega)
    have l1 := (hs.1.2.2.1 i i0 (by clear h1; omega)).2.2.2
    refine ⟨by clear h1; omega, by clear h1; unfold inR; omega, by clear h1; unfold inR; omega, ih (i + 1) _ (by clear h1; omega) (by clear h1; omega) (by clear h1; omega) (by clear h1; omega) ?_ (fun t a c => ?_)⟩
    · by_cases y : h 8 i + h 7 i ≤ r
      · rw [Int.max_eq_left y]; exact h1
      · rw [Int.max_eq_right (by clear h1; omega)]
        exact Or.inr ⟨i, ⟨i0, by clear h1; omega⟩, rfl⟩
    · by_cases e : t = i
      · rw [e]; clear h1; omega
      · have := h2 t a (by clear h1; omega)
        clear h1; omega
/-- all that a job lasts is told by each of its tasks -/
theorem job_sum {c : aH} (hs : cShop c) (hb : cBA c) : ∀ (d : Nat) (t : Int), 0 ≤ t → t + d < c 3 1 → c 4 t = c 4 (t + d) → c 8 t + c 7 t + c 9 t = c 8 (t + d) + c 7 (t + d) + c 9 (t + d) := by
  intro d
  induction d with
  | zero => intro t _ _ _; rw [show t + ((0 : Nat) : Int) = t by omega]
  | succ d ih =>
    intro t a b e
    have m := hs.1.mid a (show t < t + ((d + 1 : Nat) : Int) by omega) b e
    rw [show t + ((d + 1 : Nat) : Int) - 1 = t + d by omega] at m
    have r := ih t a (by omega) (by omega)
    have q1 := (hb (t + ((d + 1 : Nat) : Int)) (by omega) b).1
    rw [if_neg (by omega), show t + ((d + 1 : Nat) : Int) - 1 = t + d by omega] at q1
    have q2 := (hb (t + d) (by omega) (by omega)).2
    have ej : jN (c 3 1) (c 4) (t + d) = t + d + 1 := by
      rcases jN_cases (n := c 3 1) (job := c 4) (t + d) with ⟨w, -⟩ | ⟨-, -, w⟩
      · exfalso
        rw [show t + (d : Int) + 1 = t + ((d + 1 : Nat) : Int) by omega] at w
        omega
      · exact w
    rw [ej, if_neg (by omega), show t + (d : Int) + 1 = t + ((d + 1 : Nat) : Int) by omega] at q2
    omega
theorem job_last {c : aH} (hs : cShop c) (hb : cBA c) : ∀ (d : Nat) (t : Int), 0 ≤ t → t < c 3 1 → c 3 1 - t ≤ d → ∃ u, (0 ≤ u ∧ u < c 3 1) ∧ c 8 u + c 7 u = c 8 t + c 7 t + c 9 t := by
  intro d
  induction d with
  | zero => intro t a b e; omega
  | succ d ih =>
    intro t a b e
    have q := (hb t a b).2
    rcases jN_cases (n := c 3 1) (job := c 4) t with ⟨-, w⟩ | ⟨w1, w2, w3⟩
    · rw [w, if_pos (by omega)] at q
      exact ⟨t, ⟨a, b⟩, by omega⟩
    · obtain ⟨u, u1, u2⟩ := ih (t + 1) (by omega) w1 (by omega)
      have s := job_sum hs hb 1 t a w1 w2.symm
      rw [show t + ((1 : Nat) : Int) = t + 1 by omega] at s
      exact ⟨u, u1, by omega⟩
theorem r_cBound {h : aH} {Q : aQ} (hs : cShop h) (hb : cBA h) (hc : cCnt h) (hA : sAlone h) (hn0 : 0 < h 3 1) (kL : ∀ g, (∀ c, c ≠ 70 → c ≠ 72 → g c = h c) → sAlone g → (∃ M, (0 ≤ M ∧ M < 5) ∧ 6 < cSz h M) → Q (-7) g) (kV : ∀ g r, (∀ c, c ≠ 70 → c ≠ 72 → g c = h c) → sAlone g → (∀ M, 0 ≤ M → M < 5 → cSz h M ≤ 6) → isLg h r → Q (max r (mxV h 5)) g) : aRun mX9_bound 4 [aR 0] h Q := by
  refine e_X9_bound ⟨fun _ => r_longest hs hb (fun r hr => ?_), fun z => absurd (ns_iff.2 (by omega)) z⟩
  suffices H : ∀ (d M : Nat) (g : aH), M ≤ 5 → 5 - M ≤ d → (∀ c, c ≠ 70 → c ≠ 72 → g c = h c) → sAlone g → (∀ M', 0 ≤ M' → M' < (M : Int) → cSz h M' ≤ 6) → AW mX9_bound 4 20 [some (aR 0), some (aI (max r (mxV h M))), some (aI (M : Int)), none] [] g Q from by
    have := H 5 0 h (by omega) (by omega) (fun _ _ _ => rfl) hA (fun M' a b => by omega)
    rw [show max r (mxV h 0) = r by have := hr.1; show max r 0 = r; omega] at this
    exact this
  have fin : ∀ (M : Nat) (g : aH), M = 5 → (∀ c, c ≠ 70 → c ≠ 72 → g c = h c) → sAlone g → (∀ M', 0 ≤ M' → M' < (M : Int) → cSz h M' ≤ 6) → Q (max r (mxV h M)) g := by
    intro M g e f fA fz
    subst e
    exact kV g r f fA (fun M' a b => fz M' a (by omega)) hr
  intro d
  induction d with
  | zero =>
    intro M g M1 hd f fA fz
    exact s_X9_bound_20 ⟨fun _ => fin M g (by omega) f fA fz, fun w => by omega⟩
  | succ d ih =>
    intro M g M1 hd f fA fz
    refine s_X9_bound_20 ⟨fun w => fin M g (by omega) f fA fz, fun w => ?_⟩
    have a' : ∀ j, 3 ≤ j → j ≤ 10 → g j = h j := fun j j1 j2 => f j (by omega) (by omega)
    have hbg : cBA g := by
      unfold cBA at hb ⊢
      rw [a' 3 (by omega) (by omega), a' 4 (by omega) (by omega), a' 5 (by omega) (by omega), a' 7 (by omega) (by omega), a' 8 (by omega) (by omega), a' 9 (by omega) (by omega)]
      exact hb
    have eS : cSz g = cSz h := by unfold cSz; rw [a' 10 (by omega) (by omega)]
    have hcg : cCnt g := by
      unfold cCnt at hc ⊢
      rw [eS, a' 3 (by omega) (by omega), a' 6 (by omega) (by omega)]
      exact hc
    refine r_atBest (hs.congr a') hbg hcg fA (M := (M : Int)) (by omega) (fun z => ⟨fun _ => kL g f fA ⟨M, by omega, by rw [← eS]; exact z⟩, fun w2 => absurd rfl w2⟩) (fun g2 v z f2 A2 al => ?_)
    rw [a' 3 (by omega) (by omega), a' 6 (by omega) (by omega), a' 7 (by omega) (by omega), a' 8 (by omega) (by omega), a' 9 (by omega) (by omega)] at al
    have v0 := alone_nn al
    refine ⟨fun w2 => by omega, fun _ => ⟨by unfold inR; omega, ?_⟩⟩
    have R := ih (M + 1) g2 (by omega) (by omega) (fun c c1 c2 => (f2 c c1 c2).trans (f c c1 c2)) A2 (fun M' a b => by
      by_cases e : M' = M
      · rw [e, ← eS]; exact z
      · exact fz M' a (by omega))
    have e : mxV h (M + 1) = max (mxV h M) v := by
      show max (mxV h M) (vA h M) = _
      rw [vA_eq al]
    rw [e, show max r (max (mxV h M) v) = max (max r (mxV h M)) v by omega] at R
    exact R
theorem r_mBound {c g : aH} {Q : aQ} (H : sS c g) (hn0 : 0 < c 3 1) (kL : ∀ g', mK g g' → (∀ k, k < 85 → g' k = g k) → (∃ M, (0 ≤ M ∧ M < 5) ∧ 6 < cSz c M) → Q (-7) g') (kV : ∀ g' r, mK g g' → (∀ k, k < 85 → g' k = g k) → (∀ M, 0 ≤ M → M < 5 → cSz c M ≤ 6) → isLg c r → Q (max r (mxV c 5)) g') : aRun mX10_bound 22 [aR 85] g Q := by
  have h1 := H.1.2.2.2.1
  have hs := H.1.1
  have hb := H.2.2.1
  refine e_X10_bound ⟨fun z => by omega, fun _ => ?_⟩
  -- the jobs
  have H2 : ∀ (g2 : aH), sS c g2 → mK g g2 → (∀ k, k < 85 → g2 k = g k) → (∀ M, 0 ≤ M → M < 5 → cSz c M ≤ 6) → AW mX10_bound 22 48 [some (aR 85), some (aI (mxV c 5)), some (aI 0), none] [] g2 Q := by
    intro g2 Hg fr lo fz
    have m5 := mxV_nn c 5
    have h1g := Hg.1.2.2.2.1
    have h0g := Hg.1.2.2.1
    have hn := hs.1.1
    have hnj := hs.1.2.1
    -- the value, so far
    suffices H3 : ∀ (d : Nat) (j R : Int), 0 ≤ j → j ≤ c 3 0 → c 3 0 - j ≤ d → (∃ r, R = max r (mxV c 5) ∧ 0 ≤ r ∧ (r = 0 ∨ ∃ t, (0 ≤ t ∧ t < c 3 1) ∧ r = c 8 t + c 7 t) ∧ ∀ t, 0 ≤ t → t < c 3 1 → c 4 t < j → c 8 t + c 7 t ≤ r) → AW mX10_bound 22 48 [some (aR 85), some (aI R), some (aI j), none] [] g2 Q from
      H3 6 0 (mxV c 5) (by omega) (by omega) (by omega) ⟨0, by omega, by omega, Or.inl rfl, fun t a b w => by have := (hs.1.2.2.1 t a b).1; omega⟩
    have fin : ∀ (j R : Int), c 3 0 ≤ j → (∃ r, R = max r (mxV c 5) ∧ 0 ≤ r ∧ (r = 0 ∨ ∃ t, (0 ≤ t ∧ t < c 3 1) ∧ r = c 8 t + c 7 t) ∧ ∀ t, 0 ≤ t → t < c 3 1 → c 4 t < j → c 8 t + c 7 t ≤ r) → Q R g2 := by
      rintro j R hj ⟨r, e, r0, r1, r2⟩
      rw [e]
      exact kV g2 r fr lo fz ⟨r0, r1, fun t a b => r2 t a b (by have := (hs.1.2.2.1 t a b).1; clear r1; omega)⟩
    intro d
    induction d with
    | zero =>
      intro j R j0 j1 hd hR
      refine s_X10_bound_48 ⟨fun _ => fin j R (by clear hR; omega) hR, fun w => ?_⟩
      rw [h0g] at w
      clear hR; omega
    | succ d ih =>
      intro j R j0 j1 hd hR
      refine s_X10_bound_48 ⟨fun w => fin j R (by rw [h0g] at w; exact w) hR, fun w => ?_⟩
      rw [h0g] at w
      obtain ⟨r, e, r0, r1, r2⟩ := hR
      refine r_firstOf Hg.1.2.1 (by clear r1; omega) (by clear r1; omega) (fun u u1 u2 u3 => ?_)
      rw [h1g] at u1
      have tb := Hg.1.2.2.2.2.1 u u1.1 u1.2
      rw [tb.1] at u2
      refine r_leftOf (af := c 9) Hg.1.2.1 (af_ok Hg) (by clear r1; omega) ⟨by clear r1; unfold inR; omega, ?_⟩
      rw [tb.2.2.2]
      -- u is the first of its job
      have pu : c 8 u = 0 := by
        have q := (hb u u1.1 u1.2).1
        rw [q, if_pos]
        refine Classical.byContradiction (fun y => ?_)
        have y2 := (hs.1.2.2.2.1 u u1.1 u1.2).2 (by clear r1; omega)
        have := u3 (u - 1) (by clear r1; omega) (by clear r1; omega)
        rw [(Hg.1.2.2.2.2.1 (u - 1) (by clear r1; omega) (by clear r1; omega)).1] at this
        exact this (by clear r1; omega)
      obtain ⟨x, x1, x2⟩ := job_last hs hb 24 u u1.1 u1.2 (by clear r1; omega)
      refine ih (j + 1) _ (by clear r1; omega) (by clear r1; omega) (by clear r1; omega) ⟨max r (c 7 u + c 9 u), by clear r1; omega, by clear r1; omega, ?_, fun t a b l => ?_⟩
      · by_cases y : c 7 u + c 9 u ≤ r
        · rw [Int.max_eq_left y]; exact r1
        · rw [Int.max_eq_right (by clear r1; omega)]
          exact Or.inr ⟨x, x1, by clear r1; omega⟩
      · by_cases y : c 4 t < j
        · have := r2 t a b y
          clear r1; omega
        · have ej : c 4 t = j := by clear r1; omega
          have ut : u ≤ t := by
            rcases Int.lt_or_le t u with z | z
            · have := u3 t a z
              rw [(Hg.1.2.2.2.2.1 t a b).1] at this
              exact absurd ej this
            · exact z
          have s := job_sum hs hb (t - u).toNat u u1.1 (by clear r1; omega) (by rw [show u + ((t - u).toNat : Int) = t by clear r1; omega]; clear r1; omega)
          rw [show u + ((t - u).toNat : Int) = t by clear r1; omega] at s
          have b9 := (cBA.bnd hs hb t a b).2.1
          clear r1; omega
  suffices H1 : ∀ (d M : Nat) (g2 : aH), M ≤ 5 → 5 - M ≤ d → sS c g2 → mK g g2 → (∀ k, k < 85 → g2 k = g k) → (∀ M', 0 ≤ M' → M' < (M : Int) → cSz c M' ≤ 6) → AW mX10_bound 22 14 [some (aR 85), some (aI (mxV c M)), some (aI (M : Int)), none] [] g2 Q from
    H1 5 0 g (by omega) (by omega) H mK.refl (fun _ _ => rfl) (fun M' a b => by omega)
  have fin : ∀ (M : Nat) (g2 : aH), M = 5 → sS c g2 → mK g g2 → (∀ k, k < 85 → g2 k = g k) → (∀ M', 0 ≤ M' → M' < (M : Int) → cSz c M' ≤ 6) → AW mX10_bound 22 48 [some (aR 85), some (aI (mxV c M)), some (aI 0), none] [] g2 Q := by
    intro M g2 e Hg fr lo fz
    subst e
    exact H2 g2 Hg fr lo (fun M' a b => fz M' a (by omega))
  intro d
  induction d with
  | zero =>
    intro M g2 M1 hd Hg fr lo fz
    exact s_X10_bound_14 ⟨fun _ => fin M g2 (by omega) Hg fr lo fz, fun w => by omega⟩
  | succ d ih =>
    intro M g2 M1 hd Hg fr lo fz
    refine s_X10_bound_14 ⟨fun w => fin M g2 (by omega) Hg fr lo fz, fun w => ?_⟩
    have mM := mxV_nn c M
    have nxt : ∀ (g3 : aH) (v : Int), mK g2 g3 → (∀ k, k < 85 → g3 k = g2 k) → cSz c M ≤ 6 → mxV c (M + 1) = max (mxV c M) v → inR ((M : Int) + 1) ∧ AW mX10_bound 22 14 [some (aR 85), some (aI (max (mxV c M) v)), some (aI ((M : Int) + 1)), none] [] g3 Q := by
      intro g3 v f3 lo3 z e
      refine ⟨by unfold inR; omega, ?_⟩
      rw [← e]
      exact ih (M + 1) g3 (by omega) (by omega) (Hg.congr (fun _ _ _ => rfl) rfl (f3.2 0 (by omega)) (f3.2 1 (by omega)) (fun k a b => f3.1 k (by omega) (by omega) (by omega) (by omega))) (mK.trans fr f3) (fun k hk => (lo3 k hk).trans (lo k hk)) (fun M' a b => by
        by_cases e : M' = M
        · rw [e]; exact z
        · exact fz M' a (by omega))
    refine r_mAlone Hg (M := (M : Int)) (by omega) (fun g3 f3 lo3 z => ⟨fun w2 => by omega, fun _ => nxt g3 (-2) f3 lo3 (by omega) ?_⟩) (fun g3 f3 lo3 z => ⟨fun _ => kL g3 (mK.trans fr f3) (fun k hk => (lo3 k hk).trans (lo k hk)) ⟨M, by omega, z⟩, fun w2 => absurd rfl w2⟩) (fun g3 v f3 lo3 z1 z al => ⟨fun w2 => by have := alone_nn al; omega, fun _ => nxt g3 v f3 lo3 z ?_⟩)
    · show max (mxV c M) (vA c M) = _
      rw [vA_empty Hg (by omega) z]
      omega
    · show max (mxV c M) (vA c M) = _
      rw [vA_eq al]
theorem isLg.unique {c : aH} {r r' : Int} (hn : 0 < c 3 1) (h : isLg c r) (h' : isLg c r') : r = r' := by
  obtain ⟨a, b, d⟩ := h
  obtain ⟨a', b', d'⟩ := h'
  have le : r ≤ r' := by
    rcases b with b | ⟨t, t1, t2⟩
    · omega
    · have := d' t t1.1 t1.2
      omega
  have ge : r' ≤ r := by
    rcases b' with b' | ⟨t, t1, t2⟩
    · clear b; omega
    · have := d t t1.1 t1.2
      clear b; omega
  clear b b'; omega
theorem Inv.alone {n : Nat} {h g : aH} (hI : Inv n h) (f : ∀ c, c ≠ 70 → c ≠ 72 → g c = h c) (fA : sAlone g) : Inv n g := by
  obtain ⟨⟨h1, h2, h3, h4, h5, h6, h7, h8, h9, h10⟩, hc⟩ := hI
  have a' : ∀ k, 3 ≤ k → k ≤ 10 → g k = h k := fun k k1 k2 => f k (by omega) (by omega)
  have e : ∀ k i, k ≠ 70 → k ≠ 72 → g k i = h k i := fun k i k1 k2 => congrFun (f k k1 k2) i
  refine ⟨⟨?_, ?_, ?_, ?_, ?_, ?_, ?_, ?_, fA, ?_⟩, ?_⟩
  · exact h1.congr (e 1 1 (by omega) (by omega)) (f 2 (by omega) (by omega)) (e 85 9 (by omega) (by omega)) (f 92 (by omega) (by omega))
  · exact h2.congr a' (f 19 (by omega) (by omega)) (e 85 0 (by omega) (by omega)) (e 85 1 (by omega) (by omega)) (fun k k1 k2 => f k (by omega) (by omega))
  · exact h3.congr a' (fun k k1 k2 => f k (by omega) (by omega)) (fun k k1 k2 => f k (by omega) (by omega))
  · exact h4.congr (e 42 1 (by omega) (by omega)) (e 42 2 (by omega) (by omega)) (f 43 (by omega) (by omega)) (e 85 34 (by omega) (by omega)) (e 85 36 (by omega) (by omega)) (f 107 (by omega) (by omega))
  · exact h5.congr a' (e 0 15 (by omega) (by omega)) (f 84 (by omega) (by omega)) (e 85 37 (by omega) (by omega)) (e 85 38 (by omega) (by omega)) (f 108 (by omega) (by omega))
  · exact h6.congr a' (e 44 1 (by omega) (by omega)) (e 44 2 (by omega) (by omega)) (fun k k1 k2 => f k (by omega) (by omega)) (e 85 18 (by omega) (by omega)) (e 85 19 (by omega) (by omega)) (f 96 (by omega) (by omega))
  · exact h7.congr (by have := h6.1; omega) (a' 10 (by omega) (by omega)) (f 19 (by omega) (by omega)) (e 44 1 (by omega) (by omega)) (e 44 2 (by omega) (by omega)) (e 3 1 (by omega) (by omega)) (fun k k1 k2 => f k (by omega) (by omega))
  · exact h8.congr (fun k k1 k2 => f k (by omega) (by omega)) (e 85 51 (by omega) (by omega)) (f 115 (by omega) (by omega))
  · exact h10.congr a' (e 73 1 (by omega) (by omega)) (e 73 2 (by omega) (by omega)) (e 73 3 (by omega) (by omega))
  · rw [e 85 40 (by omega) (by omega), e 0 16 (by omega) (by omega)]; exact hc
theorem pr_bound : a_pair Inv mX9_bound mX10_bound 4 22 0 := by
  intro n h a b hn hI hh ha hb
  have hS := hI.1.2.1
  have h1 := hS.1.2.2.2.1
  have h0 := hS.1.1.1.1
  by_cases z : h 3 1 = 0
  · refine e_X9_bound ⟨fun y => absurd z (ns_iff.1 y), fun _ => e_X10_bound ⟨fun _ => ⟨rfl, hI.mono⟩, fun y => by omega⟩⟩
  have hn0 : 0 < h 3 1 := by omega
  refine r_cBound hS.1.1 hS.2.2.1 hS.2.2.2 hI.1.2.2.2.2.2.2.2.2.1 hn0 (fun g f fA hx => ?_) (fun g r f fA fz lg => ?_)
  · have hIg := hI.alone f fA
    have Sg : sS h g := hS.hi (fun k hk => f k (by omega) (by omega))
    refine r_mBound Sg hn0 (fun g' fr lo _ => ⟨rfl, hIg.frame (fun k _ _ _ _ k5 => lo k k5) fr⟩) (fun g' r' fr lo fz' _ => ?_)
    obtain ⟨M, m1, m2⟩ := hx
    have := fz' M m1.1 m1.2
    omega
  · have hIg := hI.alone f fA
    have Sg : sS h g := hS.hi (fun k hk => f k (by omega) (by omega))
    refine r_mBound Sg hn0 (fun g' fr lo hx => ?_) (fun g' r' fr lo _ lg' => ⟨by rw [lg.unique hn0 lg'], hIg.frame (fun k _ _ _ _ k5 => lo k k5) fr⟩)
    obtain ⟨M, m1, m2⟩ := hx
    have := fz M m1.1 m1.2
    omega
