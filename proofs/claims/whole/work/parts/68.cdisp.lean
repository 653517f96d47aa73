/-! DISPATCHED: what comes out; the class -/
theorem cntB_all {p : Int → Bool} : ∀ k : Nat, cntB p k = k → ∀ i : Nat, i < k → p i = true := by
  intro k
  induction k with
  | zero => intro _ i hi; omega
  | succ k ih =>
    intro h i hi
    have e : cntB p k + (if p k then 1 else 0) = ((k + 1 : Nat) : Int) := h
    have r := (cntB_rng p k).2
    by_cases z : p k = true
    · rw [if_pos z] at e
      by_cases y : i = k
      · rw [y]; exact z
      · exact ih (by omega) i (by omega)
    · rw [if_neg z] at e
      omega
/-- all put: valid orders, no ring, their span -/
theorem disp_end {n nj : Int} {job place mach l sz : Int → Int} {S : dSt} {i : Nat} (hs : okShop n nj job place mach l) (hi : (i : Int) = n) (h : dI1 n place mach S i) (g : dI2 n job place mach l S i) (hz : ∀ M, 0 ≤ M → M < 5 → sz M = cntB (fun t => decide (mach t = M)) n.toNat) :
    (∀ M, 0 ≤ M → M < 5 → dPt S M = sz M) ∧ okOrd n mach sz (dO S) ∧ (0 < n → spanIs n (jA place) l sz (dO S) (dSp S)) ∧ 0 ≤ dSp S ∧ dSp S ≤ 2376 := by
  have hn := hs.1
  have all : ∀ t, 0 ≤ t → t < n → dP S t = 1 := by
    intro t a b
    have := cntB_all n.toNat (by rw [h.2.1]; omega) t.toNat (by omega)
    rw [show ((t.toNat : Nat) : Int) = t by omega] at this
    exact of_decide_eq_true this
  have ept : ∀ M, 0 ≤ M → M < 5 → dPt S M = sz M := by
    intro M a b
    rw [hz M a b, (h.2.2.2.1 M a b).2]
    refine cntB_congr _ (fun u hu => ?_)
    have := all u (by omega) (by omega)
    by_cases e : mach u = M
    · rw [decide_eq_true ⟨e, this⟩, decide_eq_true e]
    · rw [decide_eq_false (fun w => e w.1), decide_eq_false e]
  have dv : ∀ M k, 0 ≤ M → M < 5 → 0 ≤ k → k < sz M → dV S M k := fun M k a b c d => ⟨⟨a, b⟩, c, by rw [ept M a b]; exact d⟩
  obtain ⟨h1, h2, h3, h4, h5, h6, h7⟩ := h
  obtain ⟨g1, g2, g3, g4, g5, g6, g7, g8, g9, g10⟩ := g
  have ho : okOrd n mach sz (dO S) := by
    refine ⟨fun M k a b c d => ?_, fun M k k' a b c d c' d' e => h6 M k k' (dv M k a b c d) (dv M k' a b c' d') e, fun t a b => ?_⟩
    · have q := h5 M k (dv M k a b c d)
      exact ⟨q.1, q.2.1⟩
    · obtain ⟨k, v, e⟩ := h7 t a b (all t a b)
      have q := v.2.2
      rw [ept _ v.1.1 v.1.2] at q
      exact ⟨k, v.2.1, q, e⟩
  refine ⟨ept, ho, fun n0 => ?_, g7.1, by omega⟩
  -- neighbours: each task has one place
  have place_of : ∀ t, 0 ≤ t → t < n → ∃ k, dV S (mach t) k ∧ dO S (mach t) k = t := fun t a b => h7 t a b (all t a b)
  let ix : Int → Int := fun t => Classical.epsilon (fun k => dV S (mach t) k ∧ dO S (mach t) k = t)
  have ixs : ∀ t, 0 ≤ t → t < n → dV S (mach t) (ix t) ∧ dO S (mach t) (ix t) = t := fun t a b => Classical.epsilon_spec (place_of t a b)
  have ixo : ∀ M k, dV S M k → ix (dO S M k) = k := by
    intro M k v
    have q := h5 M k v
    have r := ixs _ q.1.1 q.1.2
    rw [q.2.1] at r
    exact h6 M _ k r.1 v r.2
  refine ⟨fun t => if ix t ≤ 0 then -1 else dO S (mach t) (ix t - 1), fun t => if sz (mach t) ≤ ix t + 1 then -1 else dO S (mach t) (ix t + 1), dSs S, ?_, ?_, ?_, ?_, ?_⟩
  · intro M k a b c d
    have v := dv M k a b c d
    have q := h5 M k v
    show (if ix (dO S M k) ≤ 0 then -1 else dO S (mach (dO S M k)) (ix (dO S M k) - 1)) = _ ∧ (if sz (mach (dO S M k)) ≤ ix (dO S M k) + 1 then -1 else dO S (mach (dO S M k)) (ix (dO S M k) + 1)) = _
    rw [ixo M k v, q.2.1]
    exact ⟨rfl, rfl⟩
  · refine ⟨dPos S, fun t a b => ?_⟩
    have r := ixs t a b
    have q := g5 _ _ r.1
    rw [r.2] at q
    refine ⟨by omega, q.2.1, fun w => ?_⟩
    show dPos S (if ix t ≤ 0 then -1 else dO S (mach t) (ix t - 1)) < dPos S t
    have w : 0 ≤ (if ix t ≤ 0 then -1 else dO S (mach t) (ix t - 1)) := w
    by_cases z : ix t ≤ 0
    · rw [if_pos z] at w; omega
    · rw [if_neg z]; exact q.2.2 (by omega)
  · intro t a b
    have r := ixs t a b
    have q := g4 _ _ r.1
    rw [r.2] at q
    rw [q]
    congr 1
    show _ = eo (dSs S) l (if ix t ≤ 0 then -1 else dO S (mach t) (ix t - 1))
    by_cases z : ix t ≤ 0
    · rw [if_pos z, if_pos z, eo_neg (by omega)]
    · have v2 : dV S (mach t) (ix t - 1) := ⟨r.1.1, by omega, by have := r.1.2.2; omega⟩
      have := (h5 _ _ v2).1.1
      rw [if_neg z, if_neg z, eo_pos this]
  · exact fun t a b => (g6 t a b (all t a b)).2
  · intro _
    obtain ⟨t, a, b, c⟩ := g8 (by omega)
    exact ⟨t, a.1, a.2, c⟩
theorem cBA.bnd {c : aH} (hs : cShop c) (hb : cBA c) : ∀ t, 0 ≤ t → t < c 3 1 → (0 ≤ c 8 t ∧ c 8 t ≤ 99 * t) ∧ (0 ≤ c 9 t ∧ c 9 t ≤ 99 * (c 3 1 - 1 - t)) := by
  have l1 : ∀ t, 0 ≤ t → t < c 3 1 → 1 ≤ c 7 t ∧ c 7 t ≤ 99 := fun t a b => (hs.1.2.2.1 t a b).2.2.2
  have A : ∀ (d : Nat), (d : Int) < c 3 1 → 0 ≤ c 8 d ∧ c 8 d ≤ 99 * d := by
    intro d
    induction d with
    | zero =>
      intro h
      have q := (hb 0 (by omega) h).1
      have p := hs.1.pl 0 (by omega) h
      rw [if_pos (by omega)] at q
      show 0 ≤ c 8 0 ∧ c 8 0 ≤ 99 * 0
      omega
    | succ d ih =>
      intro h
      have q := (hb ((d + 1 : Nat) : Int) (by omega) h).1
      have r := ih (by omega)
      have l2 := l1 d (by omega) (by omega)
      by_cases z : c 5 ((d + 1 : Nat) : Int) ≤ 0
      · rw [if_pos z] at q; omega
      · rw [if_neg z, show ((d + 1 : Nat) : Int) - 1 = d by omega] at q; omega
  have B : ∀ (d : Nat) (t : Int), 0 ≤ t → t < c 3 1 → c 3 1 - 1 - t = d → 0 ≤ c 9 t ∧ c 9 t ≤ 99 * (c 3 1 - 1 - t) := by
    intro d
    induction d with
    | zero =>
      intro t a b e
      have q := (hb t a b).2
      rcases jN_cases (n := c 3 1) (job := c 4) t with ⟨-, w⟩ | ⟨w, -⟩
      · rw [w, if_pos (by omega)] at q; omega
      · omega
    | succ d ih =>
      intro t a b e
      have q := (hb t a b).2
      rcases jN_cases (n := c 3 1) (job := c 4) t with ⟨-, w⟩ | ⟨w, -, w2⟩
      · rw [w, if_pos (by omega)] at q; omega
      · rw [w2, if_neg (by omega)] at q
        have := ih (t + 1) (by omega) w (by omega)
        have := l1 (t + 1) (by omega) w
        omega
  intro t a b
  refine ⟨?_, B (c 3 1 - 1 - t).toNat t a b (by omega)⟩
  have := A t.toNat (by omega)
  rw [show ((t.toNat : Nat) : Int) = t by omega] at this
  exact this
def cDR (h : aH) (S : dSt) : Prop := (∀ t, 0 ≤ t → t < h 3 1 → h 68 t = dP S t) ∧ (∀ M, 0 ≤ M → M < 5 → h 66 M = dMf S M ∧ h 65 M = dPt S M) ∧ (∀ j, 0 ≤ j → j < 6 → h 67 j = dJf S j) ∧ (∀ M k, dV S M k → h 64 (h 10 M + k) = dO S M k) ∧ h 63 5 = dSp S
theorem r_dClear {h : aH} {Q : aQ} (k : ∀ g, (∀ c, (c < 63 ∨ 68 < c) → g c = h c) → g 63 5 = 0 → (∀ M, 0 ≤ M → M < 5 → g 65 M = 0 ∧ g 66 M = 0) → (∀ j, 0 ≤ j → j < 6 → g 67 j = 0) → (∀ t, 0 ≤ t → t < 24 → g 68 t = 0) → Q 0 g) : aRun mX1_clear 0 [aR 63] h Q := by
  refine e_X1_clear ?_
  have H3 : ∀ (d : Nat) (i : Int) (g : aH), 0 ≤ i → i ≤ 24 → 24 - i ≤ d → (∀ c, (c < 63 ∨ 68 < c) → g c = h c) → g 63 5 = 0 → (∀ M, 0 ≤ M → M < 5 → g 65 M = 0 ∧ g 66 M = 0) → (∀ j, 0 ≤ j → j < 6 → g 67 j = 0) → (∀ t, 0 ≤ t → t < i → g 68 t = 0) → AW mX1_clear 0 55 [some (aR 63), some (aI i)] [] g Q := by
    intro d
    induction d with
    | zero =>
      intro i g i0 i1 hd f1 f2 f3 f4 f5
      exact s_X1_clear_55 ⟨fun _ => k g f1 f2 f3 f4 (fun t a b => f5 t a (by omega)), fun z => by omega⟩
    | succ d ih =>
      intro i g i0 i1 hd f1 f2 f3 f4 f5
      refine s_X1_clear_55 ⟨fun _ => k g f1 f2 f3 f4 (fun t a b => f5 t a (by omega)), fun z => ⟨by omega, by unfold inR; omega, ih (i + 1) _ (by omega) (by omega) (by omega) (fun c hc => (a_up_ne (by omega)).trans (f1 c hc)) ?_ (fun M a b => ?_) (fun j a b => ?_) (fun t a b => ?_)⟩⟩
      · rw [a_up_ne (by omega)]; exact f2
      · rw [a_up_ne (by omega), a_up_ne (by omega)]; exact f3 M a b
      · rw [a_up_ne (by omega)]; exact f4 j a b
      · by_cases e : t = i
        · rw [e, a_up_eq]
        · rw [a_up_off e]; exact f5 t a (by omega)
  have H2 : ∀ (d : Nat) (i : Int) (g : aH), 0 ≤ i → i ≤ 6 → 6 - i ≤ d → (∀ c, (c < 63 ∨ 68 < c) → g c = h c) → g 63 5 = 0 → (∀ M, 0 ≤ M → M < 5 → g 65 M = 0 ∧ g 66 M = 0) → (∀ j, 0 ≤ j → j < i → g 67 j = 0) → AW mX1_clear 0 34 [some (aR 63), some (aI i)] [] g Q := by
    intro d
    induction d with
    | zero =>
      intro i g i0 i1 hd f1 f2 f3 f4
      exact s_X1_clear_34 ⟨fun _ => H3 24 0 g (by omega) (by omega) (by omega) f1 f2 f3 (fun j a b => f4 j a (by omega)) (fun t a b => by omega), fun z => by omega⟩
    | succ d ih =>
      intro i g i0 i1 hd f1 f2 f3 f4
      refine s_X1_clear_34 ⟨fun _ => H3 24 0 g (by omega) (by omega) (by omega) f1 f2 f3 (fun j a b => f4 j a (by omega)) (fun t a b => by omega), fun z => ⟨by omega, by unfold inR; omega, ih (i + 1) _ (by omega) (by omega) (by omega) (fun c hc => (a_up_ne (by omega)).trans (f1 c hc)) ?_ (fun M a b => ?_) (fun j a b => ?_)⟩⟩
      · rw [a_up_ne (by omega)]; exact f2
      · rw [a_up_ne (by omega), a_up_ne (by omega)]; exact f3 M a b
      · by_cases e : j = i
        · rw [e, a_up_eq]
        · rw [a_up_off e]; exact f4 j a (by omega)
  suffices H : ∀ (d : Nat) (i : Int) (g : aH), 0 ≤ i → i ≤ 5 → 5 - i ≤ d → (∀ c, (c < 63 ∨ 68 < c) → g c = h c) → g 63 5 = 0 → (∀ M, 0 ≤ M → M < i → g 65 M = 0 ∧ g 66 M = 0) → AW mX1_clear 0 7 [some (aR 63), some (aI i)] [] g Q from
    H 5 0 _ (by omega) (by omega) (by omega) (fun c hc => a_up_ne (by omega)) a_up_eq (fun M a b => by omega)
  intro d
  induction d with
  | zero =>
    intro i g i0 i1 hd f1 f2 f3
    exact s_X1_clear_7 ⟨fun _ => H2 6 0 g (by omega) (by omega) (by omega) f1 f2 (fun M a b => f3 M a (by omega)) (fun t a b => by omega), fun z => by omega⟩
  | succ d ih =>
    intro i g i0 i1 hd f1 f2 f3
    refine s_X1_clear_7 ⟨fun _ => H2 6 0 g (by omega) (by omega) (by omega) f1 f2 (fun M a b => f3 M a (by omega)) (fun t a b => by omega), fun z => ⟨by omega, by unfold inR; omega, ih (i + 1) _ (by omega) (by omega) (by omega) (fun c hc => ?_) ?_ (fun M a b => ?_)⟩⟩
    · rw [a_up_ne (by omega), a_up_ne (by omega)]; exact f1 c hc
    · rw [a_up_ne (by omega), a_up_ne (by omega)]; exact f2
    · rw [a_up_ne (show (65 : Nat) ≠ 66 by omega), a_up_at, a_up_at, a_up_ne (show (66 : Nat) ≠ 65 by omega)]
      by_cases e : M = i
      · rw [if_pos e, if_pos e]; exact ⟨rfl, rfl⟩
      · rw [if_neg e, if_neg e]; exact f3 M a (by omega)
def cDC (h : aH) (rule : Int) (S : dSt) (t : Int) : Prop := dCh (h 3 1) (h 4) (h 5) (h 6) (h 7) (h 9) rule S t
theorem f_cNext {h : aH} {S : dSt} {t : Int} (hs : cShop h) (R : cDR h S) (t0 : 0 ≤ t) (t1 : t < h 3 1) : f_X1_isNext h t = 0 ↔ ¬ dNx (h 3 1) (h 5) S t := by
  unfold f_X1_isNext dNx
  rw [f_JA, R.1 t t0 t1]
  by_cases z : dP S t = 0
  · rw [if_pos z]
    rcases jA_cases (place := h 5) t with ⟨a, b⟩ | ⟨a, b⟩
    · rw [b, if_pos rfl]
      constructor
      · intro w; omega
      · intro w; exact absurd ⟨⟨t0, t1⟩, z, Or.inl rfl⟩ w
    · have p := hs.1.pl t t0 t1 a
      rw [b, if_neg (by omega), R.1 (t - 1) (by omega) (by omega)]
      by_cases y : dP S (t - 1) = 0
      · rw [if_pos y]
        constructor
        · intro _ w
          rcases w.2.2 with x | x
          · omega
          · exact x y
        · intro _; rfl
      · rw [if_neg y]
        constructor
        · intro w; omega
        · intro w; exact absurd ⟨⟨t0, t1⟩, z, Or.inr y⟩ w
  · rw [if_neg z]
    constructor
    · intro _ w; exact z w.2.1
    · intro _; rfl
theorem r_choose {h : aH} {Q : aQ} {S : dSt} {rule : Int} (hs : cShop h) (hb : cBA h) (R : cDR h S) (k : ∀ r, (r = -1 ∧ ∀ u, ¬ dNx (h 3 1) (h 5) S u) ∨ cDC h rule S r → Q r h) : aRun mX1_choose 2 [aR 63, aR 3, aI rule] h Q := by
  refine e_X1_choose ?_
  have hn := hs.1.1
  have bnd := cBA.bnd hs hb
  have est : ∀ t, 0 ≤ t → t < h 3 1 → f_X1_startOf h t = dStart (h 4) (h 6) S t := by
    intro t a b
    have q := hs.1.2.2.1 t a b
    have q2 := hs.1.2.1
    unfold f_X1_startOf dStart
    rw [(R.2.1 _ q.2.2.1.1 q.2.2.1.2).1, R.2.2.1 _ q.1.1 (by omega)]
  have eky : ∀ t, f_X1_key h rule t = dKey (h 7) (h 9) rule t := fun t => rfl
  suffices H : ∀ (d : Nat) (i l3 l4 l5 : Int), 0 ≤ i → i ≤ h 3 1 → h 3 1 - i ≤ d → ((l3 = -1 ∧ ∀ u, u < i → ¬ dNx (h 3 1) (h 5) S u) ∨ (dNx (h 3 1) (h 5) S l3 ∧ l3 < i ∧ l4 = dStart (h 4) (h 6) S l3 ∧ l5 = dKey (h 7) (h 9) rule l3 ∧ ∀ u, u < i → dNx (h 3 1) (h 5) S u → u = l3 ∨ dLess (h 4) (h 6) (h 7) (h 9) rule S l3 u)) → AW mX1_choose 2 11 [some (aR 63), some (aR 3), some (aI rule), some (aI l3), some (aI l4), some (aI l5), some (aI i), none, none] [] h Q from
    H (h 3 1).toNat 0 (-1) 0 0 (by omega) (by omega) (by omega) (Or.inl ⟨rfl, fun u a b => by have := b.1; omega⟩)
  have fin : ∀ (i l3 l4 l5 : Int), h 3 1 ≤ i → ((l3 = -1 ∧ ∀ u, u < i → ¬ dNx (h 3 1) (h 5) S u) ∨ (dNx (h 3 1) (h 5) S l3 ∧ l3 < i ∧ l4 = dStart (h 4) (h 6) S l3 ∧ l5 = dKey (h 7) (h 9) rule l3 ∧ ∀ u, u < i → dNx (h 3 1) (h 5) S u → u = l3 ∨ dLess (h 4) (h 6) (h 7) (h 9) rule S l3 u)) → Q l3 h := by
    intro i l3 l4 l5 hi hI
    refine k l3 ?_
    rcases hI with ⟨a, b⟩ | ⟨a, b, c, d, e⟩
    · exact Or.inl ⟨a, fun u w => b u (by have := w.1; omega) w⟩
    · exact Or.inr ⟨a, fun u w => e u (by have := w.1; omega) w⟩
  intro d
  induction d with
  | zero =>
    intro i l3 l4 l5 i0 i1 hd hI
    exact s_X1_choose_11 ⟨fun w => fin i l3 l4 l5 w hI, fun w => by omega⟩
  | succ d ih =>
    intro i l3 l4 l5 i0 i1 hd hI
    refine s_X1_choose_11 ⟨fun w => fin i l3 l4 l5 w hI, fun w => ?_⟩
    have i2 : i < h 3 1 := by omega
    have q := hs.1.2.2.1 i i0 i2
    have q2 := hs.1.2.1
    have qb := bnd i i0 i2
    have inr : inR (i + 1) := by unfold inR; omega
    rw [est i i0 i2, eky]
    refine ⟨⟨o_JA i0 (by omega), by omega, fun _ x => ?_⟩, fun z => ⟨inr, ih (i + 1) l3 l4 l5 (by omega) (by omega) (by omega) ?_⟩, fun z => ⟨?_, ?_, ?_⟩⟩
    · rw [f_JA] at x ⊢
      have p := hs.1.pl i i0 i2
      rcases jA_cases (place := h 5) i with ⟨a, b⟩ | ⟨a, b⟩ <;> omega
    · have nt := (f_cNext hs R i0 i2).1 z
      rcases hI with ⟨a, b⟩ | ⟨a, b, c, d, e⟩
      · refine Or.inl ⟨a, fun u x y => ?_⟩
        by_cases v : u = i
        · rw [v] at y; exact nt y
        · exact b u (by omega) y
      · refine Or.inr ⟨a, by omega, c, d, fun u x y => ?_⟩
        by_cases v : u = i
        · rw [v] at y; exact absurd y nt
        · exact e u (by omega) y
    · unfold o_X1_startOf
      omega
    · unfold o_X1_key inR
      omega
    · have nx : dNx (h 3 1) (h 5) S i := Classical.byContradiction (fun y => z ((f_cNext hs R i0 i2).2 y))
      have take : (l3 = -1 ∨ dStart (h 4) (h 6) S i < l4 ∨ (dStart (h 4) (h 6) S i = l4 ∧ dKey (h 7) (h 9) rule i < l5)) → inR (i + 1) ∧ AW mX1_choose 2 11 [some (aR 63), some (aR 3), some (aI rule), some (aI i), some (aI (dStart (h 4) (h 6) S i)), some (aI (dKey (h 7) (h 9) rule i)), some (aI (i + 1)), none, none] [] h Q := by
        intro hc
        refine ⟨inr, ih (i + 1) i _ _ (by omega) (by omega) (by omega) (Or.inr ⟨nx, by omega, rfl, rfl, fun u x y => ?_⟩)⟩
        by_cases v : u = i
        · exact Or.inl v
        · right
          rcases hI with ⟨a, b⟩ | ⟨a, b, c, d, e⟩
          · exact absurd y (b u (by omega))
          · have : dLess (h 4) (h 6) (h 7) (h 9) rule S i l3 := by
              have := a.1
              unfold dLess
              omega
            rcases e u (by omega) y with x1 | x1
            · rw [x1]; exact this
            · unfold dLess at this x1 ⊢
              omega
      have keep : ¬ l3 = -1 → (l4 < dStart (h 4) (h 6) S i ∨ (dStart (h 4) (h 6) S i = l4 ∧ l5 ≤ dKey (h 7) (h 9) rule i)) → inR (i + 1) ∧ AW mX1_choose 2 11 [some (aR 63), some (aR 3), some (aI rule), some (aI l3), some (aI l4), some (aI l5), some (aI (i + 1)), none, none] [] h Q := by
        intro hl hc
        refine ⟨inr, ih (i + 1) l3 l4 l5 (by omega) (by omega) (by omega) ?_⟩
        rcases hI with ⟨a, b⟩ | ⟨a, b, c, d, e⟩
        · exact absurd a hl
        · refine Or.inr ⟨a, by omega, c, d, fun u x y => ?_⟩
          by_cases v : u = i
          · right
            rw [v]
            unfold dLess
            omega
          · exact e u (by omega) y
      exact ⟨fun y => take (Or.inl y), fun y => ⟨fun x => take (Or.inr (Or.inl x)), fun x => ⟨fun v => ⟨fun u => keep y (Or.inr ⟨v, u⟩), fun u => take (Or.inr (Or.inr ⟨v, by omega⟩))⟩, fun v => keep y (Or.inl (by omega))⟩⟩⟩
/-- the states of the class's shop -/
noncomputable def cDS (h : aH) (rule : Int) (i : Nat) : dSt := dS (h 3 1) (h 4) (h 5) (h 6) (h 7) (h 9) rule i
def cDok (h : aH) (rule : Int) (i : Nat) : Prop := (∀ j : Nat, j ≤ i → dI1 (h 3 1) (h 5) (h 6) (cDS h rule j) j ∧ dI2 (h 3 1) (h 4) (h 5) (h 6) (h 7) (cDS h rule j) j) ∧ ∀ j : Nat, j < i → ∃ t, cDC h rule (cDS h rule j) t
theorem next_ex {n nj : Int} {job place mach l : Int → Int} {S : dSt} {i : Nat} (hs : okShop n nj job place mach l) (h : dI1 n place mach S i) (hi : (i : Int) < n) : ∃ t, dNx n place S t := by
  refine Classical.byContradiction (fun N => ?_)
  have all : ∀ (d : Nat), (d : Int) < n → dP S d = 1 := by
    intro d
    induction d using Nat.strongRecOn with
    | _ d ih =>
      intro hd
      rcases h.1 d (by omega) hd with w | w
      · exfalso
        refine N ⟨d, ⟨by omega, hd⟩, w, ?_⟩
        rcases jA_cases (place := place) (d : Int) with ⟨a, b⟩ | ⟨a, b⟩
        · exact Or.inl b
        · right
          have p := hs.pl d (by omega) hd a
          have := ih (d - 1) (by omega) (by omega)
          rw [show ((d - 1 : Nat) : Int) = (d : Int) - 1 by omega] at this
          rw [b, this]
          omega
      · exact w
  have : cntB (fun t => decide (dP S t = 1)) n.toNat = n.toNat := by
    have gen : ∀ k : Nat, (k : Int) ≤ n → cntB (fun t => decide (dP S t = 1)) k = k := by
      intro k
      induction k with
      | zero => intro _; rfl
      | succ k ih =>
        intro hk
        show cntB _ k + (if decide (dP S k = 1) then 1 else 0) = _
        rw [ih (by omega), decide_eq_true (all k (by omega)), if_pos rfl]
        omega
    exact gen _ (by omega)
  have := h.2.1
  omega
set_option maxHeartbeats 1000000 in
theorem r_cDisp {h : aH} {Q : aQ} {rule : Int} (hs : cShop h) (hb : cBA h) (hc : cCnt h) (k : ∀ g, (∀ c, (c < 63 ∨ 68 < c) → g c = h c) → cDok h rule (h 3 1).toNat → cDR g (cDS h rule (h 3 1).toNat) → Q 0 g) : aRun mX1_lay 3 [aR 63, aR 3, aI rule] h Q := by
  have hn := hs.1.1
  refine e_X1_lay (r_dClear (fun g0 f0 f1 f2 f3 f4 => ?_))
  suffices H : ∀ (d i : Nat) (g : aH), (i : Int) ≤ h 3 1 → h 3 1 - i ≤ d → (∀ c, (c < 63 ∨ 68 < c) → g c = h c) → cDok h rule i → cDR g (cDS h rule i) → AW mX1_lay 3 6 [some (aR 63), some (aR 3), some (aI rule), some (aI (i : Int)), none] [] g Q from by
    refine H (h 3 1).toNat 0 g0 (by omega) (by omega) f0 ⟨fun j hj => ?_, fun j hj => absurd hj (by omega)⟩ ⟨fun t a b => ?_, fun M a b => ?_, fun j a b => f3 j a b, fun M k' v => ?_, f1⟩
    · have : j = 0 := by omega
      subst this
      exact ⟨dI1.zero, dI2.zero⟩
    · rw [f0 3 (by omega)] at b
      exact f4 t a (by omega)
    · exact ⟨(f2 M a b).2, (f2 M a b).1⟩
    · have : k' < 0 := v.2.2
      have := v.2.1
      omega
  intro d
  induction d with
  | zero =>
    intro i g i1 hd f ok R
    refine s_X1_lay_6 ⟨fun _ => ?_, fun w => ?_⟩
    · have e : i = (h 3 1).toNat := by omega
      subst e
      exact k g f ok R
    · rw [f 3 (by omega)] at w; omega
  | succ d ih =>
    intro i g i1 hd f ok R
    refine s_X1_lay_6 ⟨fun w => ?_, fun w => ?_⟩
    · rw [f 3 (by omega)] at w
      have e : i = (h 3 1).toNat := by omega
      subst e
      exact k g f ok R
    rw [f 3 (by omega)] at w
    have a : ∀ k, 3 ≤ k → k ≤ 10 → g k = h k := fun k k1 k2 => f k (by omega)
    have hsg : cShop g := hs.congr a
    have hbg : cBA g := by
      unfold cBA at hb ⊢
      rw [a 3 (by omega) (by omega), a 4 (by omega) (by omega), a 5 (by omega) (by omega), a 7 (by omega) (by omega), a 8 (by omega) (by omega), a 9 (by omega) (by omega)]
      exact hb
    refine r_choose hsg hbg R (fun t ht => ?_)
    have I := ok.1 i (by omega)
    have ex := next_ex hs.1 I.1 (by omega)
    unfold cDC at ht
    rw [a 3 (by omega) (by omega), a 4 (by omega) (by omega), a 5 (by omega) (by omega), a 6 (by omega) (by omega), a 7 (by omega) (by omega), a 9 (by omega) (by omega)] at ht
    rcases ht with ⟨-, no⟩ | ch
    · obtain ⟨u, hu⟩ := ex
      exact absurd hu (no u)
    have tr := ch.1.1
    refine ⟨fun e => by omega, fun _ => ?_⟩
    have q := hs.1.2.2.1 t tr.1 tr.2
    have q2 := hs.1.2.1
    have eS : cDS h rule (i + 1) = dPut (h 4) (h 6) (h 7) (cDS h rule i) i t := ch.next
    have I1' := I.1.put (job := h 4) (l := h 7) hs.1.pl (fun t a b => (hs.1.2.2.1 t a b).2.2.1) ch.1
    have I2' := dI2.put hs.1 I.1 I.2 ch.1
    have pt := R.2.1 (h 6 t) q.2.2.1.1 q.2.2.1.2
    have jf := R.2.2.1 (h 4 t) q.1.1 (by omega)
    have est : f_X1_startOf g t = dStart (h 4) (h 6) (cDS h rule i) t := by
      unfold f_X1_startOf dStart
      rw [a 6 (by omega) (by omega), a 4 (by omega) (by omega), pt.1, jf]
    rw [est, a 6 (by omega) (by omega), a 4 (by omega) (by omega), a 7 (by omega) (by omega), a 10 (by omega) (by omega)]
    have sl := hs.2.at q.2.2.1.1 q.2.2.1.2
    -- how many are put: less than there are
    have ptz : 0 ≤ dPt (cDS h rule i) (h 6 t) ∧ dPt (cDS h rule i) (h 6 t) + 1 ≤ h 10 (h 6 t + 1) - h 10 (h 6 t) := by
      have z := hc (h 6 t) q.2.2.1.1 q.2.2.1.2
      have z2 := (I1'.2.2.2.1 (h 6 t) q.2.2.1.1 q.2.2.1.2).2
      have z3 : dPt (dPut (h 4) (h 6) (h 7) (cDS h rule i) i t) (h 6 t) = dPt (cDS h rule i) (h 6 t) + 1 := if_pos rfl
      have z4 := cntB_le (p := fun u => decide (h 6 u = h 6 t ∧ dP (dPut (h 4) (h 6) (h 7) (cDS h rule i) i t) u = 1)) (q := fun u => decide (h 6 u = h 6 t)) (h 3 1).toNat (fun u _ x => decide_eq_true (of_decide_eq_true x).1)
      have z5 := (I.1.2.2.2.1 (h 6 t) q.2.2.1.1 q.2.2.1.2).1
      have z6 : cSz h (h 6 t) = h 10 (h 6 t + 1) - h 10 (h 6 t) := rfl
      omega
    have st0 := I.2.2.2.2.2.2.2.1
    have bM := I.2.2.2.2.2.2.2.2.2.1 (h 6 t)
    have bJ := I.2.2.2.2.2.2.2.2.2.2 (h 4 t)
    have stb : 0 ≤ dStart (h 4) (h 6) (cDS h rule i) t ∧ dStart (h 4) (h 6) (cDS h rule i) t ≤ 2376 := by unfold dStart; omega
    rw [pt.2]
    refine ⟨⟨by omega, by unfold o_X1_startOf; rw [a 6 (by omega) (by omega), a 4 (by omega) (by omega)]; omega, by omega, by unfold inR; omega, by omega, by omega, by unfold inR; omega, by omega, by omega, by unfold inR; omega, by omega, by omega, by omega, by omega, by omega⟩, by unfold inR; omega, ?_⟩
    refine ih (i + 1) _ (by omega) (by omega) (fun c hc => ?_) ⟨fun j hj => ?_, fun j hj => ?_⟩ ?_
    · rw [a_up_ne (by omega), a_up_ne (by omega), a_up_ne (by omega), a_up_ne (by omega), a_up_ne (by omega), a_up_ne (by omega)]
      exact f c hc
    · by_cases e : j = i + 1
      · rw [e, eS]; exact ⟨I1', I2'⟩
      · exact ok.1 j (by omega)
    · by_cases e : j = i
      · rw [e]; exact ⟨t, ch⟩
      · exact ok.2 j (by omega)
    · generalize hG : a_up (a_up (a_up (a_up (a_up (a_up g 64 (h 10 (h 6 t) + dPt (cDS h rule i) (h 6 t)) t) 65 (h 6 t) (dPt (cDS h rule i) (h 6 t) + 1)) 68 t 1) 66 (h 6 t) (dStart (h 4) (h 6) (cDS h rule i) t + h 7 t)) 67 (h 4 t) (dStart (h 4) (h 6) (cDS h rule i) t + h 7 t)) 63 5 (max (g 63 5) (dStart (h 4) (h 6) (cDS h rule i) t + h 7 t)) = G
      have G3 : G 3 = h 3 := by rw [← hG, a_up_ne (by omega), a_up_ne (by omega), a_up_ne (by omega), a_up_ne (by omega), a_up_ne (by omega), a_up_ne (by omega)]; exact f 3 (by omega)
      have G10 : G 10 = h 10 := by rw [← hG, a_up_ne (by omega), a_up_ne (by omega), a_up_ne (by omega), a_up_ne (by omega), a_up_ne (by omega), a_up_ne (by omega)]; exact f 10 (by omega)
      have G68 : G 68 = up1 (g 68) t 1 := by rw [← hG, a_up_ne (by omega), a_up_ne (by omega), a_up_ne (by omega), a_up_fn, a_up_ne (by omega), a_up_ne (by omega)]
      have G66 : G 66 = up1 (g 66) (h 6 t) (dStart (h 4) (h 6) (cDS h rule i) t + h 7 t) := by rw [← hG, a_up_ne (by omega), a_up_ne (by omega), a_up_fn, a_up_ne (by omega), a_up_ne (by omega), a_up_ne (by omega)]
      have G65 : G 65 = up1 (g 65) (h 6 t) (dPt (cDS h rule i) (h 6 t) + 1) := by rw [← hG, a_up_ne (by omega), a_up_ne (by omega), a_up_ne (by omega), a_up_ne (by omega), a_up_fn, a_up_ne (by omega)]
      have G67 : G 67 = up1 (g 67) (h 4 t) (dStart (h 4) (h 6) (cDS h rule i) t + h 7 t) := by rw [← hG, a_up_ne (by omega), a_up_fn, a_up_ne (by omega), a_up_ne (by omega), a_up_ne (by omega), a_up_ne (by omega)]
      have G64 : G 64 = up1 (g 64) (h 10 (h 6 t) + dPt (cDS h rule i) (h 6 t)) t := by rw [← hG, a_up_ne (by omega), a_up_ne (by omega), a_up_ne (by omega), a_up_ne (by omega), a_up_ne (by omega), a_up_fn]
      have G63 : G 63 5 = max (g 63 5) (dStart (h 4) (h 6) (cDS h rule i) t + h 7 t) := by rw [← hG, a_up_eq]
      obtain ⟨R1, R2, R3, R4, R5⟩ := R
      rw [eS]
      refine ⟨fun u x y => ?_, fun M x y => ?_, fun j x y => ?_, fun M k' v => ?_, ?_⟩
      · rw [G3] at y
        rw [G68, up1_at]
        show _ = up1 (dP (cDS h rule i)) t 1 u
        rw [up1_at, R1 u x (by rw [a 3 (by omega) (by omega)]; exact y)]
      · rw [G66, G65]
        show up1 _ _ _ M = up1 (dMf (cDS h rule i)) (h 6 t) _ M ∧ up1 _ _ _ M = up1 (dPt (cDS h rule i)) (h 6 t) _ M
        rw [up1_at, up1_at, up1_at, up1_at, (R2 M x y).1, (R2 M x y).2]
        exact ⟨rfl, rfl⟩
      · rw [G67]
        show up1 _ _ _ j = up1 (dJf (cDS h rule i)) (h 4 t) _ j
        rw [up1_at, up1_at, R3 j x y]
      · rw [G64, G10, up1_at]
        show _ = if M = h 6 t ∧ k' = dPt (cDS h rule i) (h 6 t) then t else dO (cDS h rule i) M k'
        by_cases e : M = h 6 t ∧ k' = dPt (cDS h rule i) (h 6 t)
        · rw [if_pos e, if_pos (by rw [e.1, e.2])]
        · have v2 := v.2.2
          have ev : dPt (dPut (h 4) (h 6) (h 7) (cDS h rule i) i t) M = if M = h 6 t then dPt (cDS h rule i) (h 6 t) + 1 else dPt (cDS h rule i) M := rfl
          rw [ev] at v2
          have vo : dV (cDS h rule i) M k' := by
            refine ⟨v.1, v.2.1, ?_⟩
            by_cases e1 : M = h 6 t
            · rw [if_pos e1] at v2
              have : k' ≠ dPt (cDS h rule i) (h 6 t) := fun x => e ⟨e1, x⟩
              rw [e1]; omega
            · rw [if_neg e1] at v2; exact v2
          rw [if_neg e, if_neg, ← R4 M k' vo, a 10 (by omega) (by omega)]
          intro x
          have c1 := vo.2.2
          have c2 := (I.1.2.2.2.1 M v.1.1 v.1.2)
          have c3 := hc M v.1.1 v.1.2
          have c4 := cntB_le (p := fun u => decide (h 6 u = M ∧ dP (cDS h rule i) u = 1)) (q := fun u => decide (h 6 u = M)) (h 3 1).toNat (fun u _ x => decide_eq_true (of_decide_eq_true x).1)
          have c5 : cSz h M = h 10 (M + 1) - h 10 M := rfl
          have c6 := v.2.1
          by_cases e1 : M = h 6 t
          · rw [e1] at x
            exact e ⟨e1, by omega⟩
          · have s1 := hs.2.at v.1.1 v.1.2
            by_cases e2 : M < h 6 t
            · have := hs.2.mono v.1.1 e2 q.2.2.1.2
              omega
            · have := hs.2.mono q.2.2.1.1 (show h 6 t < M by omega) v.1.2
              omega
      · rw [G63, R5]; rfl
