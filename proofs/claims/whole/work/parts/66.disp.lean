/-! DISPATCHED: the state behind each task put: put, free machines, free jobs, how many, orders, the last end; starts, when -/
abbrev dSt : Type := (Int → Int) × (Int → Int) × (Int → Int) × (Int → Int) × (Int → Int → Int) × Int × (Int → Int) × (Int → Int)
abbrev dP (S : dSt) : Int → Int := S.1
abbrev dMf (S : dSt) : Int → Int := S.2.1
abbrev dJf (S : dSt) : Int → Int := S.2.2.1
abbrev dPt (S : dSt) : Int → Int := S.2.2.2.1
abbrev dO (S : dSt) : Int → Int → Int := S.2.2.2.2.1
abbrev dSp (S : dSt) : Int := S.2.2.2.2.2.1
abbrev dSs (S : dSt) : Int → Int := S.2.2.2.2.2.2.1
abbrev dPos (S : dSt) : Int → Int := S.2.2.2.2.2.2.2
def dNx (n : Int) (place : Int → Int) (S : dSt) (t : Int) : Prop := (0 ≤ t ∧ t < n) ∧ dP S t = 0 ∧ (jA place t = -1 ∨ ¬ dP S (jA place t) = 0)
def dKey (l af : Int → Int) (rule t : Int) : Int := if rule = 0 then l t else if rule = 1 then -(l t) else if rule = 2 then -(l t + af t) else l t + af t
def dStart (job mach : Int → Int) (S : dSt) (t : Int) : Int := max (dMf S (mach t)) (dJf S (job t))
def dLess (job mach l af : Int → Int) (rule : Int) (S : dSt) (t u : Int) : Prop := dStart job mach S t < dStart job mach S u ∨ (dStart job mach S t = dStart job mach S u ∧ (dKey l af rule t < dKey l af rule u ∨ (dKey l af rule t = dKey l af rule u ∧ t < u)))
def dCh (n : Int) (job place mach l af : Int → Int) (rule : Int) (S : dSt) (t : Int) : Prop := dNx n place S t ∧ ∀ u, dNx n place S u → u = t ∨ dLess job mach l af rule S t u
def dPut (job mach l : Int → Int) (S : dSt) (i t : Int) : dSt := (up1 (dP S) t 1, up1 (dMf S) (mach t) (dStart job mach S t + l t), up1 (dJf S) (job t) (dStart job mach S t + l t), up1 (dPt S) (mach t) (dPt S (mach t) + 1), (fun M k => if M = mach t ∧ k = dPt S (mach t) then t else dO S M k), max (dSp S) (dStart job mach S t + l t), up1 (dSs S) t (dStart job mach S t), up1 (dPos S) t i)
noncomputable def dS (n : Int) (job place mach l af : Int → Int) (rule : Int) : Nat → dSt
  | 0 => (fun _ => 0, fun _ => 0, fun _ => 0, fun _ => 0, fun _ _ => 0, 0, fun _ => 0, fun _ => 0)
  | i + 1 => dPut job mach l (dS n job place mach l af rule i) i (Classical.epsilon (dCh n job place mach l af rule (dS n job place mach l af rule i)))
theorem dCh.unique {n : Int} {job place mach l af : Int → Int} {rule : Int} {S : dSt} {t t' : Int} (h : dCh n job place mach l af rule S t) (h' : dCh n job place mach l af rule S t') : t = t' := by
  rcases h.2 t' h'.1 with a | a
  · exact a.symm
  · rcases h'.2 t h.1 with b | b
    · exact b
    · unfold dLess at a b
      omega
theorem dCh.next {n : Int} {job place mach l af : Int → Int} {rule : Int} {i : Nat} {t : Int} (h : dCh n job place mach l af rule (dS n job place mach l af rule i) t) : dS n job place mach l af rule (i + 1) = dPut job mach l (dS n job place mach l af rule i) i t := by
  have e := (Classical.epsilon_spec ⟨t, h⟩ : dCh n job place mach l af rule (dS n job place mach l af rule i) _).unique h
  show dPut job mach l _ i (Classical.epsilon _) = _
  rw [e]
def dV (S : dSt) (M k : Int) : Prop := (0 ≤ M ∧ M < 5) ∧ 0 ≤ k ∧ k < dPt S M
def dI1 (n : Int) (place mach : Int → Int) (S : dSt) (i : Nat) : Prop :=
  (∀ t, 0 ≤ t → t < n → dP S t = 0 ∨ dP S t = 1) ∧ cntB (fun t => decide (dP S t = 1)) n.toNat = i ∧ (∀ t, 0 ≤ t → t < n → dP S t = 1 → 0 < place t → dP S (t - 1) = 1) ∧
  (∀ M, 0 ≤ M → M < 5 → 0 ≤ dPt S M ∧ dPt S M = cntB (fun t => decide (mach t = M ∧ dP S t = 1)) n.toNat) ∧
  (∀ M k, dV S M k → (0 ≤ dO S M k ∧ dO S M k < n) ∧ mach (dO S M k) = M ∧ dP S (dO S M k) = 1) ∧
  (∀ M k k', dV S M k → dV S M k' → dO S M k = dO S M k' → k = k') ∧
  (∀ t, 0 ≤ t → t < n → dP S t = 1 → ∃ k, dV S (mach t) k ∧ dO S (mach t) k = t)
def dI2 (n : Int) (job place mach l : Int → Int) (S : dSt) (i : Nat) : Prop :=
  (∀ t, 0 ≤ t → t < n → place t = 0 → dP S t = 0 → dJf S (job t) = 0) ∧
  (∀ t, 0 ≤ t → t < n → dP S t = 1 → (t + 1 < n → job (t + 1) = job t → dP S (t + 1) = 0) → dJf S (job t) = dSs S t + l t) ∧
  (∀ M, 0 ≤ M → M < 5 → dMf S M = if dPt S M ≤ 0 then 0 else dSs S (dO S M (dPt S M - 1)) + l (dO S M (dPt S M - 1))) ∧
  (∀ M k, dV S M k → dSs S (dO S M k) = max (eo (dSs S) l (jA place (dO S M k))) (if k ≤ 0 then 0 else dSs S (dO S M (k - 1)) + l (dO S M (k - 1)))) ∧
  (∀ M k, dV S M k → (0 ≤ dPos S (dO S M k) ∧ dPos S (dO S M k) < i) ∧ (0 ≤ jA place (dO S M k) → dPos S (jA place (dO S M k)) < dPos S (dO S M k)) ∧ (0 < k → dPos S (dO S M (k - 1)) < dPos S (dO S M k))) ∧
  (∀ t, 0 ≤ t → t < n → dP S t = 1 → 0 ≤ dSs S t ∧ dSs S t + l t ≤ dSp S) ∧ (0 ≤ dSp S ∧ dSp S ≤ 99 * i) ∧ (0 < i → ∃ t, (0 ≤ t ∧ t < n) ∧ dP S t = 1 ∧ dSs S t + l t = dSp S) ∧
  (∀ M, 0 ≤ dMf S M ∧ dMf S M ≤ dSp S) ∧ ∀ j, 0 ≤ dJf S j ∧ dJf S j ≤ dSp S
theorem cntB_up {p q : Int → Bool} {t : Int} (h : ∀ i : Int, i ≠ t → p i = q i) (hp : p t = false) (hq : q t = true) : ∀ k : Nat, cntB q k = cntB p k + if 0 ≤ t ∧ t < k then 1 else 0 := by
  intro k
  induction k with
  | zero =>
    rw [if_neg (by omega)]
    rfl
  | succ k ih =>
    show cntB q k + (if q k then 1 else 0) = cntB p k + (if p k then 1 else 0) + _
    rw [ih]
    by_cases e : (k : Int) = t
    · rw [e, hp, hq, if_neg (by omega), if_pos (show 0 ≤ t ∧ t < ((k + 1 : Nat) : Int) by omega)]
      rfl
    · rw [h k e]
      by_cases z : 0 ≤ t ∧ t < (k : Int)
      · rw [if_pos z, if_pos (show 0 ≤ t ∧ t < ((k + 1 : Nat) : Int) by omega)]; omega
      · rw [if_neg z, if_neg (show ¬ (0 ≤ t ∧ t < ((k + 1 : Nat) : Int)) by omega)]; omega
theorem cntB_zero {p : Int → Bool} : ∀ k : Nat, (∀ i : Nat, i < k → p i = false) → cntB p k = 0 := by
  intro k
  induction k with
  | zero => intro _; rfl
  | succ k ih =>
    intro h
    show cntB p k + (if p k then 1 else 0) = 0
    rw [ih (fun i hi => h i (by omega)), h k (by omega)]
    rfl
theorem dI1.zero {n : Int} {job place mach l af : Int → Int} {rule : Int} : dI1 n place mach (dS n job place mach l af rule 0) 0 := by
  refine ⟨fun t _ _ => Or.inl rfl, cntB_zero _ (fun i _ => rfl), fun t _ _ e => absurd (show (0 : Int) = 1 from e) (by omega), fun M _ _ => ⟨Int.le_refl 0, (cntB_zero _ (fun i _ => ?_)).symm⟩, fun M k v => ?_, fun M k k' v => ?_, fun t _ _ e => absurd (show (0 : Int) = 1 from e) (by omega)⟩
  · show decide (mach (i : Int) = M ∧ (0 : Int) = 1) = false
    exact decide_eq_false (fun w => by omega)
  · have : k < 0 := v.2.2
    have := v.2.1
    omega
  · have : k < 0 := v.2.2
    have := v.2.1
    omega
theorem dI2.zero {n : Int} {job place mach l af : Int → Int} {rule : Int} : dI2 n job place mach l (dS n job place mach l af rule 0) 0 := by
  have no : ∀ M k, ¬ dV (dS n job place mach l af rule 0) M k := fun M k v => by
    have : k < 0 := v.2.2
    have := v.2.1
    omega
  refine ⟨fun _ _ _ _ _ => rfl, fun t _ _ e => absurd (show (0 : Int) = 1 from e) (by omega), fun M _ _ => ?_, fun M k v => absurd v (no M k), fun M k v => absurd v (no M k), fun t _ _ e => absurd (show (0 : Int) = 1 from e) (by omega), ⟨Int.le_refl 0, Int.le_refl 0⟩, fun w => absurd w (by omega), fun M => ⟨Int.le_refl 0, Int.le_refl 0⟩, fun j => ⟨Int.le_refl 0, Int.le_refl 0⟩⟩
  show (0 : Int) = if (0 : Int) ≤ 0 then 0 else _
  rw [if_pos (by omega)]
theorem dI1.put {n : Int} {job place mach l : Int → Int} {S : dSt} {i : Nat} {t : Int} (hpl : ∀ t, 0 ≤ t → t < n → 0 < place t → 0 < t) (hm : ∀ t, 0 ≤ t → t < n → 0 ≤ mach t ∧ mach t < 5) (h : dI1 n place mach S i) (ht : dNx n place S t) : dI1 n place mach (dPut job mach l S i t) (i + 1) := by
  obtain ⟨h1, h2, h3, h4, h5, h6, h7⟩ := h
  obtain ⟨⟨t0, t1⟩, t2, t3⟩ := ht
  have mt := hm t t0 t1
  have pt0 := (h4 _ mt.1 mt.2).1
  have eP : ∀ u, dP (dPut job mach l S i t) u = if u = t then 1 else dP S u := fun u => rfl
  have ePt : ∀ M, dPt (dPut job mach l S i t) M = if M = mach t then dPt S (mach t) + 1 else dPt S M := fun M => rfl
  have eO : ∀ M k, dO (dPut job mach l S i t) M k = if M = mach t ∧ k = dPt S (mach t) then t else dO S M k := fun M k => rfl
  have old : ∀ M k, dV (dPut job mach l S i t) M k → ¬ (M = mach t ∧ k = dPt S (mach t)) → dV S M k := by
    intro M k v nv
    refine ⟨v.1, v.2.1, ?_⟩
    have := v.2.2
    rw [ePt] at this
    by_cases e : M = mach t
    · rw [if_pos e] at this
      rw [e]
      have : k ≠ dPt S (mach t) := fun w => nv ⟨e, w⟩
      omega
    · rw [if_neg e] at this
      exact this
  have neq : ∀ M k, dV S M k → dO S M k ≠ t := fun M k v e => by
    have := (h5 M k v).2.2
    rw [e, t2] at this
    omega
  refine ⟨fun u a b => ?_, ?_, fun u a b c d => ?_, fun M a b => ⟨?_, ?_⟩, fun M k v => ?_, fun M k k' v v' e => ?_, fun u a b c => ?_⟩
  · rw [eP]
    by_cases e : u = t
    · rw [if_pos e]; exact Or.inr rfl
    · rw [if_neg e]; exact h1 u a b
  · have := cntB_up (p := fun u => decide (dP S u = 1)) (q := fun u => decide (dP (dPut job mach l S i t) u = 1)) (t := t) (fun u hu => by rw [eP, if_neg hu]) (by rw [t2]; rfl) (by rw [eP, if_pos rfl]; rfl) n.toNat
    rw [this, h2, if_pos (by omega)]
    omega
  · rw [eP] at c ⊢
    by_cases e : u = t
    · rw [if_neg (by omega), e]
      rw [e] at d
      have tp := hpl t t0 t1 d
      rcases jA_cases (place := place) t with ⟨z, -⟩ | ⟨-, z⟩
      · omega
      · rw [z] at t3
        rcases h1 (t - 1) (by omega) (by omega) with q | q
        · omega
        · exact q
    · rw [if_neg e] at c
      have q := h3 u a b c d
      by_cases e2 : u - 1 = t
      · rw [if_pos e2]
      · rw [if_neg e2]; exact q
  · have q := (h4 M a b).1
    rw [ePt]
    by_cases e : M = mach t
    · rw [if_pos e]; omega
    · rw [if_neg e]; exact q
  · have q := (h4 M a b).2
    rw [ePt]
    by_cases e : M = mach t
    · rw [if_pos e, ← e, q]
      have := cntB_up (p := fun u => decide (mach u = M ∧ dP S u = 1)) (q := fun u => decide (mach u = M ∧ dP (dPut job mach l S i t) u = 1)) (t := t) (fun u hu => by rw [eP, if_neg hu]) (decide_eq_false (fun w => by omega)) (decide_eq_true ⟨e.symm, by rw [eP, if_pos rfl]⟩) n.toNat
      rw [this, if_pos (by omega)]
    · rw [if_neg e, q]
      refine cntB_congr _ (fun u hu => ?_)
      rw [eP]
      by_cases e2 : (u : Int) = t
      · rw [if_pos e2, e2, decide_eq_false (fun w => e w.1.symm), decide_eq_false (fun w => e w.1.symm)]
      · rw [if_neg e2]
  · rw [eO]
    by_cases e : M = mach t ∧ k = dPt S (mach t)
    · rw [if_pos e, eP, if_pos rfl]
      exact ⟨⟨t0, t1⟩, e.1.symm, rfl⟩
    · rw [if_neg e, eP]
      have q := h5 M k (old M k v e)
      rw [if_neg (neq M k (old M k v e))]
      exact q
  · rw [eO, eO] at e
    by_cases e1 : M = mach t ∧ k = dPt S (mach t)
    · by_cases e2 : M = mach t ∧ k' = dPt S (mach t)
      · omega
      · rw [if_pos e1, if_neg e2] at e
        exact absurd e.symm (neq M k' (old M k' v' e2))
    · by_cases e2 : M = mach t ∧ k' = dPt S (mach t)
      · rw [if_neg e1, if_pos e2] at e
        exact absurd e (neq M k (old M k v e1))
      · rw [if_neg e1, if_neg e2] at e
        exact h6 M k k' (old M k v e1) (old M k' v' e2) e
  · rw [eP] at c
    by_cases e : u = t
    · refine ⟨dPt S (mach t), ⟨hm u a b, pt0, ?_⟩, ?_⟩
      · rw [ePt, e, if_pos rfl]; omega
      · rw [eO, e, if_pos ⟨rfl, rfl⟩]
    · rw [if_neg e] at c
      obtain ⟨k, v, q⟩ := h7 u a b c
      refine ⟨k, ⟨v.1, v.2.1, ?_⟩, ?_⟩
      · have := v.2.2
        rw [ePt]
        by_cases e2 : mach u = mach t
        · rw [if_pos e2, ← e2]; omega
        · rw [if_neg e2]; exact this
      · rw [eO, if_neg, q]
        rintro ⟨e1, e2⟩
        have := v.2.2
        rw [e1] at this
        omega
