/-! DISPATCHED on the reference -/
theorem job_ex {n nj : Int} {job place mach l : Int → Int} (hs : okShop n nj job place mach l) : ∀ (d : Nat) (t j : Int), t = d → t < n → 0 ≤ j → j ≤ job t → ∃ u, (0 ≤ u ∧ u ≤ t) ∧ job u = j := by
  intro d
  induction d with
  | zero =>
    intro t j e t1 j0 j1
    have q := hs.2.2.2.1 t (by omega) t1
    have p := (hs.2.2.1 t (by omega) t1).2.1
    by_cases z : place t = 0
    · have := q.1 z
      exact ⟨t, by omega, by omega⟩
    · have := q.2 (by omega)
      omega
  | succ d ih =>
    intro t j e t1 j0 j1
    by_cases y : job t = j
    · exact ⟨t, by omega, y⟩
    have q := hs.2.2.2.1 t (by omega) t1
    have p := (hs.2.2.1 t (by omega) t1).2.1
    have : j ≤ job (t - 1) := by
      by_cases z : place t = 0
      · have := q.1 z
        omega
      · have := q.2 (by omega)
        omega
    obtain ⟨u, a, b⟩ := ih (t - 1) j (by omega) (by omega) j0 this
    exact ⟨u, by omega, b⟩
theorem r_firstOf {h : aH} {Q : aQ} {j : Int} (hs : mShop h) (hn : 0 < h 85 1) (hj : 0 ≤ j ∧ j < h 85 0) (k : ∀ r, (0 ≤ r ∧ r < h 85 1) → h 86 r = j → (∀ u, 0 ≤ u → u < r → h 86 u ≠ j) → Q r h) : aRun mX10_firstOf 0 [aR 85, aI j] h Q := by
  refine e_X10_firstOf ?_
  have h0 := hs.1.1
  have hl := hs.1.2.2.2.2.1 hn
  obtain ⟨w, w1, w2⟩ := job_ex hs.1 (h 85 1 - 1).toNat (h 85 1 - 1) j (by omega) (by omega) hj.1 (by omega)
  suffices H : ∀ (d : Nat) (i : Int), 0 ≤ i → i ≤ w → w - i ≤ d → (∀ u, 0 ≤ u → u < i → h 86 u ≠ j) → AW mX10_firstOf 0 2 [some (aR 85), some (aI j), some (aI i)] [] h Q from
    H w.toNat 0 (by omega) (by omega) (by omega) (fun u a b => by omega)
  intro d
  induction d with
  | zero =>
    intro i i0 i1 hd hno
    have e : i = w := by omega
    exact s_X10_firstOf_2 ⟨by omega, fun x => k i (by omega) x hno, fun x => absurd (by rw [e]; exact w2) x⟩
  | succ d ih =>
    intro i i0 i1 hd hno
    refine s_X10_firstOf_2 ⟨by omega, fun x => k i (by omega) x hno, fun x => ⟨by unfold inR; omega, ?_⟩⟩
    by_cases e : i = w
    · exact absurd (by rw [e]; exact w2) x
    · refine ih (i + 1) (by omega) (by omega) (by omega) (fun u a b => ?_)
      by_cases y : u = i
      · rw [y]; exact x
      · exact hno u a (by omega)
/-- what lies behind in a job, for tables of one's own -/
def afOK (n : Int) (job l af : Int → Int) : Prop := ∀ t, 0 ≤ t → t < n → af t = (if jN n job t < 0 then 0 else af (t + 1) + l (t + 1)) ∧ (0 ≤ af t ∧ af t ≤ 2376)
theorem r_leftOf {h : aH} {Q : aQ} {af : Int → Int} {t : Int} (hs : mShop h) (ha : afOK (h 85 1) (h 86) (h 89) af) (ht : 0 ≤ t ∧ t < h 85 1) (k : Q (h 89 t + af t) h) : aRun mX10_leftOf 0 [aR 85, aI t] h Q := by
  refine e_X10_leftOf ?_
  have h0 := hs.1.1
  have l1 : ∀ t, 0 ≤ t → t < h 85 1 → 1 ≤ h 89 t ∧ h 89 t ≤ 99 := fun t a b => (hs.1.2.2.1 t a b).2.2.2
  suffices H : ∀ (d : Nat) (u s : Int), t ≤ u → u ≤ h 85 1 → h 85 1 - u ≤ d → 0 ≤ s → ((u < h 85 1 ∧ h 86 u = h 86 t ∧ s + (h 89 u + af u) = h 89 t + af t) ∨ ((u = h 85 1 ∨ h 86 u ≠ h 86 t) ∧ s = h 89 t + af t)) → AW mX10_leftOf 0 4 [some (aR 85), some (aI t), some (aI s), some (aI u)] [] h Q from
    H (h 85 1).toNat t 0 (by omega) (by omega) (by omega) (by omega) (Or.inl ⟨ht.2, rfl, by omega⟩)
  intro d
  induction d with
  | zero =>
    intro u s u0 u1 hd s0 hI
    refine s_X10_leftOf_4 ⟨fun _ => ?_, fun w => by omega⟩
    rcases hI with a | ⟨-, a⟩
    · omega
    · rw [a]; exact k
  | succ d ih =>
    intro u s u0 u1 hd s0 hI
    refine s_X10_leftOf_4 ⟨fun _ => ?_, fun w => ⟨by omega, by omega, fun e => ?_, fun e => ?_⟩⟩
    · rcases hI with a | ⟨-, a⟩
      · omega
      · rw [a]; exact k
    · rcases hI with ⟨a, b, c⟩ | ⟨a, -⟩
      · have q := ha u (by omega) a
        have lu := l1 u (by omega) a
        have qt := ha t ht.1 ht.2
        have lt := l1 t ht.1 ht.2
        refine ⟨by unfold inR; omega, by unfold inR; omega, ih (u + 1) _ (by omega) (by omega) (by omega) (by omega) ?_⟩
        rcases jN_cases (n := h 85 1) (job := h 86) u with ⟨x, y⟩ | ⟨x, y, z⟩
        · right
          rw [y, if_pos (by omega)] at q
          refine ⟨?_, by omega⟩
          rcases x with x | x
          · exact Or.inl (by omega)
          · right; rw [← b]; exact x
        · left
          rw [z, if_neg (by omega)] at q
          refine ⟨x, by rw [y]; exact b, by omega⟩
      · rcases a with a | a
        · omega
        · exact absurd e a
    · rcases hI with ⟨a, b, c⟩ | ⟨-, a⟩
      · exact absurd b e
      · rw [a]; exact k
theorem r_worthOf {h : aH} {Q : aQ} {af : Int → Int} {t rule : Int} (hs : mShop h) (ha : afOK (h 85 1) (h 86) (h 89) af) (ht : 0 ≤ t ∧ t < h 85 1) (k : Q (dKey (h 89) af rule t) h) : aRun mX10_worthOf 1 [aR 85, aI t, aI rule] h Q := by
  have h0 := hs.1.1
  have l1 := (hs.1.2.2.1 t ht.1 ht.2).2.2.2
  have q := (ha t ht.1 ht.2).2
  unfold dKey at k
  refine e_X10_worthOf ⟨fun z => ⟨by omega, ?_⟩, fun z => ⟨fun y => ⟨by omega, by unfold inR; omega, ?_⟩, fun y => ⟨fun x => r_leftOf hs ha ht ⟨by unfold inR; omega, ?_⟩, fun x => r_leftOf hs ha ht ?_⟩⟩⟩
  · rw [if_pos z] at k; exact k
  · rw [if_neg z, if_pos y] at k; exact k
  · rw [if_neg z, if_neg y, if_pos x] at k; exact k
  · rw [if_neg z, if_neg y, if_neg x] at k; exact k
def nxOK (n nj : Int) (job : Int → Int) (S : dSt) (nx : Int → Int) : Prop := ∀ j, 0 ≤ j → j < nj → (0 ≤ nx j ∧ nx j ≤ n) ∧ (∀ t, 0 ≤ t → t < n → job t = j → (t < nx j ↔ dP S t = 1)) ∧ ∀ t, 0 ≤ t → t < n → job t < j → t < nx j
theorem nxOK.iff {n nj : Int} {job place mach l nx : Int → Int} {S : dSt} {i : Nat} (hs : okShop n nj job place mach l) (h : dI1 n place mach S i) (hx : nxOK n nj job S nx) {t : Int} (t0 : 0 ≤ t) (t1 : t < n) : dNx n place S t ↔ nx (job t) = t := by
  have q := (hs.2.2.1 t t0 t1)
  have x := hx (job t) q.1.1 q.1.2
  have s := hs.2.2.2.1 t t0 t1
  constructor
  · intro d
    have a : ¬ t < nx (job t) := fun w => by
      have := (x.2.1 t t0 t1 rfl).1 w
      have := d.2.1
      omega
    rcases d.ja hs h with ⟨b, -⟩ | ⟨b, -, c, e, f⟩
    · rcases s.1 b with w | w
      · omega
      · have := x.2.2 (t - 1) (by omega) (by omega) (by omega)
        omega
    · have := (x.2.1 (t - 1) (by omega) (by omega) f).2 e
      omega
  · intro e
    refine ⟨⟨t0, t1⟩, ?_, ?_⟩
    · rcases h.1 t t0 t1 with w | w
      · exact w
      · have := (x.2.1 t t0 t1 rfl).2 w
        omega
    · rcases jA_cases (place := place) t with ⟨a, b⟩ | ⟨a, b⟩
      · exact Or.inl b
      · right
        have r := s.2 a
        have := (x.2.1 (t - 1) (by omega) (by omega) r.2.1.symm).1 (by omega)
        rw [b, this]
        omega
def mDR (h : aH) (S : dSt) : Prop := (∀ M, 0 ≤ M → M < 5 → h 112 M = dMf S M ∧ h 91 M = dPt S M) ∧ (∀ j, 0 ≤ j → j < h 85 0 → h 111 j = dJf S j) ∧ (∀ M k, dV S M k → h 90 (24 * M + k) = dO S M k) ∧ nxOK (h 85 1) (h 85 0) (h 86) S (h 110)
/-- the tables of the reference's shop, without its sizes -/
def mTab (h : aH) : Prop := okShop (h 85 1) (h 85 0) (h 86) (h 87) (h 88) (h 89)
def mdF (h g : aH) : Prop := ∀ c, c ≠ 90 → c ≠ 91 → c ≠ 110 → c ≠ 111 → c ≠ 112 → g c = h c
noncomputable def mDS (h : aH) (af : Int → Int) (rule : Int) (i : Nat) : dSt := dS (h 85 1) (h 86) (h 87) (h 88) (h 89) af rule i
def mDok (h : aH) (af : Int → Int) (rule : Int) (i : Nat) : Prop := (∀ j : Nat, j ≤ i → dI1 (h 85 1) (h 87) (h 88) (mDS h af rule j) j ∧ dI2 (h 85 1) (h 86) (h 87) (h 88) (h 89) (mDS h af rule j) j) ∧ ∀ j : Nat, j < i → ∃ t, dCh (h 85 1) (h 86) (h 87) (h 88) (h 89) af rule (mDS h af rule j) t
theorem mShop.of {h g : aH} (hs : mTab h) (f : mdF h g) (hz : ∀ M, 0 ≤ M → M < 5 → 0 ≤ g 91 M ∧ g 91 M ≤ 24) : mShop g := by
  refine ⟨?_, hz⟩
  rw [f 85 (by omega) (by omega) (by omega) (by omega) (by omega), f 86 (by omega) (by omega) (by omega) (by omega) (by omega), f 87 (by omega) (by omega) (by omega) (by omega) (by omega), f 88 (by omega) (by omega) (by omega) (by omega) (by omega), f 89 (by omega) (by omega) (by omega) (by omega) (by omega)]
  exact hs
/-- the scan over the jobs -/
theorem r_mScan {h : aH} {Q : aQ} {af : Int → Int} {S : dSt} {i : Nat} {rule last : Int} {l3 : Int} (hs : mShop h) (hn : 0 < h 85 1) (ha : afOK (h 85 1) (h 86) (h 89) af) (hI : dI1 (h 85 1) (h 87) (h 88) S i) (R : mDR h S) (hex : ∃ t, dCh (h 85 1) (h 86) (h 87) (h 88) (h 89) af rule S t)
    (k : ∀ t, dCh (h 85 1) (h 86) (h 87) (h 88) (h 89) af rule S t → AW mX10_dispatchedBy 3 79 [some (aR 85), some (aI rule), some (aI last), some (aI l3), some (aI t), some (aI (h 85 0))] [] h Q) : AW mX10_dispatchedBy 3 79 [some (aR 85), some (aI rule), some (aI last), some (aI l3), some (aI (-1)), some (aI 0)] [] h Q := by
  have h0 := hs.1.1
  have h2 := hs.1.2.1
  have est : ∀ t, 0 ≤ t → t < h 85 1 → f_X10_mayStart h t = dStart (h 86) (h 88) S t := by
    intro t a b
    have q := hs.1.2.2.1 t a b
    unfold f_X10_mayStart dStart
    rw [(R.1 _ q.2.2.1.1 q.2.2.1.2).1, R.2.1 _ q.1.1 q.1.2]
    omega
  have osta : ∀ t, 0 ≤ t → t < h 85 1 → o_X10_mayStart h t := by
    intro t a b
    have q := hs.1.2.2.1 t a b
    unfold o_X10_mayStart
    omega
  have iff := fun t a b => nxOK.iff (t := t) hs.1 hI R.2.2.2 a b
  suffices H : ∀ (d : Nat) (j l4 : Int), 0 ≤ j → j ≤ h 85 0 → h 85 0 - j ≤ d → ((l4 = -1 ∧ ∀ u, dNx (h 85 1) (h 87) S u → ¬ h 86 u < j) ∨ (dNx (h 85 1) (h 87) S l4 ∧ h 86 l4 < j ∧ ∀ u, dNx (h 85 1) (h 87) S u → h 86 u < j → u = l4 ∨ dLess (h 86) (h 88) (h 89) af rule S l4 u)) → AW mX10_dispatchedBy 3 79 [some (aR 85), some (aI rule), some (aI last), some (aI l3), some (aI l4), some (aI j)] [] h Q from
    H 6 0 (-1) (by omega) (by omega) (by omega) (Or.inl ⟨rfl, fun u a b => by have := (hs.1.2.2.1 u a.1.1 a.1.2).1; omega⟩)
  have fin : ∀ (j l4 : Int), j = h 85 0 → ((l4 = -1 ∧ ∀ u, dNx (h 85 1) (h 87) S u → ¬ h 86 u < j) ∨ (dNx (h 85 1) (h 87) S l4 ∧ h 86 l4 < j ∧ ∀ u, dNx (h 85 1) (h 87) S u → h 86 u < j → u = l4 ∨ dLess (h 86) (h 88) (h 89) af rule S l4 u)) → AW mX10_dispatchedBy 3 79 [some (aR 85), some (aI rule), some (aI last), some (aI l3), some (aI l4), some (aI j)] [] h Q := by
    intro j l4 ej hJ
    rw [ej]
    obtain ⟨t, ht⟩ := hex
    have jb : ∀ u, dNx (h 85 1) (h 87) S u → h 86 u < j := fun u a => by
      have := (hs.1.2.2.1 u a.1.1 a.1.2).1
      omega
    rcases hJ with ⟨a, b⟩ | ⟨a, b, c⟩
    · exact absurd (jb t ht.1) (b t ht.1)
    · exact k l4 ⟨a, fun u w => c u w (jb u w)⟩
  intro d
  induction d with
  | zero => exact fun j l4 j0 j1 hd hJ => fin j l4 (by omega) hJ
  | succ d ih =>
    intro j l4 j0 j1 hd hJ
    by_cases ej : j = h 85 0
    · exact fin j l4 ej hJ
    have x := R.2.2.2 j j0 (by omega)
    have inr : inR (j + 1) := by unfold inR; omega
    have opn : f_X10_isOpen h j = 0 ↔ ¬ (h 110 j < h 85 1 ∧ h 86 (h 110 j) = j) := by
      unfold f_X10_isOpen
      by_cases a : h 85 1 ≤ h 110 j
      · rw [if_pos a]; omega
      · rw [if_neg a]
        by_cases b : h 86 (h 110 j) = j
        · rw [if_pos b]; omega
        · rw [if_neg b]; omega
    refine s_X10_dispatchedBy_79 ⟨fun w => by omega, fun _ => ⟨⟨by omega, fun _ => by omega⟩, fun z => ⟨inr, ih (j + 1) l4 (by omega) (by omega) (by omega) ?_⟩, fun z => ?_⟩⟩
    · have no : ∀ u, dNx (h 85 1) (h 87) S u → h 86 u ≠ j := fun u a e => by
        have := (iff u a.1.1 a.1.2).1 a
        rw [e] at this
        have := opn.1 z
        have a1 := a.1.2
        exact this ⟨by omega, by rw [‹h 110 j = u›]; exact e⟩
      rcases hJ with ⟨a, b⟩ | ⟨a, b, c⟩
      · exact Or.inl ⟨a, fun u w v => by
          have := no u w
          exact b u w (by omega)⟩
      · exact Or.inr ⟨a, by omega, fun u w v => by
          have := no u w
          exact c u w (by omega)⟩
    · have zz : h 110 j < h 85 1 ∧ h 86 (h 110 j) = j := Classical.byContradiction (fun y => z (opn.2 y))
      have nx : dNx (h 85 1) (h 87) S (h 110 j) := (iff _ x.1.1 zz.1).2 (by rw [zz.2])
      have one : ∀ u, dNx (h 85 1) (h 87) S u → h 86 u = j → u = h 110 j := fun u a e => by
        have := (iff u a.1.1 a.1.2).1 a
        rw [e] at this
        exact this.symm
      have take : (l4 = -1 ∨ (0 ≤ l4 ∧ dLess (h 86) (h 88) (h 89) af rule S (h 110 j) l4)) → AW mX10_dispatchedBy 3 79 [some (aR 85), some (aI rule), some (aI last), some (aI l3), some (aI (h 110 j)), some (aI (j + 1))] [] h Q := by
        intro hc
        refine ih (j + 1) (h 110 j) (by omega) (by omega) (by omega) (Or.inr ⟨nx, by omega, fun u w v => ?_⟩)
        by_cases e : h 86 u = j
        · exact Or.inl (one u w e)
        · right
          rcases hJ with ⟨a, b⟩ | ⟨a, b, c⟩
          · exact absurd (show h 86 u < j by omega) (b u w)
          · have a1 := a.1
            have hl : dLess (h 86) (h 88) (h 89) af rule S (h 110 j) l4 := by
              rcases hc with y | y
              · omega
              · exact y.2
            rcases c u w (by omega) with e2 | e2
            · rw [e2]; exact hl
            · unfold dLess at hl e2 ⊢
              omega
      have keep : dNx (h 85 1) (h 87) S l4 → dLess (h 86) (h 88) (h 89) af rule S l4 (h 110 j) → AW mX10_dispatchedBy 3 79 [some (aR 85), some (aI rule), some (aI last), some (aI l3), some (aI l4), some (aI (j + 1))] [] h Q := by
        intro hl hc
        refine ih (j + 1) l4 (by omega) (by omega) (by omega) ?_
        rcases hJ with ⟨a, b⟩ | ⟨a, b, c⟩
        · have := hl.1; omega
        · refine Or.inr ⟨a, by omega, fun u w v => ?_⟩
          by_cases e : h 86 u = j
          · rw [one u w e]; exact Or.inr hc
          · exact c u w (by omega)
      refine ⟨fun y => ⟨by omega, inr, take (Or.inl ?_)⟩, fun y => ⟨by omega, ?_⟩⟩
      · rcases hJ with ⟨a, -⟩ | ⟨a, -⟩
        · exact a
        · have := a.1; omega
      · have hl : dNx (h 85 1) (h 87) S l4 ∧ h 86 l4 < j := by
          rcases hJ with ⟨a, -⟩ | ⟨a, b, -⟩
          · omega
          · exact ⟨a, b⟩
        have lr := hl.1.1
        have lt : l4 < h 110 j := by
          rcases Int.lt_or_le l4 (h 110 j) with y | y
          · exact y
          · have := hs.1.mono' x.1.1 y lr.2
            omega
        have e1 := est l4 lr.1 lr.2
        have e2 := est (h 110 j) x.1.1 zz.1
        refine e_X10_isBetter ⟨osta _ x.1.1 zz.1, osta _ lr.1 lr.2, fun v => ?_, fun v => ?_⟩
        · rw [e1, e2] at v
          refine r_worthOf (af := af) hs ha ⟨x.1.1, zz.1⟩ (r_worthOf (af := af) hs ha lr ⟨fun u => ⟨inr, keep hl.1 ?_⟩, fun u => ⟨inr, take (Or.inr ⟨lr.1, ?_⟩)⟩⟩)
          · have : dKey (h 89) af rule l4 ≤ dKey (h 89) af rule (h 110 j) := by
              by_cases w : dKey (h 89) af rule l4 ≤ dKey (h 89) af rule (h 110 j)
              · exact w
              · rw [if_neg w] at u; omega
            unfold dLess
            omega
          · have : ¬ dKey (h 89) af rule l4 ≤ dKey (h 89) af rule (h 110 j) := by
              intro w
              rw [if_pos w] at u
              exact u rfl
            unfold dLess
            omega
        · rw [e1, e2] at v ⊢
          refine ⟨fun u => ⟨inr, keep hl.1 ?_⟩, fun u => ⟨inr, take (Or.inr ⟨lr.1, ?_⟩)⟩⟩
          · have : dStart (h 86) (h 88) S l4 ≤ dStart (h 86) (h 88) S (h 110 j) := by
              by_cases w : dStart (h 86) (h 88) S l4 ≤ dStart (h 86) (h 88) S (h 110 j)
              · exact w
              · rw [if_neg w] at u; omega
            unfold dLess
            omega
          · have : ¬ dStart (h 86) (h 88) S l4 ≤ dStart (h 86) (h 88) S (h 110 j) := by
              intro w
              rw [if_pos w] at u
              exact u rfl
            unfold dLess
            omega
