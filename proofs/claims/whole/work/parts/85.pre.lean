/-! PREEMPTED: stretches, on the class -/
abbrev pSt : Type := (Int → Int) × Int × Int
def elg (n : Int) (bf : Int → Int) (S : pSt) (t : Int) : Prop := (0 ≤ t ∧ t < n) ∧ 0 < S.1 t ∧ bf t ≤ S.2.1
def pck (n : Int) (bf af : Int → Int) (S : pSt) (t : Int) : Prop := elg n bf S t ∧ ∀ u, elg n bf S u → af u ≤ af t ∧ (u < t → af u < af t)
def PStep (n : Int) (bf af : Int → Int) (S S' : pSt) : Prop :=
  (∃ t w, pck n bf af S t ∧ (1 ≤ w ∧ w ≤ S.1 t) ∧ (∀ u, 0 ≤ u → u < n → 0 < S.1 u → bf u ≤ S.2.1 ∨ S.2.1 + w ≤ bf u) ∧ (0 ≤ S.2.1 ∧ S.2.1 + w ≤ 8000) ∧ (0 ≤ S.2.2 ∧ S.2.2 ≤ 20000) ∧ S' = (up1 S.1 t (S.1 t - w), S.2.1 + w, if S.1 t - w = 0 then max S.2.2 (S.2.1 + w + af t) else S.2.2)) ∨
  (∃ hd, (∀ u, 0 ≤ u → u < n → 0 < S.1 u → hd ≤ bf u) ∧ (∃ u, (0 ≤ u ∧ u < n) ∧ 0 < S.1 u) ∧ S.2.1 < hd ∧ (0 ≤ S.2.1 ∧ hd ≤ 8000) ∧ S' = (S.1, hd, S.2.2))
def PC (n : Int) (bf af : Int → Int) : Nat → pSt → pSt → Prop
  | 0, a, b => b = a
  | k + 1, a, b => ∃ c, PStep n bf af a c ∧ PC n bf af k c b
theorem PC.snoc {n : Int} {bf af : Int → Int} : ∀ (k : Nat) (a b c : pSt), PC n bf af k a b → PStep n bf af b c → PC n bf af (k + 1) a c := by
  intro k
  induction k with
  | zero =>
    intro a b c x y
    have x : b = a := x
    subst x
    exact ⟨c, y, rfl⟩
  | succ k ih =>
    intro a b c x y
    obtain ⟨d, x1, x2⟩ := x
    exact ⟨d, x1, ih d b c x2 y⟩
theorem r_workedOn {h : aH} {Q : aQ} {S : pSt} (hn : 0 ≤ h 3 1 ∧ h 3 1 ≤ 24) (hl : ∀ t, 0 ≤ t → t < h 3 1 → h 71 t = S.1 t) (k : ∀ r, (r = -1 ∧ ∀ u, ¬ elg (h 3 1) (h 8) S u) ∨ pck (h 3 1) (h 8) (h 9) S r → Q r h) : aRun mX0_workedOn 0 [aR 69, aR 3, aI S.2.1] h Q := by
  refine e_X0_workedOn ?_
  suffices H : ∀ (d : Nat) (i l3 : Int), 0 ≤ i → i ≤ h 3 1 → h 3 1 - i ≤ d → ((l3 = -1 ∧ ∀ u, u < i → ¬ elg (h 3 1) (h 8) S u) ∨ (elg (h 3 1) (h 8) S l3 ∧ l3 < i ∧ ∀ u, u < i → elg (h 3 1) (h 8) S u → h 9 u ≤ h 9 l3 ∧ (u < l3 → h 9 u < h 9 l3))) → AW mX0_workedOn 0 5 [some (aR 69), some (aR 3), some (aI S.2.1), some (aI l3), some (aI i)] [] h Q from
    H (h 3 1).toNat 0 (-1) (by omega) (by omega) (by omega) (Or.inl ⟨rfl, fun u a b => by have := b.1; omega⟩)
  have fin : ∀ (i l3 : Int), h 3 1 ≤ i → ((l3 = -1 ∧ ∀ u, u < i → ¬ elg (h 3 1) (h 8) S u) ∨ (elg (h 3 1) (h 8) S l3 ∧ l3 < i ∧ ∀ u, u < i → elg (h 3 1) (h 8) S u → h 9 u ≤ h 9 l3 ∧ (u < l3 → h 9 u < h 9 l3))) → Q l3 h := by
    intro i l3 hi hI
    refine k l3 ?_
    rcases hI with ⟨a, b⟩ | ⟨a, b, c⟩
    · exact Or.inl ⟨a, fun u e => b u (by have := e.1; omega) e⟩
    · exact Or.inr ⟨a, fun u e => c u (by have := e.1; omega) e⟩
  intro d
  induction d with
  | zero =>
    intro i l3 i0 i1 hd hI
    exact s_X0_workedOn_5 ⟨fun w => fin i l3 w hI, fun w => by omega⟩
  | succ d ih =>
    intro i l3 i0 i1 hd hI
    refine s_X0_workedOn_5 ⟨fun w => fin i l3 w hI, fun w => ?_⟩
    have e71 := hl i i0 (by omega)
    have skip : ¬ elg (h 3 1) (h 8) S i → inR (i + 1) ∧ AW mX0_workedOn 0 5 [some (aR 69), some (aR 3), some (aI S.2.1), some (aI l3), some (aI (i + 1))] [] h Q := by
      intro ne
      refine ⟨by unfold inR; omega, ih (i + 1) l3 (by omega) (by omega) (by omega) ?_⟩
      rcases hI with ⟨a, b⟩ | ⟨a, b, c⟩
      · refine Or.inl ⟨a, fun u x y => ?_⟩
        by_cases v : u = i
        · rw [v] at y; exact ne y
        · exact b u (by omega) y
      · refine Or.inr ⟨a, by omega, fun u x y => ?_⟩
        by_cases v : u = i
        · rw [v] at y; exact absurd y ne
        · exact c u (by omega) y
    refine ⟨by omega, fun x => skip (fun e => by have := e.2.1; omega), fun x => ⟨fun y => skip (fun e => by have := e.2.2; omega), fun y => ?_⟩⟩
    have el : elg (h 3 1) (h 8) S i := ⟨⟨i0, by omega⟩, by omega, by omega⟩
    refine ⟨fun v => ⟨by unfold inR; omega, ih (i + 1) i (by omega) (by omega) (by omega) (Or.inr ⟨el, by omega, fun u a b => ?_⟩)⟩, fun v => ?_⟩
    · by_cases e : u = i
      · rw [e]; exact ⟨Int.le_refl _, fun z => by omega⟩
      · rcases hI with ⟨c1, c2⟩ | ⟨c1, -⟩
        · exact absurd b (c2 u (by omega))
        · have := c1.1; omega
    · have hl3 : elg (h 3 1) (h 8) S l3 ∧ l3 < i := by
        rcases hI with ⟨c1, -⟩ | ⟨c1, c2, -⟩
        · exact absurd c1 v
        · exact ⟨c1, c2⟩
      have l3r := hl3.1.1
      refine ⟨by omega, fun u => ⟨by unfold inR; omega, ih (i + 1) l3 (by omega) (by omega) (by omega) (Or.inr ⟨hl3.1, by omega, fun z a b => ?_⟩)⟩, fun u => ⟨by unfold inR; omega, ih (i + 1) i (by omega) (by omega) (by omega) (Or.inr ⟨el, by omega, fun z a b => ?_⟩)⟩⟩
      · by_cases e : z = i
        · rw [e]; exact ⟨u, fun q => by omega⟩
        · rcases hI with ⟨c1, -⟩ | ⟨-, -, c3⟩
          · exact absurd c1 v
          · exact c3 z (by omega) b
      · by_cases e : z = i
        · rw [e]; exact ⟨Int.le_refl _, fun q => by omega⟩
        · rcases hI with ⟨c1, -⟩ | ⟨-, -, c3⟩
          · exact absurd c1 v
          · have := c3 z (by omega) b
            exact ⟨by omega, fun _ => by omega⟩
def nhd (n : Int) (bf : Int → Int) (S : pSt) (r : Int) : Prop := (∃ u, (0 ≤ u ∧ u < n) ∧ 0 < S.1 u ∧ S.2.1 < bf u ∧ bf u = r) ∧ ∀ u, 0 ≤ u → u < n → 0 < S.1 u → S.2.1 < bf u → r ≤ bf u
theorem r_nextHead {h : aH} {Q : aQ} {S : pSt} (hn : 0 ≤ h 3 1 ∧ h 3 1 ≤ 24) (hl : ∀ t, 0 ≤ t → t < h 3 1 → h 71 t = S.1 t) (h8 : ∀ t, 0 ≤ t → t < h 3 1 → 0 ≤ h 8 t) (k : ∀ r, (r = -1 ∧ ∀ u, 0 ≤ u → u < h 3 1 → 0 < S.1 u → ¬ S.2.1 < h 8 u) ∨ (0 ≤ r ∧ nhd (h 3 1) (h 8) S r) → Q r h) : aRun mX0_nextHead 0 [aR 69, aR 3, aI S.2.1] h Q := by
  refine e_X0_nextHead ?_
  suffices H : ∀ (d : Nat) (i l3 : Int), 0 ≤ i → i ≤ h 3 1 → h 3 1 - i ≤ d → ((l3 = -1 ∧ ∀ u, 0 ≤ u → u < i → 0 < S.1 u → ¬ S.2.1 < h 8 u) ∨ (0 ≤ l3 ∧ (∃ u, (0 ≤ u ∧ u < h 3 1) ∧ 0 < S.1 u ∧ S.2.1 < h 8 u ∧ h 8 u = l3) ∧ ∀ u, 0 ≤ u → u < i → 0 < S.1 u → S.2.1 < h 8 u → l3 ≤ h 8 u)) → AW mX0_nextHead 0 5 [some (aR 69), some (aR 3), some (aI S.2.1), some (aI l3), some (aI i)] [] h Q from
    H (h 3 1).toNat 0 (-1) (by omega) (by omega) (by omega) (Or.inl ⟨rfl, fun u a b => by omega⟩)
  have fin : ∀ (i l3 : Int), i = h 3 1 → ((l3 = -1 ∧ ∀ u, 0 ≤ u → u < i → 0 < S.1 u → ¬ S.2.1 < h 8 u) ∨ (0 ≤ l3 ∧ (∃ u, (0 ≤ u ∧ u < h 3 1) ∧ 0 < S.1 u ∧ S.2.1 < h 8 u ∧ h 8 u = l3) ∧ ∀ u, 0 ≤ u → u < i → 0 < S.1 u → S.2.1 < h 8 u → l3 ≤ h 8 u)) → Q l3 h := by
    intro i l3 ei hI
    subst ei
    exact k l3 hI
  intro d
  induction d with
  | zero =>
    intro i l3 i0 i1 hd hI
    exact s_X0_nextHead_5 ⟨fun _ => fin i l3 (by clear hI; omega) hI, fun w => by clear hI; omega⟩
  | succ d ih =>
    intro i l3 i0 i1 hd hI
    refine s_X0_nextHead_5 ⟨fun w => fin i l3 (by clear hI; omega) hI, fun w => ?_⟩
    have e71 := hl i i0 (by clear hI; omega)
    have p8 := h8 i i0 (by clear hI; omega)
    have inr : inR (i + 1) := by clear hI; unfold inR; omega
    have skip : ¬ (0 < S.1 i ∧ S.2.1 < h 8 i) → inR (i + 1) ∧ AW mX0_nextHead 0 5 [some (aR 69), some (aR 3), some (aI S.2.1), some (aI l3), some (aI (i + 1))] [] h Q := by
      intro ne
      refine ⟨inr, ih (i + 1) l3 (by clear hI; omega) (by clear hI; omega) (by clear hI; omega) ?_⟩
      rcases hI with ⟨a, b⟩ | ⟨a, b, c⟩
      · refine Or.inl ⟨a, fun u u0 x y z => ?_⟩
        by_cases v : u = i
        · rw [v] at y z; exact ne ⟨y, z⟩
        · exact b u u0 (by omega) y z
      · refine Or.inr ⟨a, b, fun u u0 x y z => ?_⟩
        by_cases v : u = i
        · rw [v] at y z; exact absurd ⟨y, z⟩ ne
        · exact c u u0 (by clear b; omega) y z
    refine ⟨by clear hI; omega, fun x => skip (fun e => by have := e.1; clear hI; omega), fun x => ⟨fun y => skip (fun e => by have := e.2; clear hI; omega), fun y => ?_⟩⟩
    have take : (l3 = -1 ∨ h 8 i < l3) → inR (i + 1) ∧ AW mX0_nextHead 0 5 [some (aR 69), some (aR 3), some (aI S.2.1), some (aI (h 8 i)), some (aI (i + 1))] [] h Q := by
      intro hc
      refine ⟨inr, ih (i + 1) (h 8 i) (by clear hI; omega) (by clear hI; omega) (by clear hI; omega) (Or.inr ⟨p8, ⟨i, ⟨i0, by clear hI; omega⟩, by clear hI; omega, by clear hI; omega, rfl⟩, fun u u0 a b c => ?_⟩)⟩
      by_cases e : u = i
      · rw [e]; exact Int.le_refl _
      · rcases hI with ⟨c1, c2⟩ | ⟨c1, c2, c3⟩
        · exact absurd c (c2 u u0 (by omega) b)
        · have := c3 u u0 (by clear c2; omega) b c
          clear c2; omega
    refine ⟨fun v => take (Or.inl v), fun v => ⟨fun u => ?_, fun u => take (Or.inr (by clear hI; omega))⟩⟩
    refine ⟨inr, ih (i + 1) l3 (by clear hI; omega) (by clear hI; omega) (by clear hI; omega) ?_⟩
    rcases hI with ⟨c1, -⟩ | ⟨c1, c2, c3⟩
    · exact absurd c1 v
    · refine Or.inr ⟨c1, c2, fun z z0 a b c => ?_⟩
      by_cases e : z = i
      · rw [e]; exact u
      · exact c3 z z0 (by clear c2; omega) b c
/-- tasks that are left, and heads not reached yet -/
def potP (n : Nat) (bf : Int → Int) (S : pSt) : Int := cntB (fun u => decide (0 < S.1 u)) n + cntB (fun u => decide (0 < S.1 u ∧ S.2.1 < bf u)) n
set_option maxHeartbeats 1000000 in
theorem r_cPre {h : aH} {Q : aQ} {M : Int} (hs : cShop h) (hb : cBA h) (k : ∀ j S g, (∀ c, c ≠ 71 → g c = h c) → PC (h 3 1) (h 8) (h 9) j (fun t => if h 6 t = M then h 7 t else 0, 0, 0) S → (∀ u, 0 ≤ u → u < h 3 1 → S.1 u ≤ 0) → Q S.2.2 g) : aRun mX0_preempted 1 [aR 69, aR 3, aI M] h Q := by
  have hn := hs.1.1
  have bnd := cBA.bnd hs hb
  refine e_X0_preempted ?_
  -- the stretches
  have H2 : ∀ (d i : Nat) (S : pSt) (g : aH), i ≤ 49 → 49 - i ≤ d → (∀ c, c ≠ 71 → g c = h c) → (∀ t, 0 ≤ t → t < h 3 1 → g 71 t = S.1 t) → (∀ t, 0 ≤ t → t < h 3 1 → 0 ≤ S.1 t ∧ S.1 t ≤ 99) → (0 ≤ S.2.1 ∧ S.2.1 ≤ 2376 + 99 * i) → (0 ≤ S.2.2 ∧ S.2.2 ≤ 4752 + 99 * i) → potP (h 3 1).toNat (h 8) S + i ≤ 48 → PC (h 3 1) (h 8) (h 9) i (fun t => if h 6 t = M then h 7 t else 0, 0, 0) S → AW mX0_preempted 1 50 [some (aR 69), some (aR 3), none, some (aI S.2.1), some (aI S.2.2), some (aI (i : Int)), none, none, none] [] g Q := by
    have pnn : ∀ S : pSt, 0 ≤ potP (h 3 1).toNat (h 8) S := fun S => by
      have a := (cntB_rng (fun u => decide (0 < S.1 u)) (h 3 1).toNat).1
      have b := (cntB_rng (fun u => decide (0 < S.1 u ∧ S.2.1 < h 8 u)) (h 3 1).toNat).1
      unfold potP
      omega
    intro d
    induction d with
    | zero =>
      intro i S g i1 hd f fl lr nr orr hp hc
      have := pnn S
      omega
    | succ d ih =>
      intro i S g i1 hd f fl lr nr orr hp hc
      have pS := pnn S
      have e3 : g 3 = h 3 := f 3 (by omega)
      have e8 : g 8 = h 8 := f 8 (by omega)
      have e9 : g 9 = h 9 := f 9 (by omega)
      refine s_X0_preempted_50 ⟨fun w => by omega, fun _ => ?_⟩
      refine r_workedOn (S := S) (by rw [e3]; exact hn) (by rw [e3]; exact fl) (fun r1 hr1 => ?_)
      rw [e3, e8, e9] at hr1
      refine r_nextHead (S := S) (by rw [e3]; exact hn) (by rw [e3]; exact fl) (fun t a b => by rw [e8]; exact (bnd t a (by rw [e3] at b; exact b)).1.1) (fun r3 hr3 => ?_)
      rw [e3, e8] at hr3
      -- a head is reached: one less ahead
      have less : ∀ (lf : Int → Int) (hd : Int), (∀ u, 0 ≤ u → u < h 3 1 → lf u ≤ S.1 u) → nhd (h 3 1) (h 8) S hd → ∀ ov, potP (h 3 1).toNat (h 8) (lf, hd, ov) + 1 ≤ potP (h 3 1).toNat (h 8) S := by
        intro lf hd hle hh ov
        obtain ⟨⟨u, u1, u2, u3, u4⟩, -⟩ := hh
        unfold potP
        have a := cntB_le (p := fun u => decide (0 < lf u)) (q := fun u => decide (0 < S.1 u)) (h 3 1).toNat (fun x hx y => decide_eq_true (by have := of_decide_eq_true y; have := hle x (by omega) (by omega); omega))
        have b := cntB_lt (p := fun u => decide (0 < lf u ∧ hd < h 8 u)) (q := fun u => decide (0 < S.1 u ∧ S.2.1 < h 8 u)) (h 3 1).toNat (fun x hx y => decide_eq_true (by have := of_decide_eq_true y; have := hle x (by omega) (by omega); omega)) ⟨u.toNat, by omega, by rw [show ((u.toNat : Nat) : Int) = u by omega]; exact decide_eq_true ⟨u2, u3⟩, by rw [show ((u.toNat : Nat) : Int) = u by omega]; intro y; have := of_decide_eq_true y; omega⟩
        show cntB (fun u => decide (0 < lf u)) _ + cntB (fun u => decide (0 < lf u ∧ hd < h 8 u)) _ + 1 ≤ _
        omega
      refine ⟨fun z1 => ⟨fun z3 => ?_, fun z3 => ?_⟩, fun z1 => ?_⟩
      · -- all is over
        refine k i S g f hc (fun u u0 u1 => ?_)
        have n1 : ∀ u, ¬ elg (h 3 1) (h 8) S u := by
          rcases hr1 with a | a
          · exact a.2
          · have := a.1.1; omega
        have n3 : ∀ u, 0 ≤ u → u < h 3 1 → 0 < S.1 u → ¬ S.2.1 < h 8 u := by
          rcases hr3 with a | a
          · exact a.2
          · have := a.1; omega
        refine Classical.byContradiction (fun y => ?_)
        have y1 := n3 u u0 u1 (by omega)
        exact n1 u ⟨⟨u0, u1⟩, by omega, by omega⟩
      · -- nobody may: on to the next head
        have hh : nhd (h 3 1) (h 8) S r3 := by
          rcases hr3 with a | a
          · exact absurd a.1 z3
          · exact a.2
        have n1 : ∀ u, ¬ elg (h 3 1) (h 8) S u := by
          rcases hr1 with a | a
          · exact a.2
          · have := a.1.1; omega
        have ls := less S.1 r3 (fun u _ _ => Int.le_refl _) hh S.2.2
        obtain ⟨⟨u, u1, u2, u3, u4⟩, hmin⟩ := hh
        have b8 := (bnd u u1.1 u1.2).1
        refine ⟨by unfold inR; omega, ?_⟩
        have R := ih (i + 1) (S.1, r3, S.2.2) g (by omega) (by omega) f fl lr (by show 0 ≤ r3 ∧ r3 ≤ _; omega) (by show 0 ≤ S.2.2 ∧ S.2.2 ≤ _; omega) (by omega) (hc.snoc i _ _ _ (Or.inr ⟨r3, fun v v0 v1 v2 => ?_, ⟨u, u1, u2⟩, by omega, by omega, rfl⟩))
        · exact R
        · refine hmin v v0 v1 v2 ?_
          refine Classical.byContradiction (fun y => ?_)
          exact n1 v ⟨⟨v0, v1⟩, v2, by omega⟩
      · -- one works
        have pk : pck (h 3 1) (h 8) (h 9) S r1 := by
          rcases hr1 with a | a
          · exact absurd a.1 z1
          · exact a
        have tr := pk.1.1
        have el := pk.1.2
        have e71 := fl r1 tr.1 tr.2
        have lr1 := lr r1 tr.1 tr.2
        have b9 := (bnd r1 tr.1 tr.2).2
        rw [e71, e9]
        generalize hw : (if r3 = -1 then S.1 r1 else min (S.1 r1) (r3 - S.2.1)) = w
        have wr : 1 ≤ w ∧ w ≤ S.1 r1 ∧ (∀ u, 0 ≤ u → u < h 3 1 → 0 < S.1 u → h 8 u ≤ S.2.1 ∨ S.2.1 + w ≤ h 8 u) ∧ (S.1 r1 - w = 0 ∨ (nhd (h 3 1) (h 8) S r3 ∧ S.2.1 + w = r3)) := by
          rcases hr3 with a | a
          · rw [if_pos a.1] at hw
            refine ⟨by omega, by omega, fun u u0 u1 u2 => Or.inl ?_, Or.inl (by omega)⟩
            have := a.2 u u0 u1 u2
            omega
          · rw [if_neg (by omega)] at hw
            obtain ⟨⟨u, u1, u2, u3, u4⟩, hmin⟩ := a.2
            refine ⟨by omega, by omega, fun v v0 v1 v2 => ?_, ?_⟩
            · by_cases y : S.2.1 < h 8 v
              · have := hmin v v0 v1 v2 y
                right; omega
              · left; omega
            · by_cases y : S.1 r1 ≤ r3 - S.2.1
              · left; omega
              · right; exact ⟨a.2, by omega⟩
        obtain ⟨w1, w2, w3, w4⟩ := wr
        have r3b : -1 ≤ r3 ∧ r3 ≤ 2376 := by
          rcases hr3 with a | a
          · omega
          · obtain ⟨⟨u, u1, u2, u3, u4⟩, -⟩ := a.2
            have := (bnd u u1.1 u1.2).1
            omega
        refine ⟨⟨fun _ => by omega, fun _ => ⟨by omega, by unfold inR; omega⟩⟩, by omega, by unfold inR; omega, by unfold inR; omega, fun _ => by unfold inR; omega, by unfold inR; omega, ?_⟩
        have R := ih (i + 1) (up1 S.1 r1 (S.1 r1 - w), S.2.1 + w, if S.1 r1 - w = 0 then max S.2.2 (S.2.1 + w + h 9 r1) else S.2.2) (a_up g 71 r1 (S.1 r1 - w)) (by omega) (by omega) (fun c c1 => (a_up_ne c1).trans (f c c1)) (fun t a b => ?_) (fun t a b => ?_) (by show 0 ≤ S.2.1 + w ∧ S.2.1 + w ≤ _; omega) ?_ ?_ (hc.snoc i _ _ _ (Or.inl ⟨r1, w, pk, ⟨w1, w2⟩, w3, by omega, by omega, rfl⟩))
        · exact R
        · rw [a_up_fn, up1_at]
          show _ = up1 S.1 r1 (S.1 r1 - w) t
          rw [up1_at, fl t a b]
        · show 0 ≤ up1 S.1 r1 (S.1 r1 - w) t ∧ up1 S.1 r1 (S.1 r1 - w) t ≤ 99
          rw [up1_at]
          have := lr t a b
          by_cases y : t = r1
          · rw [if_pos y]; omega
          · rw [if_neg y]; omega
        · show 0 ≤ (if S.1 r1 - w = 0 then max S.2.2 (S.2.1 + w + h 9 r1) else S.2.2) ∧ (if S.1 r1 - w = 0 then max S.2.2 (S.2.1 + w + h 9 r1) else S.2.2) ≤ _
          by_cases y : S.1 r1 - w = 0
          · rw [if_pos y]; omega
          · rw [if_neg y]; omega
        · have hle : ∀ u, 0 ≤ u → u < h 3 1 → up1 S.1 r1 (S.1 r1 - w) u ≤ S.1 u := fun u _ _ => by
            rw [up1_at]
            by_cases y : u = r1
            · rw [if_pos y, y]; omega
            · rw [if_neg y]; exact Int.le_refl _
          rcases w4 with y | ⟨y1, y2⟩
          · have hp2 : potP (h 3 1).toNat (h 8) (up1 S.1 r1 (S.1 r1 - w), S.2.1 + w, if S.1 r1 - w = 0 then max S.2.2 (S.2.1 + w + h 9 r1) else S.2.2) + 1 ≤ potP (h 3 1).toNat (h 8) S := by
              unfold potP
              have a := cntB_lt (p := fun u => decide (0 < up1 S.1 r1 (S.1 r1 - w) u)) (q := fun u => decide (0 < S.1 u)) (h 3 1).toNat (fun x hx y => decide_eq_true (by have := of_decide_eq_true y; have := hle x (by omega) (by omega); omega)) ⟨r1.toNat, by omega, by rw [show ((r1.toNat : Nat) : Int) = r1 by omega]; exact decide_eq_true el.1, by
                rw [show ((r1.toNat : Nat) : Int) = r1 by omega, up1_eq]
                intro y'
                have := of_decide_eq_true y'
                omega⟩
              have b := cntB_le (p := fun u => decide (0 < up1 S.1 r1 (S.1 r1 - w) u ∧ S.2.1 + w < h 8 u)) (q := fun u => decide (0 < S.1 u ∧ S.2.1 < h 8 u)) (h 3 1).toNat (fun x hx y => decide_eq_true (by have := of_decide_eq_true y; have := hle x (by omega) (by omega); omega))
              show cntB (fun u => decide (0 < up1 S.1 r1 (S.1 r1 - w) u)) _ + cntB (fun u => decide (0 < up1 S.1 r1 (S.1 r1 - w) u ∧ S.2.1 + w < h 8 u)) _ + 1 ≤ _
              omega
            omega
          · have ls := less _ r3 hle y1 (if S.1 r1 - w = 0 then max S.2.2 (S.2.1 + w + h 9 r1) else S.2.2)
            rw [← y2] at ls
            omega
  -- the table
  suffices H : ∀ (d : Nat) (i : Int) (g : aH), 0 ≤ i → i ≤ h 3 1 → h 3 1 - i ≤ d → (∀ c, c ≠ 71 → g c = h c) → (∀ t, 0 ≤ t → t < i → g 71 t = if h 6 t = M then h 7 t else 0) → AW mX0_preempted 1 2 [some (aR 69), some (aR 3), some (aI M), some (aI i), none, none, none, none, none] [] g Q from
    H (h 3 1).toNat 0 h (by omega) (by omega) (by omega) (fun _ _ => rfl) (fun t a b => by omega)
  have go : ∀ (i : Int) (g : aH), h 3 1 ≤ i → (∀ c, c ≠ 71 → g c = h c) → (∀ t, 0 ≤ t → t < i → g 71 t = if h 6 t = M then h 7 t else 0) → AW mX0_preempted 1 50 [some (aR 69), some (aR 3), none, some (aI 0), some (aI 0), some (aI 0), none, none, none] [] g Q := by
    intro i g hi f fl
    have r1 := (cntB_rng (fun u => decide (0 < (fun t => if h 6 t = M then h 7 t else 0) u)) (h 3 1).toNat).2
    have r2 := (cntB_rng (fun u => decide (0 < (fun t => if h 6 t = M then h 7 t else 0) u ∧ 0 < h 8 u)) (h 3 1).toNat).2
    refine H2 49 0 (fun t => if h 6 t = M then h 7 t else 0, 0, 0) g (by omega) (by omega) f (fun t a b => fl t a (by omega)) (fun t a b => ?_) (by show (0 : Int) ≤ 0 ∧ (0 : Int) ≤ 2376 + 99 * ((0 : Nat) : Int); omega) (by show (0 : Int) ≤ 0 ∧ (0 : Int) ≤ 4752 + 99 * ((0 : Nat) : Int); omega) ?_ rfl
    · show 0 ≤ (if h 6 t = M then h 7 t else 0) ∧ (if h 6 t = M then h 7 t else 0) ≤ 99
      have := (hs.1.2.2.1 t a b).2.2.2
      by_cases y : h 6 t = M
      · rw [if_pos y]; omega
      · rw [if_neg y]; omega
    · unfold potP
      show cntB (fun u => decide (0 < (fun t => if h 6 t = M then h 7 t else 0) u)) _ + cntB (fun u => decide (0 < (fun t => if h 6 t = M then h 7 t else 0) u ∧ 0 < h 8 u)) _ + ((0 : Nat) : Int) ≤ 48
      omega
  intro d
  induction d with
  | zero =>
    intro i g i0 i1 hd f fl
    refine s_X0_preempted_2 ⟨fun w => go i g (by omega) f fl, fun w => ?_⟩
    rw [f 3 (by omega)] at w; omega
  | succ d ih =>
    intro i g i0 i1 hd f fl
    refine s_X0_preempted_2 ⟨fun w => go i g (by rw [f 3 (by omega)] at w; omega) f fl, fun w => ?_⟩
    rw [f 3 (by omega)] at w
    rw [f 6 (by omega), f 7 (by omega)]
    refine ⟨by omega, by unfold inR; omega, ih (i + 1) _ (by omega) (by omega) (by omega) (fun c c1 => (a_up_ne c1).trans (f c c1)) (fun t a b => ?_)⟩
    by_cases e : t = i
    · rw [e, a_up_eq]
    · rw [a_up_off e]; exact fl t a (by omega)
