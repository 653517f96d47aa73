/-! a SHOP's text: where each task begins, of which job, at which place -/
def ltF (len : Int) (bs : Int → Int) (a : Int) : Int := if a < 0 then -1 else if len ≤ a then -1 else bs a
def tE (lt : Int → Int) (b : Int) : Int := if 48 ≤ lt b ∧ lt b ≤ 52 then (if lt (b + 1) = 32 then (if 49 ≤ lt (b + 2) ∧ lt (b + 2) ≤ 57 then (if 48 ≤ lt (b + 3) ∧ lt (b + 3) ≤ 57 then b + 4 else b + 3) else b + 2) else b + 1) else b
def nB (lt : Int → Int) (b : Int) : Int := if 48 ≤ lt (b + 3) ∧ lt (b + 3) ≤ 57 then 10 * (lt (b + 2) - 48) + lt (b + 3) - 48 else lt (b + 2) - 48
def pst (lt : Int → Int) : Nat → Int × Int × Int
  | 0 => (0, 0, 0)
  | i + 1 => if lt (tE lt (pst lt i).1) = 44 then (tE lt (pst lt i).1 + 1, (pst lt i).2.1, (pst lt i).2.2 + 1) else (tE lt (pst lt i).1 + 1, (pst lt i).2.1 + 1, 0)
abbrev pB (lt : Int → Int) (i : Nat) : Int := (pst lt i).1
abbrev pJ (lt : Int → Int) (i : Nat) : Int := (pst lt i).2.1
abbrev pP (lt : Int → Int) (i : Nat) : Int := (pst lt i).2.2
abbrev pE (lt : Int → Int) (i : Nat) : Int := tE lt (pB lt i)
theorem tE_cases (lt : Int → Int) (b : Int) : (tE lt b = b ∧ ¬ (48 ≤ lt b ∧ lt b ≤ 52)) ∨ (tE lt b = b + 1 ∧ (48 ≤ lt b ∧ lt b ≤ 52) ∧ ¬ lt (b + 1) = 32) ∨ (tE lt b = b + 2 ∧ (48 ≤ lt b ∧ lt b ≤ 52) ∧ lt (b + 1) = 32 ∧ ¬ (49 ≤ lt (b + 2) ∧ lt (b + 2) ≤ 57)) ∨
    (tE lt b = b + 3 ∧ (48 ≤ lt b ∧ lt b ≤ 52) ∧ lt (b + 1) = 32 ∧ (49 ≤ lt (b + 2) ∧ lt (b + 2) ≤ 57) ∧ ¬ (48 ≤ lt (b + 3) ∧ lt (b + 3) ≤ 57)) ∨ (tE lt b = b + 4 ∧ (48 ≤ lt b ∧ lt b ≤ 52) ∧ lt (b + 1) = 32 ∧ (49 ≤ lt (b + 2) ∧ lt (b + 2) ≤ 57) ∧ (48 ≤ lt (b + 3) ∧ lt (b + 3) ≤ 57)) := by
  unfold tE
  by_cases a : 48 ≤ lt b ∧ lt b ≤ 52
  · rw [if_pos a]
    by_cases c : lt (b + 1) = 32
    · rw [if_pos c]
      by_cases d : 49 ≤ lt (b + 2) ∧ lt (b + 2) ≤ 57
      · rw [if_pos d]
        by_cases e : 48 ≤ lt (b + 3) ∧ lt (b + 3) ≤ 57
        · rw [if_pos e]; exact Or.inr (Or.inr (Or.inr (Or.inr ⟨rfl, a, c, d, e⟩)))
        · rw [if_neg e]; exact Or.inr (Or.inr (Or.inr (Or.inl ⟨rfl, a, c, d, e⟩)))
      · rw [if_neg d]; exact Or.inr (Or.inr (Or.inl ⟨rfl, a, c, d⟩))
    · rw [if_neg c]; exact Or.inr (Or.inl ⟨rfl, a, c⟩)
  · rw [if_neg a]; exact Or.inl ⟨rfl, a⟩
theorem tE_rng (lt : Int → Int) (b : Int) : b ≤ tE lt b ∧ tE lt b ≤ b + 4 := by
  rcases tE_cases lt b with a | a | a | a | a <;> omega
theorem pst_next {lt : Int → Int} {i : Nat} : pB lt (i + 1) = pE lt i + 1 ∧ (lt (pE lt i) = 44 → pJ lt (i + 1) = pJ lt i ∧ pP lt (i + 1) = pP lt i + 1) ∧ (¬ lt (pE lt i) = 44 → pJ lt (i + 1) = pJ lt i + 1 ∧ pP lt (i + 1) = 0) := by
  have e : pst lt (i + 1) = if lt (pE lt i) = 44 then (pE lt i + 1, pJ lt i, pP lt i + 1) else (pE lt i + 1, pJ lt i + 1, 0) := rfl
  by_cases z : lt (pE lt i) = 44
  · rw [if_pos z] at e
    refine ⟨?_, fun _ => ⟨?_, ?_⟩, fun w => absurd z w⟩
    · show (pst lt (i + 1)).1 = _
      rw [e]
    · show (pst lt (i + 1)).2.1 = _
      rw [e]
    · show (pst lt (i + 1)).2.2 = _
      rw [e]
  · rw [if_neg z] at e
    refine ⟨?_, fun w => absurd w z, fun _ => ⟨?_, ?_⟩⟩
    · show (pst lt (i + 1)).1 = _
      rw [e]
    · show (pst lt (i + 1)).2.1 = _
      rw [e]
    · show (pst lt (i + 1)).2.2 = _
      rw [e]
theorem pE_rng (lt : Int → Int) (i : Nat) : pB lt i ≤ pE lt i ∧ pE lt i ≤ pB lt i + 4 := tE_rng lt (pB lt i)
theorem pE_cases (lt : Int → Int) (i : Nat) : (pE lt i = pB lt i ∧ ¬ (48 ≤ lt (pB lt i) ∧ lt (pB lt i) ≤ 52)) ∨ (pE lt i = pB lt i + 1 ∧ (48 ≤ lt (pB lt i) ∧ lt (pB lt i) ≤ 52) ∧ ¬ lt (pB lt i + 1) = 32) ∨ (pE lt i = pB lt i + 2 ∧ (48 ≤ lt (pB lt i) ∧ lt (pB lt i) ≤ 52) ∧ lt (pB lt i + 1) = 32 ∧ ¬ (49 ≤ lt (pB lt i + 2) ∧ lt (pB lt i + 2) ≤ 57)) ∨
    (pE lt i = pB lt i + 3 ∧ (48 ≤ lt (pB lt i) ∧ lt (pB lt i) ≤ 52) ∧ lt (pB lt i + 1) = 32 ∧ (49 ≤ lt (pB lt i + 2) ∧ lt (pB lt i + 2) ≤ 57) ∧ ¬ (48 ≤ lt (pB lt i + 3) ∧ lt (pB lt i + 3) ≤ 57)) ∨ (pE lt i = pB lt i + 4 ∧ (48 ≤ lt (pB lt i) ∧ lt (pB lt i) ≤ 52) ∧ lt (pB lt i + 1) = 32 ∧ (49 ≤ lt (pB lt i + 2) ∧ lt (pB lt i + 2) ≤ 57) ∧ (48 ≤ lt (pB lt i + 3) ∧ lt (pB lt i + 3) ≤ 57)) := tE_cases lt (pB lt i)
theorem ltF_pos {len : Int} {bs : Int → Int} {a : Int} (h : 0 ≤ ltF len bs a) : (0 ≤ a ∧ a < len) ∧ bs a = ltF len bs a := by
  unfold ltF at h ⊢
  by_cases z : a < 0
  · rw [if_pos z] at h; omega
  · rw [if_neg z] at h ⊢
    by_cases y : len ≤ a
    · rw [if_pos y] at h; omega
    · rw [if_neg y]
      exact ⟨by omega, rfl⟩
theorem pst_rng (lt : Int → Int) : ∀ i : Nat, (0 ≤ pB lt i ∧ pB lt i ≤ 5 * i) ∧ (0 ≤ pJ lt i ∧ pJ lt i ≤ i) ∧ (0 ≤ pP lt i ∧ pP lt i ≤ i) := by
  intro i
  induction i with
  | zero => exact ⟨⟨Int.le_refl 0, Int.le_refl 0⟩, ⟨Int.le_refl 0, Int.le_refl 0⟩, Int.le_refl 0, Int.le_refl 0⟩
  | succ i ih =>
    have r : pB lt i ≤ pE lt i ∧ pE lt i ≤ pB lt i + 4 := tE_rng lt (pB lt i)
    have n := pst_next (lt := lt) (i := i)
    rw [n.1]
    by_cases z : lt (pE lt i) = 44
    · have q := n.2.1 z
      rw [q.1, q.2]
      omega
    · have q := n.2.2 z
      rw [q.1, q.2]
      omega
def contP (lt : Int → Int) (i : Nat) : Prop := pJ lt i < 6 ∧ pP lt i < 6 ∧ pB lt i + 3 ≤ pE lt i ∧ (lt (pE lt i) = 44 ∨ lt (pE lt i) = 59)
def pFail (lt : Int → Int) (len : Int) (i : Nat) (r : Int) : Prop := (∀ k, k < i → contP lt k) ∧ i ≤ 24 ∧ (((i = 24 ∨ 6 ≤ pJ lt i ∨ 6 ≤ pP lt i) ∧ r = pB lt i) ∨ (i < 24 ∧ pJ lt i < 6 ∧ pP lt i < 6 ∧ r = pE lt i ∧ (pE lt i < pB lt i + 3 ∨ (¬ pE lt i = len ∧ ¬ lt (pE lt i) = 44 ∧ ¬ lt (pE lt i) = 59))))
def pGood (lt : Int → Int) (len : Int) (i : Nat) : Prop := (∀ k, k < i → contP lt k) ∧ i < 24 ∧ pJ lt i < 6 ∧ pP lt i < 6 ∧ pB lt i + 3 ≤ pE lt i ∧ pE lt i = len
theorem ltF_end {len : Int} {bs : Int → Int} : ltF len bs len = -1 := by
  unfold ltF
  by_cases z : len < 0
  · rw [if_pos z]
  · rw [if_neg z, if_pos (Int.le_refl _)]
theorem pFail.unique {len : Int} {bs : Int → Int} {i i' : Nat} {r r' : Int} (h : pFail (ltF len bs) len i r) (h' : pFail (ltF len bs) len i' r') : r = r' := by
  obtain ⟨a, b, c⟩ := h
  obtain ⟨a', b', c'⟩ := h'
  have e : i = i' := by
    rcases Nat.lt_trichotomy i i' with z | z | z
    · obtain ⟨x1, x2, x3, x4⟩ := a' i z
      omega
    · exact z
    · obtain ⟨x1, x2, x3, x4⟩ := a i' z
      omega
  subst e
  omega
theorem pGood.not {len : Int} {bs : Int → Int} {i i' : Nat} {r' : Int} (h : pGood (ltF len bs) len i) (h' : pFail (ltF len bs) len i' r') : False := by
  obtain ⟨a, b, c1, c2, c3, c4⟩ := h
  obtain ⟨a', b', c'⟩ := h'
  have q : ltF len bs (pE (ltF len bs) i) = -1 := by rw [c4]; exact ltF_end
  have e : i = i' := by
    rcases Nat.lt_trichotomy i i' with z | z | z
    · obtain ⟨x1, x2, x3, x4⟩ := a' i z
      omega
    · exact z
    · obtain ⟨x1, x2, x3, x4⟩ := a i' z
      omega
  subst e
  omega
theorem pGood.unique {len : Int} {bs : Int → Int} {i i' : Nat} (h : pGood (ltF len bs) len i) (h' : pGood (ltF len bs) len i') : i = i' := by
  obtain ⟨a, b, c1, c2, c3, c4⟩ := h
  obtain ⟨a', b', c1', c2', c3', c4'⟩ := h'
  have q : ltF len bs (pE (ltF len bs) i) = -1 := by rw [c4]; exact ltF_end
  have q' : ltF len bs (pE (ltF len bs) i') = -1 := by rw [c4']; exact ltF_end
  rcases Nat.lt_trichotomy i i' with z | z | z
  · obtain ⟨x1, x2, x3, x4⟩ := a' i z
    omega
  · exact z
  · obtain ⟨x1, x2, x3, x4⟩ := a i' z
    omega
/-! .. the class -/
theorem f_fig {h : aH} {a lo hi : Int} : f_X7_isFigure h a lo hi = 0 ↔ ¬ (lo ≤ ltF (h 1 1) (h 2) a ∧ ltF (h 1 1) (h 2) a ≤ hi) := by
  show (if ltF (h 1 1) (h 2) a < lo then (0 : Int) else if hi < ltF (h 1 1) (h 2) a then 0 else 1) = 0 ↔ _
  by_cases z : ltF (h 1 1) (h 2) a < lo
  · rw [if_pos z]; omega
  · rw [if_neg z]
    by_cases y : hi < ltF (h 1 1) (h 2) a
    · rw [if_pos y]; omega
    · rw [if_neg y]; omega
theorem f_tEnd {h : aH} {b : Int} : f_X7_taskEnd h b = tE (ltF (h 1 1) (h 2)) b := by
  unfold f_X7_taskEnd
  rw [show ∀ x, f_X7_letterAt h x = ltF (h 1 1) (h 2) x from fun x => rfl]
  unfold tE
  by_cases a : 48 ≤ ltF (h 1 1) (h 2) b ∧ ltF (h 1 1) (h 2) b ≤ 52
  · rw [if_pos a, if_neg (fun e => f_fig.1 e a)]
    by_cases c : ltF (h 1 1) (h 2) (b + 1) = 32
    · rw [if_pos c, if_pos c]
      by_cases d : 49 ≤ ltF (h 1 1) (h 2) (b + 2) ∧ ltF (h 1 1) (h 2) (b + 2) ≤ 57
      · rw [if_pos d, if_neg (fun e => f_fig.1 e d)]
        by_cases e : 48 ≤ ltF (h 1 1) (h 2) (b + 3) ∧ ltF (h 1 1) (h 2) (b + 3) ≤ 57
        · rw [if_pos e, if_neg (fun x => f_fig.1 x e)]
        · rw [if_neg e, if_pos (f_fig.2 e)]
      · rw [if_neg d, if_pos (f_fig.2 d)]
    · rw [if_neg c, if_neg c]
  · rw [if_neg a, if_pos (f_fig.2 a)]
theorem o_lt {h : aH} {a : Int} (hl : h 1 1 ≤ 140) : o_X7_letterAt h a := fun _ _ => by omega
theorem o_tEnd {h : aH} {b : Int} (hl : h 1 1 ≤ 140) (hb : 0 ≤ b ∧ b ≤ 1000) : o_X7_taskEnd h b :=
  ⟨o_lt hl, fun _ => ⟨by unfold inR; omega, o_lt hl, fun _ => ⟨by unfold inR; omega, o_lt hl, fun _ => ⟨by unfold inR; omega, o_lt hl, fun _ => by unfold inR; omega⟩⟩⟩⟩
theorem r_number {h : aH} {Q : aQ} {b : Int} (hl : h 1 1 ≤ 140) (hb : 0 ≤ b ∧ b ≤ 1000) (he : b + 3 ≤ tE (ltF (h 1 1) (h 2)) b) (k : Q (nB (ltF (h 1 1) (h 2)) b) h) : aRun mX7_number 1 [aR 1, aI (b + 2), aI (tE (ltF (h 1 1) (h 2)) b)] h Q := by
  have L : ∀ x, f_X7_letterAt h x = ltF (h 1 1) (h 2) x := fun x => rfl
  refine e_X7_number ?_
  unfold nB at k
  rcases tE_cases (ltF (h 1 1) (h 2)) b with a | a | a | a | a
  · omega
  · omega
  · omega
  · obtain ⟨e, a1, a2, a3, a4⟩ := a
    rw [if_neg a4] at k
    refine s_X7_number_5 ⟨fun w => by omega, fun _ => ⟨by unfold inR; omega, o_lt hl, ?_, ?_, by unfold inR; omega, s_X7_number_5 ⟨fun _ => ?_, fun w => by omega⟩⟩⟩
    · rw [L]; unfold inR; omega
    · rw [L]; unfold inR; omega
    · rw [L, show 10 * 0 + ltF (h 1 1) (h 2) (b + 2) - 48 = ltF (h 1 1) (h 2) (b + 2) - 48 by omega]
      exact k
  · obtain ⟨e, a1, a2, a3, a4⟩ := a
    rw [if_pos a4] at k
    refine s_X7_number_5 ⟨fun w => by omega, fun _ => ⟨by unfold inR; omega, o_lt hl, ?_, ?_, by unfold inR; omega, s_X7_number_5 ⟨fun w => by omega, fun _ => ⟨?_, o_lt hl, ?_, ?_, by unfold inR; omega, s_X7_number_5 ⟨fun _ => ?_, fun w => by omega⟩⟩⟩⟩⟩
    · rw [L]; unfold inR; omega
    · rw [L]; unfold inR; omega
    · rw [L]; unfold inR; omega
    · rw [L, L, show b + 2 + 1 = b + 3 by omega]; unfold inR; omega
    · rw [L, L, show b + 2 + 1 = b + 3 by omega]; unfold inR; omega
    · rw [L, L, show b + 2 + 1 = b + 3 by omega, show 10 * (10 * 0 + ltF (h 1 1) (h 2) (b + 2) - 48) + ltF (h 1 1) (h 2) (b + 3) - 48 = 10 * (ltF (h 1 1) (h 2) (b + 2) - 48) + ltF (h 1 1) (h 2) (b + 3) - 48 by omega]
      exact k
/-- the tables of the tasks read so far -/
def pTab (lt : Int → Int) (i : Nat) (job place mach l : Int → Int) : Prop := ∀ t : Nat, t < i → job t = pJ lt t ∧ place t = pP lt t ∧ mach t = lt (pB lt t) - 48 ∧ l t = nB lt (pB lt t)
set_option maxHeartbeats 1000000 in
theorem r_readInto {h : aH} {Q : aQ} (hl : 0 ≤ h 1 1 ∧ h 1 1 ≤ 140) (k1 : ∀ i r g, (∀ c, (c < 11 ∨ 15 < c) → g c = h c) → pFail (ltF (h 1 1) (h 2)) (h 1 1) i r → Q r g)
    (k2 : ∀ i g, (∀ c, (c < 11 ∨ 15 < c) → g c = h c) → pGood (ltF (h 1 1) (h 2)) (h 1 1) i → g 11 1 = (i : Int) + 1 → g 11 0 = pJ (ltF (h 1 1) (h 2)) i + 1 → pTab (ltF (h 1 1) (h 2)) (i + 1) (g 12) (g 13) (g 14) (g 15) → aRun mX5_finish 1 [aR 11] g (fun _ h6 => Q (-1) h6)) : aRun mX7_readInto 3 [aR 1, aR 11] h Q := by
  refine e_X7_readInto ?_
  suffices H : ∀ (d i : Nat) (g : aH), i ≤ 24 → 24 - i ≤ d → (∀ c, (c < 11 ∨ 15 < c) → g c = h c) → (∀ k, k < i → contP (ltF (h 1 1) (h 2)) k) → g 11 1 = i → pTab (ltF (h 1 1) (h 2)) i (g 12) (g 13) (g 14) (g 15) → AW mX7_readInto 3 14 [some (aR 1), some (aR 11), some (aI (pB (ltF (h 1 1) (h 2)) i)), some (aI (pJ (ltF (h 1 1) (h 2)) i)), some (aI (pP (ltF (h 1 1) (h 2)) i)), some (aI (i : Int)), none] [] g Q from by
    refine H 24 0 _ (by omega) (by omega) (fun c hc => ?_) (fun k hk => by omega) ?_ (fun t ht => by omega)
    · rw [a_up_ne (by omega), a_up_ne (by omega)]
    · rw [a_up_eq]; rfl
  intro d
  induction d with
  | zero =>
    intro i g i1 hd f hc h1 hT
    have e : i = 24 := by omega
    subst e
    exact s_X7_readInto_14 ⟨fun _ => k1 24 _ g f ⟨hc, by omega, Or.inl ⟨Or.inl rfl, rfl⟩⟩, fun w => by omega⟩
  | succ d ih =>
    intro i g i1 hd f hc h1 hT
    have pr := pst_rng (ltF (h 1 1) (h 2)) i
    have e1 : g 1 = h 1 := f 1 (by omega)
    have e2 : g 2 = h 2 := f 2 (by omega)
    have te : f_X7_taskEnd g (pB (ltF (h 1 1) (h 2)) i) = pE (ltF (h 1 1) (h 2)) i := by rw [f_tEnd, e1, e2]
    have tr := pE_rng (ltF (h 1 1) (h 2)) i
    refine s_X7_readInto_14 ⟨fun w => ?_, fun w => ⟨fun y => k1 i _ g f ⟨hc, i1, Or.inl ⟨Or.inr (Or.inl y), rfl⟩⟩, fun y => ⟨fun x => ?_, fun x => k1 i _ g f ⟨hc, i1, Or.inl ⟨Or.inr (Or.inr (by omega)), rfl⟩⟩⟩⟩⟩
    · have e : i = 24 := by omega
      subst e
      exact k1 24 _ g f ⟨hc, by omega, Or.inl ⟨Or.inl rfl, rfl⟩⟩
    rw [te]
    have it : f_X7_isTask g (pB (ltF (h 1 1) (h 2)) i) (pE (ltF (h 1 1) (h 2)) i) = 0 ↔ pE (ltF (h 1 1) (h 2)) i < pB (ltF (h 1 1) (h 2)) i + 3 := by
      unfold f_X7_isTask
      by_cases z : pE (ltF (h 1 1) (h 2)) i - pB (ltF (h 1 1) (h 2)) i < 3
      · rw [if_pos z]; omega
      · rw [if_neg z]; omega
    refine ⟨o_tEnd (by rw [e1]; exact hl.2) (by omega), by unfold o_X7_isTask inR; omega, fun z => ?_, fun z => ?_⟩
    · have z := it.1 z
      exact k1 i _ g f ⟨hc, i1, Or.inr ⟨by omega, by omega, x, rfl, Or.inl z⟩⟩
    have z : pB (ltF (h 1 1) (h 2)) i + 3 ≤ pE (ltF (h 1 1) (h 2)) i := by
      have := fun v => z (it.2 v)
      omega
    have figs : (48 ≤ ltF (h 1 1) (h 2) (pB (ltF (h 1 1) (h 2)) i) ∧ ltF (h 1 1) (h 2) (pB (ltF (h 1 1) (h 2)) i) ≤ 52) := by
      rcases pE_cases (ltF (h 1 1) (h 2)) i with a | a | a | a | a
      · omega
      · omega
      · omega
      · exact a.2.1
      · exact a.2.1
    have hb := ltF_pos (show 0 ≤ ltF (h 1 1) (h 2) (pB (ltF (h 1 1) (h 2)) i) by omega)
    rw [e2, hb.2]
    refine ⟨by omega, by unfold inR; omega, by unfold inR; omega, ?_⟩
    have rn := r_number (h := g) (b := pB (ltF (h 1 1) (h 2)) i) (Q := fun r1 h2 => aRun mX5_add 0 [aR 11, aI (pJ (ltF (h 1 1) (h 2)) i), aI (pP (ltF (h 1 1) (h 2)) i), aI (ltF (h 1 1) (h 2) (pB (ltF (h 1 1) (h 2)) i) - 48), aI r1] h2 (fun r3 h4 => (((pE (ltF (h 1 1) (h 2)) i) = (h4 1 1) → aRun mX5_finish 1 [aR 11] h4 (fun r5 h6 => Q (-1) h6)) ∧ (¬ ((pE (ltF (h 1 1) (h 2)) i) = (h4 1 1)) → o_X7_letterAt h4 (pE (ltF (h 1 1) (h 2)) i) ∧ (((f_X7_letterAt h4 (pE (ltF (h 1 1) (h 2)) i)) = 44 → inR ((pP (ltF (h 1 1) (h 2)) i) + 1) ∧ inR ((pE (ltF (h 1 1) (h 2)) i) + 1) ∧ inR ((i : Int) + 1) ∧ AW mX7_readInto 3 14 [some (aR 1), some (aR 11), some (aI ((pE (ltF (h 1 1) (h 2)) i) + 1)), some (aI (pJ (ltF (h 1 1) (h 2)) i)), some (aI ((pP (ltF (h 1 1) (h 2)) i) + 1)), some (aI ((i : Int) + 1)), none] [] h4 Q) ∧ (¬ ((f_X7_letterAt h4 (pE (ltF (h 1 1) (h 2)) i)) = 44) → (((f_X7_letterAt h4 (pE (ltF (h 1 1) (h 2)) i)) = 59 → inR ((pJ (ltF (h 1 1) (h 2)) i) + 1) ∧ inR ((pE (ltF (h 1 1) (h 2)) i) + 1) ∧ inR ((i : Int) + 1) ∧ AW mX7_readInto 3 14 [some (aR 1), some (aR 11), some (aI ((pE (ltF (h 1 1) (h 2)) i) + 1)), some (aI ((pJ (ltF (h 1 1) (h 2)) i) + 1)), some (aI 0), some (aI ((i : Int) + 1)), none] [] h4 Q) ∧ (¬ ((f_X7_letterAt h4 (pE (ltF (h 1 1) (h 2)) i)) = 59) → Q (pE (ltF (h 1 1) (h 2)) i) h4)))))))) (by rw [e1]; exact hl.2) (by omega) (by rw [e1, e2]; exact z)
    rw [e1, e2] at rn
    refine rn (e_X5_add ⟨fun _ => ⟨by omega, by unfold inR; omega, by unfold inR; omega, ?_⟩, fun v => by omega⟩)
    rw [h1]
    generalize hG : a_up (a_up (a_up (a_up (a_up (a_up g 12 i (pJ (ltF (h 1 1) (h 2)) i)) 13 i (pP (ltF (h 1 1) (h 2)) i)) 14 i (ltF (h 1 1) (h 2) (pB (ltF (h 1 1) (h 2)) i) - 48)) 15 i (nB (ltF (h 1 1) (h 2)) (pB (ltF (h 1 1) (h 2)) i))) 11 1 (i + 1)) 11 0 (pJ (ltF (h 1 1) (h 2)) i + 1) = G
    have G0 : ∀ c, (c < 11 ∨ 15 < c) → G c = h c := fun c hc => by rw [← hG, a_up_ne (by omega), a_up_ne (by omega), a_up_ne (by omega), a_up_ne (by omega), a_up_ne (by omega), a_up_ne (by omega)]; exact f c hc
    have G1 : G 11 1 = (i : Int) + 1 := by rw [← hG, a_up_off (by omega), a_up_eq]
    have G2 : G 11 0 = pJ (ltF (h 1 1) (h 2)) i + 1 := by rw [← hG, a_up_eq]
    have GT : pTab (ltF (h 1 1) (h 2)) (i + 1) (G 12) (G 13) (G 14) (G 15) := by
      intro t ht
      have G12 : G 12 = up1 (g 12) i (pJ (ltF (h 1 1) (h 2)) i) := by rw [← hG, a_up_ne (by omega), a_up_ne (by omega), a_up_ne (by omega), a_up_ne (by omega), a_up_ne (by omega), a_up_fn]
      have G13 : G 13 = up1 (g 13) i (pP (ltF (h 1 1) (h 2)) i) := by rw [← hG, a_up_ne (by omega), a_up_ne (by omega), a_up_ne (by omega), a_up_ne (by omega), a_up_fn, a_up_ne (by omega)]
      have G14 : G 14 = up1 (g 14) i (ltF (h 1 1) (h 2) (pB (ltF (h 1 1) (h 2)) i) - 48) := by rw [← hG, a_up_ne (by omega), a_up_ne (by omega), a_up_ne (by omega), a_up_fn, a_up_ne (by omega), a_up_ne (by omega)]
      have G15 : G 15 = up1 (g 15) i (nB (ltF (h 1 1) (h 2)) (pB (ltF (h 1 1) (h 2)) i)) := by rw [← hG, a_up_ne (by omega), a_up_ne (by omega), a_up_fn, a_up_ne (by omega), a_up_ne (by omega), a_up_ne (by omega)]
      rw [G12, G13, G14, G15]
      by_cases e : t = i
      · rw [e, up1_eq, up1_eq, up1_eq, up1_eq]
        exact ⟨rfl, rfl, rfl, rfl⟩
      · have e' : (t : Int) ≠ i := by omega
        rw [up1_ne e', up1_ne e', up1_ne e', up1_ne e']
        exact hT t (by omega)
    have GL : ∀ x, f_X7_letterAt G x = ltF (h 1 1) (h 2) x := fun x => by
      show ltF (G 1 1) (G 2) x = _
      rw [G0 1 (by omega), G0 2 (by omega)]
    have nx := pst_next (lt := ltF (h 1 1) (h 2)) (i := i)
    rw [GL, G0 1 (by omega)]
    refine ⟨fun e => k2 i G G0 ⟨hc, by omega, by omega, x, z, e⟩ G1 G2 GT, fun e => ⟨o_lt (by rw [G0 1 (by omega)]; exact hl.2), fun v => ⟨by unfold inR; omega, by unfold inR; omega, by unfold inR; omega, ?_⟩, fun v => ⟨fun u => ⟨by unfold inR; omega, by unfold inR; omega, by unfold inR; omega, ?_⟩, fun u => k1 i _ G G0 ⟨hc, i1, Or.inr ⟨by omega, by omega, x, rfl, Or.inr ⟨e, v, u⟩⟩⟩⟩⟩⟩
    · have q := nx.2.1 v
      have R := ih (i + 1) G (by omega) (by omega) G0 (fun k hk => by
        by_cases e2 : k = i
        · rw [e2]; exact ⟨by omega, x, z, Or.inl v⟩
        · exact hc k (by omega)) (by rw [G1]; omega) GT
      rw [nx.1, q.1, q.2] at R
      exact R
    · have q := nx.2.2 v
      have R := ih (i + 1) G (by omega) (by omega) G0 (fun k hk => by
        by_cases e2 : k = i
        · rw [e2]; exact ⟨by omega, x, z, Or.inr u⟩
        · exact hc k (by omega)) (by rw [G1]; omega) GT
      rw [nx.1, q.1, q.2] at R
      exact R
