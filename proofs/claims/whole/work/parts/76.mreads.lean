/-! .. jobs, all -/
def JI (h : aH) (i : Nat) (g : aH) : Prop := mrF h g ∧ g 85 10 = pB (mlt h) i ∧ g 85 11 = 1 ∧ g 85 12 = pJ (mlt h) i ∧ g 85 13 = i ∧ pTb2 (mlt h) i (g 93) (g 94) (g 95) ∧ (∀ k, k < i → contP (mlt h) k) ∧ i ≤ 24
def JF (h g : aH) : Prop := mrF h g ∧ (∃ i, pFail (mlt h) (h 85 9) i (g 85 10)) ∧ g 85 11 = 0 ∧ (0 ≤ g 85 10 ∧ g 85 10 ≤ 200)
def JS (h : aH) (i : Nat) (g : aH) : Prop := mrF h g ∧ g 85 10 = pE (mlt h) i ∧ g 85 11 = 1 ∧ g 85 12 = pJ (mlt h) i + 1 ∧ g 85 13 = (i : Int) + 1 ∧ pTb2 (mlt h) (i + 1) (g 93) (g 94) (g 95) ∧ (∀ k, k < i → contP (mlt h) k) ∧ i < 24 ∧ pJ (mlt h) i < 6 ∧ pP (mlt h) i < 6 ∧ pB (mlt h) i + 3 ≤ pE (mlt h) i ∧ ¬ mlt h (pE (mlt h) i) = 44
theorem upAt_rf {h g : aH} {i v : Int} (a : mrF h g) (hi : i = 10 ∨ i = 11 ∨ i = 12 ∨ i = 13) : mrF h (a_up g 85 i v) := ⟨fun c c1 c2 => (a_up_ne c1).trans (a.1 c c1 c2), fun j j1 j2 j3 j4 => (a_up_off (by omega)).trans (a.2 j j1 j2 j3 j4)⟩
set_option maxHeartbeats 1000000 in
theorem r_readsJobL {h : aH} {Q : aQ} {i0 : Nat} (ht : mTp h) (kF : ∀ g, JF h g → (0 ≤ g 85 12 ∧ g 85 12 ≤ 7) → Q 0 g) (kS : ∀ i g, i0 ≤ i → JS h i g → Q 0 g) : ∀ (d i : Nat) (g : aH), i0 ≤ i → 24 - i ≤ d → JI h i g → pJ (mlt h) i < 6 → AW mX10_readsJob 3 32 [some (aR 85), some (aI (pP (mlt h) i)), some (aI 1)] [] g Q := by
  intro d
  -- the way out
  have out : ∀ (g : aH) (l1 : Int), g 85 11 = 0 → (0 ≤ g 85 12 ∧ g 85 12 ≤ 6) → mrF h g → (∃ i, pFail (mlt h) (h 85 9) i (g 85 10)) → (0 ≤ g 85 10 ∧ g 85 10 ≤ 200) → AW mX10_readsJob 3 32 [some (aR 85), some (aI l1), some (aI 0)] [] g Q := by
    intro g l1 e11 e12 f ef e10
    refine s_X10_readsJob_32 ⟨fun _ => ⟨by unfold inR; omega, kF _ ⟨upAt_rf f (by omega), ?_, ?_, ?_⟩ ?_⟩, fun w => absurd rfl w⟩
    · rw [a_up_off (by omega)]; exact ef
    · rw [a_up_off (by omega)]; exact e11
    · rw [a_up_off (by omega)]; exact e10
    · rw [a_up_eq]; omega
  have failed : ∀ (i : Nat) (g : aH) (l1 r : Int), g 85 11 = 0 → g 85 12 = pJ (mlt h) i → pJ (mlt h) i < 6 → mrF h g → g 85 10 = r → pFail (mlt h) (h 85 9) i r → (0 ≤ r ∧ r ≤ 200) → -1 ≤ l1 → l1 ≤ 1000 → inR (l1 + 1) ∧ ((¬ ((g 85 11) = 0) → o_X10_is g 44) ∧ inR ((g 85 10) + (if (if (g 85 11) = 0 then (0 : Int) else (if (f_X10_is g 44) = 0 then (0 : Int) else (1 : Int))) = 0 then (0 : Int) else (1 : Int))) ∧ AW mX10_readsJob 3 32 [some (aR 85), some (aI (l1 + 1)), some (aI (if (g 85 11) = 0 then (0 : Int) else (if (f_X10_is g 44) = 0 then (0 : Int) else (1 : Int))))] [] (a_up g 85 10 ((g 85 10) + (if (if (g 85 11) = 0 then (0 : Int) else (if (f_X10_is g 44) = 0 then (0 : Int) else (1 : Int))) = 0 then (0 : Int) else (1 : Int)))) Q) := by
    intro i g l1 r e11 e12 hj f e10 pf rr l1a l1b
    have pr := pst_rng (mlt h) i
    rw [if_pos e11, if_pos rfl]
    refine ⟨by unfold inR; omega, fun w => absurd e11 w, by unfold inR; omega, out _ _ ?_ ?_ (upAt_rf f (by omega)) ?_ ?_⟩
    · rw [a_up_off (by omega)]; exact e11
    · rw [a_up_off (by omega)]; omega
    · rw [a_up_eq, e10]
      exact ⟨i, by rw [show r + 0 = r by omega]; exact pf⟩
    · rw [a_up_eq]; omega
  induction d with
  | zero =>
    intro i g hi0 hd J hj
    obtain ⟨f, e10, e11, e12, e13, hT, hc, i24⟩ := J
    have lt := f.lt
    have pr := pst_rng (mlt h) i
    have ei : i = 24 := by omega
    refine s_X10_readsJob_32 ⟨fun w => absurd w (by omega), fun _ => ?_⟩
    refine r_readsTask (i := i) (ht.rf f) i24 (by rw [lt]; exact e10) e11 (by rw [lt]; exact e12) e13 (by rw [lt]; exact hT) (by rw [lt]; exact hj) (fun _ g2 f2 x1 x2 x3 => ?_) (fun _ w => by omega) (fun _ w => by omega)
    rw [lt] at x1 x3
    exact failed i g2 _ _ x2 x3 hj (f.trans f2) x1 ⟨hc, i24, Or.inl ⟨Or.inl ei, rfl⟩⟩ (by omega) (by omega) (by omega)
  | succ d ih =>
    intro i g hi0 hd J hj
    obtain ⟨f, e10, e11, e12, e13, hT, hc, i24⟩ := J
    have lt := f.lt
    have pr := pst_rng (mlt h) i
    have pe := pE_rng (mlt h) i
    refine s_X10_readsJob_32 ⟨fun w => absurd w (by omega), fun _ => ?_⟩
    refine r_readsTask (i := i) (ht.rf f) i24 (by rw [lt]; exact e10) e11 (by rw [lt]; exact e12) e13 (by rw [lt]; exact hT) (by rw [lt]; exact hj) (fun w g2 f2 x1 x2 x3 => ?_) (fun w1 w2 w3 g2 f2 x1 x2 x3 => ?_) (fun w1 w2 w3 g2 f2 x1 x2 x3 x4 x5 => ?_)
    · rw [lt] at x1 x3
      exact failed i g2 _ _ x2 x3 hj (f.trans f2) x1 ⟨hc, i24, Or.inl ⟨by omega, rfl⟩⟩ (by omega) (by omega) (by omega)
    · rw [lt] at x1 x3 w3
      exact failed i g2 _ _ x2 x3 hj (f.trans f2) x1 ⟨hc, i24, Or.inr ⟨w2, hj, w1, rfl, Or.inl w3⟩⟩ (by omega) (by omega) (by omega)
    · rw [lt] at x1 x3 x5 w3
      have fg := f.trans f2
      have b2 : 0 ≤ g2 85 10 := by omega
      have IS := f_mis (h := g2) (c := 44) b2 (by omega)
      rw [fg.lt, x1] at IS
      have nx := pst_next (lt := mlt h) (i := i)
      rw [if_neg (show ¬ g2 85 11 = 0 by omega)]
      refine ⟨by unfold inR; omega, fun _ => (ht.rf fg).o_is b2, ?_⟩
      by_cases c : mlt h (pE (mlt h) i) = 44
      · have is1 : ¬ f_X10_is g2 44 = 0 := fun w => IS.1 w c
        rw [if_neg is1, if_neg (by omega), x1]
        refine ⟨by unfold inR; omega, ?_⟩
        have q := nx.2.1 c
        have R := ih (i + 1) (a_up g2 85 10 (pE (mlt h) i + 1)) (by omega) (by omega) ⟨upAt_rf fg (by omega), by rw [a_up_eq]; exact nx.1.symm, by rw [a_up_off (by omega)]; exact x2, by rw [a_up_off (by omega), q.1]; exact x3, by rw [a_up_off (by omega)]; omega, by rw [a_up_ne (by omega), a_up_ne (by omega), a_up_ne (by omega)]; exact x5, fun k hk => by
          by_cases e : k = i
          · rw [e]; exact ⟨hj, w1, w3, Or.inl c⟩
          · exact hc k (by omega), by omega⟩ (by omega)
        rw [q.2] at R
        exact R
      · rw [if_pos (IS.2 c), if_pos rfl, x1]
        refine ⟨by unfold inR; omega, s_X10_readsJob_32 ⟨fun _ => ⟨?_, kS i _ hi0 ⟨upAt_rf (upAt_rf fg (by omega)) (by omega), ?_, ?_, ?_, ?_, ?_, hc, w2, hj, w1, w3, c⟩⟩, fun w => absurd rfl w⟩⟩
        · rw [a_up_off (by omega)]; unfold inR; omega
        · rw [a_up_off (by omega), a_up_eq]; omega
        · rw [a_up_off (by omega), a_up_off (by omega)]; exact x2
        · rw [a_up_eq, a_up_off (by omega)]; omega
        · rw [a_up_off (by omega), a_up_off (by omega)]; exact x4
        · rw [a_up_ne (by omega), a_up_ne (by omega), a_up_ne (by omega), a_up_ne (by omega), a_up_ne (by omega), a_up_ne (by omega)]; exact x5
theorem up_same {h : aH} {c : Nat} {i v : Int} (e : h c i = v) : a_up h c i v = h := by
  funext c' x
  by_cases a : c' = c
  · rw [a]
    by_cases y : x = i
    · rw [y, a_up_eq, e]
    · rw [a_up_off y]
  · rw [a_up_ne a]
theorem r_readsJob {h : aH} {Q : aQ} {i : Nat} {g : aH} (ht : mTp h) (J : JI h i g) (hp : pP (mlt h) i = 0) (kF : ∀ g, JF h g → (0 ≤ g 85 12 ∧ g 85 12 ≤ 7) → Q 0 g) (kS : ∀ i' g, i ≤ i' → JS h i' g → Q 0 g) : aRun mX10_readsJob 3 [aR 85] g Q := by
  have J' := J
  obtain ⟨f, e10, e11, e12, e13, hT, hc, i24⟩ := J
  have pr := pst_rng (mlt h) i
  refine e_X10_readsJob ?_
  rw [if_neg (show ¬ g 85 11 = 0 by omega)]
  by_cases z : 6 ≤ g 85 12
  · rw [if_pos z]
    have p6 : pJ (mlt h) i ≤ 6 := by
      rcases i with _ | i
      · show (0 : Int) ≤ 6; omega
      · have q := hc i (by omega)
        have n := pst_next (lt := mlt h) (i := i)
        by_cases c : mlt h (pE (mlt h) i) = 44
        · have := n.2.1 c; have := q.1; omega
        · have := n.2.2 c; have := q.1; omega
    refine s_X10_readsJob_32 ⟨fun _ => ⟨?_, kF _ ⟨upAt_rf (upAt_rf f (by omega)) (by omega), ⟨i, ?_⟩, ?_, ?_⟩ ?_⟩, fun w => absurd rfl w⟩
    · rw [a_up_off (by omega)]; unfold inR; omega
    · rw [a_up_off (by omega), a_up_off (by omega), e10]
      exact ⟨hc, i24, Or.inl ⟨Or.inr (Or.inl (by omega)), rfl⟩⟩
    · rw [a_up_off (by omega), a_up_eq]
    · rw [a_up_off (by omega), a_up_off (by omega)]; omega
    · rw [a_up_eq, a_up_off (by omega)]; omega
  · rw [if_neg z, up_same e11]
    have R := r_readsJobL (Q := Q) (i0 := i) ht kF kS 24 i g (Nat.le_refl _) (by omega) J' (by omega)
    rw [hp] at R
    exact R
set_option maxHeartbeats 1000000 in
theorem r_readsAll {h : aH} {Q : aQ} (ht : mTp h) (kF : ∀ i g, mrF h g → pFail (mlt h) (h 85 9) i (g 85 10) → g 85 11 = 0 → (0 ≤ g 85 10 ∧ g 85 10 ≤ 200) → Q 0 g) (kG : ∀ i g, mrF h g → pGood (mlt h) (h 85 9) i → g 85 11 = 1 → g 85 12 = pJ (mlt h) i + 1 → g 85 13 = (i : Int) + 1 → pTb2 (mlt h) (i + 1) (g 93) (g 94) (g 95) → Q 0 g) : aRun mX10_readsAll 4 [aR 85] h Q := by
  refine e_X10_readsAll ?_
  -- the way out
  have out : ∀ g : aH, g 85 11 = 0 → mrF h g → (∃ i, pFail (mlt h) (h 85 9) i (g 85 10)) → (0 ≤ g 85 10 ∧ g 85 10 ≤ 200) → AW mX10_readsAll 4 22 [some (aR 85), some (aI 0)] [] g Q := by
    intro g e11 f ef e10
    obtain ⟨i, ef⟩ := ef
    refine s_X10_readsAll_22 ⟨fun _ => ?_, fun w => absurd rfl w⟩
    rw [if_pos e11, up_same e11]
    exact kF i g f ef e11 e10
  suffices H : ∀ (d i : Nat) (g : aH), 24 - i ≤ d → JI h i g → pP (mlt h) i = 0 → AW mX10_readsAll 4 22 [some (aR 85), some (aI 1)] [] g Q from by
    refine H 24 0 _ (by omega) ⟨⟨fun c c1 c2 => ?_, fun j j1 j2 j3 j4 => ?_⟩, ?_, ?_, ?_, ?_, fun t w => by omega, fun k w => by omega, by omega⟩ rfl
    · rw [a_up_ne c1, a_up_ne c1, a_up_ne c1, a_up_ne c1]
    · rw [a_up_off j4, a_up_off j3, a_up_off j2, a_up_off j1]
    · rw [a_up_off (by omega), a_up_off (by omega), a_up_off (by omega), a_up_eq]; rfl
    · rw [a_up_off (by omega), a_up_off (by omega), a_up_eq]
    · rw [a_up_off (by omega), a_up_eq]; rfl
    · rw [a_up_eq]; rfl
  have fl : ∀ g2 : aH, JF h g2 → ((¬ ((g2 85 11) = 0) → o_X10_is g2 59) ∧ inR ((g2 85 10) + (if (if (g2 85 11) = 0 then (0 : Int) else (if (f_X10_is g2 59) = 0 then (0 : Int) else (1 : Int))) = 0 then (0 : Int) else (1 : Int))) ∧ AW mX10_readsAll 4 22 [some (aR 85), some (aI (if (g2 85 11) = 0 then (0 : Int) else (if (f_X10_is g2 59) = 0 then (0 : Int) else (1 : Int))))] [] (a_up g2 85 10 ((g2 85 10) + (if (if (g2 85 11) = 0 then (0 : Int) else (if (f_X10_is g2 59) = 0 then (0 : Int) else (1 : Int))) = 0 then (0 : Int) else (1 : Int)))) Q) := by
    intro g2 x
    obtain ⟨f, ef, e11, e10⟩ := x
    rw [if_pos e11, if_pos rfl, up_same (show g2 85 10 = g2 85 10 + 0 by omega)]
    exact ⟨fun w => absurd e11 w, by unfold inR; omega, out g2 e11 f ef e10⟩
  -- a job is through
  have st : ∀ (b : Nat), (∀ (i : Nat) (g : aH), b < i → JI h i g → pP (mlt h) i = 0 → AW mX10_readsAll 4 22 [some (aR 85), some (aI 1)] [] g Q) → ∀ (i : Nat) (g2 : aH), b ≤ i → JS h i g2 → ((¬ ((g2 85 11) = 0) → o_X10_is g2 59) ∧ inR ((g2 85 10) + (if (if (g2 85 11) = 0 then (0 : Int) else (if (f_X10_is g2 59) = 0 then (0 : Int) else (1 : Int))) = 0 then (0 : Int) else (1 : Int))) ∧ AW mX10_readsAll 4 22 [some (aR 85), some (aI (if (g2 85 11) = 0 then (0 : Int) else (if (f_X10_is g2 59) = 0 then (0 : Int) else (1 : Int))))] [] (a_up g2 85 10 ((g2 85 10) + (if (if (g2 85 11) = 0 then (0 : Int) else (if (f_X10_is g2 59) = 0 then (0 : Int) else (1 : Int))) = 0 then (0 : Int) else (1 : Int)))) Q) := by
    intro d ih i g2 hd x
    obtain ⟨f, e10, e11, e12, e13, hT, hc, i24, j6, p6, w3, n44⟩ := x
    have pr := pst_rng (mlt h) i
    have pe := pE_rng (mlt h) i
    have b2 : 0 ≤ g2 85 10 := by omega
    have IS := f_mis (h := g2) (c := 59) b2 (by omega)
    rw [f.lt, e10] at IS
    have nx := pst_next (lt := mlt h) (i := i)
    rw [if_neg (show ¬ g2 85 11 = 0 by omega)]
    refine ⟨fun _ => (ht.rf f).o_is b2, ?_⟩
    by_cases c : mlt h (pE (mlt h) i) = 59
    · rw [if_neg (fun w => IS.1 w c), if_neg (by omega), e10]
      have q := nx.2.2 n44
      refine ⟨by unfold inR; omega, ih (i + 1) _ (by omega) ⟨upAt_rf f (by omega), by rw [a_up_eq]; exact nx.1.symm, by rw [a_up_off (by omega)]; exact e11, by rw [a_up_off (by omega), q.1]; exact e12, by rw [a_up_off (by omega)]; omega, by rw [a_up_ne (by omega), a_up_ne (by omega), a_up_ne (by omega)]; exact hT, fun k hk => ?_, by omega⟩ q.2⟩
      by_cases e : k = i
      · rw [e]; exact ⟨j6, p6, w3, Or.inr c⟩
      · exact hc k (by omega)
    · rw [if_pos (IS.2 c), if_pos rfl, up_same (show g2 85 10 = g2 85 10 + 0 by omega)]
      refine ⟨by unfold inR; omega, s_X10_readsAll_22 ⟨fun _ => ?_, fun w => absurd rfl w⟩⟩
      rw [if_neg (show ¬ g2 85 11 = 0 by omega), f.2 9 (by omega) (by omega) (by omega) (by omega)]
      by_cases y : g2 85 10 = h 85 9
      · rw [if_pos y, up_same e11]
        exact kG i g2 f ⟨hc, i24, j6, p6, w3, by omega⟩ e11 e12 e13 hT
      · rw [if_neg y]
        refine kF i _ (upAt_rf f (by omega)) ?_ a_up_eq ?_
        · rw [a_up_off (by omega), e10]
          exact ⟨hc, by omega, Or.inr ⟨i24, j6, p6, rfl, Or.inr ⟨by omega, n44, c⟩⟩⟩
        · rw [a_up_off (by omega)]; omega
  intro d
  induction d with
  | zero =>
    intro i g hd J hp
    refine s_X10_readsAll_22 ⟨fun w => absurd w (by omega), fun _ => r_readsJob ht J hp (fun g2 x _ => fl g2 x) (fun i' g2 hi' x => ?_)⟩
    have := x.2.2.2.2.2.2.2.1
    omega
  | succ d ih =>
    intro i g hd J hp
    refine s_X10_readsAll_22 ⟨fun w => absurd w (by omega), fun _ => r_readsJob ht J hp (fun g2 x _ => fl g2 x) (fun i' g2 hi' x => ?_)⟩
    exact st i (fun i2 g3 w J3 p3 => ih i2 g3 (by omega) J3 p3) i' g2 hi' x
