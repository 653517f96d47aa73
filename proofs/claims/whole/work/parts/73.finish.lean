/-! a SHOP read: its tables; orders by numbers -/
theorem pGood.shop {lt : Int → Int} {len : Int} {i : Nat} {job place mach l : Int → Int} (h : pGood lt len i) (T : pTab lt (i + 1) job place mach l) : okShop ((i : Int) + 1) (pJ lt i + 1) job place mach l := by
  obtain ⟨h1, h2, h3, h4, h5, h6⟩ := h
  have all : ∀ t : Nat, t ≤ i → pJ lt t < 6 ∧ pP lt t < 6 ∧ pB lt t + 3 ≤ pE lt t := by
    intro t ht
    by_cases e : t = i
    · rw [e]; exact ⟨h3, h4, h5⟩
    · have q := h1 t (by omega)
      exact ⟨q.1, q.2.1, q.2.2.1⟩
  have mono : ∀ d t : Nat, t + d = i → pJ lt t ≤ pJ lt i := by
    intro d
    induction d with
    | zero => intro t e; rw [show t = i by omega]; omega
    | succ d ih =>
      intro t e
      have := ih (t + 1) (by omega)
      have n := pst_next (lt := lt) (i := t)
      by_cases z : lt (pE lt t) = 44
      · have := n.2.1 z; omega
      · have := n.2.2 z; omega
  have tn : ∀ t : Int, 0 ≤ t → ((t.toNat : Nat) : Int) = t := fun t a => by omega
  have T' : ∀ t : Int, 0 ≤ t → t < (i : Int) + 1 → job t = pJ lt t.toNat ∧ place t = pP lt t.toNat ∧ mach t = lt (pB lt t.toNat) - 48 ∧ l t = nB lt (pB lt t.toNat) := by
    intro t a b
    have := T t.toNat (by omega)
    rw [tn t a] at this
    exact this
  refine ⟨by omega, by have := (pst_rng lt i).2.1; omega, fun t a b => ?_, fun t a b => ?_, fun a => ?_, fun a => by omega⟩
  · have q := T' t a b
    have r := all t.toNat (by omega)
    have p := pst_rng lt t.toNat
    have m := mono (i - t.toNat) t.toNat (by omega)
    rw [q.1, q.2.1, q.2.2.1, q.2.2.2]
    refine ⟨by omega, by omega, ?_⟩
    unfold nB
    rcases pE_cases lt t.toNat with e | e | e | e | e
    · omega
    · omega
    · omega
    · rw [if_neg e.2.2.2.2]; omega
    · rw [if_pos e.2.2.2.2]; omega
  · have q := T' t a b
    have p := pst_rng lt t.toNat
    rcases Nat.eq_zero_or_pos t.toNat with z | z
    · have e : t = 0 := by omega
      rw [q.1, q.2.1, z]
      refine ⟨fun _ => Or.inl ⟨e, rfl⟩, fun w => absurd w (by show ¬ (0 : Int) < 0; omega)⟩
    · have q1 := T' (t - 1) (by omega) (by omega)
      have n := pst_next (lt := lt) (i := t.toNat - 1)
      rw [show t.toNat - 1 + 1 = t.toNat by omega] at n
      rw [show (t - 1).toNat = t.toNat - 1 by omega] at q1
      have p1 := pst_rng lt (t.toNat - 1)
      rw [q.1, q.2.1, q1.1, q1.2.1]
      by_cases w : lt (pE lt (t.toNat - 1)) = 44
      · have := n.2.1 w
        exact ⟨fun _ => by omega, fun _ => by omega⟩
      · have := n.2.2 w
        exact ⟨fun _ => by omega, fun _ => by omega⟩
  · rw [show (i : Int) + 1 - 1 = i by omega, (T i (by omega)).1]
    omega
theorem cnt_sum {mach : Int → Int} : ∀ k : Nat, (∀ t : Nat, t < k → 0 ≤ mach t ∧ mach t < 5) → cntB (fun t => decide (mach t = 0)) k + cntB (fun t => decide (mach t = 1)) k + cntB (fun t => decide (mach t = 2)) k + cntB (fun t => decide (mach t = 3)) k + cntB (fun t => decide (mach t = 4)) k = k := by
  intro k
  induction k with
  | zero => intro _; rfl
  | succ k ih =>
    intro h
    have a := ih (fun t ht => h t (by omega))
    have b := h k (by omega)
    have s : ∀ M : Int, cntB (fun t => decide (mach t = M)) (k + 1) = cntB (fun t => decide (mach t = M)) k + (if decide (mach k = M) = true then 1 else 0) := fun M => rfl
    rw [s, s, s, s, s]
    have : mach k = 0 ∨ mach k = 1 ∨ mach k = 2 ∨ mach k = 3 ∨ mach k = 4 := by omega
    rcases this with e | e | e | e | e <;> rw [e] <;> simp <;> omega
set_option maxHeartbeats 1000000 in
theorem r_finish {h : aH} {Q : aQ} (hs : okShop (h 11 1) (h 11 0) (h 12) (h 13) (h 14) (h 15)) (k : ∀ g, (∀ c, (c < 16 ∨ 18 < c) → g c = h c) → (∀ t, 0 ≤ t → t < h 11 1 → g 16 t = (if h 13 t ≤ 0 then 0 else g 16 (t - 1) + h 15 (t - 1)) ∧ g 17 t = (if jN (h 11 1) (h 12) t < 0 then 0 else g 17 (t + 1) + h 15 (t + 1))) → okSlots (h 11 1) (g 18) → (∀ M, 0 ≤ M → M < 5 → g 18 (M + 1) - g 18 M = cntB (fun t => decide (h 14 t = M)) (h 11 1).toNat) → Q 0 g) : aRun mX5_finish 1 [aR 11] h Q := by
  have hn := hs.1
  have l1 : ∀ t, 0 ≤ t → t < h 11 1 → 1 ≤ h 15 t ∧ h 15 t ≤ 99 := fun t a b => (hs.2.2.1 t a b).2.2.2
  refine e_X5_finish ?_
  -- the slots
  have H4 : ∀ (d : Nat) (M : Int) (g : aH), 0 ≤ M → M ≤ 5 → 5 - M ≤ d → (∀ c, (c < 16 ∨ 18 < c) → g c = h c) → (∀ t, 0 ≤ t → t < h 11 1 → g 16 t = (if h 13 t ≤ 0 then 0 else g 16 (t - 1) + h 15 (t - 1)) ∧ g 17 t = (if jN (h 11 1) (h 12) t < 0 then 0 else g 17 (t + 1) + h 15 (t + 1))) → g 18 0 = 0 → (∀ M', 0 ≤ M' → M' < M → g 18 (M' + 1) = g 18 M' + cntB (fun t => decide (h 14 t = M')) (h 11 1).toNat) → (0 ≤ g 18 M ∧ g 18 M ≤ 24 * M) → AW mX5_finish 1 110 [some (aR 11), some (aI M), none, none] [] g Q := by
    have fin : ∀ (M : Int) (g : aH), M = 5 → (∀ c, (c < 16 ∨ 18 < c) → g c = h c) → (∀ t, 0 ≤ t → t < h 11 1 → g 16 t = (if h 13 t ≤ 0 then 0 else g 16 (t - 1) + h 15 (t - 1)) ∧ g 17 t = (if jN (h 11 1) (h 12) t < 0 then 0 else g 17 (t + 1) + h 15 (t + 1))) → g 18 0 = 0 → (∀ M', 0 ≤ M' → M' < M → g 18 (M' + 1) = g 18 M' + cntB (fun t => decide (h 14 t = M')) (h 11 1).toNat) → Q 0 g := by
      intro M g e f f1 f2 f3
      subst e
      have c0 := f3 0 (by omega) (by omega)
      have c1 := f3 1 (by omega) (by omega)
      have c2 := f3 2 (by omega) (by omega)
      have c3 := f3 3 (by omega) (by omega)
      have c4 := f3 4 (by omega) (by omega)
      simp only [Int.zero_add, Int.reduceAdd] at c0 c1 c2 c3 c4
      have s := cnt_sum (mach := h 14) (h 11 1).toNat (fun t ht => (hs.2.2.1 t (by omega) (by omega)).2.2.1)
      refine k g f f1 ⟨f2, by omega, fun M a b => ?_⟩ (fun M a b => ?_)
      · have := f3 M a b
        have := (cntB_rng (fun t => decide (h 14 t = M)) (h 11 1).toNat).1
        omega
      · have := f3 M a b
        omega
    intro d
    induction d with
    | zero =>
      intro M g M0 M1 hd f f1 f2 f3 f4
      exact s_X5_finish_110 ⟨fun _ => fin M g (by omega) f f1 f2 f3, fun w => by omega⟩
    | succ d ih =>
      intro M g M0 M1 hd f f1 f2 f3 f4
      refine s_X5_finish_110 ⟨fun _ => fin M g (by omega) f f1 f2 f3, fun w => ?_⟩
      suffices H5 : ∀ (d2 t : Nat), (t : Int) ≤ h 11 1 → h 11 1 - t ≤ d2 → AW mX5_finish 1 119 [some (aR 11), some (aI M), some (aI (cntB (fun t => decide (h 14 t = M)) t)), some (aI (t : Int))] [] g Q from
        H5 (h 11 1).toNat 0 (by omega) (by omega)
      have e11 : g 11 = h 11 := f 11 (by omega)
      have e14 : g 14 = h 14 := f 14 (by omega)
      have fin2 : ∀ t : Nat, (t : Int) = h 11 1 → AW mX5_finish 1 110 [some (aR 11), some (aI (M + 1)), none, none] [] (a_up g 18 (M + 1) (g 18 M + cntB (fun t => decide (h 14 t = M)) t)) Q := by
        intro t et
        have e : t = (h 11 1).toNat := by omega
        subst e
        have cr := cntB_rng (fun t => decide (h 14 t = M)) (h 11 1).toNat
        refine ih (M + 1) _ (by omega) (by omega) (by omega) (fun c hc => ?_) (fun t a b => ?_) ?_ (fun M' a b => ?_) ?_
        · rw [a_up_ne (by omega)]; exact f c hc
        · rw [a_up_ne (by omega), a_up_ne (by omega)]; exact f1 t a b
        · rw [a_up_off (by omega)]; exact f2
        · by_cases y : M' = M
          · rw [y, a_up_eq, a_up_off (by omega)]
          · rw [a_up_off (by omega), a_up_off (by omega)]; exact f3 M' a (by omega)
        · rw [a_up_eq]; omega
      intro d2
      induction d2 with
      | zero =>
        intro t t1 hd2
        have cr := cntB_rng (fun t => decide (h 14 t = M)) t
        refine s_X5_finish_119 ⟨fun _ => ⟨by unfold inR; omega, by omega, by unfold inR; omega, by omega, fin2 t (by omega)⟩, fun w => ?_⟩
        rw [e11] at w; omega
      | succ d2 ih2 =>
        intro t t1 hd2
        have cr := cntB_rng (fun t => decide (h 14 t = M)) t
        refine s_X5_finish_119 ⟨fun w2 => ⟨by unfold inR; omega, by omega, by unfold inR; omega, by omega, fin2 t (by rw [e11] at w2; omega)⟩, fun w2 => ?_⟩
        rw [e11] at w2
        rw [e14]
        have es : cntB (fun t => decide (h 14 t = M)) (t + 1) = cntB (fun t => decide (h 14 t = M)) t + (if h 14 t = M then (1 : Int) else 0) := by
          show cntB _ t + (if decide (h 14 t = M) = true then 1 else 0) = _
          by_cases y : h 14 t = M
          · rw [if_pos y, decide_eq_true y, if_pos rfl]
          · rw [if_neg y, decide_eq_false y, if_neg (by decide)]
        have R := ih2 (t + 1) (by omega) (by omega)
        rw [es] at R
        refine ⟨by omega, ?_, by unfold inR; omega, R⟩
        have cr2 := cntB_rng (fun t => decide (h 14 t = M)) (t + 1)
        rw [es] at cr2
        unfold inR
        omega
  -- behind
  have H2 : ∀ (d : Nat) (i : Int) (g : aH), -1 ≤ i → i < h 11 1 → i + 1 ≤ d → (∀ c, (c < 16 ∨ 18 < c) → g c = h c) → (∀ t, 0 ≤ t → t < h 11 1 → g 16 t = (if h 13 t ≤ 0 then 0 else g 16 (t - 1) + h 15 (t - 1))) → (∀ t, i < t → t < h 11 1 → g 17 t = (if jN (h 11 1) (h 12) t < 0 then 0 else g 17 (t + 1) + h 15 (t + 1)) ∧ 0 ≤ g 17 t ∧ g 17 t ≤ 99 * (h 11 1 - t)) → AW mX5_finish 1 57 [some (aR 11), some (aI i), none, none] [] g Q := by
    have fin : ∀ (i : Int) (g : aH), i < 0 → (∀ c, (c < 16 ∨ 18 < c) → g c = h c) → (∀ t, 0 ≤ t → t < h 11 1 → g 16 t = (if h 13 t ≤ 0 then 0 else g 16 (t - 1) + h 15 (t - 1))) → (∀ t, i < t → t < h 11 1 → g 17 t = (if jN (h 11 1) (h 12) t < 0 then 0 else g 17 (t + 1) + h 15 (t + 1)) ∧ 0 ≤ g 17 t ∧ g 17 t ≤ 99 * (h 11 1 - t)) → AW mX5_finish 1 110 [some (aR 11), some (aI 0), none, none] [] (a_up g 18 0 0) Q := by
      intro i g hi f f1 f2
      refine H4 5 0 _ (by omega) (by omega) (by omega) (fun c hc => ?_) (fun t a b => ?_) a_up_eq (fun M a b => by omega) (by rw [a_up_eq]; omega)
      · rw [a_up_ne (by omega)]; exact f c hc
      · rw [a_up_ne (by omega), a_up_ne (by omega)]
        exact ⟨f1 t a b, (f2 t (by omega) b).1⟩
    intro d
    induction d with
    | zero =>
      intro i g i0 i1 hd f f1 f2
      exact s_X5_finish_57 ⟨fun w => fin i g w f f1 f2, fun w => by omega⟩
    | succ d ih =>
      intro i g i0 i1 hd f f1 f2
      refine s_X5_finish_57 ⟨fun w => fin i g w f f1 f2, fun w => ?_⟩
      have e11 : g 11 = h 11 := f 11 (by omega)
      have ejn : f_X5_jobNext g 11 i = jN (h 11 1) (h 12) i := by
        show jN (g 11 1) (g 12) i = _
        rw [e11, f 12 (by omega)]
      rw [ejn, f 15 (by omega)]
      have jc := jN_cases (n := h 11 1) (job := h 12) i
      refine ⟨⟨by unfold inR; omega, fun v => by rw [e11] at v; omega⟩, fun e => ?_, by omega, by unfold inR; omega, ?_⟩
      · rcases jc with ⟨-, y⟩ | ⟨y1, -, y⟩
        · exact absurd y e
        · have q := (f2 (i + 1) (by omega) y1).2
          have r := l1 (i + 1) (by omega) y1
          rw [y]
          unfold inR
          omega
      · have val : (if jN (h 11 1) (h 12) i = -1 then (0 : Int) else g 17 (jN (h 11 1) (h 12) i) + h 15 (jN (h 11 1) (h 12) i)) = (if jN (h 11 1) (h 12) i < 0 then 0 else g 17 (i + 1) + h 15 (i + 1)) := by
          rcases jc with ⟨-, y⟩ | ⟨y1, -, y⟩
          · rw [y, if_pos rfl, if_pos (by omega)]
          · rw [y, if_neg (by omega), if_neg (by omega)]
        rw [val]
        refine ih (i + -1) _ (by omega) (by omega) (by omega) (fun c hc => ?_) (fun t a b => ?_) (fun t a b => ?_)
        · rw [a_up_ne (by omega)]; exact f c hc
        · rw [a_up_ne (by omega)]; exact f1 t a b
        · by_cases y : t = i
          · rw [y, a_up_eq, a_up_off (by omega)]
            refine ⟨rfl, ?_⟩
            rcases jc with ⟨-, z⟩ | ⟨z1, -, z⟩
            · rw [z, if_pos (by omega)]; omega
            · rw [z, if_neg (by omega)]
              have q := (f2 (i + 1) (by omega) z1).2
              have r := l1 (i + 1) (by omega) z1
              omega
          · rw [a_up_off y, a_up_off (by omega)]
            exact f2 t (by omega) b
  -- ahead
  suffices H : ∀ (d : Nat) (i : Int) (g : aH), 0 ≤ i → i ≤ h 11 1 → h 11 1 - i ≤ d → (∀ c, (c < 16 ∨ 18 < c) → g c = h c) → (∀ t, 0 ≤ t → t < i → g 16 t = (if h 13 t ≤ 0 then 0 else g 16 (t - 1) + h 15 (t - 1)) ∧ 0 ≤ g 16 t ∧ g 16 t ≤ 99 * t) → AW mX5_finish 1 2 [some (aR 11), some (aI i), none, none] [] g Q from
    H (h 11 1).toNat 0 h (by omega) (by omega) (by omega) (fun _ _ => rfl) (fun t a b => by omega)
  have fin : ∀ (i : Int) (g : aH), h 11 1 ≤ i → (∀ c, (c < 16 ∨ 18 < c) → g c = h c) → (∀ t, 0 ≤ t → t < i → g 16 t = (if h 13 t ≤ 0 then 0 else g 16 (t - 1) + h 15 (t - 1)) ∧ 0 ≤ g 16 t ∧ g 16 t ≤ 99 * t) → inR (g 11 1 - 1) ∧ AW mX5_finish 1 57 [some (aR 11), some (aI (g 11 1 - 1)), none, none] [] g Q := by
    intro i g hi f f1
    rw [f 11 (by omega)]
    exact ⟨by unfold inR; omega, H2 (h 11 1).toNat _ g (by omega) (by omega) (by omega) f (fun t a b => (f1 t a (by omega)).1) (fun t a b => by omega)⟩
  intro d
  induction d with
  | zero =>
    intro i g i0 i1 hd f f1
    exact s_X5_finish_2 ⟨fun _ => fin i g (by omega) f f1, fun w => by rw [f 11 (by omega)] at w; omega⟩
  | succ d ih =>
    intro i g i0 i1 hd f f1
    refine s_X5_finish_2 ⟨fun w => fin i g (by rw [f 11 (by omega)] at w; omega) f f1, fun w => ?_⟩
    rw [f 11 (by omega)] at w
    have eja : f_X5_jobAhead g 11 i = jA (h 13) i := by
      show jA (g 13) i = _
      rw [f 13 (by omega)]
    rw [eja, f 15 (by omega)]
    have jc := jA_cases (place := h 13) i
    have pl := hs.pl i i0 (by omega)
    refine ⟨⟨by omega, fun _ => by unfold inR; omega⟩, fun e => ?_, by omega, by unfold inR; omega, ?_⟩
    · rcases jc with ⟨-, y⟩ | ⟨y1, y⟩
      · exact absurd y e
      · have q := (f1 (i - 1) (by omega) (by omega)).2
        have r := l1 (i - 1) (by omega) (by omega)
        rw [y]
        unfold inR
        omega
    · have val : (if jA (h 13) i = -1 then (0 : Int) else g 16 (jA (h 13) i) + h 15 (jA (h 13) i)) = (if h 13 i ≤ 0 then 0 else g 16 (i - 1) + h 15 (i - 1)) := by
        rcases jc with ⟨z, y⟩ | ⟨y1, y⟩
        · rw [y, if_pos rfl, if_pos z]
        · have := pl y1
          rw [y, if_neg (by omega), if_neg (by omega)]
      rw [val]
      refine ih (i + 1) _ (by omega) (by omega) (by omega) (fun c hc => ?_) (fun t a b => ?_)
      · rw [a_up_ne (by omega)]; exact f c hc
      · by_cases y : t = i
        · rw [y, a_up_eq, a_up_off (by omega)]
          refine ⟨rfl, ?_⟩
          rcases jc with ⟨z, -⟩ | ⟨z, -⟩
          · rw [if_pos z]; omega
          · have := pl z
            rw [if_neg (by omega)]
            have q := (f1 (i - 1) (by omega) (by omega)).2
            have r := l1 (i - 1) (by omega) (by omega)
            omega
        · rw [a_up_off y, a_up_off (by omega)]
          exact f1 t a (by omega)
