/-! of: both answer alike -/
theorem noTask_0 {h : aH} {a : Int} : f_X9_noTask h a = 0 ↔ 0 ≤ a ∧ a < h 3 1 := by
  unfold f_X9_noTask
  by_cases z : a < 0
  · rw [if_pos z]; omega
  · rw [if_neg z]
    by_cases y : a < h 3 1
    · rw [if_pos y]; omega
    · rw [if_neg y]; omega
theorem f_in_0 {h : aH} {a x y : Int} : f_X10_in h a x y = 0 ↔ ¬ (x ≤ a ∧ a ≤ y) := by
  unfold f_X10_in
  by_cases z : a < x
  · rw [if_pos z]; omega
  · rw [if_neg z]
    by_cases w : y < a
    · rw [if_pos w]; omega
    · rw [if_neg w]; omega
theorem r_ofS {h : aH} {Q : Int → Int → aH → Prop} {a b : Int} (hs : sShop h h) (ho : sOrd h h) (hS : sSet h)
    (k : ∀ r g, fmF h g → Q r r g) : aRun mX9_of 2 [aR 0, aI a, aI b] h (fun r h1 => aRun mX10_of 4 [aR 85, aI a, aI b] h1 (fun r' h2 => Q r r' h2)) := by
  have h0 := hs.1.1.1
  have h1 := hs.2.2.2.1
  refine p_X9_of (fun z y x w => ?_) ?_
  · have q := noTask_0.1 z
    omega
  · refine e_X10_of ⟨by unfold o_X10_isTask inR; omega, fun z => ?_, fun z => ⟨fun y => ?_, fun y => ?_⟩⟩
    · have q := f_in_0.1 z
      have e2 : f_X9_of h a b = -1 := by
        unfold f_X9_of
        rw [if_neg (fun e => by have := noTask_0.1 e; omega)]
      rw [e2]
      exact k _ h fmF.refl
    · have q := f_in_0.1 y
      have e2 : f_X9_of h a b = -1 := by
        unfold f_X9_of
        by_cases u : f_X9_noTask h a = 0
        · rw [if_pos u]
          by_cases v : b < 0
          · rw [if_pos v]
          · rw [if_neg v, if_neg (by omega)]
        · rw [if_neg u]
      rw [e2]
      exact k _ h fmF.refl
    · have za : 0 ≤ a ∧ a ≤ h 85 1 - 1 := Classical.byContradiction (fun n => z (f_in_0.2 n))
      have yb : 0 ≤ b ∧ b ≤ 3 := Classical.byContradiction (fun n => y (f_in_0.2 n))
      have hn : 0 < h 3 1 := by omega
      have hSn := hS hn
      refine r_reckS hs ho hSn (fun r g hF hs' ho' hN hres => ?_)
      have e1 : f_X9_of h a b = (if (f_X9_refusedByState h) = 0 then (if b = 0 then (h 24 a) else (if b = 1 then (h 25 a) else (if b = 2 then (h 26 a) else (if (h 26 a) = 0 then (1 : Int) else (0 : Int))))) else (f_X9_refusedByState h)) := by
        unfold f_X9_of
        rw [if_pos (noTask_0.2 (by omega)), if_neg (by omega), if_pos (by omega)]
      have e3 : f_X9_refusedByState h = if h 20 10 = 0 then 0 else -4 := by
        unfold f_X9_refusedByState f_X9_noShop
        rw [if_neg (show ¬ h 3 1 = 0 by omega), if_pos rfl]
      rcases hres with ⟨r0, ring⟩ | ⟨r1, ring, hT⟩
      · refine ⟨fun _ => ?_, fun w => absurd r0 w⟩
        rw [if_neg (show ¬ h 20 10 = 0 by omega)] at e3
        rw [e3, if_neg (by omega)] at e1
        rw [e1]
        exact k _ g (fmF.rk hF)
      · rw [if_pos ring] at e3
        rw [e3, if_pos rfl] at e1
        have hp := hSn.paths ring
        have ts := times_same hs' ho' hn hSn.2.1 hp.1 hN hT
        have ta := ts.2 a za.1 (by omega)
        have tl := (hs'.2.2.2.2.1 a za.1 (by omega)).2.2.2
        have sl := hp.1.2.2 a za.1 (by omega)
        have l1 := (hs.1.1.2.2.1 a za.1 (by omega)).2.2.2
        have sp := hp.1.2.1
        refine ⟨fun w => by omega, fun _ => ⟨fun u => ?_, fun u => ?_, fun u => ?_, fun u => ?_⟩⟩
        · rw [if_pos u] at e1
          rw [e1, ta.1]
          exact ⟨by omega, k _ g (fmF.rk hF)⟩
        · rw [if_neg (by omega), if_pos u] at e1
          rw [e1, ta.2]
          exact ⟨by omega, k _ g (fmF.rk hF)⟩
        · rw [if_neg (by omega), if_neg (by omega), if_pos u] at e1
          rw [e1, ta.1, ta.2, tl, ts.1, sl.1]
          exact ⟨by omega, by unfold inR; omega, by unfold inR; omega, by unfold inR; omega, k _ g (fmF.rk hF)⟩
        · rw [if_neg (by omega), if_neg (by omega), if_neg (by omega)] at e1
          refine ⟨o_crit hT za.1 (by have := hs'.2.2.2.1; omega) (by have := hs'.2.2.2.1; omega), ?_⟩
          have e4 : (if f_X10_isCritical g a = 0 then (0 : Int) else 1) = f_X9_of h a b := by
            rw [e1]
            unfold f_X10_isCritical
            rw [ta.1, ta.2, tl, ts.1]
            by_cases v : h 26 a = 0
            · rw [if_pos v, if_pos (show h 24 a + h 7 a + h 25 a = h 20 9 by omega), if_neg (by omega)]
            · rw [if_neg v, if_neg (show ¬ h 24 a + h 7 a + h 25 a = h 20 9 by omega), if_pos rfl]
          rw [e4]
          exact k _ g (fmF.rk hF)
