theorem noMach_0 {h : aH} {a : Int} : f_X9_noMachine h a = 0 ↔ 0 ≤ a ∧ a < 5 := by
  unfold f_X9_noMachine
  by_cases z : a < 0
  · rw [if_pos z]; omega
  · rw [if_neg z]
    by_cases y : a < 5
    · rw [if_pos y]; omega
    · rw [if_neg y]; omega
theorem r_orderS {h : aH} {Q : Int → Int → aH → Prop} {a b : Int} (hs : sShop h h) (ho : sOrd h h)
    (k : ∀ r, Q r r h) : aRun mX9_order 1 [aR 0, aI a, aI b] h (fun r h1 => aRun mX10_order 2 [aR 85, aI a, aI b] h1 (fun r' h2 => Q r r' h2)) := by
  have h0 := hs.1.1.1
  have h1 := hs.2.2.2.1
  have sl : 0 ≤ a → a < 5 → _ := fun x y => hs.1.2.at (m := a) x y
  have sz : 0 ≤ a → a < 5 → h 91 a = h 10 (a + 1) - h 10 a := fun x y => hs.2.2.2.2.2 a x y
  refine p_X9_order (fun z y x => ?_) ?_
  · have q := noMach_0.1 z
    have s := sl q.1 q.2
    unfold o_X5_tasksOn f_X5_tasksOn inR
    refine ⟨by omega, fun w v => by omega⟩
  · refine p_X10_order (fun z y x => ⟨fun w => ?_, fun w => ?_⟩) ?_
    · have q : 0 ≤ a ∧ a ≤ 4 := Classical.byContradiction (fun n => z (f_in_0.2 n))
      have s := sl q.1 (by omega)
      have s2 := sz q.1 (by omega)
      unfold inR
      refine ⟨by omega, fun v => by omega⟩
    · have q : 0 ≤ a ∧ a ≤ 4 := Classical.byContradiction (fun n => z (f_in_0.2 n))
      omega
    · have e : f_X10_order h a b = f_X9_order h a b := by
        unfold f_X10_order f_X9_order f_X10_isMachine f_X9_noShop f_X5_tasksOn
        by_cases q : 0 ≤ a ∧ a < 5
        · rw [if_pos (noMach_0.2 q), if_neg (fun e => by have := f_in_0.1 e; omega)]
          by_cases y : -1 ≤ b
          · rw [if_pos y, if_pos y]
            by_cases x : h 3 1 = 0
            · rw [if_pos (show h 85 1 = 0 by omega), if_pos x, if_neg (by omega)]
            · rw [if_neg (show ¬ h 85 1 = 0 by omega), if_neg x, if_pos rfl, sz q.1 q.2]
              by_cases w : b = -1
              · rw [if_neg (show ¬ 0 ≤ b by omega), if_pos w]
              · rw [if_pos (show 0 ≤ b by omega), if_neg w]
                by_cases v : h 10 (a + 1) - h 10 a ≤ b
                · rw [if_pos v, if_pos v]
                · rw [if_neg v, if_neg v]
                  exact (ho.2 a b q.1 q.2 (by omega) (show b < h 10 (a + 1) - h 10 a by omega)).symm
          · rw [if_neg y, if_neg y]
        · rw [if_neg (fun e => q (noMach_0.1 e)), if_pos (f_in_0.2 (by omega))]
      rw [e]
      exact k _
