def f_X9_kept (h : aH) (a1 : Int) : Int := (if (-1) ≤ a1 then (if a1 = (-1) then (h 42 1) else (if (h 42 1) ≤ a1 then ((-2) : Int) else (h 43 a1))) else ((-1) : Int))
def o_X9_kept (h : aH) (a1 : Int) : Prop := ((-1) ≤ a1 → (¬ (a1 = (-1)) → ((¬ ((h 42 1) ≤ a1) → (0 ≤ a1 ∧ a1 < 9)))))
set_option maxRecDepth 100000 in
set_option maxHeartbeats 4000000 in
theorem p_X9_kept {a1 : Int} {h : aH} {Q : aQ} (o : o_X9_kept h a1) (k : Q (f_X9_kept h a1) h) : aRun mX9_kept 0 [aR 0, aI a1] h Q := by
  unfold f_X9_kept at k
  unfold o_X9_kept at o
  refine aRun.of pn_9 rfl (Nat.le_of_ble_eq_true rfl) ?_
  show AW mX9_kept 0 0 [some (aR 0), some (aI a1)] [] h Q
  refine AW.iload_n (pc := 0) dX9_kept_0 rfl ?_
  refine AW.iconst (pc := 1) dX9_kept_1 ⟨by decide, by decide⟩ ?_
  refine AW.icmp_ge (tgt := 7) (pc := 2) dX9_kept_2 rfl (fun q => ?_) (fun q => ?_)
  · skip
    have H_1 := o q
    rw [if_pos q] at k
    refine AW.iload_n (pc := 7) dX9_kept_7 rfl ?_
    refine AW.iconst (pc := 8) dX9_kept_8 ⟨by decide, by decide⟩ ?_
    refine AW.icmp_ne (tgt := 20) (pc := 9) dX9_kept_9 rfl (fun q => ?_) (fun q => ?_)
    · skip
      have H_2 := H_1 q
      rw [if_neg q] at k
      refine AW.iload_n (pc := 20) dX9_kept_20 rfl ?_
      refine AW.aload_n (pc := 21) dX9_kept_21 rfl ?_
      refine AW.getr (k := 7) (pc := 22) dX9_kept_22 ac_9 sh_0 rfl (by decide) fl_9_50 ?_
      refine AW.geti' (k := 1) (j := 1) (pc := 25) dX9_kept_25 ac_3 sh_42 rfl (by decide) fl_9_225 rfl (v := (h 42 1)) rfl ?_
      have K_3 : AW mX9_kept 0 45 [some (aR 0), some (aI a1)] [aI (if (h 42 1) ≤ a1 then ((-2) : Int) else (h 43 a1))] h Q := by
        refine AW.iret (pc := 45) dX9_kept_45 rfl ?_
        exact k
      have H_5 := H_2
      refine AW.icmp_ge (tgt := 43) (pc := 28) dX9_kept_28 rfl (fun q => ?_) (fun q => ?_)
      · skip
        rw [if_pos q] at K_3
        refine AW.bipush (pc := 43) dX9_kept_43 rfl ⟨by decide, by decide⟩ ?_
        exact K_3
      · skip
        have H_7 := H_5 q
        rw [if_neg q] at K_3
        refine AW.aload_n (pc := 31) dX9_kept_31 rfl ?_
        refine AW.getr (k := 7) (pc := 32) dX9_kept_32 ac_9 sh_0 rfl (by decide) fl_9_50 ?_
        refine AW.getr (k := 0) (pc := 35) dX9_kept_35 ac_3 sh_42 rfl (by decide) fl_9_228 ?_
        refine AW.iload_n (pc := 38) dX9_kept_38 rfl ?_
        refine AW.iald (pc := 39) dX9_kept_39 sh_43 H_7 (v := (h 43 a1)) rfl ?_
        refine AW.goto (tgt := 45) (pc := 40) dX9_kept_40 rfl ?_
        exact K_3
    · have q := Decidable.not_not.mp q
      rw [if_pos q] at k
      refine AW.aload_n (pc := 12) dX9_kept_12 rfl ?_
      refine AW.getr (k := 7) (pc := 13) dX9_kept_13 ac_9 sh_0 rfl (by decide) fl_9_50 ?_
      refine AW.geti' (k := 1) (j := 1) (pc := 16) dX9_kept_16 ac_3 sh_42 rfl (by decide) fl_9_225 rfl (v := (h 42 1)) rfl ?_
      refine AW.iret (pc := 19) dX9_kept_19 rfl ?_
      exact k
  · skip
    rw [if_neg q] at k
    refine AW.iconst (pc := 5) dX9_kept_5 ⟨by decide, by decide⟩ ?_
    refine AW.iret (pc := 6) dX9_kept_6 rfl ?_
    exact k
def f_X9_noMachine (h : aH) (a0 : Int) : Int := (if a0 < 0 then (1 : Int) else (if a0 < 5 then (0 : Int) else (1 : Int)))
theorem b_X9_noMachine {h : aH} {a0 : Int} : f_X9_noMachine h a0 = 0 ∨ f_X9_noMachine h a0 = 1 := by
  unfold f_X9_noMachine
  exact (a_ite01 (Or.inr rfl) (a_ite01 (Or.inl rfl) (Or.inr rfl)))
set_option maxRecDepth 100000 in
set_option maxHeartbeats 4000000 in
theorem p_X9_noMachine {a0 : Int} {h : aH} {Q : aQ} (k : Q (f_X9_noMachine h a0) h) : aRun mX9_noMachine 0 [aI a0] h Q := by
  unfold f_X9_noMachine at k
  refine aRun.of pn_9 rfl (Nat.le_of_ble_eq_true rfl) ?_
  show AW mX9_noMachine 0 0 [some (aI a0)] [] h Q
  refine AW.iload_n (pc := 0) dX9_noMachine_0 rfl ?_
  have K_1 : AW mX9_noMachine 0 14 [some (aI a0)] [aI (if a0 < 0 then (1 : Int) else (if a0 < 5 then (0 : Int) else (1 : Int)))] h Q := by
    refine AW.zret (pc := 14) dX9_noMachine_14 rfl (a_ite01 (Or.inr rfl) (a_ite01 (Or.inl rfl) (Or.inr rfl))) ?_
    exact k
  refine AW.if_lt (tgt := 9) (pc := 1) dX9_noMachine_1 rfl (fun q => ?_) (fun q => ?_)
  · skip
    rw [if_pos q] at K_1
    refine AW.iconst (pc := 9) dX9_noMachine_9 ⟨by decide, by decide⟩ ?_
    refine AW.goto (tgt := 14) (pc := 10) dX9_noMachine_10 rfl ?_
    exact K_1
  · skip
    rw [if_neg q] at K_1
    refine AW.iload_n (pc := 4) dX9_noMachine_4 rfl ?_
    refine AW.iconst (pc := 5) dX9_noMachine_5 ⟨by decide, by decide⟩ ?_
    refine AW.icmp_lt (tgt := 13) (pc := 6) dX9_noMachine_6 rfl (fun q => ?_) (fun q => ?_)
    · skip
      rw [if_pos q] at K_1
      refine AW.iconst (pc := 13) dX9_noMachine_13 ⟨by decide, by decide⟩ ?_
      exact K_1
    · skip
      rw [if_neg q] at K_1
      refine AW.iconst (pc := 9) dX9_noMachine_9 ⟨by decide, by decide⟩ ?_
      refine AW.goto (tgt := 14) (pc := 10) dX9_noMachine_10 rfl ?_
      exact K_1
set_option maxRecDepth 100000 in
set_option maxHeartbeats 4000000 in
theorem e_X9_machine {a1 a2 : Int} {h : aH} {Q : aQ} (H : (((f_X9_noMachine h a1) = 0 → ((a2 < 0 → Q (-1) h) ∧ (¬ (a2 < 0) → ((a2 ≤ 1 → (((f_X9_noShop h) = 0 → o_X5_tasksOn h a1 ∧ (((f_X5_tasksOn h a1) = 0 → Q (-2) h) ∧ (¬ ((f_X5_tasksOn h a1) = 0) → ((a2 = 0 → aRun mX0_atBest 3 [aR 69, aR 3, aI a1] h (fun r3 h4 => Q r3 h4)) ∧ (¬ (a2 = 0) → aRun mX0_preempted 1 [aR 69, aR 3, aI a1] h (fun r1 h2 => Q r1 h2)))))) ∧ (¬ ((f_X9_noShop h) = 0) → Q (-5) h))) ∧ (¬ (a2 ≤ 1) → Q (-1) h))))) ∧ (¬ ((f_X9_noMachine h a1) = 0) → Q (-1) h))) : aRun mX9_machine 4 [aR 0, aI a1, aI a2] h Q := by
  refine aRun.of pn_9 rfl (Nat.le_of_ble_eq_true rfl) ?_
  show AW mX9_machine 4 0 [some (aR 0), some (aI a1), some (aI a2)] [] h Q
  refine AW.iload_n (pc := 0) dX9_machine_0 rfl ?_
  refine AW.callSi (M' := mX9_noMachine) (F' := 0) (as := [aI a1]) (pc := 1) dX9_machine_1 (by decide) kX9_noMachine ml_9_142 rfl npX9_noMachine (Nat.le_of_ble_eq_true rfl) (p_X9_noMachine  ?_)
  refine AW.if_ne (tgt := 16) (pc := 4) dX9_machine_4 rfl (fun q => ?_) (fun q => ?_)
  · skip
    have H_1 := H.2 q
    refine AW.iconst (pc := 16) dX9_machine_16 ⟨by decide, by decide⟩ ?_
    refine AW.iret (pc := 17) dX9_machine_17 rfl ?_
    exact H_1
  · have q := Decidable.not_not.mp q
    have H_2 := H.1 q
    refine AW.iload_n (pc := 7) dX9_machine_7 rfl ?_
    refine AW.if_lt (tgt := 16) (pc := 8) dX9_machine_8 rfl (fun q => ?_) (fun q => ?_)
    · skip
      have H_3 := H_2.1 q
      refine AW.iconst (pc := 16) dX9_machine_16 ⟨by decide, by decide⟩ ?_
      refine AW.iret (pc := 17) dX9_machine_17 rfl ?_
      exact H_3
    · skip
      have H_4 := H_2.2 q
      refine AW.iload_n (pc := 11) dX9_machine_11 rfl ?_
      refine AW.iconst (pc := 12) dX9_machine_12 ⟨by decide, by decide⟩ ?_
      refine AW.icmp_le (tgt := 18) (pc := 13) dX9_machine_13 rfl (fun q => ?_) (fun q => ?_)
      · skip
        have H_5 := H_4.1 q
        refine AW.aload_n (pc := 18) dX9_machine_18 rfl ?_
        refine AW.callVi (M' := mX9_noShop) (F' := 0) (as := []) (pc := 19) dX9_machine_19 (by decide) kX9_noShop ml_9_145 ob_0 rfl npX9_noShop (Nat.le_of_ble_eq_true rfl) (p_X9_noShop  ?_)
        refine AW.if_eq (tgt := 28) (pc := 22) dX9_machine_22 rfl (fun q => ?_) (fun q => ?_)
        · skip
          have H_6 := H_5.1 q
          refine AW.aload_n (pc := 28) dX9_machine_28 rfl ?_
          refine AW.getr (k := 1) (pc := 29) dX9_machine_29 ac_9 sh_0 rfl (by decide) fl_9_19 ?_
          refine AW.iload_n (pc := 32) dX9_machine_32 rfl ?_
          refine AW.callVi (M' := mX5_tasksOn) (F' := 0) (as := [aI a1]) (pc := 33) dX9_machine_33 (by decide) kX5_tasksOn ml_9_149 ob_3 rfl npX5_tasksOn (Nat.le_of_ble_eq_true rfl) (p_X5_tasksOn (H_6.1) ?_)
          refine AW.if_ne (tgt := 42) (pc := 36) dX9_machine_36 rfl (fun q => ?_) (fun q => ?_)
          · skip
            have H_7 := H_6.2.2 q
            refine AW.iload_n (pc := 42) dX9_machine_42 rfl ?_
            refine AW.if_ne (tgt := 61) (pc := 43) dX9_machine_43 rfl (fun q => ?_) (fun q => ?_)
            · skip
              have H_8 := H_7.2 q
              refine AW.aload_n (pc := 61) dX9_machine_61 rfl ?_
              refine AW.getr (k := 10) (pc := 62) dX9_machine_62 ac_9 sh_0 rfl (by decide) fl_9_71 ?_
              refine AW.aload_n (pc := 65) dX9_machine_65 rfl ?_
              refine AW.getr (k := 1) (pc := 66) dX9_machine_66 ac_9 sh_0 rfl (by decide) fl_9_19 ?_
              refine AW.iload_n (pc := 69) dX9_machine_69 rfl ?_
              refine AW.callVi (M' := mX0_preempted) (F' := 1) (as := [aR 3, aI a1]) (pc := 70) dX9_machine_70 (by decide) kX0_preempted ml_9_248 ob_69 rfl npX0_preempted (Nat.le_of_ble_eq_true rfl) (aRun.mono (fun r1 h2 H_9 => ?_) H_8)
              refine AW.iret (pc := 73) dX9_machine_73 rfl ?_
              exact H_9
            · have q := Decidable.not_not.mp q
              have H_10 := H_7.1 q
              refine AW.aload_n (pc := 46) dX9_machine_46 rfl ?_
              refine AW.getr (k := 10) (pc := 47) dX9_machine_47 ac_9 sh_0 rfl (by decide) fl_9_71 ?_
              refine AW.aload_n (pc := 50) dX9_machine_50 rfl ?_
              refine AW.getr (k := 1) (pc := 51) dX9_machine_51 ac_9 sh_0 rfl (by decide) fl_9_19 ?_
              refine AW.iload_n (pc := 54) dX9_machine_54 rfl ?_
              refine AW.callVi (M' := mX0_atBest) (F' := 3) (as := [aR 3, aI a1]) (pc := 55) dX9_machine_55 (by decide) kX0_atBest ml_9_244 ob_69 rfl npX0_atBest (Nat.le_of_ble_eq_true rfl) (aRun.mono (fun r3 h4 H_11 => ?_) H_10)
              refine AW.goto (tgt := 73) (pc := 58) dX9_machine_58 rfl ?_
              refine AW.iret (pc := 73) dX9_machine_73 rfl ?_
              exact H_11
          · have q := Decidable.not_not.mp q
            have H_12 := H_6.2.1 q
            refine AW.bipush (pc := 39) dX9_machine_39 rfl ⟨by decide, by decide⟩ ?_
            refine AW.iret (pc := 41) dX9_machine_41 rfl ?_
            exact H_12
        · skip
          have H_13 := H_5.2 q
          refine AW.bipush (pc := 25) dX9_machine_25 rfl ⟨by decide, by decide⟩ ?_
          refine AW.iret (pc := 27) dX9_machine_27 rfl ?_
          exact H_13
      · skip
        have H_14 := H_4.2 q
        refine AW.iconst (pc := 16) dX9_machine_16 ⟨by decide, by decide⟩ ?_
        refine AW.iret (pc := 17) dX9_machine_17 rfl ?_
        exact H_14
def f_X9_move (h : aH) (a1 : Int) : Int := (if (-1) ≤ a1 then (if (f_X9_refusedByState h) = 0 then (if a1 = (-1) then (h 38 5) else (if (h 38 5) ≤ a1 then ((-2) : Int) else (f_X9_pair h (f_X6_first h a1) (f_X6_second h a1)))) else (f_X9_refusedByState h)) else ((-1) : Int))
def o_X9_move (h : aH) (a1 : Int) : Prop := ((-1) ≤ a1 → ((f_X9_refusedByState h) = 0 → (¬ (a1 = (-1)) → ((¬ ((h 38 5) ≤ a1) → (o_X6_first h a1 ∧ o_X6_second h a1 ∧ o_X9_pair h (f_X6_first h a1) (f_X6_second h a1)))))))
set_option maxRecDepth 100000 in
set_option maxHeartbeats 4000000 in
theorem p_X9_move {a1 : Int} {h : aH} {Q : aQ} (o : o_X9_move h a1) (k : Q (f_X9_move h a1) h) : aRun mX9_move 2 [aR 0, aI a1] h Q := by
  unfold f_X9_move at k
  unfold o_X9_move at o
  refine aRun.of pn_9 rfl (Nat.le_of_ble_eq_true rfl) ?_
  show AW mX9_move 2 0 [some (aR 0), some (aI a1), none] [] h Q
  refine AW.iload_n (pc := 0) dX9_move_0 rfl ?_
  refine AW.iconst (pc := 1) dX9_move_1 ⟨by decide, by decide⟩ ?_
  refine AW.icmp_ge (tgt := 7) (pc := 2) dX9_move_2 rfl (fun q => ?_) (fun q => ?_)
  · skip
    have H_1 := o q
    rw [if_pos q] at k
    refine AW.aload_n (pc := 7) dX9_move_7 rfl ?_
    refine AW.callVi (M' := mX9_refusedByState) (F' := 1) (as := []) (pc := 8) dX9_move_8 (by decide) kX9_refusedByState ml_9_166 ob_0 rfl npX9_refusedByState (Nat.le_of_ble_eq_true rfl) (p_X9_refusedByState  ?_)
    refine AW.istore_n (pc := 11) dX9_move_11 (by decide) rfl ?_
    refine AW.iload_n (pc := 12) dX9_move_12 rfl ?_
    refine AW.if_eq (tgt := 18) (pc := 13) dX9_move_13 rfl (fun q => ?_) (fun q => ?_)
    · skip
      have H_2 := H_1 q
      rw [if_pos q] at k
      refine AW.iload_n (pc := 18) dX9_move_18 rfl ?_
      refine AW.iconst (pc := 19) dX9_move_19 ⟨by decide, by decide⟩ ?_
      refine AW.icmp_ne (tgt := 31) (pc := 20) dX9_move_20 rfl (fun q => ?_) (fun q => ?_)
      · skip
        have H_3 := H_2 q
        rw [if_neg q] at k
        refine AW.iload_n (pc := 31) dX9_move_31 rfl ?_
        refine AW.aload_n (pc := 32) dX9_move_32 rfl ?_
        refine AW.getr (k := 6) (pc := 33) dX9_move_33 ac_9 sh_0 rfl (by decide) fl_9_43 ?_
        refine AW.geti' (k := 5) (j := 5) (pc := 36) dX9_move_36 ac_6 sh_38 rfl (by decide) fl_9_190 rfl (v := (h 38 5)) rfl ?_
        have K_4 : AW mX9_move 2 66 [some (aR 0), some (aI a1), some (aI (f_X9_refusedByState h))] [aI (if (h 38 5) ≤ a1 then ((-2) : Int) else (f_X9_pair h (f_X6_first h a1) (f_X6_second h a1)))] h Q := by
          refine AW.iret (pc := 66) dX9_move_66 rfl ?_
          exact k
        have H_6 := H_3
        refine AW.icmp_ge (tgt := 64) (pc := 39) dX9_move_39 rfl (fun q => ?_) (fun q => ?_)
        · skip
          rw [if_pos q] at K_4
          refine AW.bipush (pc := 64) dX9_move_64 rfl ⟨by decide, by decide⟩ ?_
          exact K_4
        · skip
          have H_8 := H_6 q
          rw [if_neg q] at K_4
          refine AW.aload_n (pc := 42) dX9_move_42 rfl ?_
          refine AW.getr (k := 6) (pc := 43) dX9_move_43 ac_9 sh_0 rfl (by decide) fl_9_43 ?_
          refine AW.iload_n (pc := 46) dX9_move_46 rfl ?_
          refine AW.callVi (M' := mX6_first) (F' := 0) (as := [aI a1]) (pc := 47) dX9_move_47 (by decide) kX6_first ml_9_193 ob_38 rfl npX6_first (Nat.le_of_ble_eq_true rfl) (p_X6_first (H_8.1) ?_)
          refine AW.aload_n (pc := 50) dX9_move_50 rfl ?_
          refine AW.getr (k := 6) (pc := 51) dX9_move_51 ac_9 sh_0 rfl (by decide) fl_9_43 ?_
          refine AW.iload_n (pc := 54) dX9_move_54 rfl ?_
          refine AW.callVi (M' := mX6_second) (F' := 0) (as := [aI a1]) (pc := 55) dX9_move_55 (by decide) kX6_second ml_9_196 ob_38 rfl npX6_second (Nat.le_of_ble_eq_true rfl) (p_X6_second (H_8.2.1) ?_)
          refine AW.callSi (M' := mX9_pair) (F' := 0) (as := [aI (f_X6_first h a1), aI (f_X6_second h a1)]) (pc := 58) dX9_move_58 (by decide) kX9_pair ml_9_199 rfl npX9_pair (Nat.le_of_ble_eq_true rfl) (p_X9_pair (H_8.2.2) ?_)
          refine AW.goto (tgt := 66) (pc := 61) dX9_move_61 rfl ?_
          exact K_4
      · have q := Decidable.not_not.mp q
        rw [if_pos q] at k
        refine AW.aload_n (pc := 23) dX9_move_23 rfl ?_
        refine AW.getr (k := 6) (pc := 24) dX9_move_24 ac_9 sh_0 rfl (by decide) fl_9_43 ?_
        refine AW.geti' (k := 5) (j := 5) (pc := 27) dX9_move_27 ac_6 sh_38 rfl (by decide) fl_9_190 rfl (v := (h 38 5)) rfl ?_
        refine AW.iret (pc := 30) dX9_move_30 rfl ?_
        exact k
    · skip
      rw [if_neg q] at k
      refine AW.iload_n (pc := 16) dX9_move_16 rfl ?_
      refine AW.iret (pc := 17) dX9_move_17 rfl ?_
      exact k
  · skip
    rw [if_neg q] at k
    refine AW.iconst (pc := 5) dX9_move_5 ⟨by decide, by decide⟩ ?_
    refine AW.iret (pc := 6) dX9_move_6 rfl ?_
    exact k
def f_X9_noTask (h : aH) (a1 : Int) : Int := (if a1 < 0 then (1 : Int) else (if a1 < (h 3 1) then (0 : Int) else (1 : Int)))
theorem b_X9_noTask {h : aH} {a1 : Int} : f_X9_noTask h a1 = 0 ∨ f_X9_noTask h a1 = 1 := by
  unfold f_X9_noTask
  exact (a_ite01 (Or.inr rfl) (a_ite01 (Or.inl rfl) (Or.inr rfl)))
set_option maxRecDepth 100000 in
set_option maxHeartbeats 4000000 in
theorem p_X9_noTask {a1 : Int} {h : aH} {Q : aQ} (k : Q (f_X9_noTask h a1) h) : aRun mX9_noTask 0 [aR 0, aI a1] h Q := by
  unfold f_X9_noTask at k
  refine aRun.of pn_9 rfl (Nat.le_of_ble_eq_true rfl) ?_
  show AW mX9_noTask 0 0 [some (aR 0), some (aI a1)] [] h Q
  refine AW.iload_n (pc := 0) dX9_noTask_0 rfl ?_
  have K_1 : AW mX9_noTask 0 20 [some (aR 0), some (aI a1)] [aI (if a1 < 0 then (1 : Int) else (if a1 < (h 3 1) then (0 : Int) else (1 : Int)))] h Q := by
    refine AW.zret (pc := 20) dX9_noTask_20 rfl (a_ite01 (Or.inr rfl) (a_ite01 (Or.inl rfl) (Or.inr rfl))) ?_
    exact k
  refine AW.if_lt (tgt := 15) (pc := 1) dX9_noTask_1 rfl (fun q => ?_) (fun q => ?_)
  · skip
    rw [if_pos q] at K_1
    refine AW.iconst (pc := 15) dX9_noTask_15 ⟨by decide, by decide⟩ ?_
    refine AW.goto (tgt := 20) (pc := 16) dX9_noTask_16 rfl ?_
    exact K_1
  · skip
    rw [if_neg q] at K_1
    refine AW.iload_n (pc := 4) dX9_noTask_4 rfl ?_
    refine AW.aload_n (pc := 5) dX9_noTask_5 rfl ?_
    refine AW.getr (k := 1) (pc := 6) dX9_noTask_6 ac_9 sh_0 rfl (by decide) fl_9_19 ?_
    refine AW.geti' (k := 1) (j := 1) (pc := 9) dX9_noTask_9 ac_5 sh_3 rfl (by decide) fl_9_120 rfl (v := (h 3 1)) rfl ?_
    refine AW.icmp_lt (tgt := 19) (pc := 12) dX9_noTask_12 rfl (fun q => ?_) (fun q => ?_)
    · skip
      rw [if_pos q] at K_1
      refine AW.iconst (pc := 19) dX9_noTask_19 ⟨by decide, by decide⟩ ?_
      exact K_1
    · skip
      rw [if_neg q] at K_1
      refine AW.iconst (pc := 15) dX9_noTask_15 ⟨by decide, by decide⟩ ?_
      refine AW.goto (tgt := 20) (pc := 16) dX9_noTask_16 rfl ?_
      exact K_1
def f_X9_of (h : aH) (a1 : Int) (a2 : Int) : Int := (if (f_X9_noTask h a1) = 0 then (if a2 < 0 then ((-1) : Int) else (if a2 ≤ 3 then (if (f_X9_refusedByState h) = 0 then (if a2 = 0 then (h 24 a1) else (if a2 = 1 then (h 25 a1) else (if a2 = 2 then (h 26 a1) else (if (h 26 a1) = 0 then (1 : Int) else (0 : Int))))) else (f_X9_refusedByState h)) else ((-1) : Int))) else ((-1) : Int))
def o_X9_of (h : aH) (a1 : Int) (a2 : Int) : Prop := ((f_X9_noTask h a1) = 0 → (¬ (a2 < 0) → (a2 ≤ 3 → ((f_X9_refusedByState h) = 0 → ((a2 = 0 → (0 ≤ a1 ∧ a1 < 24)) ∧ (a2 = 1 → (0 ≤ a1 ∧ a1 < 24)) ∧ (a2 = 2 → (0 ≤ a1 ∧ a1 < 24)) ∧ ((a2 < 0 ∨ 2 < a2) → (0 ≤ a1 ∧ a1 < 24)))))))
set_option maxRecDepth 100000 in
set_option maxHeartbeats 4000000 in
theorem p_X9_of {a1 a2 : Int} {h : aH} {Q : aQ} (o : o_X9_of h a1 a2) (k : Q (f_X9_of h a1 a2) h) : aRun mX9_of 2 [aR 0, aI a1, aI a2] h Q := by
  unfold f_X9_of at k
  unfold o_X9_of at o
  refine aRun.of pn_9 rfl (Nat.le_of_ble_eq_true rfl) ?_
  show AW mX9_of 2 0 [some (aR 0), some (aI a1), some (aI a2), none] [] h Q
  refine AW.aload_n (pc := 0) dX9_of_0 rfl ?_
  refine AW.iload_n (pc := 1) dX9_of_1 rfl ?_
  refine AW.callVi (M' := mX9_noTask) (F' := 0) (as := [aI a1]) (pc := 2) dX9_of_2 (by decide) kX9_noTask ml_9_123 ob_0 rfl npX9_noTask (Nat.le_of_ble_eq_true rfl) (p_X9_noTask  ?_)
  refine AW.if_ne (tgt := 17) (pc := 5) dX9_of_5 rfl (fun q => ?_) (fun q => ?_)
  · skip
    rw [if_neg q] at k
    refine AW.iconst (pc := 17) dX9_of_17 ⟨by decide, by decide⟩ ?_
    refine AW.iret (pc := 18) dX9_of_18 rfl ?_
    exact k
  · have q := Decidable.not_not.mp q
    have H_2 := o q
    rw [if_pos q] at k
    refine AW.iload_n (pc := 8) dX9_of_8 rfl ?_
    refine AW.if_lt (tgt := 17) (pc := 9) dX9_of_9 rfl (fun q => ?_) (fun q => ?_)
    · skip
      rw [if_pos q] at k
      refine AW.iconst (pc := 17) dX9_of_17 ⟨by decide, by decide⟩ ?_
      refine AW.iret (pc := 18) dX9_of_18 rfl ?_
      exact k
    · skip
      have H_4 := H_2 q
      rw [if_neg q] at k
      refine AW.iload_n (pc := 12) dX9_of_12 rfl ?_
      refine AW.iconst (pc := 13) dX9_of_13 ⟨by decide, by decide⟩ ?_
      refine AW.icmp_le (tgt := 19) (pc := 14) dX9_of_14 rfl (fun q => ?_) (fun q => ?_)
      · skip
        have H_5 := H_4 q
        rw [if_pos q] at k
        refine AW.aload_n (pc := 19) dX9_of_19 rfl ?_
        refine AW.callVi (M' := mX9_refusedByState) (F' := 1) (as := []) (pc := 20) dX9_of_20 (by decide) kX9_refusedByState ml_9_166 ob_0 rfl npX9_refusedByState (Nat.le_of_ble_eq_true rfl) (p_X9_refusedByState  ?_)
        refine AW.istore_n (pc := 23) dX9_of_23 (by decide) rfl ?_
        refine AW.iload_n (pc := 24) dX9_of_24 rfl ?_
        refine AW.if_eq (tgt := 30) (pc := 25) dX9_of_25 rfl (fun q => ?_) (fun q => ?_)
        · skip
          have H_6 := H_5 q
          rw [if_pos q] at k
          refine AW.iload_n (pc := 30) dX9_of_30 rfl ?_
          refine AW.tsw (pc := 31) dX9_of_31 (fun q1 q2 => ?_) (fun q => ?_)
          · have q : a2 = 0 ∨ a2 = 1 ∨ a2 = 2 := by omega
            rcases q with q | q | q
            · refine ⟨56, _, by rw [q]; rfl, rfl, ?_⟩
              have H_7 := H_6.1 q
              rw [if_pos q] at k
              refine AW.aload_n (pc := 56) dX9_of_56 rfl ?_
              refine AW.getr (k := 4) (pc := 57) dX9_of_57 ac_9 sh_0 rfl (by decide) fl_9_33 ?_
              refine AW.getr (k := 3) (pc := 60) dX9_of_60 ac_8 sh_20 rfl (by decide) fl_9_172 ?_
              refine AW.iload_n (pc := 63) dX9_of_63 rfl ?_
              refine AW.iald (pc := 64) dX9_of_64 sh_24 H_7 (v := (h 24 a1)) rfl ?_
              refine AW.iret (pc := 65) dX9_of_65 rfl ?_
              exact k
            · refine ⟨66, _, by rw [q]; rfl, rfl, ?_⟩
              have H_8 := H_6.2.1 q
              rw [if_neg (show ¬ (a2 = 0) by omega), if_pos q] at k
              refine AW.aload_n (pc := 66) dX9_of_66 rfl ?_
              refine AW.getr (k := 4) (pc := 67) dX9_of_67 ac_9 sh_0 rfl (by decide) fl_9_33 ?_
              refine AW.getr (k := 4) (pc := 70) dX9_of_70 ac_8 sh_20 rfl (by decide) fl_9_175 ?_
              refine AW.iload_n (pc := 73) dX9_of_73 rfl ?_
              refine AW.iald (pc := 74) dX9_of_74 sh_25 H_8 (v := (h 25 a1)) rfl ?_
              refine AW.iret (pc := 75) dX9_of_75 rfl ?_
              exact k
            · refine ⟨76, _, by rw [q]; rfl, rfl, ?_⟩
              have H_9 := H_6.2.2.1 q
              rw [if_neg (show ¬ (a2 = 0) by omega), if_neg (show ¬ (a2 = 1) by omega), if_pos q] at k
              refine AW.aload_n (pc := 76) dX9_of_76 rfl ?_
              refine AW.getr (k := 4) (pc := 77) dX9_of_77 ac_9 sh_0 rfl (by decide) fl_9_33 ?_
              refine AW.getr (k := 5) (pc := 80) dX9_of_80 ac_8 sh_20 rfl (by decide) fl_9_178 ?_
              refine AW.iload_n (pc := 83) dX9_of_83 rfl ?_
              refine AW.iald (pc := 84) dX9_of_84 sh_26 H_9 (v := (h 26 a1)) rfl ?_
              refine AW.iret (pc := 85) dX9_of_85 rfl ?_
              exact k
          · refine ⟨86, rfl, ?_⟩
            have H_10 := H_6.2.2.2 q
            rw [if_neg (show ¬ (a2 = 0) by omega), if_neg (show ¬ (a2 = 1) by omega), if_neg (show ¬ (a2 = 2) by omega)] at k
            refine AW.aload_n (pc := 86) dX9_of_86 rfl ?_
            refine AW.getr (k := 4) (pc := 87) dX9_of_87 ac_9 sh_0 rfl (by decide) fl_9_33 ?_
            refine AW.getr (k := 5) (pc := 90) dX9_of_90 ac_8 sh_20 rfl (by decide) fl_9_178 ?_
            refine AW.iload_n (pc := 93) dX9_of_93 rfl ?_
            refine AW.iald (pc := 94) dX9_of_94 sh_26 H_10 (v := (h 26 a1)) rfl ?_
            have K_11 : AW mX9_of 2 103 [some (aR 0), some (aI a1), some (aI a2), some (aI (f_X9_refusedByState h))] [aI (if (h 26 a1) = 0 then (1 : Int) else (0 : Int))] h Q := by
              refine AW.iret (pc := 103) dX9_of_103 rfl ?_
              exact k
            refine AW.if_ne (tgt := 102) (pc := 95) dX9_of_95 rfl (fun q => ?_) (fun q => ?_)
            · skip
              rw [if_neg q] at K_11
              refine AW.iconst (pc := 102) dX9_of_102 ⟨by decide, by decide⟩ ?_
              exact K_11
            · have q := Decidable.not_not.mp q
              rw [if_pos q] at K_11
              refine AW.iconst (pc := 98) dX9_of_98 ⟨by decide, by decide⟩ ?_
              refine AW.goto (tgt := 103) (pc := 99) dX9_of_99 rfl ?_
              exact K_11
        · skip
          rw [if_neg q] at k
          refine AW.iload_n (pc := 28) dX9_of_28 rfl ?_
          refine AW.iret (pc := 29) dX9_of_29 rfl ?_
          exact k
      · skip
        rw [if_neg q] at k
        refine AW.iconst (pc := 17) dX9_of_17 ⟨by decide, by decide⟩ ?_
        refine AW.iret (pc := 18) dX9_of_18 rfl ?_
        exact k
def f_X9_order (h : aH) (a1 : Int) (a2 : Int) : Int := (if (f_X9_noMachine h a1) = 0 then (if (-1) ≤ a2 then (if (f_X9_noShop h) = 0 then (if a2 = (-1) then (f_X5_tasksOn h a1) else (if (f_X5_tasksOn h a1) ≤ a2 then ((-2) : Int) else (h 19 ((h 10 a1) + a2)))) else ((-5) : Int)) else ((-1) : Int)) else ((-1) : Int))
def o_X9_order (h : aH) (a1 : Int) (a2 : Int) : Prop := ((f_X9_noMachine h a1) = 0 → ((-1) ≤ a2 → ((f_X9_noShop h) = 0 → (o_X5_tasksOn h a1 ∧ (¬ (a2 = (-1)) → ((¬ ((f_X5_tasksOn h a1) ≤ a2) → ((0 ≤ a1 ∧ a1 < 6) ∧ inR ((h 10 a1) + a2) ∧ (0 ≤ ((h 10 a1) + a2) ∧ ((h 10 a1) + a2) < 24)))))))))
set_option maxRecDepth 100000 in
set_option maxHeartbeats 4000000 in
theorem p_X9_order {a1 a2 : Int} {h : aH} {Q : aQ} (o : o_X9_order h a1 a2) (k : Q (f_X9_order h a1 a2) h) : aRun mX9_order 1 [aR 0, aI a1, aI a2] h Q := by
  unfold f_X9_order at k
  unfold o_X9_order at o
  refine aRun.of pn_9 rfl (Nat.le_of_ble_eq_true rfl) ?_
  show AW mX9_order 1 0 [some (aR 0), some (aI a1), some (aI a2), none] [] h Q
  refine AW.iload_n (pc := 0) dX9_order_0 rfl ?_
  refine AW.callSi (M' := mX9_noMachine) (F' := 0) (as := [aI a1]) (pc := 1) dX9_order_1 (by decide) kX9_noMachine ml_9_142 rfl npX9_noMachine (Nat.le_of_ble_eq_true rfl) (p_X9_noMachine  ?_)
  refine AW.if_ne (tgt := 12) (pc := 4) dX9_order_4 rfl (fun q => ?_) (fun q => ?_)
  · skip
    rw [if_neg q] at k
    refine AW.iconst (pc := 12) dX9_order_12 ⟨by decide, by decide⟩ ?_
    refine AW.iret (pc := 13) dX9_order_13 rfl ?_
    exact k
  · have q := Decidable.not_not.mp q
    have H_2 := o q
    rw [if_pos q] at k
    refine AW.iload_n (pc := 7) dX9_order_7 rfl ?_
    refine AW.iconst (pc := 8) dX9_order_8 ⟨by decide, by decide⟩ ?_
    refine AW.icmp_ge (tgt := 14) (pc := 9) dX9_order_9 rfl (fun q => ?_) (fun q => ?_)
    · skip
      have H_3 := H_2 q
      rw [if_pos q] at k
      refine AW.aload_n (pc := 14) dX9_order_14 rfl ?_
      refine AW.callVi (M' := mX9_noShop) (F' := 0) (as := []) (pc := 15) dX9_order_15 (by decide) kX9_noShop ml_9_145 ob_0 rfl npX9_noShop (Nat.le_of_ble_eq_true rfl) (p_X9_noShop  ?_)
      refine AW.if_eq (tgt := 24) (pc := 18) dX9_order_18 rfl (fun q => ?_) (fun q => ?_)
      · skip
        have H_4 := H_3 q
        rw [if_pos q] at k
        refine AW.aload_n (pc := 24) dX9_order_24 rfl ?_
        refine AW.getr (k := 1) (pc := 25) dX9_order_25 ac_9 sh_0 rfl (by decide) fl_9_19 ?_
        refine AW.iload_n (pc := 28) dX9_order_28 rfl ?_
        refine AW.callVi (M' := mX5_tasksOn) (F' := 0) (as := [aI a1]) (pc := 29) dX9_order_29 (by decide) kX5_tasksOn ml_9_149 ob_3 rfl npX5_tasksOn (Nat.le_of_ble_eq_true rfl) (p_X5_tasksOn (H_4.1) ?_)
        refine AW.istore_n (pc := 32) dX9_order_32 (by decide) rfl ?_
        refine AW.iload_n (pc := 33) dX9_order_33 rfl ?_
        refine AW.iconst (pc := 34) dX9_order_34 ⟨by decide, by decide⟩ ?_
        refine AW.icmp_ne (tgt := 40) (pc := 35) dX9_order_35 rfl (fun q => ?_) (fun q => ?_)
        · skip
          have H_5 := H_4.2 q
          rw [if_neg q] at k
          refine AW.iload_n (pc := 40) dX9_order_40 rfl ?_
          refine AW.iload_n (pc := 41) dX9_order_41 rfl ?_
          have K_6 : AW mX9_order 1 66 [some (aR 0), some (aI a1), some (aI a2), some (aI (f_X5_tasksOn h a1))] [aI (if (f_X5_tasksOn h a1) ≤ a2 then ((-2) : Int) else (h 19 ((h 10 a1) + a2)))] h Q := by
            refine AW.iret (pc := 66) dX9_order_66 rfl ?_
            exact k
          have H_8 := H_5
          refine AW.icmp_ge (tgt := 64) (pc := 42) dX9_order_42 rfl (fun q => ?_) (fun q => ?_)
          · skip
            rw [if_pos q] at K_6
            refine AW.bipush (pc := 64) dX9_order_64 rfl ⟨by decide, by decide⟩ ?_
            exact K_6
          · skip
            have H_10 := H_8 q
            rw [if_neg q] at K_6
            refine AW.aload_n (pc := 45) dX9_order_45 rfl ?_
            refine AW.getr (k := 3) (pc := 46) dX9_order_46 ac_9 sh_0 rfl (by decide) fl_9_26 ?_
            refine AW.aload_n (pc := 49) dX9_order_49 rfl ?_
            refine AW.getr (k := 1) (pc := 50) dX9_order_50 ac_9 sh_0 rfl (by decide) fl_9_19 ?_
            refine AW.getr (k := 8) (pc := 53) dX9_order_53 ac_5 sh_3 rfl (by decide) fl_9_153 ?_
            refine AW.iload_n (pc := 56) dX9_order_56 rfl ?_
            refine AW.iald (pc := 57) dX9_order_57 sh_10 (H_10.1) (v := (h 10 a1)) rfl ?_
            refine AW.iload_n (pc := 58) dX9_order_58 rfl ?_
            refine AW.iadd (pc := 59) dX9_order_59 (H_10.2.1) ?_
            refine AW.iald (pc := 60) dX9_order_60 sh_19 (H_10.2.2) (v := (h 19 ((h 10 a1) + a2))) rfl ?_
            refine AW.goto (tgt := 66) (pc := 61) dX9_order_61 rfl ?_
            exact K_6
        · have q := Decidable.not_not.mp q
          rw [if_pos q] at k
          refine AW.iload_n (pc := 38) dX9_order_38 rfl ?_
          refine AW.iret (pc := 39) dX9_order_39 rfl ?_
          exact k
      · skip
        rw [if_neg q] at k
        refine AW.bipush (pc := 21) dX9_order_21 rfl ⟨by decide, by decide⟩ ?_
        refine AW.iret (pc := 23) dX9_order_23 rfl ?_
        exact k
    · skip
      rw [if_neg q] at k
      refine AW.iconst (pc := 12) dX9_order_12 ⟨by decide, by decide⟩ ?_
      refine AW.iret (pc := 13) dX9_order_13 rfl ?_
      exact k
set_option maxRecDepth 100000 in
set_option maxHeartbeats 4000000 in
theorem e_X9_redo  {h : aH} {Q : aQ} (H : aRun mX4_goAhead 2 [aR 44, aR 19] h (fun r1 h2 => ((r1 = 0 → Q (-5) h2) ∧ (¬ (r1 = 0) → aRun mX9_settle 3 [aR 0] h2 (fun r3 h4 => inR ((h4 44 2) - (h4 44 1)) ∧ Q ((h4 44 2) - (h4 44 1)) h4))))) : aRun mX9_redo 4 [aR 0] h Q := by
  refine aRun.of pn_9 rfl (Nat.le_of_ble_eq_true rfl) ?_
  show AW mX9_redo 4 0 [some (aR 0)] [] h Q
  refine AW.aload_n (pc := 0) dX9_redo_0 rfl ?_
  refine AW.getr (k := 8) (pc := 1) dX9_redo_1 ac_9 sh_0 rfl (by decide) fl_9_57 ?_
  refine AW.aload_n (pc := 4) dX9_redo_4 rfl ?_
  refine AW.getr (k := 3) (pc := 5) dX9_redo_5 ac_9 sh_0 rfl (by decide) fl_9_26 ?_
  refine AW.callVi (M' := mX4_goAhead) (F' := 2) (as := [aR 19]) (pc := 8) dX9_redo_8 (by decide) kX4_goAhead ml_9_280 ob_44 rfl npX4_goAhead (Nat.le_of_ble_eq_true rfl) (aRun.mono (fun r1 h2 H_1 => ?_) H)
  refine AW.if_ne (tgt := 17) (pc := 11) dX9_redo_11 rfl (fun q => ?_) (fun q => ?_)
  · skip
    have H_2 := H_1.2 q
    refine AW.aload_n (pc := 17) dX9_redo_17 rfl ?_
    refine AW.callVv (M' := mX9_settle) (F' := 3) (as := []) (pc := 18) dX9_redo_18 (by decide) kX9_settle ml_9_274 ob_0 rfl npX9_settle (Nat.le_of_ble_eq_true rfl) (aRun.mono (fun r3 h4 H_3 => ?_) H_2)
    refine AW.aload_n (pc := 21) dX9_redo_21 rfl ?_
    refine AW.getr (k := 8) (pc := 22) dX9_redo_22 ac_9 sh_0 rfl (by decide) fl_9_57 ?_
    refine AW.geti' (k := 2) (j := 2) (pc := 25) dX9_redo_25 ac_4 sh_44 rfl (by decide) fl_9_283 rfl (v := (h4 44 2)) rfl ?_
    refine AW.aload_n (pc := 28) dX9_redo_28 rfl ?_
    refine AW.getr (k := 8) (pc := 29) dX9_redo_29 ac_9 sh_0 rfl (by decide) fl_9_57 ?_
    refine AW.geti' (k := 1) (j := 1) (pc := 32) dX9_redo_32 ac_4 sh_44 rfl (by decide) fl_9_277 rfl (v := (h4 44 1)) rfl ?_
    refine AW.isub (pc := 35) dX9_redo_35 (H_3.1) ?_
    refine AW.iret (pc := 36) dX9_redo_36 rfl ?_
    exact H_3.2
  · have q := Decidable.not_not.mp q
    have H_4 := H_1.1 q
    refine AW.bipush (pc := 14) dX9_redo_14 rfl ⟨by decide, by decide⟩ ?_
    refine AW.iret (pc := 16) dX9_redo_16 rfl ?_
    exact H_4
set_option maxRecDepth 100000 in
set_option maxHeartbeats 4000000 in
theorem e_X9_shop  {h : aH} {Q : aQ} (H : aRun mX7_readInto 3 [aR 1, aR 11] h (fun r1 h2 => ((r1 = (-1) → aRun mX5_copyOf 2 [aR 3, aR 11] (a_up h2 1 1 0) (fun r3 h4 => aRun mX5_orderByNumbers 0 [aR 3, aR 19] h4 (fun r5 h6 => aRun mX9_startAnew 4 [aR 0] h6 (fun r7 h8 => Q (h8 3 1) h8)))) ∧ (¬ (r1 = (-1)) → inR ((-100) - r1) ∧ Q ((-100) - r1) (a_up h2 1 1 0))))) : aRun mX9_shop 5 [aR 0] h Q := by
  refine aRun.of pn_9 rfl (Nat.le_of_ble_eq_true rfl) ?_
  show AW mX9_shop 5 0 [some (aR 0), none] [] h Q
  refine AW.aload_n (pc := 0) dX9_shop_0 rfl ?_
  refine AW.getr (k := 0) (pc := 1) dX9_shop_1 ac_9 sh_0 rfl (by decide) fl_9_10 ?_
  refine AW.aload_n (pc := 4) dX9_shop_4 rfl ?_
  refine AW.getr (k := 2) (pc := 5) dX9_shop_5 ac_9 sh_0 rfl (by decide) fl_9_23 ?_
  refine AW.callVi (M' := mX7_readInto) (F' := 3) (as := [aR 11]) (pc := 8) dX9_shop_8 (by decide) kX7_readInto ml_9_105 ob_1 rfl npX7_readInto (Nat.le_of_ble_eq_true rfl) (aRun.mono (fun r1 h2 H_1 => ?_) H)
  refine AW.istore_n (pc := 11) dX9_shop_11 (by decide) rfl ?_
  refine AW.aload_n (pc := 12) dX9_shop_12 rfl ?_
  refine AW.getr (k := 0) (pc := 13) dX9_shop_13 ac_9 sh_0 rfl (by decide) fl_9_10 ?_
  refine AW.iconst (pc := 16) dX9_shop_16 ⟨by decide, by decide⟩ ?_
  refine AW.puti' (k := 1) (j := 1) (pc := 17) dX9_shop_17 ac_7 sh_1 rfl (by decide) fl_9_98 rfl rfl (tyX7_ok 1 (by decide)) (Or.inl rfl) ?_
  refine AW.iload_n (pc := 20) dX9_shop_20 rfl ?_
  refine AW.iconst (pc := 21) dX9_shop_21 ⟨by decide, by decide⟩ ?_
  refine AW.icmp_eq (tgt := 30) (pc := 22) dX9_shop_22 rfl (fun q => ?_) (fun q => ?_)
  · skip
    have H_2 := H_1.1 q
    refine AW.aload_n (pc := 30) dX9_shop_30 rfl ?_
    refine AW.getr (k := 1) (pc := 31) dX9_shop_31 ac_9 sh_0 rfl (by decide) fl_9_19 ?_
    refine AW.aload_n (pc := 34) dX9_shop_34 rfl ?_
    refine AW.getr (k := 2) (pc := 35) dX9_shop_35 ac_9 sh_0 rfl (by decide) fl_9_23 ?_
    refine AW.callVv (M' := mX5_copyOf) (F' := 2) (as := [aR 11]) (pc := 38) dX9_shop_38 (by decide) kX5_copyOf ml_9_109 ob_3 rfl npX5_copyOf (Nat.le_of_ble_eq_true rfl) (aRun.mono (fun r3 h4 H_3 => ?_) H_2)
    refine AW.aload_n (pc := 41) dX9_shop_41 rfl ?_
    refine AW.getr (k := 1) (pc := 42) dX9_shop_42 ac_9 sh_0 rfl (by decide) fl_9_19 ?_
    refine AW.aload_n (pc := 45) dX9_shop_45 rfl ?_
    refine AW.getr (k := 3) (pc := 46) dX9_shop_46 ac_9 sh_0 rfl (by decide) fl_9_26 ?_
    refine AW.callVv (M' := mX5_orderByNumbers) (F' := 0) (as := [aR 19]) (pc := 49) dX9_shop_49 (by decide) kX5_orderByNumbers ml_9_113 ob_3 rfl npX5_orderByNumbers (Nat.le_of_ble_eq_true rfl) (aRun.mono (fun r5 h6 H_4 => ?_) H_3)
    refine AW.aload_n (pc := 52) dX9_shop_52 rfl ?_
    refine AW.callVv (M' := mX9_startAnew) (F' := 4) (as := []) (pc := 53) dX9_shop_53 (by decide) kX9_startAnew ml_9_117 ob_0 rfl npX9_startAnew (Nat.le_of_ble_eq_true rfl) (aRun.mono (fun r7 h8 H_5 => ?_) H_4)
    refine AW.aload_n (pc := 56) dX9_shop_56 rfl ?_
    refine AW.getr (k := 1) (pc := 57) dX9_shop_57 ac_9 sh_0 rfl (by decide) fl_9_19 ?_
    refine AW.geti' (k := 1) (j := 1) (pc := 60) dX9_shop_60 ac_5 sh_3 rfl (by decide) fl_9_120 rfl (v := (h8 3 1)) rfl ?_
    refine AW.iret (pc := 63) dX9_shop_63 rfl ?_
    exact H_5
  · skip
    have H_6 := H_1.2 q
    refine AW.bipush (pc := 25) dX9_shop_25 rfl ⟨by decide, by decide⟩ ?_
    refine AW.iload_n (pc := 27) dX9_shop_27 rfl ?_
    refine AW.isub (pc := 28) dX9_shop_28 (H_6.1) ?_
    refine AW.iret (pc := 29) dX9_shop_29 rfl ?_
    exact H_6.2
def f_X9_span (h : aH) : Int := (if (f_X9_refusedByState h) = 0 then (h 20 9) else (f_X9_refusedByState h))
set_option maxRecDepth 100000 in
set_option maxHeartbeats 4000000 in
theorem p_X9_span  {h : aH} {Q : aQ} (k : Q (f_X9_span h) h) : aRun mX9_span 2 [aR 0] h Q := by
  unfold f_X9_span at k
  refine aRun.of pn_9 rfl (Nat.le_of_ble_eq_true rfl) ?_
  show AW mX9_span 2 0 [some (aR 0), none] [] h Q
  refine AW.aload_n (pc := 0) dX9_span_0 rfl ?_
  refine AW.callVi (M' := mX9_refusedByState) (F' := 1) (as := []) (pc := 1) dX9_span_1 (by decide) kX9_refusedByState ml_9_166 ob_0 rfl npX9_refusedByState (Nat.le_of_ble_eq_true rfl) (p_X9_refusedByState  ?_)
  refine AW.istore_n (pc := 4) dX9_span_4 (by decide) rfl ?_
  refine AW.iload_n (pc := 5) dX9_span_5 rfl ?_
  have K_1 : AW mX9_span 2 20 [some (aR 0), some (aI (f_X9_refusedByState h))] [aI (if (f_X9_refusedByState h) = 0 then (h 20 9) else (f_X9_refusedByState h))] h Q := by
    refine AW.iret (pc := 20) dX9_span_20 rfl ?_
    exact k
  refine AW.if_eq (tgt := 13) (pc := 6) dX9_span_6 rfl (fun q => ?_) (fun q => ?_)
  · skip
    rw [if_pos q] at K_1
    refine AW.aload_n (pc := 13) dX9_span_13 rfl ?_
    refine AW.getr (k := 4) (pc := 14) dX9_span_14 ac_9 sh_0 rfl (by decide) fl_9_33 ?_
    refine AW.geti' (k := 9) (j := 9) (pc := 17) dX9_span_17 ac_8 sh_20 rfl (by decide) fl_9_169 rfl (v := (h 20 9)) rfl ?_
    exact K_1
  · skip
    rw [if_neg q] at K_1
    refine AW.iload_n (pc := 9) dX9_span_9 rfl ?_
    refine AW.goto (tgt := 20) (pc := 10) dX9_span_10 rfl ?_
    exact K_1
set_option maxRecDepth 100000 in
set_option maxHeartbeats 4000000 in
theorem e_X9_step {a1 : Int} {h : aH} {Q : aQ} (H : ((a1 < 1 → Q (-1) h) ∧ (¬ (a1 < 1) → ((a1 ≤ 30 → (((f_X9_refusedByState h) = 0 → AW mX9_step 6 26 [some (aR 0), some (aI a1), none, some (aI 0)] [] h Q) ∧ (¬ ((f_X9_refusedByState h) = 0) → Q (f_X9_refusedByState h) h))) ∧ (¬ (a1 ≤ 30) → Q (-1) h))))) : aRun mX9_step 6 [aR 0, aI a1] h Q := by
  refine aRun.of pn_9 rfl (Nat.le_of_ble_eq_true rfl) ?_
  show AW mX9_step 6 0 [some (aR 0), some (aI a1), none, none] [] h Q
  refine AW.iload_n (pc := 0) dX9_step_0 rfl ?_
  refine AW.iconst (pc := 1) dX9_step_1 ⟨by decide, by decide⟩ ?_
  refine AW.icmp_lt (tgt := 11) (pc := 2) dX9_step_2 rfl (fun q => ?_) (fun q => ?_)
  · skip
    have H_1 := H.1 q
    refine AW.iconst (pc := 11) dX9_step_11 ⟨by decide, by decide⟩ ?_
    refine AW.iret (pc := 12) dX9_step_12 rfl ?_
    exact H_1
  · skip
    have H_2 := H.2 q
    refine AW.iload_n (pc := 5) dX9_step_5 rfl ?_
    refine AW.bipush (pc := 6) dX9_step_6 rfl ⟨by decide, by decide⟩ ?_
    refine AW.icmp_le (tgt := 13) (pc := 8) dX9_step_8 rfl (fun q => ?_) (fun q => ?_)
    · skip
      have H_3 := H_2.1 q
      refine AW.aload_n (pc := 13) dX9_step_13 rfl ?_
      refine AW.callVi (M' := mX9_refusedByState) (F' := 1) (as := []) (pc := 14) dX9_step_14 (by decide) kX9_refusedByState ml_9_166 ob_0 rfl npX9_refusedByState (Nat.le_of_ble_eq_true rfl) (p_X9_refusedByState  ?_)
      refine AW.istore_n (pc := 17) dX9_step_17 (by decide) rfl ?_
      refine AW.iload_n (pc := 18) dX9_step_18 rfl ?_
      refine AW.if_eq (tgt := 24) (pc := 19) dX9_step_19 rfl (fun q => ?_) (fun q => ?_)
      · skip
        have H_4 := H_3.1 q
        refine AW.iconst (pc := 24) dX9_step_24 ⟨by decide, by decide⟩ ?_
        refine AW.istore_n (pc := 25) dX9_step_25 (by decide) rfl ?_
        refine AW.mask [true, true, false, true] ?_
        exact H_4
      · skip
        have H_5 := H_3.2 q
        refine AW.iload_n (pc := 22) dX9_step_22 rfl ?_
        refine AW.iret (pc := 23) dX9_step_23 rfl ?_
        exact H_5
    · skip
      have H_6 := H_2.2 q
      refine AW.iconst (pc := 11) dX9_step_11 ⟨by decide, by decide⟩ ?_
      refine AW.iret (pc := 12) dX9_step_12 rfl ?_
      exact H_6
set_option maxRecDepth 100000 in
set_option maxHeartbeats 4000000 in
theorem s_X9_step_26  {l1 l3 : Int} {h : aH} {Q : aQ} (H : ((l1 ≤ l3 → inR ((h 0 16) + l3) ∧ Q l3 (a_up h 0 16 ((h 0 16) + l3))) ∧ (¬ (l1 ≤ l3) → aRun mX9_goOn 5 [aR 0] h (fun r1 h2 => ((r1 = 0 → inR ((h2 0 16) + l3) ∧ Q l3 (a_up h2 0 16 ((h2 0 16) + l3))) ∧ (¬ (r1 = 0) → inR (l3 + 1) ∧ AW mX9_step 6 26 [some (aR 0), some (aI l1), none, some (aI (l3 + 1))] [] h2 Q)))))) : AW mX9_step 6 26 [some (aR 0), some (aI l1), none, some (aI l3)] [] h Q := by
  refine AW.iload_n (pc := 26) dX9_step_26 rfl ?_
  refine AW.iload_n (pc := 27) dX9_step_27 rfl ?_
  refine AW.icmp_ge (tgt := 44) (pc := 28) dX9_step_28 rfl (fun q => ?_) (fun q => ?_)
  · skip
    have H_1 := H.1 q
    refine AW.aload_n (pc := 44) dX9_step_44 rfl ?_
    refine AW.dup (pc := 45) dX9_step_45 rfl ?_
    refine AW.geti' (k := 16) (j := 16) (pc := 46) dX9_step_46 ac_9 sh_0 rfl (by decide) fl_9_95 rfl (v := (h 0 16)) rfl ?_
    refine AW.iload_n (pc := 49) dX9_step_49 rfl ?_
    refine AW.iadd (pc := 50) dX9_step_50 (H_1.1) ?_
    refine AW.puti' (k := 16) (j := 16) (pc := 51) dX9_step_51 ac_9 sh_0 rfl (by decide) fl_9_95 rfl rfl (tyX9_ok 16 (by decide)) (Or.inl rfl) ?_
    refine AW.iload_n (pc := 54) dX9_step_54 rfl ?_
    refine AW.iret (pc := 55) dX9_step_55 rfl ?_
    exact H_1.2
  · skip
    have H_2 := H.2 q
    refine AW.aload_n (pc := 31) dX9_step_31 rfl ?_
    refine AW.callVi (M' := mX9_goOn) (F' := 5) (as := []) (pc := 32) dX9_step_32 (by decide) kX9_goOn ml_9_222 ob_0 rfl npX9_goOn (Nat.le_of_ble_eq_true rfl) (aRun.mono (fun r1 h2 H_3 => ?_) H_2)
    refine AW.if_eq (tgt := 44) (pc := 35) dX9_step_35 rfl (fun q => ?_) (fun q => ?_)
    · skip
      have H_4 := H_3.1 q
      refine AW.aload_n (pc := 44) dX9_step_44 rfl ?_
      refine AW.dup (pc := 45) dX9_step_45 rfl ?_
      refine AW.geti' (k := 16) (j := 16) (pc := 46) dX9_step_46 ac_9 sh_0 rfl (by decide) fl_9_95 rfl (v := (h2 0 16)) rfl ?_
      refine AW.iload_n (pc := 49) dX9_step_49 rfl ?_
      refine AW.iadd (pc := 50) dX9_step_50 (H_4.1) ?_
      refine AW.puti' (k := 16) (j := 16) (pc := 51) dX9_step_51 ac_9 sh_0 rfl (by decide) fl_9_95 rfl rfl (tyX9_ok 16 (by decide)) (Or.inl rfl) ?_
      refine AW.iload_n (pc := 54) dX9_step_54 rfl ?_
      refine AW.iret (pc := 55) dX9_step_55 rfl ?_
      exact H_4.2
    · skip
      have H_5 := H_3.2 q
      refine AW.iinc (pc := 38) dX9_step_38 rfl (by decide) rfl (H_5.1) ?_
      refine AW.goto (tgt := 26) (pc := 41) dX9_step_41 rfl ?_
      exact H_5.2
set_option maxRecDepth 100000 in
set_option maxHeartbeats 4000000 in
theorem e_X9_tabu {a1 : Int} {h : aH} {Q : aQ} (H : ((a1 < 0 → Q (-1) h) ∧ (¬ (a1 < 0) → ((a1 ≤ 9 → Q (h 42 2) (a_up (a_up (a_up h 42 2 a1) 42 1 0) 0 15 (-1))) ∧ (¬ (a1 ≤ 9) → Q (-1) h))))) : aRun mX9_tabu 1 [aR 0, aI a1] h Q := by
  refine aRun.of pn_9 rfl (Nat.le_of_ble_eq_true rfl) ?_
  show AW mX9_tabu 1 0 [some (aR 0), some (aI a1), none] [] h Q
  refine AW.iload_n (pc := 0) dX9_tabu_0 rfl ?_
  refine AW.if_lt (tgt := 10) (pc := 1) dX9_tabu_1 rfl (fun q => ?_) (fun q => ?_)
  · skip
    have H_1 := H.1 q
    refine AW.iconst (pc := 10) dX9_tabu_10 ⟨by decide, by decide⟩ ?_
    refine AW.iret (pc := 11) dX9_tabu_11 rfl ?_
    exact H_1
  · skip
    have H_2 := H.2 q
    refine AW.iload_n (pc := 4) dX9_tabu_4 rfl ?_
    refine AW.bipush (pc := 5) dX9_tabu_5 rfl ⟨by decide, by decide⟩ ?_
    refine AW.icmp_le (tgt := 12) (pc := 7) dX9_tabu_7 rfl (fun q => ?_) (fun q => ?_)
    · skip
      have H_3 := H_2.1 q
      refine AW.aload_n (pc := 12) dX9_tabu_12 rfl ?_
      refine AW.getr (k := 7) (pc := 13) dX9_tabu_13 ac_9 sh_0 rfl (by decide) fl_9_50 ?_
      refine AW.geti' (k := 2) (j := 2) (pc := 16) dX9_tabu_16 ac_3 sh_42 rfl (by decide) fl_9_216 rfl (v := (h 42 2)) rfl ?_
      refine AW.istore_n (pc := 19) dX9_tabu_19 (by decide) rfl ?_
      refine AW.aload_n (pc := 20) dX9_tabu_20 rfl ?_
      refine AW.getr (k := 7) (pc := 21) dX9_tabu_21 ac_9 sh_0 rfl (by decide) fl_9_50 ?_
      refine AW.iload_n (pc := 24) dX9_tabu_24 rfl ?_
      refine AW.puti' (k := 2) (j := 2) (pc := 25) dX9_tabu_25 ac_3 sh_42 rfl (by decide) fl_9_216 rfl rfl (tyX3_ok 2 (by decide)) (Or.inl rfl) ?_
      refine AW.aload_n (pc := 28) dX9_tabu_28 rfl ?_
      refine AW.callVv (M' := mX9_forgetSteps) (F' := 0) (as := []) (pc := 29) dX9_tabu_29 (by decide) kX9_forgetSteps ml_9_219 ob_0 rfl npX9_forgetSteps (Nat.le_of_ble_eq_true rfl) (p_X9_forgetSteps  ?_)
      refine AW.iload_n (pc := 32) dX9_tabu_32 rfl ?_
      refine AW.iret (pc := 33) dX9_tabu_33 rfl ?_
      exact H_3
    · skip
      have H_4 := H_2.2 q
      refine AW.iconst (pc := 10) dX9_tabu_10 ⟨by decide, by decide⟩ ?_
      refine AW.iret (pc := 11) dX9_tabu_11 rfl ?_
      exact H_4
def f_X9_task (h : aH) (a1 : Int) (a2 : Int) : Int := (if (f_X9_noTask h a1) = 0 then (if a2 < 0 then ((-1) : Int) else (if a2 ≤ 4 then (if a2 = 0 then (h 4 a1) else (if a2 = 1 then (h 5 a1) else (if a2 = 2 then (h 6 a1) else (if a2 = 3 then (h 7 a1) else (h 21 a1))))) else ((-1) : Int))) else ((-1) : Int))
def o_X9_task (h : aH) (a1 : Int) (a2 : Int) : Prop := ((f_X9_noTask h a1) = 0 → (¬ (a2 < 0) → (a2 ≤ 4 → ((a2 = 0 → (0 ≤ a1 ∧ a1 < 24)) ∧ (a2 = 1 → (0 ≤ a1 ∧ a1 < 24)) ∧ (a2 = 2 → (0 ≤ a1 ∧ a1 < 24)) ∧ (a2 = 3 → (0 ≤ a1 ∧ a1 < 24)) ∧ ((a2 < 0 ∨ 3 < a2) → (0 ≤ a1 ∧ a1 < 24))))))
set_option maxRecDepth 100000 in
set_option maxHeartbeats 4000000 in
theorem p_X9_task {a1 a2 : Int} {h : aH} {Q : aQ} (o : o_X9_task h a1 a2) (k : Q (f_X9_task h a1 a2) h) : aRun mX9_task 1 [aR 0, aI a1, aI a2] h Q := by
  unfold f_X9_task at k
  unfold o_X9_task at o
  refine aRun.of pn_9 rfl (Nat.le_of_ble_eq_true rfl) ?_
  show AW mX9_task 1 0 [some (aR 0), some (aI a1), some (aI a2)] [] h Q
  refine AW.aload_n (pc := 0) dX9_task_0 rfl ?_
  refine AW.iload_n (pc := 1) dX9_task_1 rfl ?_
  refine AW.callVi (M' := mX9_noTask) (F' := 0) (as := [aI a1]) (pc := 2) dX9_task_2 (by decide) kX9_noTask ml_9_123 ob_0 rfl npX9_noTask (Nat.le_of_ble_eq_true rfl) (p_X9_noTask  ?_)
  refine AW.if_ne (tgt := 17) (pc := 5) dX9_task_5 rfl (fun q => ?_) (fun q => ?_)
  · skip
    rw [if_neg q] at k
    refine AW.iconst (pc := 17) dX9_task_17 ⟨by decide, by decide⟩ ?_
    refine AW.iret (pc := 18) dX9_task_18 rfl ?_
    exact k
  · have q := Decidable.not_not.mp q
    have H_2 := o q
    rw [if_pos q] at k
    refine AW.iload_n (pc := 8) dX9_task_8 rfl ?_
    refine AW.if_lt (tgt := 17) (pc := 9) dX9_task_9 rfl (fun q => ?_) (fun q => ?_)
    · skip
      rw [if_pos q] at k
      refine AW.iconst (pc := 17) dX9_task_17 ⟨by decide, by decide⟩ ?_
      refine AW.iret (pc := 18) dX9_task_18 rfl ?_
      exact k
    · skip
      have H_4 := H_2 q
      rw [if_neg q] at k
      refine AW.iload_n (pc := 12) dX9_task_12 rfl ?_
      refine AW.iconst (pc := 13) dX9_task_13 ⟨by decide, by decide⟩ ?_
      refine AW.icmp_le (tgt := 19) (pc := 14) dX9_task_14 rfl (fun q => ?_) (fun q => ?_)
      · skip
        have H_5 := H_4 q
        rw [if_pos q] at k
        refine AW.iload_n (pc := 19) dX9_task_19 rfl ?_
        refine AW.tsw (pc := 20) dX9_task_20 (fun q1 q2 => ?_) (fun q => ?_)
        · have q : a2 = 0 ∨ a2 = 1 ∨ a2 = 2 ∨ a2 = 3 := by omega
          rcases q with q | q | q | q
          · refine ⟨52, _, by rw [q]; rfl, rfl, ?_⟩
            have H_6 := H_5.1 q
            rw [if_pos q] at k
            refine AW.aload_n (pc := 52) dX9_task_52 rfl ?_
            refine AW.getr (k := 1) (pc := 53) dX9_task_53 ac_9 sh_0 rfl (by decide) fl_9_19 ?_
            refine AW.getr (k := 2) (pc := 56) dX9_task_56 ac_5 sh_3 rfl (by decide) fl_9_127 ?_
            refine AW.iload_n (pc := 59) dX9_task_59 rfl ?_
            refine AW.iald (pc := 60) dX9_task_60 sh_4 H_6 (v := (h 4 a1)) rfl ?_
            refine AW.iret (pc := 61) dX9_task_61 rfl ?_
            exact k
          · refine ⟨62, _, by rw [q]; rfl, rfl, ?_⟩
            have H_7 := H_5.2.1 q
            rw [if_neg (show ¬ (a2 = 0) by omega), if_pos q] at k
            refine AW.aload_n (pc := 62) dX9_task_62 rfl ?_
            refine AW.getr (k := 1) (pc := 63) dX9_task_63 ac_9 sh_0 rfl (by decide) fl_9_19 ?_
            refine AW.getr (k := 3) (pc := 66) dX9_task_66 ac_5 sh_3 rfl (by decide) fl_9_130 ?_
            refine AW.iload_n (pc := 69) dX9_task_69 rfl ?_
            refine AW.iald (pc := 70) dX9_task_70 sh_5 H_7 (v := (h 5 a1)) rfl ?_
            refine AW.iret (pc := 71) dX9_task_71 rfl ?_
            exact k
          · refine ⟨72, _, by rw [q]; rfl, rfl, ?_⟩
            have H_8 := H_5.2.2.1 q
            rw [if_neg (show ¬ (a2 = 0) by omega), if_neg (show ¬ (a2 = 1) by omega), if_pos q] at k
            refine AW.aload_n (pc := 72) dX9_task_72 rfl ?_
            refine AW.getr (k := 1) (pc := 73) dX9_task_73 ac_9 sh_0 rfl (by decide) fl_9_19 ?_
            refine AW.getr (k := 4) (pc := 76) dX9_task_76 ac_5 sh_3 rfl (by decide) fl_9_133 ?_
            refine AW.iload_n (pc := 79) dX9_task_79 rfl ?_
            refine AW.iald (pc := 80) dX9_task_80 sh_6 H_8 (v := (h 6 a1)) rfl ?_
            refine AW.iret (pc := 81) dX9_task_81 rfl ?_
            exact k
          · refine ⟨82, _, by rw [q]; rfl, rfl, ?_⟩
            have H_9 := H_5.2.2.2.1 q
            rw [if_neg (show ¬ (a2 = 0) by omega), if_neg (show ¬ (a2 = 1) by omega), if_neg (show ¬ (a2 = 2) by omega), if_pos q] at k
            refine AW.aload_n (pc := 82) dX9_task_82 rfl ?_
            refine AW.getr (k := 1) (pc := 83) dX9_task_83 ac_9 sh_0 rfl (by decide) fl_9_19 ?_
            refine AW.getr (k := 5) (pc := 86) dX9_task_86 ac_5 sh_3 rfl (by decide) fl_9_136 ?_
            refine AW.iload_n (pc := 89) dX9_task_89 rfl ?_
            refine AW.iald (pc := 90) dX9_task_90 sh_7 H_9 (v := (h 7 a1)) rfl ?_
            refine AW.iret (pc := 91) dX9_task_91 rfl ?_
            exact k
        · refine ⟨92, rfl, ?_⟩
          have H_10 := H_5.2.2.2.2 q
          rw [if_neg (show ¬ (a2 = 0) by omega), if_neg (show ¬ (a2 = 1) by omega), if_neg (show ¬ (a2 = 2) by omega), if_neg (show ¬ (a2 = 3) by omega)] at k
          refine AW.aload_n (pc := 92) dX9_task_92 rfl ?_
          refine AW.getr (k := 4) (pc := 93) dX9_task_93 ac_9 sh_0 rfl (by decide) fl_9_33 ?_
          refine AW.getr (k := 0) (pc := 96) dX9_task_96 ac_8 sh_20 rfl (by decide) fl_9_139 ?_
          refine AW.iload_n (pc := 99) dX9_task_99 rfl ?_
          refine AW.iald (pc := 100) dX9_task_100 sh_21 H_10 (v := (h 21 a1)) rfl ?_
          refine AW.iret (pc := 101) dX9_task_101 rfl ?_
          exact k
      · skip
        rw [if_neg q] at k
        refine AW.iconst (pc := 17) dX9_task_17 ⟨by decide, by decide⟩ ?_
        refine AW.iret (pc := 18) dX9_task_18 rfl ?_
        exact k
