set_option maxRecDepth 100000 in
set_option maxHeartbeats 4000000 in
theorem e_X9_turn {a1 a2 : Int} {h : aH} {Q : aQ} (H : (((f_X9_noMachine h a1) = 0 → ((a2 < 0 → Q (-1) h) ∧ (¬ (a2 < 0) → o_X5_tasksOn h a1 ∧ inR ((f_X5_tasksOn h a1) - 1) ∧ ((a2 < ((f_X5_tasksOn h a1) - 1) → (0 ≤ a1 ∧ a1 < 6) ∧ inR ((h 10 a1) + a2) ∧ aRun mX9_changePlaces 0 [aR 0, aI ((h 10 a1) + a2)] h (fun r1 h2 => aRun mX9_changed 4 [aR 0] h2 (fun r3 h4 => Q (f_X9_spanOrRing h4) h4))) ∧ (¬ (a2 < ((f_X5_tasksOn h a1) - 1)) → Q (-1) h))))) ∧ (¬ ((f_X9_noMachine h a1) = 0) → Q (-1) h))) : aRun mX9_turn 5 [aR 0, aI a1, aI a2] h Q := by
  refine aRun.of pn_9 rfl (Nat.le_of_ble_eq_true rfl) ?_
  show AW mX9_turn 5 0 [some (aR 0), some (aI a1), some (aI a2)] [] h Q
  refine AW.iload_n (pc := 0) dX9_turn_0 rfl ?_
  refine AW.callSi (M' := mX9_noMachine) (F' := 0) (as := [aI a1]) (pc := 1) dX9_turn_1 (by decide) kX9_noMachine ml_9_142 rfl npX9_noMachine (Nat.le_of_ble_eq_true rfl) (p_X9_noMachine  ?_)
  refine AW.if_ne (tgt := 25) (pc := 4) dX9_turn_4 rfl (fun q => ?_) (fun q => ?_)
  · skip
    have H_1 := H.2 q
    refine AW.iconst (pc := 25) dX9_turn_25 ⟨by decide, by decide⟩ ?_
    refine AW.iret (pc := 26) dX9_turn_26 rfl ?_
    exact H_1
  · have q := Decidable.not_not.mp q
    have H_2 := H.1 q
    refine AW.iload_n (pc := 7) dX9_turn_7 rfl ?_
    refine AW.if_lt (tgt := 25) (pc := 8) dX9_turn_8 rfl (fun q => ?_) (fun q => ?_)
    · skip
      have H_3 := H_2.1 q
      refine AW.iconst (pc := 25) dX9_turn_25 ⟨by decide, by decide⟩ ?_
      refine AW.iret (pc := 26) dX9_turn_26 rfl ?_
      exact H_3
    · skip
      have H_4 := H_2.2 q
      refine AW.iload_n (pc := 11) dX9_turn_11 rfl ?_
      refine AW.aload_n (pc := 12) dX9_turn_12 rfl ?_
      refine AW.getr (k := 1) (pc := 13) dX9_turn_13 ac_9 sh_0 rfl (by decide) fl_9_19 ?_
      refine AW.iload_n (pc := 16) dX9_turn_16 rfl ?_
      refine AW.callVi (M' := mX5_tasksOn) (F' := 0) (as := [aI a1]) (pc := 17) dX9_turn_17 (by decide) kX5_tasksOn ml_9_149 ob_3 rfl npX5_tasksOn (Nat.le_of_ble_eq_true rfl) (p_X5_tasksOn (H_4.1) ?_)
      refine AW.iconst (pc := 20) dX9_turn_20 ⟨by decide, by decide⟩ ?_
      refine AW.isub (pc := 21) dX9_turn_21 (H_4.2.1) ?_
      refine AW.icmp_lt (tgt := 27) (pc := 22) dX9_turn_22 rfl (fun q => ?_) (fun q => ?_)
      · skip
        have H_5 := H_4.2.2.1 q
        refine AW.aload_n (pc := 27) dX9_turn_27 rfl ?_
        refine AW.aload_n (pc := 28) dX9_turn_28 rfl ?_
        refine AW.getr (k := 1) (pc := 29) dX9_turn_29 ac_9 sh_0 rfl (by decide) fl_9_19 ?_
        refine AW.getr (k := 8) (pc := 32) dX9_turn_32 ac_5 sh_3 rfl (by decide) fl_9_153 ?_
        refine AW.iload_n (pc := 35) dX9_turn_35 rfl ?_
        refine AW.iald (pc := 36) dX9_turn_36 sh_10 (H_5.1) (v := (h 10 a1)) rfl ?_
        refine AW.iload_n (pc := 37) dX9_turn_37 rfl ?_
        refine AW.iadd (pc := 38) dX9_turn_38 (H_5.2.1) ?_
        refine AW.callVv (M' := mX9_changePlaces) (F' := 0) (as := [aI ((h 10 a1) + a2)]) (pc := 39) dX9_turn_39 (by decide) kX9_changePlaces ml_9_156 ob_0 rfl npX9_changePlaces (Nat.le_of_ble_eq_true rfl) (aRun.mono (fun r1 h2 H_6 => ?_) H_5.2.2)
        refine AW.aload_n (pc := 42) dX9_turn_42 rfl ?_
        refine AW.callVv (M' := mX9_changed) (F' := 4) (as := []) (pc := 43) dX9_turn_43 (by decide) kX9_changed ml_9_159 ob_0 rfl npX9_changed (Nat.le_of_ble_eq_true rfl) (aRun.mono (fun r3 h4 H_7 => ?_) H_6)
        refine AW.aload_n (pc := 46) dX9_turn_46 rfl ?_
        refine AW.callVi (M' := mX9_spanOrRing) (F' := 0) (as := []) (pc := 47) dX9_turn_47 (by decide) kX9_spanOrRing ml_9_162 ob_0 rfl npX9_spanOrRing (Nat.le_of_ble_eq_true rfl) (p_X9_spanOrRing  ?_)
        refine AW.iret (pc := 50) dX9_turn_50 rfl ?_
        exact H_7
      · skip
        have H_8 := H_4.2.2.2 q
        refine AW.iconst (pc := 25) dX9_turn_25 ⟨by decide, by decide⟩ ?_
        refine AW.iret (pc := 26) dX9_turn_26 rfl ?_
        exact H_8
set_option maxRecDepth 100000 in
set_option maxHeartbeats 4000000 in
theorem e_X9_undo  {h : aH} {Q : aQ} (H : aRun mX4_goBack 2 [aR 44, aR 19] h (fun r1 h2 => ((r1 = 0 → Q (-5) h2) ∧ (¬ (r1 = 0) → aRun mX9_settle 3 [aR 0] h2 (fun r3 h4 => Q (h4 44 1) h4))))) : aRun mX9_undo 4 [aR 0] h Q := by
  refine aRun.of pn_9 rfl (Nat.le_of_ble_eq_true rfl) ?_
  show AW mX9_undo 4 0 [some (aR 0)] [] h Q
  refine AW.aload_n (pc := 0) dX9_undo_0 rfl ?_
  refine AW.getr (k := 8) (pc := 1) dX9_undo_1 ac_9 sh_0 rfl (by decide) fl_9_57 ?_
  refine AW.aload_n (pc := 4) dX9_undo_4 rfl ?_
  refine AW.getr (k := 3) (pc := 5) dX9_undo_5 ac_9 sh_0 rfl (by decide) fl_9_26 ?_
  refine AW.callVi (M' := mX4_goBack) (F' := 2) (as := [aR 19]) (pc := 8) dX9_undo_8 (by decide) kX4_goBack ml_9_270 ob_44 rfl npX4_goBack (Nat.le_of_ble_eq_true rfl) (aRun.mono (fun r1 h2 H_1 => ?_) H)
  refine AW.if_ne (tgt := 17) (pc := 11) dX9_undo_11 rfl (fun q => ?_) (fun q => ?_)
  · skip
    have H_2 := H_1.2 q
    refine AW.aload_n (pc := 17) dX9_undo_17 rfl ?_
    refine AW.callVv (M' := mX9_settle) (F' := 3) (as := []) (pc := 18) dX9_undo_18 (by decide) kX9_settle ml_9_274 ob_0 rfl npX9_settle (Nat.le_of_ble_eq_true rfl) (aRun.mono (fun r3 h4 H_3 => ?_) H_2)
    refine AW.aload_n (pc := 21) dX9_undo_21 rfl ?_
    refine AW.getr (k := 8) (pc := 22) dX9_undo_22 ac_9 sh_0 rfl (by decide) fl_9_57 ?_
    refine AW.geti' (k := 1) (j := 1) (pc := 25) dX9_undo_25 ac_4 sh_44 rfl (by decide) fl_9_277 rfl (v := (h4 44 1)) rfl ?_
    refine AW.iret (pc := 28) dX9_undo_28 rfl ?_
    exact H_3
  · have q := Decidable.not_not.mp q
    have H_4 := H_1.1 q
    refine AW.bipush (pc := 14) dX9_undo_14 rfl ⟨by decide, by decide⟩ ?_
    refine AW.iret (pc := 16) dX9_undo_16 rfl ?_
    exact H_4
def f_X9_way (h : aH) (a1 : Int) : Int := (if (-1) ≤ a1 then (if (f_X9_refusedByState h) = 0 then (if a1 = (-1) then (h 38 1) else (if (h 38 1) ≤ a1 then ((-2) : Int) else (h 39 a1))) else (f_X9_refusedByState h)) else ((-1) : Int))
def o_X9_way (h : aH) (a1 : Int) : Prop := ((-1) ≤ a1 → ((f_X9_refusedByState h) = 0 → (¬ (a1 = (-1)) → ((¬ ((h 38 1) ≤ a1) → (0 ≤ a1 ∧ a1 < 24))))))
set_option maxRecDepth 100000 in
set_option maxHeartbeats 4000000 in
theorem p_X9_way {a1 : Int} {h : aH} {Q : aQ} (o : o_X9_way h a1) (k : Q (f_X9_way h a1) h) : aRun mX9_way 2 [aR 0, aI a1] h Q := by
  unfold f_X9_way at k
  unfold o_X9_way at o
  refine aRun.of pn_9 rfl (Nat.le_of_ble_eq_true rfl) ?_
  show AW mX9_way 2 0 [some (aR 0), some (aI a1), none] [] h Q
  refine AW.iload_n (pc := 0) dX9_way_0 rfl ?_
  refine AW.iconst (pc := 1) dX9_way_1 ⟨by decide, by decide⟩ ?_
  refine AW.icmp_ge (tgt := 7) (pc := 2) dX9_way_2 rfl (fun q => ?_) (fun q => ?_)
  · skip
    have H_1 := o q
    rw [if_pos q] at k
    refine AW.aload_n (pc := 7) dX9_way_7 rfl ?_
    refine AW.callVi (M' := mX9_refusedByState) (F' := 1) (as := []) (pc := 8) dX9_way_8 (by decide) kX9_refusedByState ml_9_166 ob_0 rfl npX9_refusedByState (Nat.le_of_ble_eq_true rfl) (p_X9_refusedByState  ?_)
    refine AW.istore_n (pc := 11) dX9_way_11 (by decide) rfl ?_
    refine AW.iload_n (pc := 12) dX9_way_12 rfl ?_
    refine AW.if_eq (tgt := 18) (pc := 13) dX9_way_13 rfl (fun q => ?_) (fun q => ?_)
    · skip
      have H_2 := H_1 q
      rw [if_pos q] at k
      refine AW.iload_n (pc := 18) dX9_way_18 rfl ?_
      refine AW.iconst (pc := 19) dX9_way_19 ⟨by decide, by decide⟩ ?_
      refine AW.icmp_ne (tgt := 31) (pc := 20) dX9_way_20 rfl (fun q => ?_) (fun q => ?_)
      · skip
        have H_3 := H_2 q
        rw [if_neg q] at k
        refine AW.iload_n (pc := 31) dX9_way_31 rfl ?_
        refine AW.aload_n (pc := 32) dX9_way_32 rfl ?_
        refine AW.getr (k := 6) (pc := 33) dX9_way_33 ac_9 sh_0 rfl (by decide) fl_9_43 ?_
        refine AW.geti' (k := 1) (j := 1) (pc := 36) dX9_way_36 ac_6 sh_38 rfl (by decide) fl_9_181 rfl (v := (h 38 1)) rfl ?_
        have K_4 : AW mX9_way 2 56 [some (aR 0), some (aI a1), some (aI (f_X9_refusedByState h))] [aI (if (h 38 1) ≤ a1 then ((-2) : Int) else (h 39 a1))] h Q := by
          refine AW.iret (pc := 56) dX9_way_56 rfl ?_
          exact k
        have H_6 := H_3
        refine AW.icmp_ge (tgt := 54) (pc := 39) dX9_way_39 rfl (fun q => ?_) (fun q => ?_)
        · skip
          rw [if_pos q] at K_4
          refine AW.bipush (pc := 54) dX9_way_54 rfl ⟨by decide, by decide⟩ ?_
          exact K_4
        · skip
          have H_8 := H_6 q
          rw [if_neg q] at K_4
          refine AW.aload_n (pc := 42) dX9_way_42 rfl ?_
          refine AW.getr (k := 6) (pc := 43) dX9_way_43 ac_9 sh_0 rfl (by decide) fl_9_43 ?_
          refine AW.getr (k := 0) (pc := 46) dX9_way_46 ac_6 sh_38 rfl (by decide) fl_9_182 ?_
          refine AW.iload_n (pc := 49) dX9_way_49 rfl ?_
          refine AW.iald (pc := 50) dX9_way_50 sh_39 H_8 (v := (h 39 a1)) rfl ?_
          refine AW.goto (tgt := 56) (pc := 51) dX9_way_51 rfl ?_
          exact K_4
      · have q := Decidable.not_not.mp q
        rw [if_pos q] at k
        refine AW.aload_n (pc := 23) dX9_way_23 rfl ?_
        refine AW.getr (k := 6) (pc := 24) dX9_way_24 ac_9 sh_0 rfl (by decide) fl_9_43 ?_
        refine AW.geti' (k := 1) (j := 1) (pc := 27) dX9_way_27 ac_6 sh_38 rfl (by decide) fl_9_181 rfl (v := (h 38 1)) rfl ?_
        refine AW.iret (pc := 30) dX9_way_30 rfl ?_
        exact k
    · skip
      rw [if_neg q] at k
      refine AW.iload_n (pc := 16) dX9_way_16 rfl ?_
      refine AW.iret (pc := 17) dX9_way_17 rfl ?_
      exact k
  · skip
    rw [if_neg q] at k
    refine AW.iconst (pc := 5) dX9_way_5 ⟨by decide, by decide⟩ ?_
    refine AW.iret (pc := 6) dX9_way_6 rfl ?_
    exact k
