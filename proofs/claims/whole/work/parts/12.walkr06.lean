set_option maxRecDepth 100000 in
set_option maxHeartbeats 4000000 in
theorem e_X10_move {a1 : Int} {h : aH} {Q : aQ} (H : (((-1) ≤ a1 → aRun mX10_wrong 4 [aR 85] h (fun r1 h2 => ((0 ≤ r1 → aRun mX10_findsMoves 5 [aR 85] h2 (fun r3 h4 => o_X10_toldAt h4 105 48 (h4 85 33) a1 ∧ Q (f_X10_toldAt h4 105 48 (h4 85 33) a1) h4)) ∧ (¬ (0 ≤ r1) → Q r1 h2)))) ∧ (¬ ((-1) ≤ a1) → Q (-1) h))) : aRun mX10_move 6 [aR 85, aI a1] h Q := by
  refine aRun.of pn_10 rfl (Nat.le_of_ble_eq_true rfl) ?_
  show AW mX10_move 6 0 [some (aR 85), some (aI a1), none] [] h Q
  refine AW.iload_n (pc := 0) dX10_move_0 rfl ?_
  refine AW.iconst (pc := 1) dX10_move_1 ⟨by decide, by decide⟩ ?_
  refine AW.icmp_ge (tgt := 7) (pc := 2) dX10_move_2 rfl (fun q => ?_) (fun q => ?_)
  · skip
    have H_1 := H.1 q
    refine AW.aload_n (pc := 7) dX10_move_7 rfl ?_
    refine AW.callVi (M' := mX10_wrong) (F' := 4) (as := []) (pc := 8) dX10_move_8 (by decide) kX10_wrong ml_10_244 ob_85 rfl npX10_wrong (Nat.le_of_ble_eq_true rfl) (aRun.mono (fun r1 h2 H_2 => ?_) H_1)
    refine AW.istore_n (pc := 11) dX10_move_11 (by decide) rfl ?_
    refine AW.iload_n (pc := 12) dX10_move_12 rfl ?_
    refine AW.if_ge (tgt := 18) (pc := 13) dX10_move_13 rfl (fun q => ?_) (fun q => ?_)
    · skip
      have H_3 := H_2.1 q
      refine AW.aload_n (pc := 18) dX10_move_18 rfl ?_
      refine AW.callVv (M' := mX10_findsMoves) (F' := 5) (as := []) (pc := 19) dX10_move_19 (by decide) kX10_findsMoves ml_10_269 ob_85 rfl npX10_findsMoves (Nat.le_of_ble_eq_true rfl) (aRun.mono (fun r3 h4 H_4 => ?_) H_3)
      refine AW.aload_n (pc := 22) dX10_move_22 rfl ?_
      refine AW.getr (k := 31) (pc := 23) dX10_move_23 ac_10 sh_85 rfl (by decide) fl_10_68 ?_
      refine AW.aload_n (pc := 26) dX10_move_26 rfl ?_
      refine AW.geti' (k := 33) (j := 33) (pc := 27) dX10_move_27 ac_10 sh_85 rfl (by decide) fl_10_254 rfl (v := (h4 85 33)) rfl ?_
      refine AW.iload_n (pc := 30) dX10_move_30 rfl ?_
      refine AW.callSi (M' := mX10_toldAt) (F' := 0) (as := [aR 105, aI (h4 85 33), aI a1]) (pc := 31) dX10_move_31 (by decide) kX10_toldAt ml_10_247 rfl npX10_toldAt (Nat.le_of_ble_eq_true rfl) (p_X10_toldAt sh_105 (H_4.1) ?_)
      refine AW.iret (pc := 34) dX10_move_34 rfl ?_
      exact H_4.2
    · skip
      have H_5 := H_2.2 q
      refine AW.iload_n (pc := 16) dX10_move_16 rfl ?_
      refine AW.iret (pc := 17) dX10_move_17 rfl ?_
      exact H_5
  · skip
    have H_6 := H.2 q
    refine AW.iconst (pc := 5) dX10_move_5 ⟨by decide, by decide⟩ ?_
    refine AW.iret (pc := 6) dX10_move_6 rfl ?_
    exact H_6
set_option maxRecDepth 100000 in
set_option maxHeartbeats 4000000 in
theorem e_X10_must {a1 : Int} {h : aH} {Q : aQ} (H : inR ((h 85 10) + (if (if (h 85 11) = 0 then (0 : Int) else (if a1 = 0 then (0 : Int) else (1 : Int))) = 0 then (0 : Int) else (1 : Int))) ∧ Q 0 (a_up (a_up h 85 11 (if (h 85 11) = 0 then (0 : Int) else (if a1 = 0 then (0 : Int) else (1 : Int)))) 85 10 ((h 85 10) + (if (if (h 85 11) = 0 then (0 : Int) else (if a1 = 0 then (0 : Int) else (1 : Int))) = 0 then (0 : Int) else (1 : Int))))) : aRun mX10_must 0 [aR 85, aI a1] h Q := by
  refine aRun.of pn_10 rfl (Nat.le_of_ble_eq_true rfl) ?_
  show AW mX10_must 0 0 [some (aR 85), some (aI a1)] [] h Q
  refine AW.aload_n (pc := 0) dX10_must_0 rfl ?_
  refine AW.aload_n (pc := 1) dX10_must_1 rfl ?_
  refine AW.geti' (k := 11) (j := 11) (pc := 2) dX10_must_2 ac_10 sh_85 rfl (by decide) fl_10_118 rfl (v := (h 85 11)) rfl ?_
  have K_1 : AW mX10_must 0 17 [some (aR 85), some (aI a1)] [aI (if (h 85 11) = 0 then (0 : Int) else (if a1 = 0 then (0 : Int) else (1 : Int))), aR 85] h Q := by
    have H_2 := H
    refine AW.puti' (k := 11) (j := 11) (pc := 17) dX10_must_17 ac_10 sh_85 rfl (by decide) fl_10_118 rfl rfl (tyX10_ok 11 (by decide)) (Or.inr ⟨rfl, (a_ite01 (Or.inl rfl) (a_ite01 (Or.inl rfl) (Or.inr rfl)))⟩) ?_
    refine AW.aload_n (pc := 20) dX10_must_20 rfl ?_
    refine AW.dup (pc := 21) dX10_must_21 rfl ?_
    refine AW.geti' (k := 10) (j := 10) (pc := 22) dX10_must_22 ac_10 sh_85 rfl (by decide) fl_10_115 rfl (v := (h 85 10)) (by rw [a_up_off (by decide)]) ?_
    refine AW.aload_n (pc := 25) dX10_must_25 rfl ?_
    refine AW.geti' (k := 11) (j := 11) (pc := 26) dX10_must_26 ac_10 sh_85 rfl (by decide) fl_10_118 rfl (v := (if (h 85 11) = 0 then (0 : Int) else (if a1 = 0 then (0 : Int) else (1 : Int)))) (by rw [a_up_eq]) ?_
    have K_4 : AW mX10_must 0 37 [some (aR 85), some (aI a1)] [aI (if (if (h 85 11) = 0 then (0 : Int) else (if a1 = 0 then (0 : Int) else (1 : Int))) = 0 then (0 : Int) else (1 : Int)), aI (h 85 10), aR 85] (a_up h 85 11 (if (h 85 11) = 0 then (0 : Int) else (if a1 = 0 then (0 : Int) else (1 : Int)))) Q := by
      have H_5 := H_2
      refine AW.iadd (pc := 37) dX10_must_37 (H_5.1) ?_
      refine AW.puti' (k := 10) (j := 10) (pc := 38) dX10_must_38 ac_10 sh_85 rfl (by decide) fl_10_115 rfl rfl (tyX10_ok 10 (by decide)) (Or.inl rfl) ?_
      refine AW.vret (pc := 41) dX10_must_41 rfl ?_
      exact H_5.2
    refine AW.if_eq (tgt := 36) (pc := 29) dX10_must_29 rfl (fun q => ?_) (fun q => ?_)
    · skip
      rw [if_pos q] at K_4
      refine AW.iconst (pc := 36) dX10_must_36 ⟨by decide, by decide⟩ ?_
      exact K_4
    · skip
      rw [if_neg q] at K_4
      refine AW.iconst (pc := 32) dX10_must_32 ⟨by decide, by decide⟩ ?_
      refine AW.goto (tgt := 37) (pc := 33) dX10_must_33 rfl ?_
      exact K_4
  refine AW.if_eq (tgt := 16) (pc := 5) dX10_must_5 rfl (fun q => ?_) (fun q => ?_)
  · skip
    rw [if_pos q] at K_1
    refine AW.iconst (pc := 16) dX10_must_16 ⟨by decide, by decide⟩ ?_
    exact K_1
  · skip
    rw [if_neg q] at K_1
    refine AW.iload_n (pc := 8) dX10_must_8 rfl ?_
    refine AW.if_eq (tgt := 16) (pc := 9) dX10_must_9 rfl (fun q => ?_) (fun q => ?_)
    · skip
      rw [if_pos q] at K_1
      refine AW.iconst (pc := 16) dX10_must_16 ⟨by decide, by decide⟩ ?_
      exact K_1
    · skip
      rw [if_neg q] at K_1
      refine AW.iconst (pc := 12) dX10_must_12 ⟨by decide, by decide⟩ ?_
      refine AW.goto (tgt := 17) (pc := 13) dX10_must_13 rfl ?_
      exact K_1
set_option maxRecDepth 100000 in
set_option maxHeartbeats 4000000 in
theorem e_X10_notes {a1 : Int} {h : aH} {Q : aQ} (H : (((h 85 37) = 0 → AW mX10_notes 0 28 [some (aR 85), none, some (aI 0)] [] (a_up (a_up h 85 37 1) 85 38 a1) Q) ∧ (¬ ((h 85 37) = 0) → ((a1 < (h 85 38) → AW mX10_notes 0 28 [some (aR 85), none, some (aI 0)] [] (a_up (a_up h 85 37 1) 85 38 a1) Q) ∧ (¬ (a1 < (h 85 38)) → Q 0 h))))) : aRun mX10_notes 0 [aR 85, aI a1] h Q := by
  refine aRun.of pn_10 rfl (Nat.le_of_ble_eq_true rfl) ?_
  show AW mX10_notes 0 0 [some (aR 85), some (aI a1), none] [] h Q
  refine AW.aload_n (pc := 0) dX10_notes_0 rfl ?_
  refine AW.geti' (k := 37) (j := 37) (pc := 1) dX10_notes_1 ac_10 sh_85 rfl (by decide) fl_10_281 rfl (v := (h 85 37)) rfl ?_
  refine AW.if_eq (tgt := 16) (pc := 4) dX10_notes_4 rfl (fun q => ?_) (fun q => ?_)
  · skip
    have H_1 := H.1 q
    refine AW.aload_n (pc := 16) dX10_notes_16 rfl ?_
    refine AW.iconst (pc := 17) dX10_notes_17 ⟨by decide, by decide⟩ ?_
    refine AW.puti' (k := 37) (j := 37) (pc := 18) dX10_notes_18 ac_10 sh_85 rfl (by decide) fl_10_281 rfl rfl (tyX10_ok 37 (by decide)) (Or.inr ⟨rfl, (Or.inr rfl)⟩) ?_
    refine AW.aload_n (pc := 21) dX10_notes_21 rfl ?_
    refine AW.iload_n (pc := 22) dX10_notes_22 rfl ?_
    refine AW.puti' (k := 38) (j := 38) (pc := 23) dX10_notes_23 ac_10 sh_85 rfl (by decide) fl_10_287 rfl rfl (tyX10_ok 38 (by decide)) (Or.inl rfl) ?_
    refine AW.iconst (pc := 26) dX10_notes_26 ⟨by decide, by decide⟩ ?_
    refine AW.istore_n (pc := 27) dX10_notes_27 (by decide) rfl ?_
    refine AW.mask [true, false, true] ?_
    exact H_1
  · skip
    have H_2 := H.2 q
    refine AW.iload_n (pc := 7) dX10_notes_7 rfl ?_
    refine AW.aload_n (pc := 8) dX10_notes_8 rfl ?_
    refine AW.geti' (k := 38) (j := 38) (pc := 9) dX10_notes_9 ac_10 sh_85 rfl (by decide) fl_10_287 rfl (v := (h 85 38)) rfl ?_
    refine AW.icmp_lt (tgt := 16) (pc := 12) dX10_notes_12 rfl (fun q => ?_) (fun q => ?_)
    · skip
      have H_3 := H_2.1 q
      refine AW.aload_n (pc := 16) dX10_notes_16 rfl ?_
      refine AW.iconst (pc := 17) dX10_notes_17 ⟨by decide, by decide⟩ ?_
      refine AW.puti' (k := 37) (j := 37) (pc := 18) dX10_notes_18 ac_10 sh_85 rfl (by decide) fl_10_281 rfl rfl (tyX10_ok 37 (by decide)) (Or.inr ⟨rfl, (Or.inr rfl)⟩) ?_
      refine AW.aload_n (pc := 21) dX10_notes_21 rfl ?_
      refine AW.iload_n (pc := 22) dX10_notes_22 rfl ?_
      refine AW.puti' (k := 38) (j := 38) (pc := 23) dX10_notes_23 ac_10 sh_85 rfl (by decide) fl_10_287 rfl rfl (tyX10_ok 38 (by decide)) (Or.inl rfl) ?_
      refine AW.iconst (pc := 26) dX10_notes_26 ⟨by decide, by decide⟩ ?_
      refine AW.istore_n (pc := 27) dX10_notes_27 (by decide) rfl ?_
      refine AW.mask [true, false, true] ?_
      exact H_3
    · skip
      have H_4 := H_2.2 q
      refine AW.vret (pc := 15) dX10_notes_15 rfl ?_
      exact H_4
set_option maxRecDepth 100000 in
set_option maxHeartbeats 4000000 in
theorem s_X10_notes_28  {l2 : Int} {h : aH} {Q : aQ} (H : ((120 ≤ l2 → Q 0 h) ∧ (¬ (120 ≤ l2) → (0 ≤ l2 ∧ l2 < 120) ∧ inR (l2 + 1) ∧ AW mX10_notes 0 28 [some (aR 85), none, some (aI (l2 + 1))] [] (a_up h 108 l2 (h 90 l2)) Q))) : AW mX10_notes 0 28 [some (aR 85), none, some (aI l2)] [] h Q := by
  refine AW.iload_n (pc := 28) dX10_notes_28 rfl ?_
  refine AW.bipush (pc := 29) dX10_notes_29 rfl ⟨by decide, by decide⟩ ?_
  refine AW.icmp_ge (tgt := 52) (pc := 31) dX10_notes_31 rfl (fun q => ?_) (fun q => ?_)
  · skip
    have H_1 := H.1 q
    refine AW.vret (pc := 52) dX10_notes_52 rfl ?_
    exact H_1
  · skip
    have H_2 := H.2 q
    refine AW.aload_n (pc := 34) dX10_notes_34 rfl ?_
    refine AW.getr (k := 39) (pc := 35) dX10_notes_35 ac_10 sh_85 rfl (by decide) fl_10_81 ?_
    refine AW.iload_n (pc := 38) dX10_notes_38 rfl ?_
    refine AW.aload_n (pc := 39) dX10_notes_39 rfl ?_
    refine AW.getr (k := 6) (pc := 40) dX10_notes_40 ac_10 sh_85 rfl (by decide) fl_10_22 ?_
    refine AW.iload_n (pc := 43) dX10_notes_43 rfl ?_
    refine AW.iald (pc := 44) dX10_notes_44 sh_90 (H_2.1) (v := (h 90 l2)) rfl ?_
    refine AW.iast (pc := 45) dX10_notes_45 sh_108 (H_2.1) ?_
    refine AW.iinc (pc := 46) dX10_notes_46 rfl (by decide) rfl (H_2.2.1) ?_
    refine AW.goto (tgt := 28) (pc := 49) dX10_notes_49 rfl ?_
    exact H_2.2.2
set_option maxRecDepth 100000 in
set_option maxHeartbeats 4000000 in
theorem e_X10_of {a1 a2 : Int} {h : aH} {Q : aQ} (H : o_X10_isTask h a1 ∧ (((f_X10_isTask h a1) = 0 → Q (-1) h) ∧ (¬ ((f_X10_isTask h a1) = 0) → (((f_X10_in h a2 0 3) = 0 → Q (-1) h) ∧ (¬ ((f_X10_in h a2 0 3) = 0) → aRun mX10_reckons 3 [aR 85] h (fun r1 h2 => ((r1 = 0 → Q (-4) h2) ∧ (¬ (r1 = 0) → ((a2 = 0 → (0 ≤ a1 ∧ a1 < 24) ∧ Q (h2 99 a1) h2) ∧ (a2 = 1 → (0 ≤ a1 ∧ a1 < 24) ∧ Q (h2 100 a1) h2) ∧ (a2 = 2 → (0 ≤ a1 ∧ a1 < 24) ∧ inR ((h2 85 26) - (h2 99 a1)) ∧ inR (((h2 85 26) - (h2 99 a1)) - (h2 89 a1)) ∧ inR ((((h2 85 26) - (h2 99 a1)) - (h2 89 a1)) - (h2 100 a1)) ∧ Q ((((h2 85 26) - (h2 99 a1)) - (h2 89 a1)) - (h2 100 a1)) h2) ∧ ((a2 < 0 ∨ 2 < a2) → o_X10_isCritical h2 a1 ∧ Q (if (f_X10_isCritical h2 a1) = 0 then (0 : Int) else (1 : Int)) h2)))))))))) : aRun mX10_of 4 [aR 85, aI a1, aI a2] h Q := by
  refine aRun.of pn_10 rfl (Nat.le_of_ble_eq_true rfl) ?_
  show AW mX10_of 4 0 [some (aR 85), some (aI a1), some (aI a2)] [] h Q
  refine AW.aload_n (pc := 0) dX10_of_0 rfl ?_
  refine AW.iload_n (pc := 1) dX10_of_1 rfl ?_
  refine AW.callVi (M' := mX10_isTask) (F' := 1) (as := [aI a1]) (pc := 2) dX10_of_2 (by decide) kX10_isTask ml_10_174 ob_85 rfl npX10_isTask (Nat.le_of_ble_eq_true rfl) (p_X10_isTask (H.1) ?_)
  refine AW.if_eq (tgt := 17) (pc := 5) dX10_of_5 rfl (fun q => ?_) (fun q => ?_)
  · skip
    have H_1 := H.2.1 q
    refine AW.iconst (pc := 17) dX10_of_17 ⟨by decide, by decide⟩ ?_
    refine AW.iret (pc := 18) dX10_of_18 rfl ?_
    exact H_1
  · skip
    have H_2 := H.2.2 q
    refine AW.iload_n (pc := 8) dX10_of_8 rfl ?_
    refine AW.iconst (pc := 9) dX10_of_9 ⟨by decide, by decide⟩ ?_
    refine AW.iconst (pc := 10) dX10_of_10 ⟨by decide, by decide⟩ ?_
    refine AW.callSi (M' := mX10_in) (F' := 0) (as := [aI a2, aI 0, aI 3]) (pc := 11) dX10_of_11 (by decide) kX10_in ml_10_108 rfl npX10_in (Nat.le_of_ble_eq_true rfl) (p_X10_in  ?_)
    refine AW.if_ne (tgt := 19) (pc := 14) dX10_of_14 rfl (fun q => ?_) (fun q => ?_)
    · skip
      have H_3 := H_2.2 q
      refine AW.aload_n (pc := 19) dX10_of_19 rfl ?_
      refine AW.callVi (M' := mX10_reckons) (F' := 3) (as := []) (pc := 20) dX10_of_20 (by decide) kX10_reckons ml_10_191 ob_85 rfl npX10_reckons (Nat.le_of_ble_eq_true rfl) (aRun.mono (fun r1 h2 H_4 => ?_) H_3)
      refine AW.if_ne (tgt := 29) (pc := 23) dX10_of_23 rfl (fun q => ?_) (fun q => ?_)
      · skip
        have H_5 := H_4.2 q
        refine AW.iload_n (pc := 29) dX10_of_29 rfl ?_
        refine AW.tsw (pc := 30) dX10_of_30 (fun q1 q2 => ?_) (fun q => ?_)
        · have q : a2 = 0 ∨ a2 = 1 ∨ a2 = 2 := by omega
          rcases q with q | q | q
          · refine ⟨56, _, by rw [q]; rfl, rfl, ?_⟩
            have H_6 := H_5.1 q
            refine AW.aload_n (pc := 56) dX10_of_56 rfl ?_
            refine AW.getr (k := 22) (pc := 57) dX10_of_57 ac_10 sh_85 rfl (by decide) fl_10_49 ?_
            refine AW.iload_n (pc := 60) dX10_of_60 rfl ?_
            refine AW.iald (pc := 61) dX10_of_61 sh_99 (H_6.1) (v := (h2 99 a1)) rfl ?_
            refine AW.iret (pc := 62) dX10_of_62 rfl ?_
            exact H_6.2
          · refine ⟨63, _, by rw [q]; rfl, rfl, ?_⟩
            have H_7 := H_5.2.1 q
            refine AW.aload_n (pc := 63) dX10_of_63 rfl ?_
            refine AW.getr (k := 23) (pc := 64) dX10_of_64 ac_10 sh_85 rfl (by decide) fl_10_52 ?_
            refine AW.iload_n (pc := 67) dX10_of_67 rfl ?_
            refine AW.iald (pc := 68) dX10_of_68 sh_100 (H_7.1) (v := (h2 100 a1)) rfl ?_
            refine AW.iret (pc := 69) dX10_of_69 rfl ?_
            exact H_7.2
          · refine ⟨70, _, by rw [q]; rfl, rfl, ?_⟩
            have H_8 := H_5.2.2.1 q
            refine AW.aload_n (pc := 70) dX10_of_70 rfl ?_
            refine AW.geti' (k := 26) (j := 26) (pc := 71) dX10_of_71 ac_10 sh_85 rfl (by decide) fl_10_195 rfl (v := (h2 85 26)) rfl ?_
            refine AW.aload_n (pc := 74) dX10_of_74 rfl ?_
            refine AW.getr (k := 22) (pc := 75) dX10_of_75 ac_10 sh_85 rfl (by decide) fl_10_49 ?_
            refine AW.iload_n (pc := 78) dX10_of_78 rfl ?_
            refine AW.iald (pc := 79) dX10_of_79 sh_99 (H_8.1) (v := (h2 99 a1)) rfl ?_
            refine AW.isub (pc := 80) dX10_of_80 (H_8.2.1) ?_
            refine AW.aload_n (pc := 81) dX10_of_81 rfl ?_
            refine AW.getr (k := 5) (pc := 82) dX10_of_82 ac_10 sh_85 rfl (by decide) fl_10_19 ?_
            refine AW.iload_n (pc := 85) dX10_of_85 rfl ?_
            refine AW.iald (pc := 86) dX10_of_86 sh_89 (H_8.1) (v := (h2 89 a1)) rfl ?_
            refine AW.isub (pc := 87) dX10_of_87 (H_8.2.2.1) ?_
            refine AW.aload_n (pc := 88) dX10_of_88 rfl ?_
            refine AW.getr (k := 23) (pc := 89) dX10_of_89 ac_10 sh_85 rfl (by decide) fl_10_52 ?_
            refine AW.iload_n (pc := 92) dX10_of_92 rfl ?_
            refine AW.iald (pc := 93) dX10_of_93 sh_100 (H_8.1) (v := (h2 100 a1)) rfl ?_
            refine AW.isub (pc := 94) dX10_of_94 (H_8.2.2.2.1) ?_
            refine AW.iret (pc := 95) dX10_of_95 rfl ?_
            exact H_8.2.2.2.2
        · refine ⟨96, rfl, ?_⟩
          have H_9 := H_5.2.2.2 q
          refine AW.aload_n (pc := 96) dX10_of_96 rfl ?_
          refine AW.iload_n (pc := 97) dX10_of_97 rfl ?_
          refine AW.callVi (M' := mX10_isCritical) (F' := 0) (as := [aI a1]) (pc := 98) dX10_of_98 (by decide) kX10_isCritical ml_10_226 ob_85 rfl npX10_isCritical (Nat.le_of_ble_eq_true rfl) (p_X10_isCritical (H_9.1) ?_)
          have K_10 : AW mX10_of 4 109 [some (aR 85), some (aI a1), some (aI a2)] [aI (if (f_X10_isCritical h2 a1) = 0 then (0 : Int) else (1 : Int))] h2 Q := by
            have H_11 := H_9.2
            refine AW.iret (pc := 109) dX10_of_109 rfl ?_
            exact H_11
          refine AW.if_eq (tgt := 108) (pc := 101) dX10_of_101 rfl (fun q => ?_) (fun q => ?_)
          · skip
            rw [if_pos q] at K_10
            refine AW.iconst (pc := 108) dX10_of_108 ⟨by decide, by decide⟩ ?_
            exact K_10
          · skip
            rw [if_neg q] at K_10
            refine AW.iconst (pc := 104) dX10_of_104 ⟨by decide, by decide⟩ ?_
            refine AW.goto (tgt := 109) (pc := 105) dX10_of_105 rfl ?_
            exact K_10
      · have q := Decidable.not_not.mp q
        have H_15 := H_4.1 q
        refine AW.bipush (pc := 26) dX10_of_26 rfl ⟨by decide, by decide⟩ ?_
        refine AW.iret (pc := 28) dX10_of_28 rfl ?_
        exact H_15
    · have q := Decidable.not_not.mp q
      have H_16 := H_2.1 q
      refine AW.iconst (pc := 17) dX10_of_17 ⟨by decide, by decide⟩ ?_
      refine AW.iret (pc := 18) dX10_of_18 rfl ?_
      exact H_16
def f_X10_order (h : aH) (a1 : Int) (a2 : Int) : Int := (if (f_X10_isMachine h a1) = 0 then ((-1) : Int) else (if (-1) ≤ a2 then (if (h 85 1) = 0 then ((-5) : Int) else (if 0 ≤ a2 then (if (h 91 a1) ≤ a2 then ((-2) : Int) else (h 90 ((24 * a1) + a2))) else (h 91 a1))) else ((-1) : Int)))
def o_X10_order (h : aH) (a1 : Int) (a2 : Int) : Prop := (¬ ((f_X10_isMachine h a1) = 0) → ((-1) ≤ a2 → (¬ ((h 85 1) = 0) → (((0 ≤ a2 → ((0 ≤ a1 ∧ a1 < 5) ∧ (¬ ((h 91 a1) ≤ a2) → (inR (24 * a1) ∧ inR ((24 * a1) + a2) ∧ (0 ≤ ((24 * a1) + a2) ∧ ((24 * a1) + a2) < 120))))) ∧ (¬ (0 ≤ a2) → (0 ≤ a1 ∧ a1 < 5)))))))
set_option maxRecDepth 100000 in
set_option maxHeartbeats 4000000 in
theorem p_X10_order {a1 a2 : Int} {h : aH} {Q : aQ} (o : o_X10_order h a1 a2) (k : Q (f_X10_order h a1 a2) h) : aRun mX10_order 2 [aR 85, aI a1, aI a2] h Q := by
  unfold f_X10_order at k
  unfold o_X10_order at o
  refine aRun.of pn_10 rfl (Nat.le_of_ble_eq_true rfl) ?_
  show AW mX10_order 2 0 [some (aR 85), some (aI a1), some (aI a2)] [] h Q
  refine AW.iload_n (pc := 0) dX10_order_0 rfl ?_
  refine AW.callSi (M' := mX10_isMachine) (F' := 1) (as := [aI a1]) (pc := 1) dX10_order_1 (by decide) kX10_isMachine ml_10_181 rfl npX10_isMachine (Nat.le_of_ble_eq_true rfl) (p_X10_isMachine  ?_)
  refine AW.if_eq (tgt := 12) (pc := 4) dX10_order_4 rfl (fun q => ?_) (fun q => ?_)
  · skip
    rw [if_pos q] at k
    refine AW.iconst (pc := 12) dX10_order_12 ⟨by decide, by decide⟩ ?_
    refine AW.iret (pc := 13) dX10_order_13 rfl ?_
    exact k
  · skip
    have H_2 := o q
    rw [if_neg q] at k
    refine AW.iload_n (pc := 7) dX10_order_7 rfl ?_
    refine AW.iconst (pc := 8) dX10_order_8 ⟨by decide, by decide⟩ ?_
    refine AW.icmp_ge (tgt := 14) (pc := 9) dX10_order_9 rfl (fun q => ?_) (fun q => ?_)
    · skip
      have H_3 := H_2 q
      rw [if_pos q] at k
      refine AW.aload_n (pc := 14) dX10_order_14 rfl ?_
      refine AW.geti' (k := 1) (j := 1) (pc := 15) dX10_order_15 ac_10 sh_85 rfl (by decide) fl_10_105 rfl (v := (h 85 1)) rfl ?_
      refine AW.if_ne (tgt := 24) (pc := 18) dX10_order_18 rfl (fun q => ?_) (fun q => ?_)
      · skip
        have H_4 := H_3 q
        rw [if_neg q] at k
        refine AW.iload_n (pc := 24) dX10_order_24 rfl ?_
        have K_5 : AW mX10_order 2 63 [some (aR 85), some (aI a1), some (aI a2)] [aI (if 0 ≤ a2 then (if (h 91 a1) ≤ a2 then ((-2) : Int) else (h 90 ((24 * a1) + a2))) else (h 91 a1))] h Q := by
          refine AW.iret (pc := 63) dX10_order_63 rfl ?_
          exact k
        have H_7 := H_4
        refine AW.if_ge (tgt := 37) (pc := 25) dX10_order_25 rfl (fun q => ?_) (fun q => ?_)
        · skip
          have H_8 := H_7.1 q
          rw [if_pos q] at K_5
          refine AW.iload_n (pc := 37) dX10_order_37 rfl ?_
          refine AW.aload_n (pc := 38) dX10_order_38 rfl ?_
          refine AW.getr (k := 7) (pc := 39) dX10_order_39 ac_10 sh_85 rfl (by decide) fl_10_25 ?_
          refine AW.iload_n (pc := 42) dX10_order_42 rfl ?_
          refine AW.iald (pc := 43) dX10_order_43 sh_91 (H_8.1) (v := (h 91 a1)) rfl ?_
          refine AW.icmp_ge (tgt := 61) (pc := 44) dX10_order_44 rfl (fun q => ?_) (fun q => ?_)
          · skip
            rw [if_pos q] at K_5
            refine AW.bipush (pc := 61) dX10_order_61 rfl ⟨by decide, by decide⟩ ?_
            exact K_5
          · skip
            have H_10 := H_8.2 q
            rw [if_neg q] at K_5
            refine AW.aload_n (pc := 47) dX10_order_47 rfl ?_
            refine AW.getr (k := 6) (pc := 48) dX10_order_48 ac_10 sh_85 rfl (by decide) fl_10_22 ?_
            refine AW.bipush (pc := 51) dX10_order_51 rfl ⟨by decide, by decide⟩ ?_
            refine AW.iload_n (pc := 53) dX10_order_53 rfl ?_
            refine AW.imul (pc := 54) dX10_order_54 (H_10.1) ?_
            refine AW.iload_n (pc := 55) dX10_order_55 rfl ?_
            refine AW.iadd (pc := 56) dX10_order_56 (H_10.2.1) ?_
            refine AW.iald (pc := 57) dX10_order_57 sh_90 (H_10.2.2) (v := (h 90 ((24 * a1) + a2))) rfl ?_
            refine AW.goto (tgt := 63) (pc := 58) dX10_order_58 rfl ?_
            exact K_5
        · skip
          have H_11 := H_7.2 q
          rw [if_neg q] at K_5
          refine AW.aload_n (pc := 28) dX10_order_28 rfl ?_
          refine AW.getr (k := 7) (pc := 29) dX10_order_29 ac_10 sh_85 rfl (by decide) fl_10_25 ?_
          refine AW.iload_n (pc := 32) dX10_order_32 rfl ?_
          refine AW.iald (pc := 33) dX10_order_33 sh_91 H_11 (v := (h 91 a1)) rfl ?_
          refine AW.goto (tgt := 63) (pc := 34) dX10_order_34 rfl ?_
          exact K_5
      · have q := Decidable.not_not.mp q
        rw [if_pos q] at k
        refine AW.bipush (pc := 21) dX10_order_21 rfl ⟨by decide, by decide⟩ ?_
        refine AW.iret (pc := 23) dX10_order_23 rfl ?_
        exact k
    · skip
      rw [if_neg q] at k
      refine AW.iconst (pc := 12) dX10_order_12 ⟨by decide, by decide⟩ ?_
      refine AW.iret (pc := 13) dX10_order_13 rfl ?_
      exact k
set_option maxRecDepth 100000 in
set_option maxHeartbeats 4000000 in
theorem e_X10_readsTask {a1 : Int} {h : aH} {Q : aQ} (H : (((if (h 85 11) = 0 then (0 : Int) else (if 6 ≤ a1 then (0 : Int) else (if 24 ≤ (h 85 13) then (0 : Int) else (1 : Int)))) = 0 → Q 0 (a_up h 85 11 (if (h 85 11) = 0 then (0 : Int) else (if 6 ≤ a1 then (0 : Int) else (if 24 ≤ (h 85 13) then (0 : Int) else (1 : Int)))))) ∧ (¬ ((if (h 85 11) = 0 then (0 : Int) else (if 6 ≤ a1 then (0 : Int) else (if 24 ≤ (h 85 13) then (0 : Int) else (1 : Int)))) = 0) → o_X10_isFigure (a_up h 85 11 (if (h 85 11) = 0 then (0 : Int) else (if 6 ≤ a1 then (0 : Int) else (if 24 ≤ (h 85 13) then (0 : Int) else (1 : Int))))) 0 4 ∧ aRun mX10_must 0 [aR 85, aI (f_X10_isFigure (a_up h 85 11 (if (h 85 11) = 0 then (0 : Int) else (if 6 ≤ a1 then (0 : Int) else (if 24 ≤ (h 85 13) then (0 : Int) else (1 : Int))))) 0 4)] (a_up h 85 11 (if (h 85 11) = 0 then (0 : Int) else (if 6 ≤ a1 then (0 : Int) else (if 24 ≤ (h 85 13) then (0 : Int) else (1 : Int))))) (fun r1 h2 => o_X10_is h2 32 ∧ aRun mX10_must 0 [aR 85, aI (f_X10_is h2 32)] h2 (fun r3 h4 => o_X10_isFigure h4 1 9 ∧ aRun mX10_must 0 [aR 85, aI (f_X10_isFigure h4 1 9)] h4 (fun r5 h6 => (((h6 85 11) = 0 → Q 0 h6) ∧ (¬ ((h6 85 11) = 0) → (0 ≤ (h6 85 13) ∧ (h6 85 13) < 24) ∧ inR ((h6 85 10) - 3) ∧ (0 ≤ ((h6 85 10) - 3) ∧ ((h6 85 10) - 3) < 140) ∧ inR ((h6 92 ((h6 85 10) - 3)) - 48) ∧ inR ((h6 85 10) - 1) ∧ (0 ≤ ((h6 85 10) - 1) ∧ ((h6 85 10) - 1) < 140) ∧ inR ((h6 92 ((h6 85 10) - 1)) - 48) ∧ o_X10_isFigure (a_up (a_up (a_up h6 93 (h6 85 13) (h6 85 12)) 94 (h6 85 13) ((h6 92 ((h6 85 10) - 3)) - 48)) 95 (h6 85 13) ((h6 92 ((h6 85 10) - 1)) - 48)) 0 9 ∧ (((f_X10_isFigure (a_up (a_up (a_up h6 93 (h6 85 13) (h6 85 12)) 94 (h6 85 13) ((h6 92 ((h6 85 10) - 3)) - 48)) 95 (h6 85 13) ((h6 92 ((h6 85 10) - 1)) - 48)) 0 9) = 0 → inR ((h6 85 13) + 1) ∧ Q 0 (a_up (a_up (a_up (a_up h6 93 (h6 85 13) (h6 85 12)) 94 (h6 85 13) ((h6 92 ((h6 85 10) - 3)) - 48)) 95 (h6 85 13) ((h6 92 ((h6 85 10) - 1)) - 48)) 85 13 ((h6 85 13) + 1))) ∧ (¬ ((f_X10_isFigure (a_up (a_up (a_up h6 93 (h6 85 13) (h6 85 12)) 94 (h6 85 13) ((h6 92 ((h6 85 10) - 3)) - 48)) 95 (h6 85 13) ((h6 92 ((h6 85 10) - 1)) - 48)) 0 9) = 0) → inR (10 * ((h6 92 ((h6 85 10) - 1)) - 48)) ∧ (0 ≤ (h6 85 10) ∧ (h6 85 10) < 140) ∧ inR ((10 * ((h6 92 ((h6 85 10) - 1)) - 48)) + (h6 92 (h6 85 10))) ∧ inR (((10 * ((h6 92 ((h6 85 10) - 1)) - 48)) + (h6 92 (h6 85 10))) - 48) ∧ inR ((h6 85 10) + 1) ∧ inR ((h6 85 13) + 1) ∧ Q 0 (a_up (a_up (a_up (a_up (a_up (a_up h6 93 (h6 85 13) (h6 85 12)) 94 (h6 85 13) ((h6 92 ((h6 85 10) - 3)) - 48)) 95 (h6 85 13) ((h6 92 ((h6 85 10) - 1)) - 48)) 95 (h6 85 13) (((10 * ((h6 92 ((h6 85 10) - 1)) - 48)) + (h6 92 (h6 85 10))) - 48)) 85 10 ((h6 85 10) + 1)) 85 13 ((h6 85 13) + 1)))))))))))) : aRun mX10_readsTask 2 [aR 85, aI a1] h Q := by
  refine aRun.of pn_10 rfl (Nat.le_of_ble_eq_true rfl) ?_
  show AW mX10_readsTask 2 0 [some (aR 85), some (aI a1)] [] h Q
  refine AW.aload_n (pc := 0) dX10_readsTask_0 rfl ?_
  refine AW.aload_n (pc := 1) dX10_readsTask_1 rfl ?_
  refine AW.geti' (k := 11) (j := 11) (pc := 2) dX10_readsTask_2 ac_10 sh_85 rfl (by decide) fl_10_118 rfl (v := (h 85 11)) rfl ?_
  have K_1 : AW mX10_readsTask 2 28 [some (aR 85), some (aI a1)] [aI (if (h 85 11) = 0 then (0 : Int) else (if 6 ≤ a1 then (0 : Int) else (if 24 ≤ (h 85 13) then (0 : Int) else (1 : Int)))), aR 85] h Q := by
    have H_2 := H
    refine AW.puti' (k := 11) (j := 11) (pc := 28) dX10_readsTask_28 ac_10 sh_85 rfl (by decide) fl_10_118 rfl rfl (tyX10_ok 11 (by decide)) (Or.inr ⟨rfl, (a_ite01 (Or.inl rfl) (a_ite01 (Or.inl rfl) (a_ite01 (Or.inl rfl) (Or.inr rfl))))⟩) ?_
    refine AW.aload_n (pc := 31) dX10_readsTask_31 rfl ?_
    refine AW.geti' (k := 11) (j := 11) (pc := 32) dX10_readsTask_32 ac_10 sh_85 rfl (by decide) fl_10_118 rfl (v := (if (h 85 11) = 0 then (0 : Int) else (if 6 ≤ a1 then (0 : Int) else (if 24 ≤ (h 85 13) then (0 : Int) else (1 : Int))))) (by rw [a_up_eq]) ?_
    refine AW.if_ne (tgt := 39) (pc := 35) dX10_readsTask_35 rfl (fun q => ?_) (fun q => ?_)
    · skip
      have H_4 := H_2.2 q
      refine AW.aload_n (pc := 39) dX10_readsTask_39 rfl ?_
      refine AW.aload_n (pc := 40) dX10_readsTask_40 rfl ?_
      refine AW.iconst (pc := 41) dX10_readsTask_41 ⟨by decide, by decide⟩ ?_
      refine AW.iconst (pc := 42) dX10_readsTask_42 ⟨by decide, by decide⟩ ?_
      refine AW.callVi (M' := mX10_isFigure) (F' := 1) (as := [aI 0, aI 4]) (pc := 43) dX10_readsTask_43 (by decide) kX10_isFigure ml_10_125 ob_85 rfl npX10_isFigure (Nat.le_of_ble_eq_true rfl) (p_X10_isFigure (H_4.1) ?_)
      refine AW.callVv (M' := mX10_must) (F' := 0) (as := [aI (f_X10_isFigure (a_up h 85 11 (if (h 85 11) = 0 then (0 : Int) else (if 6 ≤ a1 then (0 : Int) else (if 24 ≤ (h 85 13) then (0 : Int) else (1 : Int))))) 0 4)]) (pc := 46) dX10_readsTask_46 (by decide) kX10_must ml_10_129 ob_85 rfl npX10_must (Nat.le_of_ble_eq_true rfl) (aRun.mono (fun r1 h2 H_5 => ?_) H_4.2)
      refine AW.aload_n (pc := 49) dX10_readsTask_49 rfl ?_
      refine AW.aload_n (pc := 50) dX10_readsTask_50 rfl ?_
      refine AW.bipush (pc := 51) dX10_readsTask_51 rfl ⟨by decide, by decide⟩ ?_
      refine AW.callVi (M' := mX10_is) (F' := 0) (as := [aI 32]) (pc := 53) dX10_readsTask_53 (by decide) kX10_is ml_10_133 ob_85 rfl npX10_is (Nat.le_of_ble_eq_true rfl) (p_X10_is (H_5.1) ?_)
      refine AW.callVv (M' := mX10_must) (F' := 0) (as := [aI (f_X10_is h2 32)]) (pc := 56) dX10_readsTask_56 (by decide) kX10_must ml_10_129 ob_85 rfl npX10_must (Nat.le_of_ble_eq_true rfl) (aRun.mono (fun r3 h4 H_6 => ?_) H_5.2)
      refine AW.aload_n (pc := 59) dX10_readsTask_59 rfl ?_
      refine AW.aload_n (pc := 60) dX10_readsTask_60 rfl ?_
      refine AW.iconst (pc := 61) dX10_readsTask_61 ⟨by decide, by decide⟩ ?_
      refine AW.bipush (pc := 62) dX10_readsTask_62 rfl ⟨by decide, by decide⟩ ?_
      refine AW.callVi (M' := mX10_isFigure) (F' := 1) (as := [aI 1, aI 9]) (pc := 64) dX10_readsTask_64 (by decide) kX10_isFigure ml_10_125 ob_85 rfl npX10_isFigure (Nat.le_of_ble_eq_true rfl) (p_X10_isFigure (H_6.1) ?_)
      refine AW.callVv (M' := mX10_must) (F' := 0) (as := [aI (f_X10_isFigure h4 1 9)]) (pc := 67) dX10_readsTask_67 (by decide) kX10_must ml_10_129 ob_85 rfl npX10_must (Nat.le_of_ble_eq_true rfl) (aRun.mono (fun r5 h6 H_7 => ?_) H_6.2)
      refine AW.aload_n (pc := 70) dX10_readsTask_70 rfl ?_
      refine AW.geti' (k := 11) (j := 11) (pc := 71) dX10_readsTask_71 ac_10 sh_85 rfl (by decide) fl_10_118 rfl (v := (h6 85 11)) rfl ?_
      refine AW.if_ne (tgt := 78) (pc := 74) dX10_readsTask_74 rfl (fun q => ?_) (fun q => ?_)
      · skip
        have H_8 := H_7.2 q
        refine AW.aload_n (pc := 78) dX10_readsTask_78 rfl ?_
        refine AW.getr (k := 14) (pc := 79) dX10_readsTask_79 ac_10 sh_85 rfl (by decide) fl_10_31 ?_
        refine AW.aload_n (pc := 82) dX10_readsTask_82 rfl ?_
        refine AW.geti' (k := 13) (j := 13) (pc := 83) dX10_readsTask_83 ac_10 sh_85 rfl (by decide) fl_10_122 rfl (v := (h6 85 13)) rfl ?_
        refine AW.aload_n (pc := 86) dX10_readsTask_86 rfl ?_
        refine AW.geti' (k := 12) (j := 12) (pc := 87) dX10_readsTask_87 ac_10 sh_85 rfl (by decide) fl_10_137 rfl (v := (h6 85 12)) rfl ?_
        refine AW.iast (pc := 90) dX10_readsTask_90 sh_93 (H_8.1) ?_
        refine AW.aload_n (pc := 91) dX10_readsTask_91 rfl ?_
        refine AW.getr (k := 15) (pc := 92) dX10_readsTask_92 ac_10 sh_85 rfl (by decide) fl_10_34 ?_
        refine AW.aload_n (pc := 95) dX10_readsTask_95 rfl ?_
        refine AW.geti' (k := 13) (j := 13) (pc := 96) dX10_readsTask_96 ac_10 sh_85 rfl (by decide) fl_10_122 rfl (v := (h6 85 13)) (by rw [a_up_ne (by decide)]) ?_
        refine AW.aload_n (pc := 99) dX10_readsTask_99 rfl ?_
        refine AW.getr (k := 8) (pc := 100) dX10_readsTask_100 ac_10 sh_85 rfl (by decide) fl_10_28 ?_
        refine AW.aload_n (pc := 103) dX10_readsTask_103 rfl ?_
        refine AW.geti' (k := 10) (j := 10) (pc := 104) dX10_readsTask_104 ac_10 sh_85 rfl (by decide) fl_10_115 rfl (v := (h6 85 10)) (by rw [a_up_ne (by decide)]) ?_
        refine AW.iconst (pc := 107) dX10_readsTask_107 ⟨by decide, by decide⟩ ?_
        refine AW.isub (pc := 108) dX10_readsTask_108 (H_8.2.1) ?_
        refine AW.iald (pc := 109) dX10_readsTask_109 sh_92 (H_8.2.2.1) (v := (h6 92 ((h6 85 10) - 3))) (by rw [a_up_ne (by decide)]) ?_
        refine AW.bipush (pc := 110) dX10_readsTask_110 rfl ⟨by decide, by decide⟩ ?_
        refine AW.isub (pc := 112) dX10_readsTask_112 (H_8.2.2.2.1) ?_
        refine AW.iast (pc := 113) dX10_readsTask_113 sh_94 (H_8.1) ?_
        refine AW.aload_n (pc := 114) dX10_readsTask_114 rfl ?_
        refine AW.getr (k := 16) (pc := 115) dX10_readsTask_115 ac_10 sh_85 rfl (by decide) fl_10_37 ?_
        refine AW.aload_n (pc := 118) dX10_readsTask_118 rfl ?_
        refine AW.geti' (k := 13) (j := 13) (pc := 119) dX10_readsTask_119 ac_10 sh_85 rfl (by decide) fl_10_122 rfl (v := (h6 85 13)) (by rw [a_up_ne (by decide), a_up_ne (by decide)]) ?_
        refine AW.aload_n (pc := 122) dX10_readsTask_122 rfl ?_
        refine AW.getr (k := 8) (pc := 123) dX10_readsTask_123 ac_10 sh_85 rfl (by decide) fl_10_28 ?_
        refine AW.aload_n (pc := 126) dX10_readsTask_126 rfl ?_
        refine AW.geti' (k := 10) (j := 10) (pc := 127) dX10_readsTask_127 ac_10 sh_85 rfl (by decide) fl_10_115 rfl (v := (h6 85 10)) (by rw [a_up_ne (by decide), a_up_ne (by decide)]) ?_
        refine AW.iconst (pc := 130) dX10_readsTask_130 ⟨by decide, by decide⟩ ?_
        refine AW.isub (pc := 131) dX10_readsTask_131 (H_8.2.2.2.2.1) ?_
        refine AW.iald (pc := 132) dX10_readsTask_132 sh_92 (H_8.2.2.2.2.2.1) (v := (h6 92 ((h6 85 10) - 1))) (by rw [a_up_ne (by decide), a_up_ne (by decide)]) ?_
        refine AW.bipush (pc := 133) dX10_readsTask_133 rfl ⟨by decide, by decide⟩ ?_
        refine AW.isub (pc := 135) dX10_readsTask_135 (H_8.2.2.2.2.2.2.1) ?_
        refine AW.iast (pc := 136) dX10_readsTask_136 sh_95 (H_8.1) ?_
        refine AW.aload_n (pc := 137) dX10_readsTask_137 rfl ?_
        refine AW.iconst (pc := 138) dX10_readsTask_138 ⟨by decide, by decide⟩ ?_
        refine AW.bipush (pc := 139) dX10_readsTask_139 rfl ⟨by decide, by decide⟩ ?_
        refine AW.callVi (M' := mX10_isFigure) (F' := 1) (as := [aI 0, aI 9]) (pc := 141) dX10_readsTask_141 (by decide) kX10_isFigure ml_10_125 ob_85 rfl npX10_isFigure (Nat.le_of_ble_eq_true rfl) (p_X10_isFigure (H_8.2.2.2.2.2.2.2.1) ?_)
        refine AW.if_eq (tgt := 191) (pc := 144) dX10_readsTask_144 rfl (fun q => ?_) (fun q => ?_)
        · skip
          have H_9 := H_8.2.2.2.2.2.2.2.2.1 q
          refine AW.aload_n (pc := 191) dX10_readsTask_191 rfl ?_
          refine AW.dup (pc := 192) dX10_readsTask_192 rfl ?_
          refine AW.geti' (k := 13) (j := 13) (pc := 193) dX10_readsTask_193 ac_10 sh_85 rfl (by decide) fl_10_122 rfl (v := (h6 85 13)) (by rw [a_up_ne (by decide), a_up_ne (by decide), a_up_ne (by decide)]) ?_
          refine AW.iconst (pc := 196) dX10_readsTask_196 ⟨by decide, by decide⟩ ?_
          refine AW.iadd (pc := 197) dX10_readsTask_197 (H_9.1) ?_
          refine AW.puti' (k := 13) (j := 13) (pc := 198) dX10_readsTask_198 ac_10 sh_85 rfl (by decide) fl_10_122 rfl rfl (tyX10_ok 13 (by decide)) (Or.inl rfl) ?_
          refine AW.vret (pc := 201) dX10_readsTask_201 rfl ?_
          exact H_9.2
        · skip
          have H_10 := H_8.2.2.2.2.2.2.2.2.2 q
          refine AW.aload_n (pc := 147) dX10_readsTask_147 rfl ?_
          refine AW.getr (k := 16) (pc := 148) dX10_readsTask_148 ac_10 sh_85 rfl (by decide) fl_10_37 ?_
          refine AW.aload_n (pc := 151) dX10_readsTask_151 rfl ?_
          refine AW.geti' (k := 13) (j := 13) (pc := 152) dX10_readsTask_152 ac_10 sh_85 rfl (by decide) fl_10_122 rfl (v := (h6 85 13)) (by rw [a_up_ne (by decide), a_up_ne (by decide), a_up_ne (by decide)]) ?_
          refine AW.bipush (pc := 155) dX10_readsTask_155 rfl ⟨by decide, by decide⟩ ?_
          refine AW.aload_n (pc := 157) dX10_readsTask_157 rfl ?_
          refine AW.getr (k := 16) (pc := 158) dX10_readsTask_158 ac_10 sh_85 rfl (by decide) fl_10_37 ?_
          refine AW.aload_n (pc := 161) dX10_readsTask_161 rfl ?_
          refine AW.geti' (k := 13) (j := 13) (pc := 162) dX10_readsTask_162 ac_10 sh_85 rfl (by decide) fl_10_122 rfl (v := (h6 85 13)) (by rw [a_up_ne (by decide), a_up_ne (by decide), a_up_ne (by decide)]) ?_
          refine AW.iald (pc := 165) dX10_readsTask_165 sh_95 (H_8.1) (v := ((h6 92 ((h6 85 10) - 1)) - 48)) (by rw [a_up_eq]) ?_
          refine AW.imul (pc := 166) dX10_readsTask_166 (H_10.1) ?_
          refine AW.aload_n (pc := 167) dX10_readsTask_167 rfl ?_
          refine AW.getr (k := 8) (pc := 168) dX10_readsTask_168 ac_10 sh_85 rfl (by decide) fl_10_28 ?_
          refine AW.aload_n (pc := 171) dX10_readsTask_171 rfl ?_
          refine AW.geti' (k := 10) (j := 10) (pc := 172) dX10_readsTask_172 ac_10 sh_85 rfl (by decide) fl_10_115 rfl (v := (h6 85 10)) (by rw [a_up_ne (by decide), a_up_ne (by decide), a_up_ne (by decide)]) ?_
          refine AW.iald (pc := 175) dX10_readsTask_175 sh_92 (H_10.2.1) (v := (h6 92 (h6 85 10))) (by rw [a_up_ne (by decide), a_up_ne (by decide), a_up_ne (by decide)]) ?_
          refine AW.iadd (pc := 176) dX10_readsTask_176 (H_10.2.2.1) ?_
          refine AW.bipush (pc := 177) dX10_readsTask_177 rfl ⟨by decide, by decide⟩ ?_
          refine AW.isub (pc := 179) dX10_readsTask_179 (H_10.2.2.2.1) ?_
          refine AW.iast (pc := 180) dX10_readsTask_180 sh_95 (H_8.1) ?_
          refine AW.aload_n (pc := 181) dX10_readsTask_181 rfl ?_
          refine AW.dup (pc := 182) dX10_readsTask_182 rfl ?_
          refine AW.geti' (k := 10) (j := 10) (pc := 183) dX10_readsTask_183 ac_10 sh_85 rfl (by decide) fl_10_115 rfl (v := (h6 85 10)) (by rw [a_up_ne (by decide), a_up_ne (by decide), a_up_ne (by decide), a_up_ne (by decide)]) ?_
          refine AW.iconst (pc := 186) dX10_readsTask_186 ⟨by decide, by decide⟩ ?_
          refine AW.iadd (pc := 187) dX10_readsTask_187 (H_10.2.2.2.2.1) ?_
          refine AW.puti' (k := 10) (j := 10) (pc := 188) dX10_readsTask_188 ac_10 sh_85 rfl (by decide) fl_10_115 rfl rfl (tyX10_ok 10 (by decide)) (Or.inl rfl) ?_
          refine AW.aload_n (pc := 191) dX10_readsTask_191 rfl ?_
          refine AW.dup (pc := 192) dX10_readsTask_192 rfl ?_
          refine AW.geti' (k := 13) (j := 13) (pc := 193) dX10_readsTask_193 ac_10 sh_85 rfl (by decide) fl_10_122 rfl (v := (h6 85 13)) (by rw [a_up_off (by decide), a_up_ne (by decide), a_up_ne (by decide), a_up_ne (by decide), a_up_ne (by decide)]) ?_
          refine AW.iconst (pc := 196) dX10_readsTask_196 ⟨by decide, by decide⟩ ?_
          refine AW.iadd (pc := 197) dX10_readsTask_197 (H_10.2.2.2.2.2.1) ?_
          refine AW.puti' (k := 13) (j := 13) (pc := 198) dX10_readsTask_198 ac_10 sh_85 rfl (by decide) fl_10_122 rfl rfl (tyX10_ok 13 (by decide)) (Or.inl rfl) ?_
          refine AW.vret (pc := 201) dX10_readsTask_201 rfl ?_
          exact H_10.2.2.2.2.2.2
      · have q := Decidable.not_not.mp q
        have H_11 := H_7.1 q
        refine AW.vret (pc := 77) dX10_readsTask_77 rfl ?_
        exact H_11
    · have q := Decidable.not_not.mp q
      have H_12 := H_2.1 q
      refine AW.vret (pc := 38) dX10_readsTask_38 rfl ?_
      exact H_12
  refine AW.if_eq (tgt := 27) (pc := 5) dX10_readsTask_5 rfl (fun q => ?_) (fun q => ?_)
  · skip
    rw [if_pos q] at K_1
    refine AW.iconst (pc := 27) dX10_readsTask_27 ⟨by decide, by decide⟩ ?_
    exact K_1
  · skip
    rw [if_neg q] at K_1
    refine AW.iload_n (pc := 8) dX10_readsTask_8 rfl ?_
    refine AW.bipush (pc := 9) dX10_readsTask_9 rfl ⟨by decide, by decide⟩ ?_
    refine AW.icmp_ge (tgt := 27) (pc := 11) dX10_readsTask_11 rfl (fun q => ?_) (fun q => ?_)
    · skip
      rw [if_pos q] at K_1
      refine AW.iconst (pc := 27) dX10_readsTask_27 ⟨by decide, by decide⟩ ?_
      exact K_1
    · skip
      rw [if_neg q] at K_1
      refine AW.aload_n (pc := 14) dX10_readsTask_14 rfl ?_
      refine AW.geti' (k := 13) (j := 13) (pc := 15) dX10_readsTask_15 ac_10 sh_85 rfl (by decide) fl_10_122 rfl (v := (h 85 13)) rfl ?_
      refine AW.bipush (pc := 18) dX10_readsTask_18 rfl ⟨by decide, by decide⟩ ?_
      refine AW.icmp_ge (tgt := 27) (pc := 20) dX10_readsTask_20 rfl (fun q => ?_) (fun q => ?_)
      · skip
        rw [if_pos q] at K_1
        refine AW.iconst (pc := 27) dX10_readsTask_27 ⟨by decide, by decide⟩ ?_
        exact K_1
      · skip
        rw [if_neg q] at K_1
        refine AW.iconst (pc := 23) dX10_readsTask_23 ⟨by decide, by decide⟩ ?_
        refine AW.goto (tgt := 28) (pc := 24) dX10_readsTask_24 rfl ?_
        exact K_1
set_option maxRecDepth 100000 in
set_option maxHeartbeats 4000000 in
theorem e_X10_readsJob  {h : aH} {Q : aQ} (H : AW mX10_readsJob 3 32 [some (aR 85), some (aI 0), some (aI (if (h 85 11) = 0 then (0 : Int) else (if 6 ≤ (h 85 12) then (0 : Int) else (1 : Int))))] [] (a_up h 85 11 (if (h 85 11) = 0 then (0 : Int) else (if 6 ≤ (h 85 12) then (0 : Int) else (1 : Int)))) Q) : aRun mX10_readsJob 3 [aR 85] h Q := by
  refine aRun.of pn_10 rfl (Nat.le_of_ble_eq_true rfl) ?_
  show AW mX10_readsJob 3 0 [some (aR 85), none, none] [] h Q
  refine AW.aload_n (pc := 0) dX10_readsJob_0 rfl ?_
  refine AW.aload_n (pc := 1) dX10_readsJob_1 rfl ?_
  refine AW.geti' (k := 11) (j := 11) (pc := 2) dX10_readsJob_2 ac_10 sh_85 rfl (by decide) fl_10_118 rfl (v := (h 85 11)) rfl ?_
  have K_1 : AW mX10_readsJob 3 22 [some (aR 85), none, none] [aI (if (h 85 11) = 0 then (0 : Int) else (if 6 ≤ (h 85 12) then (0 : Int) else (1 : Int))), aR 85] h Q := by
    have H_2 := H
    refine AW.puti' (k := 11) (j := 11) (pc := 22) dX10_readsJob_22 ac_10 sh_85 rfl (by decide) fl_10_118 rfl rfl (tyX10_ok 11 (by decide)) (Or.inr ⟨rfl, (a_ite01 (Or.inl rfl) (a_ite01 (Or.inl rfl) (Or.inr rfl)))⟩) ?_
    refine AW.iconst (pc := 25) dX10_readsJob_25 ⟨by decide, by decide⟩ ?_
    refine AW.istore_n (pc := 26) dX10_readsJob_26 (by decide) rfl ?_
    refine AW.aload_n (pc := 27) dX10_readsJob_27 rfl ?_
    refine AW.geti' (k := 11) (j := 11) (pc := 28) dX10_readsJob_28 ac_10 sh_85 rfl (by decide) fl_10_118 rfl (v := (if (h 85 11) = 0 then (0 : Int) else (if 6 ≤ (h 85 12) then (0 : Int) else (1 : Int)))) (by rw [a_up_eq]) ?_
    refine AW.istore_n (pc := 31) dX10_readsJob_31 (by decide) rfl ?_
    exact H_2
  refine AW.if_eq (tgt := 21) (pc := 5) dX10_readsJob_5 rfl (fun q => ?_) (fun q => ?_)
  · skip
    rw [if_pos q] at K_1
    refine AW.iconst (pc := 21) dX10_readsJob_21 ⟨by decide, by decide⟩ ?_
    exact K_1
  · skip
    rw [if_neg q] at K_1
    refine AW.aload_n (pc := 8) dX10_readsJob_8 rfl ?_
    refine AW.geti' (k := 12) (j := 12) (pc := 9) dX10_readsJob_9 ac_10 sh_85 rfl (by decide) fl_10_137 rfl (v := (h 85 12)) rfl ?_
    refine AW.bipush (pc := 12) dX10_readsJob_12 rfl ⟨by decide, by decide⟩ ?_
    refine AW.icmp_ge (tgt := 21) (pc := 14) dX10_readsJob_14 rfl (fun q => ?_) (fun q => ?_)
    · skip
      rw [if_pos q] at K_1
      refine AW.iconst (pc := 21) dX10_readsJob_21 ⟨by decide, by decide⟩ ?_
      exact K_1
    · skip
      rw [if_neg q] at K_1
      refine AW.iconst (pc := 17) dX10_readsJob_17 ⟨by decide, by decide⟩ ?_
      refine AW.goto (tgt := 22) (pc := 18) dX10_readsJob_18 rfl ?_
      exact K_1
set_option maxRecDepth 100000 in
set_option maxHeartbeats 4000000 in
theorem s_X10_readsJob_32  {l1 l2 : Int} {h : aH} {Q : aQ} (H : ((l2 = 0 → inR ((h 85 12) + 1) ∧ Q 0 (a_up h 85 12 ((h 85 12) + 1))) ∧ (¬ (l2 = 0) → aRun mX10_readsTask 2 [aR 85, aI l1] h (fun r1 h2 => inR (l1 + 1) ∧ ((¬ ((h2 85 11) = 0) → o_X10_is h2 44) ∧ inR ((h2 85 10) + (if (if (h2 85 11) = 0 then (0 : Int) else (if (f_X10_is h2 44) = 0 then (0 : Int) else (1 : Int))) = 0 then (0 : Int) else (1 : Int))) ∧ AW mX10_readsJob 3 32 [some (aR 85), some (aI (l1 + 1)), some (aI (if (h2 85 11) = 0 then (0 : Int) else (if (f_X10_is h2 44) = 0 then (0 : Int) else (1 : Int))))] [] (a_up h2 85 10 ((h2 85 10) + (if (if (h2 85 11) = 0 then (0 : Int) else (if (f_X10_is h2 44) = 0 then (0 : Int) else (1 : Int))) = 0 then (0 : Int) else (1 : Int)))) Q))))) : AW mX10_readsJob 3 32 [some (aR 85), some (aI l1), some (aI l2)] [] h Q := by
  refine AW.iload_n (pc := 32) dX10_readsJob_32 rfl ?_
  refine AW.if_eq (tgt := 87) (pc := 33) dX10_readsJob_33 rfl (fun q => ?_) (fun q => ?_)
  · skip
    have H_1 := H.1 q
    refine AW.aload_n (pc := 87) dX10_readsJob_87 rfl ?_
    refine AW.dup (pc := 88) dX10_readsJob_88 rfl ?_
    refine AW.geti' (k := 12) (j := 12) (pc := 89) dX10_readsJob_89 ac_10 sh_85 rfl (by decide) fl_10_137 rfl (v := (h 85 12)) rfl ?_
    refine AW.iconst (pc := 92) dX10_readsJob_92 ⟨by decide, by decide⟩ ?_
    refine AW.iadd (pc := 93) dX10_readsJob_93 (H_1.1) ?_
    refine AW.puti' (k := 12) (j := 12) (pc := 94) dX10_readsJob_94 ac_10 sh_85 rfl (by decide) fl_10_137 rfl rfl (tyX10_ok 12 (by decide)) (Or.inl rfl) ?_
    refine AW.vret (pc := 97) dX10_readsJob_97 rfl ?_
    exact H_1.2
  · skip
    have H_2 := H.2 q
    refine AW.aload_n (pc := 36) dX10_readsJob_36 rfl ?_
    refine AW.iload_n (pc := 37) dX10_readsJob_37 rfl ?_
    refine AW.callVv (M' := mX10_readsTask) (F' := 2) (as := [aI l1]) (pc := 38) dX10_readsJob_38 (by decide) kX10_readsTask ml_10_140 ob_85 rfl npX10_readsTask (Nat.le_of_ble_eq_true rfl) (aRun.mono (fun r1 h2 H_3 => ?_) H_2)
    refine AW.iinc (pc := 41) dX10_readsJob_41 rfl (by decide) rfl (H_3.1) ?_
    refine AW.aload_n (pc := 44) dX10_readsJob_44 rfl ?_
    refine AW.geti' (k := 11) (j := 11) (pc := 45) dX10_readsJob_45 ac_10 sh_85 rfl (by decide) fl_10_118 rfl (v := (h2 85 11)) rfl ?_
    have K_4 : AW mX10_readsJob 3 65 [some (aR 85), some (aI (l1 + 1)), some (aI l2)] [aI (if (h2 85 11) = 0 then (0 : Int) else (if (f_X10_is h2 44) = 0 then (0 : Int) else (1 : Int)))] h2 Q := by
      have H_5 := H_3.2.2
      refine AW.istore_n (pc := 65) dX10_readsJob_65 (by decide) rfl ?_
      refine AW.aload_n (pc := 66) dX10_readsJob_66 rfl ?_
      refine AW.dup (pc := 67) dX10_readsJob_67 rfl ?_
      refine AW.geti' (k := 10) (j := 10) (pc := 68) dX10_readsJob_68 ac_10 sh_85 rfl (by decide) fl_10_115 rfl (v := (h2 85 10)) rfl ?_
      refine AW.iload_n (pc := 71) dX10_readsJob_71 rfl ?_
      have K_7 : AW mX10_readsJob 3 80 [some (aR 85), some (aI (l1 + 1)), some (aI (if (h2 85 11) = 0 then (0 : Int) else (if (f_X10_is h2 44) = 0 then (0 : Int) else (1 : Int))))] [aI (if (if (h2 85 11) = 0 then (0 : Int) else (if (f_X10_is h2 44) = 0 then (0 : Int) else (1 : Int))) = 0 then (0 : Int) else (1 : Int)), aI (h2 85 10), aR 85] h2 Q := by
        have H_8 := H_5
        refine AW.iadd (pc := 80) dX10_readsJob_80 (H_8.1) ?_
        refine AW.puti' (k := 10) (j := 10) (pc := 81) dX10_readsJob_81 ac_10 sh_85 rfl (by decide) fl_10_115 rfl rfl (tyX10_ok 10 (by decide)) (Or.inl rfl) ?_
        refine AW.goto (tgt := 32) (pc := 84) dX10_readsJob_84 rfl ?_
        exact H_8.2
      refine AW.if_eq (tgt := 79) (pc := 72) dX10_readsJob_72 rfl (fun q => ?_) (fun q => ?_)
      · skip
        rw [if_pos q] at K_7
        refine AW.iconst (pc := 79) dX10_readsJob_79 ⟨by decide, by decide⟩ ?_
        exact K_7
      · skip
        rw [if_neg q] at K_7
        refine AW.iconst (pc := 75) dX10_readsJob_75 ⟨by decide, by decide⟩ ?_
        refine AW.goto (tgt := 80) (pc := 76) dX10_readsJob_76 rfl ?_
        exact K_7
    have H_6 := H_3.2.1
    refine AW.if_eq (tgt := 64) (pc := 48) dX10_readsJob_48 rfl (fun q => ?_) (fun q => ?_)
    · skip
      rw [if_pos q] at K_4
      refine AW.iconst (pc := 64) dX10_readsJob_64 ⟨by decide, by decide⟩ ?_
      exact K_4
    · skip
      have H_13 := H_6 q
      rw [if_neg q] at K_4
      refine AW.aload_n (pc := 51) dX10_readsJob_51 rfl ?_
      refine AW.bipush (pc := 52) dX10_readsJob_52 rfl ⟨by decide, by decide⟩ ?_
      refine AW.callVi (M' := mX10_is) (F' := 0) (as := [aI 44]) (pc := 54) dX10_readsJob_54 (by decide) kX10_is ml_10_133 ob_85 rfl npX10_is (Nat.le_of_ble_eq_true rfl) (p_X10_is H_13 ?_)
      refine AW.if_eq (tgt := 64) (pc := 57) dX10_readsJob_57 rfl (fun q => ?_) (fun q => ?_)
      · skip
        rw [if_pos q] at K_4
        refine AW.iconst (pc := 64) dX10_readsJob_64 ⟨by decide, by decide⟩ ?_
        exact K_4
      · skip
        rw [if_neg q] at K_4
        refine AW.iconst (pc := 60) dX10_readsJob_60 ⟨by decide, by decide⟩ ?_
        refine AW.goto (tgt := 65) (pc := 61) dX10_readsJob_61 rfl ?_
        exact K_4
set_option maxRecDepth 100000 in
set_option maxHeartbeats 4000000 in
theorem e_X10_readsAll  {h : aH} {Q : aQ} (H : AW mX10_readsAll 4 22 [some (aR 85), some (aI 1)] [] (a_up (a_up (a_up (a_up h 85 10 0) 85 11 1) 85 12 0) 85 13 0) Q) : aRun mX10_readsAll 4 [aR 85] h Q := by
  refine aRun.of pn_10 rfl (Nat.le_of_ble_eq_true rfl) ?_
  show AW mX10_readsAll 4 0 [some (aR 85), none] [] h Q
  refine AW.aload_n (pc := 0) dX10_readsAll_0 rfl ?_
  refine AW.iconst (pc := 1) dX10_readsAll_1 ⟨by decide, by decide⟩ ?_
  refine AW.puti' (k := 10) (j := 10) (pc := 2) dX10_readsAll_2 ac_10 sh_85 rfl (by decide) fl_10_115 rfl rfl (tyX10_ok 10 (by decide)) (Or.inl rfl) ?_
  refine AW.aload_n (pc := 5) dX10_readsAll_5 rfl ?_
  refine AW.iconst (pc := 6) dX10_readsAll_6 ⟨by decide, by decide⟩ ?_
  refine AW.puti' (k := 11) (j := 11) (pc := 7) dX10_readsAll_7 ac_10 sh_85 rfl (by decide) fl_10_118 rfl rfl (tyX10_ok 11 (by decide)) (Or.inr ⟨rfl, (Or.inr rfl)⟩) ?_
  refine AW.aload_n (pc := 10) dX10_readsAll_10 rfl ?_
  refine AW.iconst (pc := 11) dX10_readsAll_11 ⟨by decide, by decide⟩ ?_
  refine AW.puti' (k := 12) (j := 12) (pc := 12) dX10_readsAll_12 ac_10 sh_85 rfl (by decide) fl_10_137 rfl rfl (tyX10_ok 12 (by decide)) (Or.inl rfl) ?_
  refine AW.aload_n (pc := 15) dX10_readsAll_15 rfl ?_
  refine AW.iconst (pc := 16) dX10_readsAll_16 ⟨by decide, by decide⟩ ?_
  refine AW.puti' (k := 13) (j := 13) (pc := 17) dX10_readsAll_17 ac_10 sh_85 rfl (by decide) fl_10_122 rfl rfl (tyX10_ok 13 (by decide)) (Or.inl rfl) ?_
  refine AW.iconst (pc := 20) dX10_readsAll_20 ⟨by decide, by decide⟩ ?_
  refine AW.istore_n (pc := 21) dX10_readsAll_21 (by decide) rfl ?_
  exact H
set_option maxRecDepth 100000 in
set_option maxHeartbeats 4000000 in
theorem s_X10_readsAll_22  {l1 : Int} {h : aH} {Q : aQ} (H : ((l1 = 0 → Q 0 (a_up h 85 11 (if (h 85 11) = 0 then (0 : Int) else (if (h 85 10) = (h 85 9) then (1 : Int) else (0 : Int))))) ∧ (¬ (l1 = 0) → aRun mX10_readsJob 3 [aR 85] h (fun r1 h2 => ((¬ ((h2 85 11) = 0) → o_X10_is h2 59) ∧ inR ((h2 85 10) + (if (if (h2 85 11) = 0 then (0 : Int) else (if (f_X10_is h2 59) = 0 then (0 : Int) else (1 : Int))) = 0 then (0 : Int) else (1 : Int))) ∧ AW mX10_readsAll 4 22 [some (aR 85), some (aI (if (h2 85 11) = 0 then (0 : Int) else (if (f_X10_is h2 59) = 0 then (0 : Int) else (1 : Int))))] [] (a_up h2 85 10 ((h2 85 10) + (if (if (h2 85 11) = 0 then (0 : Int) else (if (f_X10_is h2 59) = 0 then (0 : Int) else (1 : Int))) = 0 then (0 : Int) else (1 : Int)))) Q))))) : AW mX10_readsAll 4 22 [some (aR 85), some (aI l1)] [] h Q := by
  refine AW.iload_n (pc := 22) dX10_readsAll_22 rfl ?_
  refine AW.if_eq (tgt := 73) (pc := 23) dX10_readsAll_23 rfl (fun q => ?_) (fun q => ?_)
  · skip
    have H_1 := H.1 q
    refine AW.aload_n (pc := 73) dX10_readsAll_73 rfl ?_
    refine AW.aload_n (pc := 74) dX10_readsAll_74 rfl ?_
    refine AW.geti' (k := 11) (j := 11) (pc := 75) dX10_readsAll_75 ac_10 sh_85 rfl (by decide) fl_10_118 rfl (v := (h 85 11)) rfl ?_
    have K_2 : AW mX10_readsAll 4 97 [some (aR 85), some (aI l1)] [aI (if (h 85 11) = 0 then (0 : Int) else (if (h 85 10) = (h 85 9) then (1 : Int) else (0 : Int))), aR 85] h Q := by
      have H_3 := H_1
      refine AW.puti' (k := 11) (j := 11) (pc := 97) dX10_readsAll_97 ac_10 sh_85 rfl (by decide) fl_10_118 rfl rfl (tyX10_ok 11 (by decide)) (Or.inr ⟨rfl, (a_ite01 (Or.inl rfl) (a_ite01 (Or.inr rfl) (Or.inl rfl)))⟩) ?_
      refine AW.vret (pc := 100) dX10_readsAll_100 rfl ?_
      exact H_3
    refine AW.if_eq (tgt := 96) (pc := 78) dX10_readsAll_78 rfl (fun q => ?_) (fun q => ?_)
    · skip
      rw [if_pos q] at K_2
      refine AW.iconst (pc := 96) dX10_readsAll_96 ⟨by decide, by decide⟩ ?_
      exact K_2
    · skip
      rw [if_neg q] at K_2
      refine AW.aload_n (pc := 81) dX10_readsAll_81 rfl ?_
      refine AW.geti' (k := 10) (j := 10) (pc := 82) dX10_readsAll_82 ac_10 sh_85 rfl (by decide) fl_10_115 rfl (v := (h 85 10)) rfl ?_
      refine AW.aload_n (pc := 85) dX10_readsAll_85 rfl ?_
      refine AW.geti' (k := 9) (j := 9) (pc := 86) dX10_readsAll_86 ac_10 sh_85 rfl (by decide) fl_10_112 rfl (v := (h 85 9)) rfl ?_
      refine AW.icmp_ne (tgt := 96) (pc := 89) dX10_readsAll_89 rfl (fun q => ?_) (fun q => ?_)
      · skip
        rw [if_neg q] at K_2
        refine AW.iconst (pc := 96) dX10_readsAll_96 ⟨by decide, by decide⟩ ?_
        exact K_2
      · have q := Decidable.not_not.mp q
        rw [if_pos q] at K_2
        refine AW.iconst (pc := 92) dX10_readsAll_92 ⟨by decide, by decide⟩ ?_
        refine AW.goto (tgt := 97) (pc := 93) dX10_readsAll_93 rfl ?_
        exact K_2
  · skip
    have H_9 := H.2 q
    refine AW.aload_n (pc := 26) dX10_readsAll_26 rfl ?_
    refine AW.callVv (M' := mX10_readsJob) (F' := 3) (as := []) (pc := 27) dX10_readsAll_27 (by decide) kX10_readsJob ml_10_144 ob_85 rfl npX10_readsJob (Nat.le_of_ble_eq_true rfl) (aRun.mono (fun r1 h2 H_10 => ?_) H_9)
    refine AW.aload_n (pc := 30) dX10_readsAll_30 rfl ?_
    refine AW.geti' (k := 11) (j := 11) (pc := 31) dX10_readsAll_31 ac_10 sh_85 rfl (by decide) fl_10_118 rfl (v := (h2 85 11)) rfl ?_
    have K_11 : AW mX10_readsAll 4 51 [some (aR 85), some (aI l1)] [aI (if (h2 85 11) = 0 then (0 : Int) else (if (f_X10_is h2 59) = 0 then (0 : Int) else (1 : Int)))] h2 Q := by
      have H_12 := H_10.2
      refine AW.istore_n (pc := 51) dX10_readsAll_51 (by decide) rfl ?_
      refine AW.aload_n (pc := 52) dX10_readsAll_52 rfl ?_
      refine AW.dup (pc := 53) dX10_readsAll_53 rfl ?_
      refine AW.geti' (k := 10) (j := 10) (pc := 54) dX10_readsAll_54 ac_10 sh_85 rfl (by decide) fl_10_115 rfl (v := (h2 85 10)) rfl ?_
      refine AW.iload_n (pc := 57) dX10_readsAll_57 rfl ?_
      have K_14 : AW mX10_readsAll 4 66 [some (aR 85), some (aI (if (h2 85 11) = 0 then (0 : Int) else (if (f_X10_is h2 59) = 0 then (0 : Int) else (1 : Int))))] [aI (if (if (h2 85 11) = 0 then (0 : Int) else (if (f_X10_is h2 59) = 0 then (0 : Int) else (1 : Int))) = 0 then (0 : Int) else (1 : Int)), aI (h2 85 10), aR 85] h2 Q := by
        have H_15 := H_12
        refine AW.iadd (pc := 66) dX10_readsAll_66 (H_15.1) ?_
        refine AW.puti' (k := 10) (j := 10) (pc := 67) dX10_readsAll_67 ac_10 sh_85 rfl (by decide) fl_10_115 rfl rfl (tyX10_ok 10 (by decide)) (Or.inl rfl) ?_
        refine AW.goto (tgt := 22) (pc := 70) dX10_readsAll_70 rfl ?_
        exact H_15.2
      refine AW.if_eq (tgt := 65) (pc := 58) dX10_readsAll_58 rfl (fun q => ?_) (fun q => ?_)
      · skip
        rw [if_pos q] at K_14
        refine AW.iconst (pc := 65) dX10_readsAll_65 ⟨by decide, by decide⟩ ?_
        exact K_14
      · skip
        rw [if_neg q] at K_14
        refine AW.iconst (pc := 61) dX10_readsAll_61 ⟨by decide, by decide⟩ ?_
        refine AW.goto (tgt := 66) (pc := 62) dX10_readsAll_62 rfl ?_
        exact K_14
    have H_13 := H_10.1
    refine AW.if_eq (tgt := 50) (pc := 34) dX10_readsAll_34 rfl (fun q => ?_) (fun q => ?_)
    · skip
      rw [if_pos q] at K_11
      refine AW.iconst (pc := 50) dX10_readsAll_50 ⟨by decide, by decide⟩ ?_
      exact K_11
    · skip
      have H_20 := H_13 q
      rw [if_neg q] at K_11
      refine AW.aload_n (pc := 37) dX10_readsAll_37 rfl ?_
      refine AW.bipush (pc := 38) dX10_readsAll_38 rfl ⟨by decide, by decide⟩ ?_
      refine AW.callVi (M' := mX10_is) (F' := 0) (as := [aI 59]) (pc := 40) dX10_readsAll_40 (by decide) kX10_is ml_10_133 ob_85 rfl npX10_is (Nat.le_of_ble_eq_true rfl) (p_X10_is H_20 ?_)
      refine AW.if_eq (tgt := 50) (pc := 43) dX10_readsAll_43 rfl (fun q => ?_) (fun q => ?_)
      · skip
        rw [if_pos q] at K_11
        refine AW.iconst (pc := 50) dX10_readsAll_50 ⟨by decide, by decide⟩ ?_
        exact K_11
      · skip
        rw [if_neg q] at K_11
        refine AW.iconst (pc := 46) dX10_readsAll_46 ⟨by decide, by decide⟩ ?_
        refine AW.goto (tgt := 51) (pc := 47) dX10_readsAll_47 rfl ?_
        exact K_11
set_option maxRecDepth 100000 in
set_option maxHeartbeats 4000000 in
theorem e_X10_redo  {h : aH} {Q : aQ} (H : (((h 85 19) = 0 → Q (-5) h) ∧ (¬ ((h 85 19) = 0) → inR ((h 85 18) + 1) ∧ inR ((h 85 19) - 1) ∧ aRun mX10_fetches 0 [aR 85] (a_up (a_up h 85 18 ((h 85 18) + 1)) 85 19 ((h 85 19) - 1)) (fun r1 h2 => Q (h2 85 19) h2)))) : aRun mX10_redo 1 [aR 85] h Q := by
  refine aRun.of pn_10 rfl (Nat.le_of_ble_eq_true rfl) ?_
  show AW mX10_redo 1 0 [some (aR 85)] [] h Q
  refine AW.aload_n (pc := 0) dX10_redo_0 rfl ?_
  refine AW.geti' (k := 19) (j := 19) (pc := 1) dX10_redo_1 ac_10 sh_85 rfl (by decide) fl_10_162 rfl (v := (h 85 19)) rfl ?_
  refine AW.if_ne (tgt := 10) (pc := 4) dX10_redo_4 rfl (fun q => ?_) (fun q => ?_)
  · skip
    have H_1 := H.2 q
    refine AW.aload_n (pc := 10) dX10_redo_10 rfl ?_
    refine AW.dup (pc := 11) dX10_redo_11 rfl ?_
    refine AW.geti' (k := 18) (j := 18) (pc := 12) dX10_redo_12 ac_10 sh_85 rfl (by decide) fl_10_159 rfl (v := (h 85 18)) rfl ?_
    refine AW.iconst (pc := 15) dX10_redo_15 ⟨by decide, by decide⟩ ?_
    refine AW.iadd (pc := 16) dX10_redo_16 (H_1.1) ?_
    refine AW.puti' (k := 18) (j := 18) (pc := 17) dX10_redo_17 ac_10 sh_85 rfl (by decide) fl_10_159 rfl rfl (tyX10_ok 18 (by decide)) (Or.inl rfl) ?_
    refine AW.aload_n (pc := 20) dX10_redo_20 rfl ?_
    refine AW.dup (pc := 21) dX10_redo_21 rfl ?_
    refine AW.geti' (k := 19) (j := 19) (pc := 22) dX10_redo_22 ac_10 sh_85 rfl (by decide) fl_10_162 rfl (v := (h 85 19)) (by rw [a_up_off (by decide)]) ?_
    refine AW.iconst (pc := 25) dX10_redo_25 ⟨by decide, by decide⟩ ?_
    refine AW.isub (pc := 26) dX10_redo_26 (H_1.2.1) ?_
    refine AW.puti' (k := 19) (j := 19) (pc := 27) dX10_redo_27 ac_10 sh_85 rfl (by decide) fl_10_162 rfl rfl (tyX10_ok 19 (by decide)) (Or.inl rfl) ?_
    refine AW.aload_n (pc := 30) dX10_redo_30 rfl ?_
    refine AW.callVv (M' := mX10_fetches) (F' := 0) (as := []) (pc := 31) dX10_redo_31 (by decide) kX10_fetches ml_10_168 ob_85 rfl npX10_fetches (Nat.le_of_ble_eq_true rfl) (aRun.mono (fun r1 h2 H_2 => ?_) H_1.2.2)
    refine AW.aload_n (pc := 34) dX10_redo_34 rfl ?_
    refine AW.geti' (k := 19) (j := 19) (pc := 35) dX10_redo_35 ac_10 sh_85 rfl (by decide) fl_10_162 rfl (v := (h2 85 19)) rfl ?_
    refine AW.iret (pc := 38) dX10_redo_38 rfl ?_
    exact H_2
  · have q := Decidable.not_not.mp q
    have H_3 := H.1 q
    refine AW.bipush (pc := 7) dX10_redo_7 rfl ⟨by decide, by decide⟩ ?_
    refine AW.iret (pc := 9) dX10_redo_9 rfl ?_
    exact H_3
