set_option maxRecDepth 100000 in
set_option maxHeartbeats 4000000 in
theorem e_X10_best {a1 : Int} {h : aH} {Q : aQ} (H : (((f_X10_in h a1 0 1) = 0 → Q (-1) h) ∧ (¬ ((f_X10_in h a1 0 1) = 0) → (((h 85 1) = 0 → Q (-5) h) ∧ (¬ ((h 85 1) = 0) → (((h 85 37) = 0 → Q (-2) h) ∧ (¬ ((h 85 37) = 0) → ((a1 = 0 → Q (h 85 38) h) ∧ (¬ (a1 = 0) → AW mX10_best 2 42 [some (aR 85), none, some (aI 0)] [] h Q))))))))) : aRun mX10_best 2 [aR 85, aI a1] h Q := by
  refine aRun.of pn_10 rfl (Nat.le_of_ble_eq_true rfl) ?_
  show AW mX10_best 2 0 [some (aR 85), some (aI a1), none] [] h Q
  refine AW.iload_n (pc := 0) dX10_best_0 rfl ?_
  refine AW.iconst (pc := 1) dX10_best_1 ⟨by decide, by decide⟩ ?_
  refine AW.iconst (pc := 2) dX10_best_2 ⟨by decide, by decide⟩ ?_
  refine AW.callSi (M' := mX10_in) (F' := 0) (as := [aI a1, aI 0, aI 1]) (pc := 3) dX10_best_3 (by decide) kX10_in ml_10_108 rfl npX10_in (Nat.le_of_ble_eq_true rfl) (p_X10_in  ?_)
  refine AW.if_ne (tgt := 11) (pc := 6) dX10_best_6 rfl (fun q => ?_) (fun q => ?_)
  · skip
    have H_1 := H.2 q
    refine AW.aload_n (pc := 11) dX10_best_11 rfl ?_
    refine AW.geti' (k := 1) (j := 1) (pc := 12) dX10_best_12 ac_10 sh_85 rfl (by decide) fl_10_105 rfl (v := (h 85 1)) rfl ?_
    refine AW.if_ne (tgt := 21) (pc := 15) dX10_best_15 rfl (fun q => ?_) (fun q => ?_)
    · skip
      have H_2 := H_1.2 q
      refine AW.aload_n (pc := 21) dX10_best_21 rfl ?_
      refine AW.geti' (k := 37) (j := 37) (pc := 22) dX10_best_22 ac_10 sh_85 rfl (by decide) fl_10_281 rfl (v := (h 85 37)) rfl ?_
      refine AW.if_ne (tgt := 31) (pc := 25) dX10_best_25 rfl (fun q => ?_) (fun q => ?_)
      · skip
        have H_3 := H_2.2 q
        refine AW.iload_n (pc := 31) dX10_best_31 rfl ?_
        refine AW.if_ne (tgt := 40) (pc := 32) dX10_best_32 rfl (fun q => ?_) (fun q => ?_)
        · skip
          have H_4 := H_3.2 q
          refine AW.iconst (pc := 40) dX10_best_40 ⟨by decide, by decide⟩ ?_
          refine AW.istore_n (pc := 41) dX10_best_41 (by decide) rfl ?_
          refine AW.mask [true, false, true] ?_
          exact H_4
        · have q := Decidable.not_not.mp q
          have H_5 := H_3.1 q
          refine AW.aload_n (pc := 35) dX10_best_35 rfl ?_
          refine AW.geti' (k := 38) (j := 38) (pc := 36) dX10_best_36 ac_10 sh_85 rfl (by decide) fl_10_287 rfl (v := (h 85 38)) rfl ?_
          refine AW.iret (pc := 39) dX10_best_39 rfl ?_
          exact H_5
      · have q := Decidable.not_not.mp q
        have H_6 := H_2.1 q
        refine AW.bipush (pc := 28) dX10_best_28 rfl ⟨by decide, by decide⟩ ?_
        refine AW.iret (pc := 30) dX10_best_30 rfl ?_
        exact H_6
    · have q := Decidable.not_not.mp q
      have H_7 := H_1.1 q
      refine AW.bipush (pc := 18) dX10_best_18 rfl ⟨by decide, by decide⟩ ?_
      refine AW.iret (pc := 20) dX10_best_20 rfl ?_
      exact H_7
  · have q := Decidable.not_not.mp q
    have H_8 := H.1 q
    refine AW.iconst (pc := 9) dX10_best_9 ⟨by decide, by decide⟩ ?_
    refine AW.iret (pc := 10) dX10_best_10 rfl ?_
    exact H_8
set_option maxRecDepth 100000 in
set_option maxHeartbeats 4000000 in
theorem s_X10_best_42  {l2 : Int} {h : aH} {Q : aQ} (H : ((120 ≤ l2 → aRun mX10_changed 1 [aR 85] h (fun r1 h2 => Q (h2 85 38) h2)) ∧ (¬ (120 ≤ l2) → (0 ≤ l2 ∧ l2 < 120) ∧ inR (l2 + 1) ∧ AW mX10_best 2 42 [some (aR 85), none, some (aI (l2 + 1))] [] (a_up h 90 l2 (h 108 l2)) Q))) : AW mX10_best 2 42 [some (aR 85), none, some (aI l2)] [] h Q := by
  refine AW.iload_n (pc := 42) dX10_best_42 rfl ?_
  refine AW.bipush (pc := 43) dX10_best_43 rfl ⟨by decide, by decide⟩ ?_
  refine AW.icmp_ge (tgt := 66) (pc := 45) dX10_best_45 rfl (fun q => ?_) (fun q => ?_)
  · skip
    have H_1 := H.1 q
    refine AW.aload_n (pc := 66) dX10_best_66 rfl ?_
    refine AW.callVv (M' := mX10_changed) (F' := 1) (as := []) (pc := 67) dX10_best_67 (by decide) kX10_changed ml_10_188 ob_85 rfl npX10_changed (Nat.le_of_ble_eq_true rfl) (aRun.mono (fun r1 h2 H_2 => ?_) H_1)
    refine AW.aload_n (pc := 70) dX10_best_70 rfl ?_
    refine AW.geti' (k := 38) (j := 38) (pc := 71) dX10_best_71 ac_10 sh_85 rfl (by decide) fl_10_287 rfl (v := (h2 85 38)) rfl ?_
    refine AW.iret (pc := 74) dX10_best_74 rfl ?_
    exact H_2
  · skip
    have H_3 := H.2 q
    refine AW.aload_n (pc := 48) dX10_best_48 rfl ?_
    refine AW.getr (k := 6) (pc := 49) dX10_best_49 ac_10 sh_85 rfl (by decide) fl_10_22 ?_
    refine AW.iload_n (pc := 52) dX10_best_52 rfl ?_
    refine AW.aload_n (pc := 53) dX10_best_53 rfl ?_
    refine AW.getr (k := 39) (pc := 54) dX10_best_54 ac_10 sh_85 rfl (by decide) fl_10_81 ?_
    refine AW.iload_n (pc := 57) dX10_best_57 rfl ?_
    refine AW.iald (pc := 58) dX10_best_58 sh_108 (H_3.1) (v := (h 108 l2)) rfl ?_
    refine AW.iast (pc := 59) dX10_best_59 sh_90 (H_3.1) ?_
    refine AW.iinc (pc := 60) dX10_best_60 rfl (by decide) rfl (H_3.2.1) ?_
    refine AW.goto (tgt := 42) (pc := 63) dX10_best_63 rfl ?_
    exact H_3.2.2
def f_X10_isCritical (h : aH) (a1 : Int) : Int := (if (((h 99 a1) + (h 89 a1)) + (h 100 a1)) = (h 85 26) then (1 : Int) else (0 : Int))
def o_X10_isCritical (h : aH) (a1 : Int) : Prop := (0 ≤ a1 ∧ a1 < 24) ∧ inR ((h 99 a1) + (h 89 a1)) ∧ inR (((h 99 a1) + (h 89 a1)) + (h 100 a1))
theorem b_X10_isCritical {h : aH} {a1 : Int} : f_X10_isCritical h a1 = 0 ∨ f_X10_isCritical h a1 = 1 := by
  unfold f_X10_isCritical
  exact (a_ite01 (Or.inr rfl) (Or.inl rfl))
set_option maxRecDepth 100000 in
set_option maxHeartbeats 4000000 in
theorem p_X10_isCritical {a1 : Int} {h : aH} {Q : aQ} (o : o_X10_isCritical h a1) (k : Q (f_X10_isCritical h a1) h) : aRun mX10_isCritical 0 [aR 85, aI a1] h Q := by
  unfold f_X10_isCritical at k
  unfold o_X10_isCritical at o
  refine aRun.of pn_10 rfl (Nat.le_of_ble_eq_true rfl) ?_
  show AW mX10_isCritical 0 0 [some (aR 85), some (aI a1)] [] h Q
  refine AW.aload_n (pc := 0) dX10_isCritical_0 rfl ?_
  refine AW.getr (k := 22) (pc := 1) dX10_isCritical_1 ac_10 sh_85 rfl (by decide) fl_10_49 ?_
  refine AW.iload_n (pc := 4) dX10_isCritical_4 rfl ?_
  refine AW.iald (pc := 5) dX10_isCritical_5 sh_99 (o.1) (v := (h 99 a1)) rfl ?_
  refine AW.aload_n (pc := 6) dX10_isCritical_6 rfl ?_
  refine AW.getr (k := 5) (pc := 7) dX10_isCritical_7 ac_10 sh_85 rfl (by decide) fl_10_19 ?_
  refine AW.iload_n (pc := 10) dX10_isCritical_10 rfl ?_
  refine AW.iald (pc := 11) dX10_isCritical_11 sh_89 (o.1) (v := (h 89 a1)) rfl ?_
  refine AW.iadd (pc := 12) dX10_isCritical_12 (o.2.1) ?_
  refine AW.aload_n (pc := 13) dX10_isCritical_13 rfl ?_
  refine AW.getr (k := 23) (pc := 14) dX10_isCritical_14 ac_10 sh_85 rfl (by decide) fl_10_52 ?_
  refine AW.iload_n (pc := 17) dX10_isCritical_17 rfl ?_
  refine AW.iald (pc := 18) dX10_isCritical_18 sh_100 (o.1) (v := (h 100 a1)) rfl ?_
  refine AW.iadd (pc := 19) dX10_isCritical_19 (o.2.2) ?_
  refine AW.aload_n (pc := 20) dX10_isCritical_20 rfl ?_
  refine AW.geti' (k := 26) (j := 26) (pc := 21) dX10_isCritical_21 ac_10 sh_85 rfl (by decide) fl_10_195 rfl (v := (h 85 26)) rfl ?_
  have K_1 : AW mX10_isCritical 0 32 [some (aR 85), some (aI a1)] [aI (if (((h 99 a1) + (h 89 a1)) + (h 100 a1)) = (h 85 26) then (1 : Int) else (0 : Int))] h Q := by
    refine AW.zret (pc := 32) dX10_isCritical_32 rfl (a_ite01 (Or.inr rfl) (Or.inl rfl)) ?_
    exact k
  refine AW.icmp_ne (tgt := 31) (pc := 24) dX10_isCritical_24 rfl (fun q => ?_) (fun q => ?_)
  · skip
    rw [if_neg q] at K_1
    refine AW.iconst (pc := 31) dX10_isCritical_31 ⟨by decide, by decide⟩ ?_
    exact K_1
  · have q := Decidable.not_not.mp q
    rw [if_pos q] at K_1
    refine AW.iconst (pc := 27) dX10_isCritical_27 ⟨by decide, by decide⟩ ?_
    refine AW.goto (tgt := 32) (pc := 28) dX10_isCritical_28 rfl ?_
    exact K_1
def f_X10_comesBehind (h : aH) (a1 : Int) (a2 : Int) : Int := (if a1 < 0 then (0 : Int) else (if (f_X10_isCritical h a1) = 0 then (0 : Int) else (if (h 99 a1) = (f_X10_endOf h a2) then (1 : Int) else (0 : Int))))
def o_X10_comesBehind (h : aH) (a1 : Int) (a2 : Int) : Prop := ((¬ (a1 < 0) → (o_X10_isCritical h a1 ∧ (¬ ((f_X10_isCritical h a1) = 0) → ((0 ≤ a1 ∧ a1 < 24) ∧ o_X10_endOf h a2)))))
theorem b_X10_comesBehind {h : aH} {a1 a2 : Int} : f_X10_comesBehind h a1 a2 = 0 ∨ f_X10_comesBehind h a1 a2 = 1 := by
  unfold f_X10_comesBehind
  exact (a_ite01 (Or.inl rfl) (a_ite01 (Or.inl rfl) (a_ite01 (Or.inr rfl) (Or.inl rfl))))
set_option maxRecDepth 100000 in
set_option maxHeartbeats 4000000 in
theorem p_X10_comesBehind {a1 a2 : Int} {h : aH} {Q : aQ} (o : o_X10_comesBehind h a1 a2) (k : Q (f_X10_comesBehind h a1 a2) h) : aRun mX10_comesBehind 1 [aR 85, aI a1, aI a2] h Q := by
  unfold f_X10_comesBehind at k
  unfold o_X10_comesBehind at o
  refine aRun.of pn_10 rfl (Nat.le_of_ble_eq_true rfl) ?_
  show AW mX10_comesBehind 1 0 [some (aR 85), some (aI a1), some (aI a2)] [] h Q
  refine AW.iload_n (pc := 0) dX10_comesBehind_0 rfl ?_
  have K_1 : AW mX10_comesBehind 1 31 [some (aR 85), some (aI a1), some (aI a2)] [aI (if a1 < 0 then (0 : Int) else (if (f_X10_isCritical h a1) = 0 then (0 : Int) else (if (h 99 a1) = (f_X10_endOf h a2) then (1 : Int) else (0 : Int))))] h Q := by
    refine AW.zret (pc := 31) dX10_comesBehind_31 rfl (a_ite01 (Or.inl rfl) (a_ite01 (Or.inl rfl) (a_ite01 (Or.inr rfl) (Or.inl rfl)))) ?_
    exact k
  have H_3 := o
  refine AW.if_lt (tgt := 30) (pc := 1) dX10_comesBehind_1 rfl (fun q => ?_) (fun q => ?_)
  · skip
    rw [if_pos q] at K_1
    refine AW.iconst (pc := 30) dX10_comesBehind_30 ⟨by decide, by decide⟩ ?_
    exact K_1
  · skip
    have H_5 := H_3 q
    rw [if_neg q] at K_1
    refine AW.aload_n (pc := 4) dX10_comesBehind_4 rfl ?_
    refine AW.iload_n (pc := 5) dX10_comesBehind_5 rfl ?_
    refine AW.callVi (M' := mX10_isCritical) (F' := 0) (as := [aI a1]) (pc := 6) dX10_comesBehind_6 (by decide) kX10_isCritical ml_10_226 ob_85 rfl npX10_isCritical (Nat.le_of_ble_eq_true rfl) (p_X10_isCritical (H_5.1) ?_)
    refine AW.if_eq (tgt := 30) (pc := 9) dX10_comesBehind_9 rfl (fun q => ?_) (fun q => ?_)
    · skip
      rw [if_pos q] at K_1
      refine AW.iconst (pc := 30) dX10_comesBehind_30 ⟨by decide, by decide⟩ ?_
      exact K_1
    · skip
      have H_7 := H_5.2 q
      rw [if_neg q] at K_1
      refine AW.aload_n (pc := 12) dX10_comesBehind_12 rfl ?_
      refine AW.getr (k := 22) (pc := 13) dX10_comesBehind_13 ac_10 sh_85 rfl (by decide) fl_10_49 ?_
      refine AW.iload_n (pc := 16) dX10_comesBehind_16 rfl ?_
      refine AW.iald (pc := 17) dX10_comesBehind_17 sh_99 (H_7.1) (v := (h 99 a1)) rfl ?_
      refine AW.aload_n (pc := 18) dX10_comesBehind_18 rfl ?_
      refine AW.iload_n (pc := 19) dX10_comesBehind_19 rfl ?_
      refine AW.callVi (M' := mX10_endOf) (F' := 0) (as := [aI a2]) (pc := 20) dX10_comesBehind_20 (by decide) kX10_endOf ml_10_211 ob_85 rfl npX10_endOf (Nat.le_of_ble_eq_true rfl) (p_X10_endOf (H_7.2) ?_)
      refine AW.icmp_ne (tgt := 30) (pc := 23) dX10_comesBehind_23 rfl (fun q => ?_) (fun q => ?_)
      · skip
        rw [if_neg q] at K_1
        refine AW.iconst (pc := 30) dX10_comesBehind_30 ⟨by decide, by decide⟩ ?_
        exact K_1
      · have q := Decidable.not_not.mp q
        rw [if_pos q] at K_1
        refine AW.iconst (pc := 26) dX10_comesBehind_26 ⟨by decide, by decide⟩ ?_
        refine AW.goto (tgt := 31) (pc := 27) dX10_comesBehind_27 rfl ?_
        exact K_1
def f_X10_nextOnWay (h : aH) (a1 : Int) : Int := (if (f_X10_comesBehind h (f_X10_jobBehind h a1) a1) = 0 then (h 98 a1) else (if (f_X10_comesBehind h (h 98 a1) a1) = 0 then (f_X10_jobBehind h a1) else (if (h 98 a1) ≤ (f_X10_jobBehind h a1) then (h 98 a1) else (f_X10_jobBehind h a1))))
def o_X10_nextOnWay (h : aH) (a1 : Int) : Prop := o_X10_jobBehind h a1 ∧ (0 ≤ a1 ∧ a1 < 24) ∧ o_X10_comesBehind h (f_X10_jobBehind h a1) a1 ∧ o_X10_comesBehind h (h 98 a1) a1
set_option maxRecDepth 100000 in
set_option maxHeartbeats 4000000 in
theorem p_X10_nextOnWay {a1 : Int} {h : aH} {Q : aQ} (o : o_X10_nextOnWay h a1) (k : Q (f_X10_nextOnWay h a1) h) : aRun mX10_nextOnWay 2 [aR 85, aI a1] h Q := by
  unfold f_X10_nextOnWay at k
  unfold o_X10_nextOnWay at o
  refine aRun.of pn_10 rfl (Nat.le_of_ble_eq_true rfl) ?_
  show AW mX10_nextOnWay 2 0 [some (aR 85), some (aI a1), none, none, none, none] [] h Q
  refine AW.aload_n (pc := 0) dX10_nextOnWay_0 rfl ?_
  refine AW.iload_n (pc := 1) dX10_nextOnWay_1 rfl ?_
  refine AW.callVi (M' := mX10_jobBehind) (F' := 0) (as := [aI a1]) (pc := 2) dX10_nextOnWay_2 (by decide) kX10_jobBehind ml_10_220 ob_85 rfl npX10_jobBehind (Nat.le_of_ble_eq_true rfl) (p_X10_jobBehind (o.1) ?_)
  refine AW.istore_n (pc := 5) dX10_nextOnWay_5 (by decide) rfl ?_
  refine AW.aload_n (pc := 6) dX10_nextOnWay_6 rfl ?_
  refine AW.getr (k := 21) (pc := 7) dX10_nextOnWay_7 ac_10 sh_85 rfl (by decide) fl_10_46 ?_
  refine AW.iload_n (pc := 10) dX10_nextOnWay_10 rfl ?_
  refine AW.iald (pc := 11) dX10_nextOnWay_11 sh_98 (o.2.1) (v := (h 98 a1)) rfl ?_
  refine AW.istore_n (pc := 12) dX10_nextOnWay_12 (by decide) rfl ?_
  refine AW.aload_n (pc := 13) dX10_nextOnWay_13 rfl ?_
  refine AW.iload_n (pc := 14) dX10_nextOnWay_14 rfl ?_
  refine AW.iload_n (pc := 15) dX10_nextOnWay_15 rfl ?_
  refine AW.callVi (M' := mX10_comesBehind) (F' := 1) (as := [aI (f_X10_jobBehind h a1), aI a1]) (pc := 16) dX10_nextOnWay_16 (by decide) kX10_comesBehind ml_10_229 ob_85 rfl npX10_comesBehind (Nat.le_of_ble_eq_true rfl) (p_X10_comesBehind (o.2.2.1) ?_)
  refine AW.istore (pc := 19) dX10_nextOnWay_19 (by decide) rfl ?_
  refine AW.aload_n (pc := 21) dX10_nextOnWay_21 rfl ?_
  refine AW.iload_n (pc := 22) dX10_nextOnWay_22 rfl ?_
  refine AW.iload_n (pc := 23) dX10_nextOnWay_23 rfl ?_
  refine AW.callVi (M' := mX10_comesBehind) (F' := 1) (as := [aI (h 98 a1), aI a1]) (pc := 24) dX10_nextOnWay_24 (by decide) kX10_comesBehind ml_10_229 ob_85 rfl npX10_comesBehind (Nat.le_of_ble_eq_true rfl) (p_X10_comesBehind (o.2.2.2) ?_)
  refine AW.istore (pc := 27) dX10_nextOnWay_27 (by decide) rfl ?_
  refine AW.iload (pc := 29) dX10_nextOnWay_29 rfl ?_
  have K_1 : AW mX10_nextOnWay 2 49 [some (aR 85), some (aI a1), some (aI (f_X10_jobBehind h a1)), some (aI (h 98 a1)), some (aI (f_X10_comesBehind h (f_X10_jobBehind h a1) a1)), some (aI (f_X10_comesBehind h (h 98 a1) a1))] [aI (if (f_X10_comesBehind h (f_X10_jobBehind h a1) a1) = 0 then (h 98 a1) else (if (f_X10_comesBehind h (h 98 a1) a1) = 0 then (f_X10_jobBehind h a1) else (if (h 98 a1) ≤ (f_X10_jobBehind h a1) then (h 98 a1) else (f_X10_jobBehind h a1))))] h Q := by
    refine AW.iret (pc := 49) dX10_nextOnWay_49 rfl ?_
    exact k
  refine AW.if_eq (tgt := 48) (pc := 31) dX10_nextOnWay_31 rfl (fun q => ?_) (fun q => ?_)
  · skip
    rw [if_pos q] at K_1
    refine AW.iload_n (pc := 48) dX10_nextOnWay_48 rfl ?_
    exact K_1
  · skip
    rw [if_neg q] at K_1
    refine AW.iload (pc := 34) dX10_nextOnWay_34 rfl ?_
    refine AW.if_eq (tgt := 44) (pc := 36) dX10_nextOnWay_36 rfl (fun q => ?_) (fun q => ?_)
    · skip
      rw [if_pos q] at K_1
      refine AW.iload_n (pc := 44) dX10_nextOnWay_44 rfl ?_
      refine AW.goto (tgt := 49) (pc := 45) dX10_nextOnWay_45 rfl ?_
      exact K_1
    · skip
      rw [if_neg q] at K_1
      refine AW.iload_n (pc := 39) dX10_nextOnWay_39 rfl ?_
      refine AW.iload_n (pc := 40) dX10_nextOnWay_40 rfl ?_
      refine AW.icmp_ge (tgt := 48) (pc := 41) dX10_nextOnWay_41 rfl (fun q => ?_) (fun q => ?_)
      · skip
        rw [if_pos q] at K_1
        refine AW.iload_n (pc := 48) dX10_nextOnWay_48 rfl ?_
        exact K_1
      · skip
        rw [if_neg q] at K_1
        refine AW.iload_n (pc := 44) dX10_nextOnWay_44 rfl ?_
        refine AW.goto (tgt := 49) (pc := 45) dX10_nextOnWay_45 rfl ?_
        exact K_1
set_option maxRecDepth 100000 in
set_option maxHeartbeats 4000000 in
theorem e_X10_walks  {h : aH} {Q : aQ} (H : AW mX10_walks 3 2 [some (aR 85), some (aI 0)] [] h Q) : aRun mX10_walks 3 [aR 85] h Q := by
  refine aRun.of pn_10 rfl (Nat.le_of_ble_eq_true rfl) ?_
  show AW mX10_walks 3 0 [some (aR 85), none] [] h Q
  refine AW.iconst (pc := 0) dX10_walks_0 ⟨by decide, by decide⟩ ?_
  refine AW.istore_n (pc := 1) dX10_walks_1 (by decide) rfl ?_
  exact H
set_option maxRecDepth 100000 in
set_option maxHeartbeats 4000000 in
theorem s_X10_walks_2  {l1 : Int} {h : aH} {Q : aQ} (H : o_X10_isCritical h l1 ∧ (((f_X10_isCritical h l1) = 0 → inR (l1 + 1) ∧ AW mX10_walks 3 2 [some (aR 85), some (aI (l1 + 1))] [] h Q) ∧ (¬ ((f_X10_isCritical h l1) = 0) → (0 ≤ l1 ∧ l1 < 24) ∧ (((h 99 l1) ≤ 0 → AW mX10_walks 3 37 [some (aR 85), some (aI l1)] [] (a_up (a_up h 103 0 l1) 85 28 1) Q) ∧ (¬ ((h 99 l1) ≤ 0) → inR (l1 + 1) ∧ AW mX10_walks 3 2 [some (aR 85), some (aI (l1 + 1))] [] h Q))))) : AW mX10_walks 3 2 [some (aR 85), some (aI l1)] [] h Q := by
  refine AW.aload_n (pc := 2) dX10_walks_2 rfl ?_
  refine AW.iload_n (pc := 3) dX10_walks_3 rfl ?_
  refine AW.callVi (M' := mX10_isCritical) (F' := 0) (as := [aI l1]) (pc := 4) dX10_walks_4 (by decide) kX10_isCritical ml_10_226 ob_85 rfl npX10_isCritical (Nat.le_of_ble_eq_true rfl) (p_X10_isCritical (H.1) ?_)
  refine AW.if_eq (tgt := 19) (pc := 7) dX10_walks_7 rfl (fun q => ?_) (fun q => ?_)
  · skip
    have H_1 := H.2.1 q
    refine AW.iinc (pc := 19) dX10_walks_19 rfl (by decide) rfl (H_1.1) ?_
    refine AW.goto (tgt := 2) (pc := 22) dX10_walks_22 rfl ?_
    exact H_1.2
  · skip
    have H_2 := H.2.2 q
    refine AW.aload_n (pc := 10) dX10_walks_10 rfl ?_
    refine AW.getr (k := 22) (pc := 11) dX10_walks_11 ac_10 sh_85 rfl (by decide) fl_10_49 ?_
    refine AW.iload_n (pc := 14) dX10_walks_14 rfl ?_
    refine AW.iald (pc := 15) dX10_walks_15 sh_99 (H_2.1) (v := (h 99 l1)) rfl ?_
    refine AW.if_le (tgt := 25) (pc := 16) dX10_walks_16 rfl (fun q => ?_) (fun q => ?_)
    · skip
      have H_3 := H_2.2.1 q
      refine AW.aload_n (pc := 25) dX10_walks_25 rfl ?_
      refine AW.getr (k := 27) (pc := 26) dX10_walks_26 ac_10 sh_85 rfl (by decide) fl_10_62 ?_
      refine AW.iconst (pc := 29) dX10_walks_29 ⟨by decide, by decide⟩ ?_
      refine AW.iload_n (pc := 30) dX10_walks_30 rfl ?_
      refine AW.iast (pc := 31) dX10_walks_31 sh_103 ⟨by decide, by decide⟩ ?_
      refine AW.aload_n (pc := 32) dX10_walks_32 rfl ?_
      refine AW.iconst (pc := 33) dX10_walks_33 ⟨by decide, by decide⟩ ?_
      refine AW.puti' (k := 28) (j := 28) (pc := 34) dX10_walks_34 ac_10 sh_85 rfl (by decide) fl_10_232 rfl rfl (tyX10_ok 28 (by decide)) (Or.inl rfl) ?_
      exact H_3
    · skip
      have H_4 := H_2.2.2 q
      refine AW.iinc (pc := 19) dX10_walks_19 rfl (by decide) rfl (H_4.1) ?_
      refine AW.goto (tgt := 2) (pc := 22) dX10_walks_22 rfl ?_
      exact H_4.2
set_option maxRecDepth 100000 in
set_option maxHeartbeats 4000000 in
theorem s_X10_walks_37  {l1 : Int} {h : aH} {Q : aQ} (H : o_X10_endOf h l1 ∧ (((h 85 26) ≤ (f_X10_endOf h l1) → Q 0 h) ∧ (¬ ((h 85 26) ≤ (f_X10_endOf h l1)) → o_X10_nextOnWay h l1 ∧ (0 ≤ (h 85 28) ∧ (h 85 28) < 24) ∧ inR ((h 85 28) + 1) ∧ AW mX10_walks 3 37 [some (aR 85), some (aI (f_X10_nextOnWay h l1))] [] (a_up (a_up h 103 (h 85 28) (f_X10_nextOnWay h l1)) 85 28 ((h 85 28) + 1)) Q))) : AW mX10_walks 3 37 [some (aR 85), some (aI l1)] [] h Q := by
  refine AW.aload_n (pc := 37) dX10_walks_37 rfl ?_
  refine AW.iload_n (pc := 38) dX10_walks_38 rfl ?_
  refine AW.callVi (M' := mX10_endOf) (F' := 0) (as := [aI l1]) (pc := 39) dX10_walks_39 (by decide) kX10_endOf ml_10_211 ob_85 rfl npX10_endOf (Nat.le_of_ble_eq_true rfl) (p_X10_endOf (H.1) ?_)
  refine AW.aload_n (pc := 42) dX10_walks_42 rfl ?_
  refine AW.geti' (k := 26) (j := 26) (pc := 43) dX10_walks_43 ac_10 sh_85 rfl (by decide) fl_10_195 rfl (v := (h 85 26)) rfl ?_
  refine AW.icmp_ge (tgt := 78) (pc := 46) dX10_walks_46 rfl (fun q => ?_) (fun q => ?_)
  · skip
    have H_1 := H.2.1 q
    refine AW.vret (pc := 78) dX10_walks_78 rfl ?_
    exact H_1
  · skip
    have H_2 := H.2.2 q
    refine AW.aload_n (pc := 49) dX10_walks_49 rfl ?_
    refine AW.iload_n (pc := 50) dX10_walks_50 rfl ?_
    refine AW.callVi (M' := mX10_nextOnWay) (F' := 2) (as := [aI l1]) (pc := 51) dX10_walks_51 (by decide) kX10_nextOnWay ml_10_235 ob_85 rfl npX10_nextOnWay (Nat.le_of_ble_eq_true rfl) (p_X10_nextOnWay (H_2.1) ?_)
    refine AW.istore_n (pc := 54) dX10_walks_54 (by decide) rfl ?_
    refine AW.aload_n (pc := 55) dX10_walks_55 rfl ?_
    refine AW.getr (k := 27) (pc := 56) dX10_walks_56 ac_10 sh_85 rfl (by decide) fl_10_62 ?_
    refine AW.aload_n (pc := 59) dX10_walks_59 rfl ?_
    refine AW.geti' (k := 28) (j := 28) (pc := 60) dX10_walks_60 ac_10 sh_85 rfl (by decide) fl_10_232 rfl (v := (h 85 28)) rfl ?_
    refine AW.iload_n (pc := 63) dX10_walks_63 rfl ?_
    refine AW.iast (pc := 64) dX10_walks_64 sh_103 (H_2.2.1) ?_
    refine AW.aload_n (pc := 65) dX10_walks_65 rfl ?_
    refine AW.dup (pc := 66) dX10_walks_66 rfl ?_
    refine AW.geti' (k := 28) (j := 28) (pc := 67) dX10_walks_67 ac_10 sh_85 rfl (by decide) fl_10_232 rfl (v := (h 85 28)) (by rw [a_up_ne (by decide)]) ?_
    refine AW.iconst (pc := 70) dX10_walks_70 ⟨by decide, by decide⟩ ?_
    refine AW.iadd (pc := 71) dX10_walks_71 (H_2.2.2.1) ?_
    refine AW.puti' (k := 28) (j := 28) (pc := 72) dX10_walks_72 ac_10 sh_85 rfl (by decide) fl_10_232 rfl rfl (tyX10_ok 28 (by decide)) (Or.inl rfl) ?_
    refine AW.goto (tgt := 37) (pc := 75) dX10_walks_75 rfl ?_
    exact H_2.2.2.2
set_option maxRecDepth 100000 in
set_option maxHeartbeats 4000000 in
theorem e_X10_parts  {h : aH} {Q : aQ} (H : aRun mX10_walks 3 [aR 85] h (fun r1 h2 => AW mX10_parts 4 11 [some (aR 85), some (aI 0)] [] (a_up h2 85 30 0) Q)) : aRun mX10_parts 4 [aR 85] h Q := by
  refine aRun.of pn_10 rfl (Nat.le_of_ble_eq_true rfl) ?_
  show AW mX10_parts 4 0 [some (aR 85), none] [] h Q
  refine AW.aload_n (pc := 0) dX10_parts_0 rfl ?_
  refine AW.callVv (M' := mX10_walks) (F' := 3) (as := []) (pc := 1) dX10_parts_1 (by decide) kX10_walks ml_10_238 ob_85 rfl npX10_walks (Nat.le_of_ble_eq_true rfl) (aRun.mono (fun r1 h2 H_1 => ?_) H)
  refine AW.aload_n (pc := 4) dX10_parts_4 rfl ?_
  refine AW.iconst (pc := 5) dX10_parts_5 ⟨by decide, by decide⟩ ?_
  refine AW.puti' (k := 30) (j := 30) (pc := 6) dX10_parts_6 ac_10 sh_85 rfl (by decide) fl_10_241 rfl rfl (tyX10_ok 30 (by decide)) (Or.inl rfl) ?_
  refine AW.iconst (pc := 9) dX10_parts_9 ⟨by decide, by decide⟩ ?_
  refine AW.istore_n (pc := 10) dX10_parts_10 (by decide) rfl ?_
  exact H_1
set_option maxRecDepth 100000 in
set_option maxHeartbeats 4000000 in
theorem s_X10_parts_11  {l1 : Int} {h : aH} {Q : aQ} (H : (((h 85 28) ≤ l1 → (0 ≤ (h 85 30) ∧ (h 85 30) < 25) ∧ Q 0 (a_up h 104 (h 85 30) (h 85 28))) ∧ (¬ ((h 85 28) ≤ l1) → ((l1 = 0 → (0 ≤ (h 85 30) ∧ (h 85 30) < 25) ∧ inR ((h 85 30) + 1) ∧ inR (l1 + 1) ∧ AW mX10_parts 4 11 [some (aR 85), some (aI (l1 + 1))] [] (a_up (a_up h 104 (h 85 30) l1) 85 30 ((h 85 30) + 1)) Q) ∧ (¬ (l1 = 0) → (0 ≤ l1 ∧ l1 < 24) ∧ (0 ≤ (h 103 l1) ∧ (h 103 l1) < 24) ∧ inR (l1 - 1) ∧ (0 ≤ (l1 - 1) ∧ (l1 - 1) < 24) ∧ (0 ≤ (h 103 (l1 - 1)) ∧ (h 103 (l1 - 1)) < 24) ∧ (((h 88 (h 103 l1)) = (h 88 (h 103 (l1 - 1))) → inR (l1 + 1) ∧ AW mX10_parts 4 11 [some (aR 85), some (aI (l1 + 1))] [] h Q) ∧ (¬ ((h 88 (h 103 l1)) = (h 88 (h 103 (l1 - 1)))) → (0 ≤ (h 85 30) ∧ (h 85 30) < 25) ∧ inR ((h 85 30) + 1) ∧ inR (l1 + 1) ∧ AW mX10_parts 4 11 [some (aR 85), some (aI (l1 + 1))] [] (a_up (a_up h 104 (h 85 30) l1) 85 30 ((h 85 30) + 1)) Q))))))) : AW mX10_parts 4 11 [some (aR 85), some (aI l1)] [] h Q := by
  refine AW.iload_n (pc := 11) dX10_parts_11 rfl ?_
  refine AW.aload_n (pc := 12) dX10_parts_12 rfl ?_
  refine AW.geti' (k := 28) (j := 28) (pc := 13) dX10_parts_13 ac_10 sh_85 rfl (by decide) fl_10_232 rfl (v := (h 85 28)) rfl ?_
  refine AW.icmp_ge (tgt := 76) (pc := 16) dX10_parts_16 rfl (fun q => ?_) (fun q => ?_)
  · skip
    have H_1 := H.1 q
    refine AW.aload_n (pc := 76) dX10_parts_76 rfl ?_
    refine AW.getr (k := 29) (pc := 77) dX10_parts_77 ac_10 sh_85 rfl (by decide) fl_10_65 ?_
    refine AW.aload_n (pc := 80) dX10_parts_80 rfl ?_
    refine AW.geti' (k := 30) (j := 30) (pc := 81) dX10_parts_81 ac_10 sh_85 rfl (by decide) fl_10_241 rfl (v := (h 85 30)) rfl ?_
    refine AW.aload_n (pc := 84) dX10_parts_84 rfl ?_
    refine AW.geti' (k := 28) (j := 28) (pc := 85) dX10_parts_85 ac_10 sh_85 rfl (by decide) fl_10_232 rfl (v := (h 85 28)) rfl ?_
    refine AW.iast (pc := 88) dX10_parts_88 sh_104 (H_1.1) ?_
    refine AW.vret (pc := 89) dX10_parts_89 rfl ?_
    exact H_1.2
  · skip
    have H_2 := H.2 q
    refine AW.iload_n (pc := 19) dX10_parts_19 rfl ?_
    refine AW.if_eq (tgt := 50) (pc := 20) dX10_parts_20 rfl (fun q => ?_) (fun q => ?_)
    · skip
      have H_3 := H_2.1 q
      refine AW.aload_n (pc := 50) dX10_parts_50 rfl ?_
      refine AW.getr (k := 29) (pc := 51) dX10_parts_51 ac_10 sh_85 rfl (by decide) fl_10_65 ?_
      refine AW.aload_n (pc := 54) dX10_parts_54 rfl ?_
      refine AW.geti' (k := 30) (j := 30) (pc := 55) dX10_parts_55 ac_10 sh_85 rfl (by decide) fl_10_241 rfl (v := (h 85 30)) rfl ?_
      refine AW.iload_n (pc := 58) dX10_parts_58 rfl ?_
      refine AW.iast (pc := 59) dX10_parts_59 sh_104 (H_3.1) ?_
      refine AW.aload_n (pc := 60) dX10_parts_60 rfl ?_
      refine AW.dup (pc := 61) dX10_parts_61 rfl ?_
      refine AW.geti' (k := 30) (j := 30) (pc := 62) dX10_parts_62 ac_10 sh_85 rfl (by decide) fl_10_241 rfl (v := (h 85 30)) (by rw [a_up_ne (by decide)]) ?_
      refine AW.iconst (pc := 65) dX10_parts_65 ⟨by decide, by decide⟩ ?_
      refine AW.iadd (pc := 66) dX10_parts_66 (H_3.2.1) ?_
      refine AW.puti' (k := 30) (j := 30) (pc := 67) dX10_parts_67 ac_10 sh_85 rfl (by decide) fl_10_241 rfl rfl (tyX10_ok 30 (by decide)) (Or.inl rfl) ?_
      refine AW.iinc (pc := 70) dX10_parts_70 rfl (by decide) rfl (H_3.2.2.1) ?_
      refine AW.goto (tgt := 11) (pc := 73) dX10_parts_73 rfl ?_
      exact H_3.2.2.2
    · skip
      have H_4 := H_2.2 q
      refine AW.aload_n (pc := 23) dX10_parts_23 rfl ?_
      refine AW.getr (k := 4) (pc := 24) dX10_parts_24 ac_10 sh_85 rfl (by decide) fl_10_16 ?_
      refine AW.aload_n (pc := 27) dX10_parts_27 rfl ?_
      refine AW.getr (k := 27) (pc := 28) dX10_parts_28 ac_10 sh_85 rfl (by decide) fl_10_62 ?_
      refine AW.iload_n (pc := 31) dX10_parts_31 rfl ?_
      refine AW.iald (pc := 32) dX10_parts_32 sh_103 (H_4.1) (v := (h 103 l1)) rfl ?_
      refine AW.iald (pc := 33) dX10_parts_33 sh_88 (H_4.2.1) (v := (h 88 (h 103 l1))) rfl ?_
      refine AW.aload_n (pc := 34) dX10_parts_34 rfl ?_
      refine AW.getr (k := 4) (pc := 35) dX10_parts_35 ac_10 sh_85 rfl (by decide) fl_10_16 ?_
      refine AW.aload_n (pc := 38) dX10_parts_38 rfl ?_
      refine AW.getr (k := 27) (pc := 39) dX10_parts_39 ac_10 sh_85 rfl (by decide) fl_10_62 ?_
      refine AW.iload_n (pc := 42) dX10_parts_42 rfl ?_
      refine AW.iconst (pc := 43) dX10_parts_43 ⟨by decide, by decide⟩ ?_
      refine AW.isub (pc := 44) dX10_parts_44 (H_4.2.2.1) ?_
      refine AW.iald (pc := 45) dX10_parts_45 sh_103 (H_4.2.2.2.1) (v := (h 103 (l1 - 1))) rfl ?_
      refine AW.iald (pc := 46) dX10_parts_46 sh_88 (H_4.2.2.2.2.1) (v := (h 88 (h 103 (l1 - 1)))) rfl ?_
      refine AW.icmp_eq (tgt := 70) (pc := 47) dX10_parts_47 rfl (fun q => ?_) (fun q => ?_)
      · skip
        have H_5 := H_4.2.2.2.2.2.1 q
        refine AW.iinc (pc := 70) dX10_parts_70 rfl (by decide) rfl (H_5.1) ?_
        refine AW.goto (tgt := 11) (pc := 73) dX10_parts_73 rfl ?_
        exact H_5.2
      · skip
        have H_6 := H_4.2.2.2.2.2.2 q
        refine AW.aload_n (pc := 50) dX10_parts_50 rfl ?_
        refine AW.getr (k := 29) (pc := 51) dX10_parts_51 ac_10 sh_85 rfl (by decide) fl_10_65 ?_
        refine AW.aload_n (pc := 54) dX10_parts_54 rfl ?_
        refine AW.geti' (k := 30) (j := 30) (pc := 55) dX10_parts_55 ac_10 sh_85 rfl (by decide) fl_10_241 rfl (v := (h 85 30)) rfl ?_
        refine AW.iload_n (pc := 58) dX10_parts_58 rfl ?_
        refine AW.iast (pc := 59) dX10_parts_59 sh_104 (H_6.1) ?_
        refine AW.aload_n (pc := 60) dX10_parts_60 rfl ?_
        refine AW.dup (pc := 61) dX10_parts_61 rfl ?_
        refine AW.geti' (k := 30) (j := 30) (pc := 62) dX10_parts_62 ac_10 sh_85 rfl (by decide) fl_10_241 rfl (v := (h 85 30)) (by rw [a_up_ne (by decide)]) ?_
        refine AW.iconst (pc := 65) dX10_parts_65 ⟨by decide, by decide⟩ ?_
        refine AW.iadd (pc := 66) dX10_parts_66 (H_6.2.1) ?_
        refine AW.puti' (k := 30) (j := 30) (pc := 67) dX10_parts_67 ac_10 sh_85 rfl (by decide) fl_10_241 rfl rfl (tyX10_ok 30 (by decide)) (Or.inl rfl) ?_
        refine AW.iinc (pc := 70) dX10_parts_70 rfl (by decide) rfl (H_6.2.2.1) ?_
        refine AW.goto (tgt := 11) (pc := 73) dX10_parts_73 rfl ?_
        exact H_6.2.2.2
set_option maxRecDepth 100000 in
set_option maxHeartbeats 4000000 in
theorem e_X10_wrong  {h : aH} {Q : aQ} (H : (((h 85 1) = 0 → Q (-5) h) ∧ (¬ ((h 85 1) = 0) → aRun mX10_reckons 3 [aR 85] h (fun r1 h2 => Q (if r1 = 0 then ((-4) : Int) else (0 : Int)) h2)))) : aRun mX10_wrong 4 [aR 85] h Q := by
  refine aRun.of pn_10 rfl (Nat.le_of_ble_eq_true rfl) ?_
  show AW mX10_wrong 4 0 [some (aR 85)] [] h Q
  refine AW.aload_n (pc := 0) dX10_wrong_0 rfl ?_
  refine AW.geti' (k := 1) (j := 1) (pc := 1) dX10_wrong_1 ac_10 sh_85 rfl (by decide) fl_10_105 rfl (v := (h 85 1)) rfl ?_
  refine AW.if_ne (tgt := 12) (pc := 4) dX10_wrong_4 rfl (fun q => ?_) (fun q => ?_)
  · skip
    have H_1 := H.2 q
    refine AW.aload_n (pc := 12) dX10_wrong_12 rfl ?_
    refine AW.callVi (M' := mX10_reckons) (F' := 3) (as := []) (pc := 13) dX10_wrong_13 (by decide) kX10_reckons ml_10_191 ob_85 rfl npX10_reckons (Nat.le_of_ble_eq_true rfl) (aRun.mono (fun r1 h2 H_2 => ?_) H_1)
    have K_3 : AW mX10_wrong 4 25 [some (aR 85)] [aI (if r1 = 0 then ((-4) : Int) else (0 : Int))] h2 Q := by
      have H_4 := H_2
      refine AW.iret (pc := 25) dX10_wrong_25 rfl ?_
      exact H_4
    refine AW.if_ne (tgt := 24) (pc := 16) dX10_wrong_16 rfl (fun q => ?_) (fun q => ?_)
    · skip
      rw [if_neg q] at K_3
      refine AW.iconst (pc := 24) dX10_wrong_24 ⟨by decide, by decide⟩ ?_
      exact K_3
    · have q := Decidable.not_not.mp q
      rw [if_pos q] at K_3
      refine AW.bipush (pc := 19) dX10_wrong_19 rfl ⟨by decide, by decide⟩ ?_
      refine AW.goto (tgt := 25) (pc := 21) dX10_wrong_21 rfl ?_
      exact K_3
  · have q := Decidable.not_not.mp q
    have H_8 := H.1 q
    refine AW.bipush (pc := 7) dX10_wrong_7 rfl ⟨by decide, by decide⟩ ?_
    refine AW.goto (tgt := 25) (pc := 9) dX10_wrong_9 rfl ?_
    refine AW.iret (pc := 25) dX10_wrong_25 rfl ?_
    exact H_8
set_option maxRecDepth 100000 in
set_option maxHeartbeats 4000000 in
theorem e_X10_block {a1 : Int} {h : aH} {Q : aQ} (H : (((-1) ≤ a1 → aRun mX10_wrong 4 [aR 85] h (fun r1 h2 => ((0 ≤ r1 → aRun mX10_parts 4 [aR 85] h2 (fun r3 h4 => ((0 ≤ a1 → (¬ ((h4 85 30) ≤ a1) → (inR (a1 + 1) ∧ (0 ≤ (a1 + 1) ∧ (a1 + 1) < 25) ∧ (0 ≤ a1 ∧ a1 < 25) ∧ inR ((h4 104 (a1 + 1)) - (h4 104 a1))))) ∧ Q (if 0 ≤ a1 then (if (h4 85 30) ≤ a1 then ((-2) : Int) else ((h4 104 (a1 + 1)) - (h4 104 a1))) else (h4 85 30)) h4))) ∧ (¬ (0 ≤ r1) → Q r1 h2)))) ∧ (¬ ((-1) ≤ a1) → Q (-1) h))) : aRun mX10_block 5 [aR 85, aI a1] h Q := by
  refine aRun.of pn_10 rfl (Nat.le_of_ble_eq_true rfl) ?_
  show AW mX10_block 5 0 [some (aR 85), some (aI a1), none] [] h Q
  refine AW.iload_n (pc := 0) dX10_block_0 rfl ?_
  refine AW.iconst (pc := 1) dX10_block_1 ⟨by decide, by decide⟩ ?_
  refine AW.icmp_ge (tgt := 7) (pc := 2) dX10_block_2 rfl (fun q => ?_) (fun q => ?_)
  · skip
    have H_1 := H.1 q
    refine AW.aload_n (pc := 7) dX10_block_7 rfl ?_
    refine AW.callVi (M' := mX10_wrong) (F' := 4) (as := []) (pc := 8) dX10_block_8 (by decide) kX10_wrong ml_10_244 ob_85 rfl npX10_wrong (Nat.le_of_ble_eq_true rfl) (aRun.mono (fun r1 h2 H_2 => ?_) H_1)
    refine AW.istore_n (pc := 11) dX10_block_11 (by decide) rfl ?_
    refine AW.iload_n (pc := 12) dX10_block_12 rfl ?_
    refine AW.if_ge (tgt := 18) (pc := 13) dX10_block_13 rfl (fun q => ?_) (fun q => ?_)
    · skip
      have H_3 := H_2.1 q
      refine AW.aload_n (pc := 18) dX10_block_18 rfl ?_
      refine AW.callVv (M' := mX10_parts) (F' := 4) (as := []) (pc := 19) dX10_block_19 (by decide) kX10_parts ml_10_251 ob_85 rfl npX10_parts (Nat.le_of_ble_eq_true rfl) (aRun.mono (fun r3 h4 H_4 => ?_) H_3)
      refine AW.iload_n (pc := 22) dX10_block_22 rfl ?_
      have K_5 : AW mX10_block 5 61 [some (aR 85), some (aI a1), some (aI r1)] [aI (if 0 ≤ a1 then (if (h4 85 30) ≤ a1 then ((-2) : Int) else ((h4 104 (a1 + 1)) - (h4 104 a1))) else (h4 85 30))] h4 Q := by
        have H_6 := H_4.2
        refine AW.iret (pc := 61) dX10_block_61 rfl ?_
        exact H_6
      have H_7 := H_4.1
      refine AW.if_ge (tgt := 33) (pc := 23) dX10_block_23 rfl (fun q => ?_) (fun q => ?_)
      · skip
        have H_8 := H_7 q
        rw [if_pos q] at K_5
        refine AW.iload_n (pc := 33) dX10_block_33 rfl ?_
        refine AW.aload_n (pc := 34) dX10_block_34 rfl ?_
        refine AW.geti' (k := 30) (j := 30) (pc := 35) dX10_block_35 ac_10 sh_85 rfl (by decide) fl_10_241 rfl (v := (h4 85 30)) rfl ?_
        refine AW.icmp_ge (tgt := 59) (pc := 38) dX10_block_38 rfl (fun q => ?_) (fun q => ?_)
        · skip
          rw [if_pos q] at K_5
          refine AW.bipush (pc := 59) dX10_block_59 rfl ⟨by decide, by decide⟩ ?_
          exact K_5
        · skip
          have H_10 := H_8 q
          rw [if_neg q] at K_5
          refine AW.aload_n (pc := 41) dX10_block_41 rfl ?_
          refine AW.getr (k := 29) (pc := 42) dX10_block_42 ac_10 sh_85 rfl (by decide) fl_10_65 ?_
          refine AW.iload_n (pc := 45) dX10_block_45 rfl ?_
          refine AW.iconst (pc := 46) dX10_block_46 ⟨by decide, by decide⟩ ?_
          refine AW.iadd (pc := 47) dX10_block_47 (H_10.1) ?_
          refine AW.iald (pc := 48) dX10_block_48 sh_104 (H_10.2.1) (v := (h4 104 (a1 + 1))) rfl ?_
          refine AW.aload_n (pc := 49) dX10_block_49 rfl ?_
          refine AW.getr (k := 29) (pc := 50) dX10_block_50 ac_10 sh_85 rfl (by decide) fl_10_65 ?_
          refine AW.iload_n (pc := 53) dX10_block_53 rfl ?_
          refine AW.iald (pc := 54) dX10_block_54 sh_104 (H_10.2.2.1) (v := (h4 104 a1)) rfl ?_
          refine AW.isub (pc := 55) dX10_block_55 (H_10.2.2.2) ?_
          refine AW.goto (tgt := 61) (pc := 56) dX10_block_56 rfl ?_
          exact K_5
      · skip
        rw [if_neg q] at K_5
        refine AW.aload_n (pc := 26) dX10_block_26 rfl ?_
        refine AW.geti' (k := 30) (j := 30) (pc := 27) dX10_block_27 ac_10 sh_85 rfl (by decide) fl_10_241 rfl (v := (h4 85 30)) rfl ?_
        refine AW.goto (tgt := 61) (pc := 30) dX10_block_30 rfl ?_
        exact K_5
    · skip
      have H_12 := H_2.2 q
      refine AW.iload_n (pc := 16) dX10_block_16 rfl ?_
      refine AW.iret (pc := 17) dX10_block_17 rfl ?_
      exact H_12
  · skip
    have H_13 := H.2 q
    refine AW.iconst (pc := 5) dX10_block_5 ⟨by decide, by decide⟩ ?_
    refine AW.iret (pc := 6) dX10_block_6 rfl ?_
    exact H_13
set_option maxRecDepth 100000 in
set_option maxHeartbeats 4000000 in
theorem e_X10_firstOf {a1 : Int} {h : aH} {Q : aQ} (H : AW mX10_firstOf 0 2 [some (aR 85), some (aI a1), some (aI 0)] [] h Q) : aRun mX10_firstOf 0 [aR 85, aI a1] h Q := by
  refine aRun.of pn_10 rfl (Nat.le_of_ble_eq_true rfl) ?_
  show AW mX10_firstOf 0 0 [some (aR 85), some (aI a1), none] [] h Q
  refine AW.iconst (pc := 0) dX10_firstOf_0 ⟨by decide, by decide⟩ ?_
  refine AW.istore_n (pc := 1) dX10_firstOf_1 (by decide) rfl ?_
  exact H
set_option maxRecDepth 100000 in
set_option maxHeartbeats 4000000 in
theorem s_X10_firstOf_2  {l1 l2 : Int} {h : aH} {Q : aQ} (H : (0 ≤ l2 ∧ l2 < 24) ∧ (((h 86 l2) = l1 → Q l2 h) ∧ (¬ ((h 86 l2) = l1) → inR (l2 + 1) ∧ AW mX10_firstOf 0 2 [some (aR 85), some (aI l1), some (aI (l2 + 1))] [] h Q))) : AW mX10_firstOf 0 2 [some (aR 85), some (aI l1), some (aI l2)] [] h Q := by
  refine AW.aload_n (pc := 2) dX10_firstOf_2 rfl ?_
  refine AW.getr (k := 2) (pc := 3) dX10_firstOf_3 ac_10 sh_85 rfl (by decide) fl_10_9 ?_
  refine AW.iload_n (pc := 6) dX10_firstOf_6 rfl ?_
  refine AW.iald (pc := 7) dX10_firstOf_7 sh_86 (H.1) (v := (h 86 l2)) rfl ?_
  refine AW.iload_n (pc := 8) dX10_firstOf_8 rfl ?_
  refine AW.icmp_eq (tgt := 18) (pc := 9) dX10_firstOf_9 rfl (fun q => ?_) (fun q => ?_)
  · skip
    have H_1 := H.2.1 q
    refine AW.iload_n (pc := 18) dX10_firstOf_18 rfl ?_
    refine AW.iret (pc := 19) dX10_firstOf_19 rfl ?_
    exact H_1
  · skip
    have H_2 := H.2.2 q
    refine AW.iinc (pc := 12) dX10_firstOf_12 rfl (by decide) rfl (H_2.1) ?_
    refine AW.goto (tgt := 2) (pc := 15) dX10_firstOf_15 rfl ?_
    exact H_2.2
set_option maxRecDepth 100000 in
set_option maxHeartbeats 4000000 in
theorem e_X10_bound  {h : aH} {Q : aQ} (H : (((h 85 1) = 0 → Q (-5) h) ∧ (¬ ((h 85 1) = 0) → AW mX10_bound 22 14 [some (aR 85), some (aI 0), some (aI 0), none] [] h Q))) : aRun mX10_bound 22 [aR 85] h Q := by
  refine aRun.of pn_10 rfl (Nat.le_of_ble_eq_true rfl) ?_
  show AW mX10_bound 22 0 [some (aR 85), none, none, none] [] h Q
  refine AW.aload_n (pc := 0) dX10_bound_0 rfl ?_
  refine AW.geti' (k := 1) (j := 1) (pc := 1) dX10_bound_1 ac_10 sh_85 rfl (by decide) fl_10_105 rfl (v := (h 85 1)) rfl ?_
  refine AW.if_ne (tgt := 10) (pc := 4) dX10_bound_4 rfl (fun q => ?_) (fun q => ?_)
  · skip
    have H_1 := H.2 q
    refine AW.iconst (pc := 10) dX10_bound_10 ⟨by decide, by decide⟩ ?_
    refine AW.istore_n (pc := 11) dX10_bound_11 (by decide) rfl ?_
    refine AW.iconst (pc := 12) dX10_bound_12 ⟨by decide, by decide⟩ ?_
    refine AW.istore_n (pc := 13) dX10_bound_13 (by decide) rfl ?_
    exact H_1
  · have q := Decidable.not_not.mp q
    have H_2 := H.1 q
    refine AW.bipush (pc := 7) dX10_bound_7 rfl ⟨by decide, by decide⟩ ?_
    refine AW.iret (pc := 9) dX10_bound_9 rfl ?_
    exact H_2
set_option maxRecDepth 100000 in
set_option maxHeartbeats 4000000 in
theorem s_X10_bound_14  {l1 l2 : Int} {h : aH} {Q : aQ} (H : ((5 ≤ l2 → AW mX10_bound 22 48 [some (aR 85), some (aI l1), some (aI 0), none] [] h Q) ∧ (¬ (5 ≤ l2) → aRun mX10_alone 21 [aR 85, aI l2] h (fun r1 h2 => ((r1 = (-7) → Q (-7) h2) ∧ (¬ (r1 = (-7)) → inR (l2 + 1) ∧ AW mX10_bound 22 14 [some (aR 85), some (aI (max l1 r1)), some (aI (l2 + 1)), none] [] h2 Q)))))) : AW mX10_bound 22 14 [some (aR 85), some (aI l1), some (aI l2), none] [] h Q := by
  refine AW.iload_n (pc := 14) dX10_bound_14 rfl ?_
  refine AW.iconst (pc := 15) dX10_bound_15 ⟨by decide, by decide⟩ ?_
  refine AW.icmp_ge (tgt := 46) (pc := 16) dX10_bound_16 rfl (fun q => ?_) (fun q => ?_)
  · skip
    have H_1 := H.1 q
    refine AW.iconst (pc := 46) dX10_bound_46 ⟨by decide, by decide⟩ ?_
    refine AW.istore_n (pc := 47) dX10_bound_47 (by decide) rfl ?_
    exact H_1
  · skip
    have H_2 := H.2 q
    refine AW.aload_n (pc := 19) dX10_bound_19 rfl ?_
    refine AW.iload_n (pc := 20) dX10_bound_20 rfl ?_
    refine AW.callVi (M' := mX10_alone) (F' := 21) (as := [aI l2]) (pc := 21) dX10_bound_21 (by decide) kX10_alone ml_10_348 ob_85 rfl npX10_alone (Nat.le_of_ble_eq_true rfl) (aRun.mono (fun r1 h2 H_3 => ?_) H_2)
    refine AW.istore_n (pc := 24) dX10_bound_24 (by decide) rfl ?_
    refine AW.iload_n (pc := 25) dX10_bound_25 rfl ?_
    refine AW.bipush (pc := 26) dX10_bound_26 rfl ⟨by decide, by decide⟩ ?_
    refine AW.icmp_ne (tgt := 34) (pc := 28) dX10_bound_28 rfl (fun q => ?_) (fun q => ?_)
    · skip
      have H_4 := H_3.2 q
      refine AW.iload_n (pc := 34) dX10_bound_34 rfl ?_
      refine AW.iload_n (pc := 35) dX10_bound_35 rfl ?_
      refine AW.mmax (pc := 36) dX10_bound_36 (by decide) ml_10_214 (Nat.le_of_ble_eq_true rfl) ?_
      refine AW.istore_n (pc := 39) dX10_bound_39 (by decide) rfl ?_
      refine AW.iinc (pc := 40) dX10_bound_40 rfl (by decide) rfl (H_4.1) ?_
      refine AW.goto (tgt := 14) (pc := 43) dX10_bound_43 rfl ?_
      refine AW.mask [true, true, true, false] ?_
      exact H_4.2
    · have q := Decidable.not_not.mp q
      have H_5 := H_3.1 q
      refine AW.bipush (pc := 31) dX10_bound_31 rfl ⟨by decide, by decide⟩ ?_
      refine AW.iret (pc := 33) dX10_bound_33 rfl ?_
      exact H_5
set_option maxRecDepth 100000 in
set_option maxHeartbeats 4000000 in
theorem s_X10_bound_48  {l1 l2 : Int} {h : aH} {Q : aQ} (H : (((h 85 0) ≤ l2 → Q l1 h) ∧ (¬ ((h 85 0) ≤ l2) → aRun mX10_firstOf 0 [aR 85, aI l2] h (fun r1 h2 => aRun mX10_leftOf 0 [aR 85, aI r1] h2 (fun r3 h4 => inR (l2 + 1) ∧ AW mX10_bound 22 48 [some (aR 85), some (aI (max l1 r3)), some (aI (l2 + 1)), none] [] h4 Q))))) : AW mX10_bound 22 48 [some (aR 85), some (aI l1), some (aI l2), none] [] h Q := by
  refine AW.iload_n (pc := 48) dX10_bound_48 rfl ?_
  refine AW.aload_n (pc := 49) dX10_bound_49 rfl ?_
  refine AW.geti' (k := 0) (j := 0) (pc := 50) dX10_bound_50 ac_10 sh_85 rfl (by decide) fl_10_150 rfl (v := (h 85 0)) rfl ?_
  refine AW.icmp_ge (tgt := 76) (pc := 53) dX10_bound_53 rfl (fun q => ?_) (fun q => ?_)
  · skip
    have H_1 := H.1 q
    refine AW.iload_n (pc := 76) dX10_bound_76 rfl ?_
    refine AW.iret (pc := 77) dX10_bound_77 rfl ?_
    exact H_1
  · skip
    have H_2 := H.2 q
    refine AW.iload_n (pc := 56) dX10_bound_56 rfl ?_
    refine AW.aload_n (pc := 57) dX10_bound_57 rfl ?_
    refine AW.aload_n (pc := 58) dX10_bound_58 rfl ?_
    refine AW.iload_n (pc := 59) dX10_bound_59 rfl ?_
    refine AW.callVi (M' := mX10_firstOf) (F' := 0) (as := [aI l2]) (pc := 60) dX10_bound_60 (by decide) kX10_firstOf ml_10_317 ob_85 rfl npX10_firstOf (Nat.le_of_ble_eq_true rfl) (aRun.mono (fun r1 h2 H_3 => ?_) H_2)
    refine AW.callVi (M' := mX10_leftOf) (F' := 0) (as := [aI r1]) (pc := 63) dX10_bound_63 (by decide) kX10_leftOf ml_10_308 ob_85 rfl npX10_leftOf (Nat.le_of_ble_eq_true rfl) (aRun.mono (fun r3 h4 H_4 => ?_) H_3)
    refine AW.mmax (pc := 66) dX10_bound_66 (by decide) ml_10_214 (Nat.le_of_ble_eq_true rfl) ?_
    refine AW.istore_n (pc := 69) dX10_bound_69 (by decide) rfl ?_
    refine AW.iinc (pc := 70) dX10_bound_70 rfl (by decide) rfl (H_4.1) ?_
    refine AW.goto (tgt := 48) (pc := 73) dX10_bound_73 rfl ?_
    exact H_4.2
def f_X10_leastBy (h : aH) (a1 : Int) (a2 : Int) : Int := (max (((max (f_X10_endOf h (f_X10_jobAhead h a2)) (f_X10_endOf h (h 97 a1))) + (h 89 a2)) + (max (f_X10_restOf h (f_X10_jobBehind h a2)) ((h 89 a1) + (max (f_X10_restOf h (f_X10_jobBehind h a1)) (f_X10_restOf h (h 98 a2)))))) (((max ((max (f_X10_endOf h (f_X10_jobAhead h a2)) (f_X10_endOf h (h 97 a1))) + (h 89 a2)) (f_X10_endOf h (f_X10_jobAhead h a1))) + (h 89 a1)) + (max (f_X10_restOf h (f_X10_jobBehind h a1)) (f_X10_restOf h (h 98 a2)))))
def o_X10_leastBy (h : aH) (a1 : Int) (a2 : Int) : Prop := o_X10_jobAhead h a2 ∧ o_X10_endOf h (f_X10_jobAhead h a2) ∧ (0 ≤ a1 ∧ a1 < 24) ∧ o_X10_endOf h (h 97 a1) ∧ (0 ≤ a2 ∧ a2 < 24) ∧ inR ((max (f_X10_endOf h (f_X10_jobAhead h a2)) (f_X10_endOf h (h 97 a1))) + (h 89 a2)) ∧ o_X10_jobAhead h a1 ∧ o_X10_endOf h (f_X10_jobAhead h a1) ∧ o_X10_jobBehind h a1 ∧ o_X10_restOf h (f_X10_jobBehind h a1) ∧ o_X10_restOf h (h 98 a2) ∧ o_X10_jobBehind h a2 ∧ o_X10_restOf h (f_X10_jobBehind h a2) ∧ inR ((h 89 a1) + (max (f_X10_restOf h (f_X10_jobBehind h a1)) (f_X10_restOf h (h 98 a2)))) ∧ inR (((max (f_X10_endOf h (f_X10_jobAhead h a2)) (f_X10_endOf h (h 97 a1))) + (h 89 a2)) + (max (f_X10_restOf h (f_X10_jobBehind h a2)) ((h 89 a1) + (max (f_X10_restOf h (f_X10_jobBehind h a1)) (f_X10_restOf h (h 98 a2)))))) ∧ inR ((max ((max (f_X10_endOf h (f_X10_jobAhead h a2)) (f_X10_endOf h (h 97 a1))) + (h 89 a2)) (f_X10_endOf h (f_X10_jobAhead h a1))) + (h 89 a1)) ∧ inR (((max ((max (f_X10_endOf h (f_X10_jobAhead h a2)) (f_X10_endOf h (h 97 a1))) + (h 89 a2)) (f_X10_endOf h (f_X10_jobAhead h a1))) + (h 89 a1)) + (max (f_X10_restOf h (f_X10_jobBehind h a1)) (f_X10_restOf h (h 98 a2))))
set_option maxRecDepth 100000 in
set_option maxHeartbeats 4000000 in
theorem p_X10_leastBy {a1 a2 : Int} {h : aH} {Q : aQ} (o : o_X10_leastBy h a1 a2) (k : Q (f_X10_leastBy h a1 a2) h) : aRun mX10_leastBy 1 [aR 85, aI a1, aI a2] h Q := by
  unfold f_X10_leastBy at k
  unfold o_X10_leastBy at o
  refine aRun.of pn_10 rfl (Nat.le_of_ble_eq_true rfl) ?_
  show AW mX10_leastBy 1 0 [some (aR 85), some (aI a1), some (aI a2), none, none, none, none] [] h Q
  refine AW.aload_n (pc := 0) dX10_leastBy_0 rfl ?_
  refine AW.aload_n (pc := 1) dX10_leastBy_1 rfl ?_
  refine AW.iload_n (pc := 2) dX10_leastBy_2 rfl ?_
  refine AW.callVi (M' := mX10_jobAhead) (F' := 0) (as := [aI a2]) (pc := 3) dX10_leastBy_3 (by decide) kX10_jobAhead ml_10_198 ob_85 rfl npX10_jobAhead (Nat.le_of_ble_eq_true rfl) (p_X10_jobAhead (o.1) ?_)
  refine AW.callVi (M' := mX10_endOf) (F' := 0) (as := [aI (f_X10_jobAhead h a2)]) (pc := 6) dX10_leastBy_6 (by decide) kX10_endOf ml_10_211 ob_85 rfl npX10_endOf (Nat.le_of_ble_eq_true rfl) (p_X10_endOf (o.2.1) ?_)
  refine AW.aload_n (pc := 9) dX10_leastBy_9 rfl ?_
  refine AW.aload_n (pc := 10) dX10_leastBy_10 rfl ?_
  refine AW.getr (k := 20) (pc := 11) dX10_leastBy_11 ac_10 sh_85 rfl (by decide) fl_10_43 ?_
  refine AW.iload_n (pc := 14) dX10_leastBy_14 rfl ?_
  refine AW.iald (pc := 15) dX10_leastBy_15 sh_97 (o.2.2.1) (v := (h 97 a1)) rfl ?_
  refine AW.callVi (M' := mX10_endOf) (F' := 0) (as := [aI (h 97 a1)]) (pc := 16) dX10_leastBy_16 (by decide) kX10_endOf ml_10_211 ob_85 rfl npX10_endOf (Nat.le_of_ble_eq_true rfl) (p_X10_endOf (o.2.2.2.1) ?_)
  refine AW.mmax (pc := 19) dX10_leastBy_19 (by decide) ml_10_214 (Nat.le_of_ble_eq_true rfl) ?_
  refine AW.istore_n (pc := 22) dX10_leastBy_22 (by decide) rfl ?_
  refine AW.iload_n (pc := 23) dX10_leastBy_23 rfl ?_
  refine AW.aload_n (pc := 24) dX10_leastBy_24 rfl ?_
  refine AW.getr (k := 5) (pc := 25) dX10_leastBy_25 ac_10 sh_85 rfl (by decide) fl_10_19 ?_
  refine AW.iload_n (pc := 28) dX10_leastBy_28 rfl ?_
  refine AW.iald (pc := 29) dX10_leastBy_29 sh_89 (o.2.2.2.2.1) (v := (h 89 a2)) rfl ?_
  refine AW.iadd (pc := 30) dX10_leastBy_30 (o.2.2.2.2.2.1) ?_
  refine AW.aload_n (pc := 31) dX10_leastBy_31 rfl ?_
  refine AW.aload_n (pc := 32) dX10_leastBy_32 rfl ?_
  refine AW.iload_n (pc := 33) dX10_leastBy_33 rfl ?_
  refine AW.callVi (M' := mX10_jobAhead) (F' := 0) (as := [aI a1]) (pc := 34) dX10_leastBy_34 (by decide) kX10_jobAhead ml_10_198 ob_85 rfl npX10_jobAhead (Nat.le_of_ble_eq_true rfl) (p_X10_jobAhead (o.2.2.2.2.2.2.1) ?_)
  refine AW.callVi (M' := mX10_endOf) (F' := 0) (as := [aI (f_X10_jobAhead h a1)]) (pc := 37) dX10_leastBy_37 (by decide) kX10_endOf ml_10_211 ob_85 rfl npX10_endOf (Nat.le_of_ble_eq_true rfl) (p_X10_endOf (o.2.2.2.2.2.2.2.1) ?_)
  refine AW.mmax (pc := 40) dX10_leastBy_40 (by decide) ml_10_214 (Nat.le_of_ble_eq_true rfl) ?_
  refine AW.istore (pc := 43) dX10_leastBy_43 (by decide) rfl ?_
  refine AW.aload_n (pc := 45) dX10_leastBy_45 rfl ?_
  refine AW.aload_n (pc := 46) dX10_leastBy_46 rfl ?_
  refine AW.iload_n (pc := 47) dX10_leastBy_47 rfl ?_
  refine AW.callVi (M' := mX10_jobBehind) (F' := 0) (as := [aI a1]) (pc := 48) dX10_leastBy_48 (by decide) kX10_jobBehind ml_10_220 ob_85 rfl npX10_jobBehind (Nat.le_of_ble_eq_true rfl) (p_X10_jobBehind (o.2.2.2.2.2.2.2.2.1) ?_)
  refine AW.callVi (M' := mX10_restOf) (F' := 0) (as := [aI (f_X10_jobBehind h a1)]) (pc := 51) dX10_leastBy_51 (by decide) kX10_restOf ml_10_223 ob_85 rfl npX10_restOf (Nat.le_of_ble_eq_true rfl) (p_X10_restOf (o.2.2.2.2.2.2.2.2.2.1) ?_)
  refine AW.aload_n (pc := 54) dX10_leastBy_54 rfl ?_
  refine AW.aload_n (pc := 55) dX10_leastBy_55 rfl ?_
  refine AW.getr (k := 21) (pc := 56) dX10_leastBy_56 ac_10 sh_85 rfl (by decide) fl_10_46 ?_
  refine AW.iload_n (pc := 59) dX10_leastBy_59 rfl ?_
  refine AW.iald (pc := 60) dX10_leastBy_60 sh_98 (o.2.2.2.2.1) (v := (h 98 a2)) rfl ?_
  refine AW.callVi (M' := mX10_restOf) (F' := 0) (as := [aI (h 98 a2)]) (pc := 61) dX10_leastBy_61 (by decide) kX10_restOf ml_10_223 ob_85 rfl npX10_restOf (Nat.le_of_ble_eq_true rfl) (p_X10_restOf (o.2.2.2.2.2.2.2.2.2.2.1) ?_)
  refine AW.mmax (pc := 64) dX10_leastBy_64 (by decide) ml_10_214 (Nat.le_of_ble_eq_true rfl) ?_
  refine AW.istore (pc := 67) dX10_leastBy_67 (by decide) rfl ?_
  refine AW.aload_n (pc := 69) dX10_leastBy_69 rfl ?_
  refine AW.aload_n (pc := 70) dX10_leastBy_70 rfl ?_
  refine AW.iload_n (pc := 71) dX10_leastBy_71 rfl ?_
  refine AW.callVi (M' := mX10_jobBehind) (F' := 0) (as := [aI a2]) (pc := 72) dX10_leastBy_72 (by decide) kX10_jobBehind ml_10_220 ob_85 rfl npX10_jobBehind (Nat.le_of_ble_eq_true rfl) (p_X10_jobBehind (o.2.2.2.2.2.2.2.2.2.2.2.1) ?_)
  refine AW.callVi (M' := mX10_restOf) (F' := 0) (as := [aI (f_X10_jobBehind h a2)]) (pc := 75) dX10_leastBy_75 (by decide) kX10_restOf ml_10_223 ob_85 rfl npX10_restOf (Nat.le_of_ble_eq_true rfl) (p_X10_restOf (o.2.2.2.2.2.2.2.2.2.2.2.2.1) ?_)
  refine AW.aload_n (pc := 78) dX10_leastBy_78 rfl ?_
  refine AW.getr (k := 5) (pc := 79) dX10_leastBy_79 ac_10 sh_85 rfl (by decide) fl_10_19 ?_
  refine AW.iload_n (pc := 82) dX10_leastBy_82 rfl ?_
  refine AW.iald (pc := 83) dX10_leastBy_83 sh_89 (o.2.2.1) (v := (h 89 a1)) rfl ?_
  refine AW.iload (pc := 84) dX10_leastBy_84 rfl ?_
  refine AW.iadd (pc := 86) dX10_leastBy_86 (o.2.2.2.2.2.2.2.2.2.2.2.2.2.1) ?_
  refine AW.mmax (pc := 87) dX10_leastBy_87 (by decide) ml_10_214 (Nat.le_of_ble_eq_true rfl) ?_
  refine AW.istore (pc := 90) dX10_leastBy_90 (by decide) rfl ?_
  refine AW.iload_n (pc := 92) dX10_leastBy_92 rfl ?_
  refine AW.aload_n (pc := 93) dX10_leastBy_93 rfl ?_
  refine AW.getr (k := 5) (pc := 94) dX10_leastBy_94 ac_10 sh_85 rfl (by decide) fl_10_19 ?_
  refine AW.iload_n (pc := 97) dX10_leastBy_97 rfl ?_
  refine AW.iald (pc := 98) dX10_leastBy_98 sh_89 (o.2.2.2.2.1) (v := (h 89 a2)) rfl ?_
  refine AW.iadd (pc := 99) dX10_leastBy_99 (o.2.2.2.2.2.1) ?_
  refine AW.iload (pc := 100) dX10_leastBy_100 rfl ?_
  refine AW.iadd (pc := 102) dX10_leastBy_102 (o.2.2.2.2.2.2.2.2.2.2.2.2.2.2.1) ?_
  refine AW.iload (pc := 103) dX10_leastBy_103 rfl ?_
  refine AW.aload_n (pc := 105) dX10_leastBy_105 rfl ?_
  refine AW.getr (k := 5) (pc := 106) dX10_leastBy_106 ac_10 sh_85 rfl (by decide) fl_10_19 ?_
  refine AW.iload_n (pc := 109) dX10_leastBy_109 rfl ?_
  refine AW.iald (pc := 110) dX10_leastBy_110 sh_89 (o.2.2.1) (v := (h 89 a1)) rfl ?_
  refine AW.iadd (pc := 111) dX10_leastBy_111 (o.2.2.2.2.2.2.2.2.2.2.2.2.2.2.2.1) ?_
  refine AW.iload (pc := 112) dX10_leastBy_112 rfl ?_
  refine AW.iadd (pc := 114) dX10_leastBy_114 (o.2.2.2.2.2.2.2.2.2.2.2.2.2.2.2.2) ?_
  refine AW.mmax (pc := 115) dX10_leastBy_115 (by decide) ml_10_214 (Nat.le_of_ble_eq_true rfl) ?_
  refine AW.iret (pc := 118) dX10_leastBy_118 rfl ?_
  exact k
set_option maxRecDepth 100000 in
set_option maxHeartbeats 4000000 in
theorem e_X10_comesMove {a1 : Int} {h : aH} {Q : aQ} (H : (0 ≤ a1 ∧ a1 < 24) ∧ inR (a1 + 1) ∧ (0 ≤ (a1 + 1) ∧ (a1 + 1) < 24) ∧ (0 ≤ (h 103 a1) ∧ (h 103 a1) < 24) ∧ (0 ≤ (h 103 (a1 + 1)) ∧ (h 103 (a1 + 1)) < 24) ∧ (((h 86 (h 103 a1)) = (h 86 (h 103 (a1 + 1))) → Q 0 h) ∧ (¬ ((h 86 (h 103 a1)) = (h 86 (h 103 (a1 + 1)))) → inR (100 * (h 103 a1)) ∧ inR ((100 * (h 103 a1)) + (h 103 (a1 + 1))) ∧ (0 ≤ (h 85 33) ∧ (h 85 33) < 48) ∧ o_X10_leastBy (a_up h 105 (h 85 33) ((100 * (h 103 a1)) + (h 103 (a1 + 1)))) (h 103 a1) (h 103 (a1 + 1)) ∧ inR ((h 85 33) + 1) ∧ Q 0 (a_up (a_up (a_up h 105 (h 85 33) ((100 * (h 103 a1)) + (h 103 (a1 + 1)))) 106 (h 85 33) (f_X10_leastBy (a_up h 105 (h 85 33) ((100 * (h 103 a1)) + (h 103 (a1 + 1)))) (h 103 a1) (h 103 (a1 + 1)))) 85 33 ((h 85 33) + 1))))) : aRun mX10_comesMove 2 [aR 85, aI a1] h Q := by
  refine aRun.of pn_10 rfl (Nat.le_of_ble_eq_true rfl) ?_
  show AW mX10_comesMove 2 0 [some (aR 85), some (aI a1), none, none] [] h Q
  refine AW.aload_n (pc := 0) dX10_comesMove_0 rfl ?_
  refine AW.getr (k := 27) (pc := 1) dX10_comesMove_1 ac_10 sh_85 rfl (by decide) fl_10_62 ?_
  refine AW.iload_n (pc := 4) dX10_comesMove_4 rfl ?_
  refine AW.iald (pc := 5) dX10_comesMove_5 sh_103 (H.1) (v := (h 103 a1)) rfl ?_
  refine AW.istore_n (pc := 6) dX10_comesMove_6 (by decide) rfl ?_
  refine AW.aload_n (pc := 7) dX10_comesMove_7 rfl ?_
  refine AW.getr (k := 27) (pc := 8) dX10_comesMove_8 ac_10 sh_85 rfl (by decide) fl_10_62 ?_
  refine AW.iload_n (pc := 11) dX10_comesMove_11 rfl ?_
  refine AW.iconst (pc := 12) dX10_comesMove_12 ⟨by decide, by decide⟩ ?_
  refine AW.iadd (pc := 13) dX10_comesMove_13 (H.2.1) ?_
  refine AW.iald (pc := 14) dX10_comesMove_14 sh_103 (H.2.2.1) (v := (h 103 (a1 + 1))) rfl ?_
  refine AW.istore_n (pc := 15) dX10_comesMove_15 (by decide) rfl ?_
  refine AW.aload_n (pc := 16) dX10_comesMove_16 rfl ?_
  refine AW.getr (k := 2) (pc := 17) dX10_comesMove_17 ac_10 sh_85 rfl (by decide) fl_10_9 ?_
  refine AW.iload_n (pc := 20) dX10_comesMove_20 rfl ?_
  refine AW.iald (pc := 21) dX10_comesMove_21 sh_86 (H.2.2.2.1) (v := (h 86 (h 103 a1))) rfl ?_
  refine AW.aload_n (pc := 22) dX10_comesMove_22 rfl ?_
  refine AW.getr (k := 2) (pc := 23) dX10_comesMove_23 ac_10 sh_85 rfl (by decide) fl_10_9 ?_
  refine AW.iload_n (pc := 26) dX10_comesMove_26 rfl ?_
  refine AW.iald (pc := 27) dX10_comesMove_27 sh_86 (H.2.2.2.2.1) (v := (h 86 (h 103 (a1 + 1)))) rfl ?_
  refine AW.icmp_ne (tgt := 32) (pc := 28) dX10_comesMove_28 rfl (fun q => ?_) (fun q => ?_)
  · skip
    have H_1 := H.2.2.2.2.2.2 q
    refine AW.aload_n (pc := 32) dX10_comesMove_32 rfl ?_
    refine AW.getr (k := 31) (pc := 33) dX10_comesMove_33 ac_10 sh_85 rfl (by decide) fl_10_68 ?_
    refine AW.aload_n (pc := 36) dX10_comesMove_36 rfl ?_
    refine AW.geti' (k := 33) (j := 33) (pc := 37) dX10_comesMove_37 ac_10 sh_85 rfl (by decide) fl_10_254 rfl (v := (h 85 33)) rfl ?_
    refine AW.bipush (pc := 40) dX10_comesMove_40 rfl ⟨by decide, by decide⟩ ?_
    refine AW.iload_n (pc := 42) dX10_comesMove_42 rfl ?_
    refine AW.imul (pc := 43) dX10_comesMove_43 (H_1.1) ?_
    refine AW.iload_n (pc := 44) dX10_comesMove_44 rfl ?_
    refine AW.iadd (pc := 45) dX10_comesMove_45 (H_1.2.1) ?_
    refine AW.iast (pc := 46) dX10_comesMove_46 sh_105 (H_1.2.2.1) ?_
    refine AW.aload_n (pc := 47) dX10_comesMove_47 rfl ?_
    refine AW.getr (k := 32) (pc := 48) dX10_comesMove_48 ac_10 sh_85 rfl (by decide) fl_10_71 ?_
    refine AW.aload_n (pc := 51) dX10_comesMove_51 rfl ?_
    refine AW.geti' (k := 33) (j := 33) (pc := 52) dX10_comesMove_52 ac_10 sh_85 rfl (by decide) fl_10_254 rfl (v := (h 85 33)) (by rw [a_up_ne (by decide)]) ?_
    refine AW.aload_n (pc := 55) dX10_comesMove_55 rfl ?_
    refine AW.iload_n (pc := 56) dX10_comesMove_56 rfl ?_
    refine AW.iload_n (pc := 57) dX10_comesMove_57 rfl ?_
    refine AW.callVi (M' := mX10_leastBy) (F' := 1) (as := [aI (h 103 a1), aI (h 103 (a1 + 1))]) (pc := 58) dX10_comesMove_58 (by decide) kX10_leastBy ml_10_257 ob_85 rfl npX10_leastBy (Nat.le_of_ble_eq_true rfl) (p_X10_leastBy (H_1.2.2.2.1) ?_)
    refine AW.iast (pc := 61) dX10_comesMove_61 sh_106 (H_1.2.2.1) ?_
    refine AW.aload_n (pc := 62) dX10_comesMove_62 rfl ?_
    refine AW.dup (pc := 63) dX10_comesMove_63 rfl ?_
    refine AW.geti' (k := 33) (j := 33) (pc := 64) dX10_comesMove_64 ac_10 sh_85 rfl (by decide) fl_10_254 rfl (v := (h 85 33)) (by rw [a_up_ne (by decide), a_up_ne (by decide)]) ?_
    refine AW.iconst (pc := 67) dX10_comesMove_67 ⟨by decide, by decide⟩ ?_
    refine AW.iadd (pc := 68) dX10_comesMove_68 (H_1.2.2.2.2.1) ?_
    refine AW.puti' (k := 33) (j := 33) (pc := 69) dX10_comesMove_69 ac_10 sh_85 rfl (by decide) fl_10_254 rfl rfl (tyX10_ok 33 (by decide)) (Or.inl rfl) ?_
    refine AW.vret (pc := 72) dX10_comesMove_72 rfl ?_
    exact H_1.2.2.2.2.2
  · have q := Decidable.not_not.mp q
    have H_2 := H.2.2.2.2.2.1 q
    refine AW.vret (pc := 31) dX10_comesMove_31 rfl ?_
    exact H_2
