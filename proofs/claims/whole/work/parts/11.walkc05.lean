set_option maxRecDepth 100000 in
set_option maxHeartbeats 4000000 in
theorem e_X8_layTails  {h : aH} {Q : aQ} (H : inR ((h 3 1) - 1) ∧ AW mX8_layTails 1 7 [some (aR 20), some (aR 3), some (aI ((h 3 1) - 1)), none] [] h Q) : aRun mX8_layTails 1 [aR 20, aR 3] h Q := by
  refine aRun.of pn_8 rfl (Nat.le_of_ble_eq_true rfl) ?_
  show AW mX8_layTails 1 0 [some (aR 20), some (aR 3), none, none] [] h Q
  refine AW.aload_n (pc := 0) dX8_layTails_0 rfl ?_
  refine AW.geti' (k := 1) (j := 1) (pc := 1) dX8_layTails_1 ac_5 sh_3 rfl (by decide) fl_8_55 rfl (v := (h 3 1)) rfl ?_
  refine AW.iconst (pc := 4) dX8_layTails_4 ⟨by decide, by decide⟩ ?_
  refine AW.isub (pc := 5) dX8_layTails_5 (H.1) ?_
  refine AW.istore_n (pc := 6) dX8_layTails_6 (by decide) rfl ?_
  exact H.2
set_option maxRecDepth 100000 in
set_option maxHeartbeats 4000000 in
theorem s_X8_layTails_7  {l2 : Int} {h : aH} {Q : aQ} (H : ((l2 < 0 → Q 0 h) ∧ (¬ (l2 < 0) → (0 ≤ l2 ∧ l2 < 24) ∧ o_X5_jobNext h 3 (h 28 l2) ∧ o_X8_toCome h (f_X5_jobNext h 3 (h 28 l2)) ∧ (0 ≤ (h 28 l2) ∧ (h 28 l2) < 24) ∧ o_X8_toCome h (h 23 (h 28 l2)) ∧ inR ((h 20 9) - (h 24 (h 28 l2))) ∧ inR (((h 20 9) - (h 24 (h 28 l2))) - (h 7 (h 28 l2))) ∧ inR ((((h 20 9) - (h 24 (h 28 l2))) - (h 7 (h 28 l2))) - (max (f_X8_toCome h (f_X5_jobNext h 3 (h 28 l2))) (f_X8_toCome h (h 23 (h 28 l2))))) ∧ inR (l2 + (-1)) ∧ AW mX8_layTails 1 7 [some (aR 20), some (aR 3), some (aI (l2 + (-1))), none] [] (a_up (a_up h 25 (h 28 l2) (max (f_X8_toCome h (f_X5_jobNext h 3 (h 28 l2))) (f_X8_toCome h (h 23 (h 28 l2))))) 26 (h 28 l2) ((((h 20 9) - (h 24 (h 28 l2))) - (h 7 (h 28 l2))) - (max (f_X8_toCome h (f_X5_jobNext h 3 (h 28 l2))) (f_X8_toCome h (h 23 (h 28 l2)))))) Q))) : AW mX8_layTails 1 7 [some (aR 20), some (aR 3), some (aI l2), none] [] h Q := by
  refine AW.iload_n (pc := 7) dX8_layTails_7 rfl ?_
  refine AW.if_lt (tgt := 85) (pc := 8) dX8_layTails_8 rfl (fun q => ?_) (fun q => ?_)
  · skip
    have H_1 := H.1 q
    refine AW.vret (pc := 85) dX8_layTails_85 rfl ?_
    exact H_1
  · skip
    have H_2 := H.2 q
    refine AW.aload_n (pc := 11) dX8_layTails_11 rfl ?_
    refine AW.getr (k := 7) (pc := 12) dX8_layTails_12 ac_8 sh_20 rfl (by decide) fl_8_33 ?_
    refine AW.iload_n (pc := 15) dX8_layTails_15 rfl ?_
    refine AW.iald (pc := 16) dX8_layTails_16 sh_28 (H_2.1) (v := (h 28 l2)) rfl ?_
    refine AW.istore_n (pc := 17) dX8_layTails_17 (by decide) rfl ?_
    refine AW.aload_n (pc := 18) dX8_layTails_18 rfl ?_
    refine AW.getr (k := 4) (pc := 19) dX8_layTails_19 ac_8 sh_20 rfl (by decide) fl_8_24 ?_
    refine AW.iload_n (pc := 22) dX8_layTails_22 rfl ?_
    refine AW.aload_n (pc := 23) dX8_layTails_23 rfl ?_
    refine AW.aload_n (pc := 24) dX8_layTails_24 rfl ?_
    refine AW.aload_n (pc := 25) dX8_layTails_25 rfl ?_
    refine AW.iload_n (pc := 26) dX8_layTails_26 rfl ?_
    refine AW.callVi (M' := mX5_jobNext) (F' := 0) (as := [aI (h 28 l2)]) (pc := 27) dX8_layTails_27 (by decide) kX5_jobNext ml_8_69 ob_3 rfl npX5_jobNext (Nat.le_of_ble_eq_true rfl) (p_X5_jobNext (Or.inl rfl) (H_2.2.1) ?_)
    refine AW.callVi (M' := mX8_toCome) (F' := 0) (as := [aR 3, aI (f_X5_jobNext h 3 (h 28 l2))]) (pc := 30) dX8_layTails_30 (by decide) kX8_toCome ml_8_83 ob_20 rfl npX8_toCome (Nat.le_of_ble_eq_true rfl) (p_X8_toCome (H_2.2.2.1) ?_)
    refine AW.aload_n (pc := 33) dX8_layTails_33 rfl ?_
    refine AW.aload_n (pc := 34) dX8_layTails_34 rfl ?_
    refine AW.aload_n (pc := 35) dX8_layTails_35 rfl ?_
    refine AW.getr (k := 2) (pc := 36) dX8_layTails_36 ac_8 sh_20 rfl (by decide) fl_8_18 ?_
    refine AW.iload_n (pc := 39) dX8_layTails_39 rfl ?_
    refine AW.iald (pc := 40) dX8_layTails_40 sh_23 (H_2.2.2.2.1) (v := (h 23 (h 28 l2))) rfl ?_
    refine AW.callVi (M' := mX8_toCome) (F' := 0) (as := [aR 3, aI (h 23 (h 28 l2))]) (pc := 41) dX8_layTails_41 (by decide) kX8_toCome ml_8_83 ob_20 rfl npX8_toCome (Nat.le_of_ble_eq_true rfl) (p_X8_toCome (H_2.2.2.2.2.1) ?_)
    refine AW.mmax (pc := 44) dX8_layTails_44 (by decide) ml_8_63 (Nat.le_of_ble_eq_true rfl) ?_
    refine AW.iast (pc := 47) dX8_layTails_47 sh_25 (H_2.2.2.2.1) ?_
    refine AW.aload_n (pc := 48) dX8_layTails_48 rfl ?_
    refine AW.getr (k := 5) (pc := 49) dX8_layTails_49 ac_8 sh_20 rfl (by decide) fl_8_27 ?_
    refine AW.iload_n (pc := 52) dX8_layTails_52 rfl ?_
    refine AW.aload_n (pc := 53) dX8_layTails_53 rfl ?_
    refine AW.geti' (k := 9) (j := 9) (pc := 54) dX8_layTails_54 ac_8 sh_20 rfl (by decide) fl_8_40 rfl (v := (h 20 9)) (by rw [a_up_ne (by decide)]) ?_
    refine AW.aload_n (pc := 57) dX8_layTails_57 rfl ?_
    refine AW.getr (k := 3) (pc := 58) dX8_layTails_58 ac_8 sh_20 rfl (by decide) fl_8_21 ?_
    refine AW.iload_n (pc := 61) dX8_layTails_61 rfl ?_
    refine AW.iald (pc := 62) dX8_layTails_62 sh_24 (H_2.2.2.2.1) (v := (h 24 (h 28 l2))) (by rw [a_up_ne (by decide)]) ?_
    refine AW.isub (pc := 63) dX8_layTails_63 (H_2.2.2.2.2.2.1) ?_
    refine AW.aload_n (pc := 64) dX8_layTails_64 rfl ?_
    refine AW.getr (k := 5) (pc := 65) dX8_layTails_65 ac_5 sh_3 rfl (by decide) fl_8_60 ?_
    refine AW.iload_n (pc := 68) dX8_layTails_68 rfl ?_
    refine AW.iald (pc := 69) dX8_layTails_69 sh_7 (H_2.2.2.2.1) (v := (h 7 (h 28 l2))) (by rw [a_up_ne (by decide)]) ?_
    refine AW.isub (pc := 70) dX8_layTails_70 (H_2.2.2.2.2.2.2.1) ?_
    refine AW.aload_n (pc := 71) dX8_layTails_71 rfl ?_
    refine AW.getr (k := 4) (pc := 72) dX8_layTails_72 ac_8 sh_20 rfl (by decide) fl_8_24 ?_
    refine AW.iload_n (pc := 75) dX8_layTails_75 rfl ?_
    refine AW.iald (pc := 76) dX8_layTails_76 sh_25 (H_2.2.2.2.1) (v := (max (f_X8_toCome h (f_X5_jobNext h 3 (h 28 l2))) (f_X8_toCome h (h 23 (h 28 l2))))) (by rw [a_up_eq]) ?_
    refine AW.isub (pc := 77) dX8_layTails_77 (H_2.2.2.2.2.2.2.2.1) ?_
    refine AW.iast (pc := 78) dX8_layTails_78 sh_26 (H_2.2.2.2.1) ?_
    refine AW.iinc (pc := 79) dX8_layTails_79 rfl (by decide) rfl (H_2.2.2.2.2.2.2.2.2.1) ?_
    refine AW.goto (tgt := 7) (pc := 82) dX8_layTails_82 rfl ?_
    refine AW.mask [true, true, true, false] ?_
    exact H_2.2.2.2.2.2.2.2.2.2
def f_X9_noShop (h : aH) : Int := (if (h 3 1) = 0 then (1 : Int) else (0 : Int))
theorem b_X9_noShop {h : aH}  : f_X9_noShop h = 0 ∨ f_X9_noShop h = 1 := by
  unfold f_X9_noShop
  exact (a_ite01 (Or.inr rfl) (Or.inl rfl))
set_option maxRecDepth 100000 in
set_option maxHeartbeats 4000000 in
theorem p_X9_noShop  {h : aH} {Q : aQ} (k : Q (f_X9_noShop h) h) : aRun mX9_noShop 0 [aR 0] h Q := by
  unfold f_X9_noShop at k
  refine aRun.of pn_9 rfl (Nat.le_of_ble_eq_true rfl) ?_
  show AW mX9_noShop 0 0 [some (aR 0)] [] h Q
  refine AW.aload_n (pc := 0) dX9_noShop_0 rfl ?_
  refine AW.getr (k := 1) (pc := 1) dX9_noShop_1 ac_9 sh_0 rfl (by decide) fl_9_19 ?_
  refine AW.geti' (k := 1) (j := 1) (pc := 4) dX9_noShop_4 ac_5 sh_3 rfl (by decide) fl_9_120 rfl (v := (h 3 1)) rfl ?_
  have K_1 : AW mX9_noShop 0 15 [some (aR 0)] [aI (if (h 3 1) = 0 then (1 : Int) else (0 : Int))] h Q := by
    refine AW.zret (pc := 15) dX9_noShop_15 rfl (a_ite01 (Or.inr rfl) (Or.inl rfl)) ?_
    exact k
  refine AW.if_ne (tgt := 14) (pc := 7) dX9_noShop_7 rfl (fun q => ?_) (fun q => ?_)
  · skip
    rw [if_neg q] at K_1
    refine AW.iconst (pc := 14) dX9_noShop_14 ⟨by decide, by decide⟩ ?_
    exact K_1
  · have q := Decidable.not_not.mp q
    rw [if_pos q] at K_1
    refine AW.iconst (pc := 10) dX9_noShop_10 ⟨by decide, by decide⟩ ?_
    refine AW.goto (tgt := 15) (pc := 11) dX9_noShop_11 rfl ?_
    exact K_1
set_option maxRecDepth 100000 in
set_option maxHeartbeats 4000000 in
theorem e_X9_all {a1 : Int} {h : aH} {Q : aQ} (H : ((a1 < 0 → Q (-1) h) ∧ (¬ (a1 < 0) → ((a1 ≤ 1 → (((f_X9_noShop h) = 0 → aRun mX2_look 4 [aR 73, aR 3, aR 29] h (fun r1 h2 => ((r1 = 0 → Q (-7) h2) ∧ (¬ (r1 = 0) → Q (if a1 = 0 then (h2 73 2) else (h2 73 3)) h2)))) ∧ (¬ ((f_X9_noShop h) = 0) → Q (-5) h))) ∧ (¬ (a1 ≤ 1) → Q (-1) h))))) : aRun mX9_all 5 [aR 0, aI a1] h Q := by
  refine aRun.of pn_9 rfl (Nat.le_of_ble_eq_true rfl) ?_
  show AW mX9_all 5 0 [some (aR 0), some (aI a1)] [] h Q
  refine AW.iload_n (pc := 0) dX9_all_0 rfl ?_
  refine AW.if_lt (tgt := 9) (pc := 1) dX9_all_1 rfl (fun q => ?_) (fun q => ?_)
  · skip
    have H_1 := H.1 q
    refine AW.iconst (pc := 9) dX9_all_9 ⟨by decide, by decide⟩ ?_
    refine AW.iret (pc := 10) dX9_all_10 rfl ?_
    exact H_1
  · skip
    have H_2 := H.2 q
    refine AW.iload_n (pc := 4) dX9_all_4 rfl ?_
    refine AW.iconst (pc := 5) dX9_all_5 ⟨by decide, by decide⟩ ?_
    refine AW.icmp_le (tgt := 11) (pc := 6) dX9_all_6 rfl (fun q => ?_) (fun q => ?_)
    · skip
      have H_3 := H_2.1 q
      refine AW.aload_n (pc := 11) dX9_all_11 rfl ?_
      refine AW.callVi (M' := mX9_noShop) (F' := 0) (as := []) (pc := 12) dX9_all_12 (by decide) kX9_noShop ml_9_145 ob_0 rfl npX9_noShop (Nat.le_of_ble_eq_true rfl) (p_X9_noShop  ?_)
      refine AW.if_eq (tgt := 21) (pc := 15) dX9_all_15 rfl (fun q => ?_) (fun q => ?_)
      · skip
        have H_4 := H_3.1 q
        refine AW.aload_n (pc := 21) dX9_all_21 rfl ?_
        refine AW.getr (k := 11) (pc := 22) dX9_all_22 ac_9 sh_0 rfl (by decide) fl_9_78 ?_
        refine AW.aload_n (pc := 25) dX9_all_25 rfl ?_
        refine AW.getr (k := 1) (pc := 26) dX9_all_26 ac_9 sh_0 rfl (by decide) fl_9_19 ?_
        refine AW.aload_n (pc := 29) dX9_all_29 rfl ?_
        refine AW.getr (k := 5) (pc := 30) dX9_all_30 ac_9 sh_0 rfl (by decide) fl_9_37 ?_
        refine AW.callVi (M' := mX2_look) (F' := 4) (as := [aR 3, aR 29]) (pc := 33) dX9_all_33 (by decide) kX2_look ml_9_259 ob_73 rfl npX2_look (Nat.le_of_ble_eq_true rfl) (aRun.mono (fun r1 h2 H_5 => ?_) H_4)
        refine AW.if_ne (tgt := 42) (pc := 36) dX9_all_36 rfl (fun q => ?_) (fun q => ?_)
        · skip
          have H_6 := H_5.2 q
          refine AW.iload_n (pc := 42) dX9_all_42 rfl ?_
          have K_7 : AW mX9_all 5 63 [some (aR 0), some (aI a1)] [aI (if a1 = 0 then (h2 73 2) else (h2 73 3))] h2 Q := by
            have H_8 := H_6
            refine AW.iret (pc := 63) dX9_all_63 rfl ?_
            exact H_8
          refine AW.if_ne (tgt := 56) (pc := 43) dX9_all_43 rfl (fun q => ?_) (fun q => ?_)
          · skip
            rw [if_neg q] at K_7
            refine AW.aload_n (pc := 56) dX9_all_56 rfl ?_
            refine AW.getr (k := 11) (pc := 57) dX9_all_57 ac_9 sh_0 rfl (by decide) fl_9_78 ?_
            refine AW.geti' (k := 3) (j := 3) (pc := 60) dX9_all_60 ac_2 sh_73 rfl (by decide) fl_9_266 rfl (v := (h2 73 3)) rfl ?_
            exact K_7
          · have q := Decidable.not_not.mp q
            rw [if_pos q] at K_7
            refine AW.aload_n (pc := 46) dX9_all_46 rfl ?_
            refine AW.getr (k := 11) (pc := 47) dX9_all_47 ac_9 sh_0 rfl (by decide) fl_9_78 ?_
            refine AW.geti' (k := 2) (j := 2) (pc := 50) dX9_all_50 ac_2 sh_73 rfl (by decide) fl_9_263 rfl (v := (h2 73 2)) rfl ?_
            refine AW.goto (tgt := 63) (pc := 53) dX9_all_53 rfl ?_
            exact K_7
        · have q := Decidable.not_not.mp q
          have H_12 := H_5.1 q
          refine AW.bipush (pc := 39) dX9_all_39 rfl ⟨by decide, by decide⟩ ?_
          refine AW.iret (pc := 41) dX9_all_41 rfl ?_
          exact H_12
      · skip
        have H_13 := H_3.2 q
        refine AW.bipush (pc := 18) dX9_all_18 rfl ⟨by decide, by decide⟩ ?_
        refine AW.iret (pc := 20) dX9_all_20 rfl ?_
        exact H_13
    · skip
      have H_14 := H_2.2 q
      refine AW.iconst (pc := 9) dX9_all_9 ⟨by decide, by decide⟩ ?_
      refine AW.iret (pc := 10) dX9_all_10 rfl ?_
      exact H_14
set_option maxRecDepth 100000 in
set_option maxHeartbeats 4000000 in
theorem p_X9_forgetSteps  {h : aH} {Q : aQ} (k : Q 0 (a_up (a_up h 42 1 0) 0 15 (-1))) : aRun mX9_forgetSteps 0 [aR 0] h Q := by
  refine aRun.of pn_9 rfl (Nat.le_of_ble_eq_true rfl) ?_
  show AW mX9_forgetSteps 0 0 [some (aR 0)] [] h Q
  refine AW.aload_n (pc := 0) dX9_forgetSteps_0 rfl ?_
  refine AW.getr (k := 7) (pc := 1) dX9_forgetSteps_1 ac_9 sh_0 rfl (by decide) fl_9_50 ?_
  refine AW.iconst (pc := 4) dX9_forgetSteps_4 ⟨by decide, by decide⟩ ?_
  refine AW.puti' (k := 1) (j := 1) (pc := 5) dX9_forgetSteps_5 ac_3 sh_42 rfl (by decide) fl_9_225 rfl rfl (tyX3_ok 1 (by decide)) (Or.inl rfl) ?_
  refine AW.aload_n (pc := 8) dX9_forgetSteps_8 rfl ?_
  refine AW.iconst (pc := 9) dX9_forgetSteps_9 ⟨by decide, by decide⟩ ?_
  refine AW.puti' (k := 15) (j := 15) (pc := 10) dX9_forgetSteps_10 ac_9 sh_0 rfl (by decide) fl_9_91 rfl rfl (tyX9_ok 15 (by decide)) (Or.inl rfl) ?_
  refine AW.vret (pc := 13) dX9_forgetSteps_13 rfl ?_
  exact k
set_option maxRecDepth 100000 in
set_option maxHeartbeats 4000000 in
theorem e_X9_settle  {h : aH} {Q : aQ} (H : aRun mX8_lay 2 [aR 20, aR 3, aR 19] h (fun r1 h2 => (((h2 20 10) = 0 → aRun mX8_layTails 1 [aR 20, aR 3] h2 (fun r3 h4 => aRun mX6_find 2 [aR 38, aR 3, aR 20] h4 (fun r5 h6 => Q 0 h6))) ∧ (¬ ((h2 20 10) = 0) → Q 0 h2)))) : aRun mX9_settle 3 [aR 0] h Q := by
  refine aRun.of pn_9 rfl (Nat.le_of_ble_eq_true rfl) ?_
  show AW mX9_settle 3 0 [some (aR 0)] [] h Q
  refine AW.aload_n (pc := 0) dX9_settle_0 rfl ?_
  refine AW.getr (k := 4) (pc := 1) dX9_settle_1 ac_9 sh_0 rfl (by decide) fl_9_33 ?_
  refine AW.aload_n (pc := 4) dX9_settle_4 rfl ?_
  refine AW.getr (k := 1) (pc := 5) dX9_settle_5 ac_9 sh_0 rfl (by decide) fl_9_19 ?_
  refine AW.aload_n (pc := 8) dX9_settle_8 rfl ?_
  refine AW.getr (k := 3) (pc := 9) dX9_settle_9 ac_9 sh_0 rfl (by decide) fl_9_26 ?_
  refine AW.callVv (M' := mX8_lay) (F' := 2) (as := [aR 3, aR 19]) (pc := 12) dX9_settle_12 (by decide) kX8_lay ml_9_308 ob_20 rfl npX8_lay (Nat.le_of_ble_eq_true rfl) (aRun.mono (fun r1 h2 H_1 => ?_) H)
  refine AW.aload_n (pc := 15) dX9_settle_15 rfl ?_
  refine AW.getr (k := 4) (pc := 16) dX9_settle_16 ac_9 sh_0 rfl (by decide) fl_9_33 ?_
  refine AW.geti' (k := 10) (j := 10) (pc := 19) dX9_settle_19 ac_8 sh_20 rfl (by decide) fl_9_288 rfl (v := (h2 20 10)) rfl ?_
  refine AW.if_ne (tgt := 51) (pc := 22) dX9_settle_22 rfl (fun q => ?_) (fun q => ?_)
  · skip
    have H_2 := H_1.2 q
    refine AW.vret (pc := 51) dX9_settle_51 rfl ?_
    exact H_2
  · have q := Decidable.not_not.mp q
    have H_3 := H_1.1 q
    refine AW.aload_n (pc := 25) dX9_settle_25 rfl ?_
    refine AW.getr (k := 4) (pc := 26) dX9_settle_26 ac_9 sh_0 rfl (by decide) fl_9_33 ?_
    refine AW.aload_n (pc := 29) dX9_settle_29 rfl ?_
    refine AW.getr (k := 1) (pc := 30) dX9_settle_30 ac_9 sh_0 rfl (by decide) fl_9_19 ?_
    refine AW.callVv (M' := mX8_layTails) (F' := 1) (as := [aR 3]) (pc := 33) dX9_settle_33 (by decide) kX8_layTails ml_9_311 ob_20 rfl npX8_layTails (Nat.le_of_ble_eq_true rfl) (aRun.mono (fun r3 h4 H_4 => ?_) H_3)
    refine AW.aload_n (pc := 36) dX9_settle_36 rfl ?_
    refine AW.getr (k := 6) (pc := 37) dX9_settle_37 ac_9 sh_0 rfl (by decide) fl_9_43 ?_
    refine AW.aload_n (pc := 40) dX9_settle_40 rfl ?_
    refine AW.getr (k := 1) (pc := 41) dX9_settle_41 ac_9 sh_0 rfl (by decide) fl_9_19 ?_
    refine AW.aload_n (pc := 44) dX9_settle_44 rfl ?_
    refine AW.getr (k := 4) (pc := 45) dX9_settle_45 ac_9 sh_0 rfl (by decide) fl_9_33 ?_
    refine AW.callVv (M' := mX6_find) (F' := 2) (as := [aR 3, aR 20]) (pc := 48) dX9_settle_48 (by decide) kX6_find ml_9_314 ob_38 rfl npX6_find (Nat.le_of_ble_eq_true rfl) (aRun.mono (fun r5 h6 H_5 => ?_) H_4)
    refine AW.vret (pc := 51) dX9_settle_51 rfl ?_
    exact H_5
set_option maxRecDepth 100000 in
set_option maxHeartbeats 4000000 in
theorem e_X9_startAnew  {h : aH} {Q : aQ} (H : aRun mX0_forget 0 [aR 69] (a_up (a_up (a_cp (a_up (a_up h 44 1 0) 44 2 0) 19 0 46 0 24) 42 1 0) 0 15 (-1)) (fun r1 h2 => aRun mX9_settle 3 [aR 0] (a_up h2 73 1 0) (fun r3 h4 => Q 0 h4))) : aRun mX9_startAnew 4 [aR 0] h Q := by
  refine aRun.of pn_9 rfl (Nat.le_of_ble_eq_true rfl) ?_
  show AW mX9_startAnew 4 0 [some (aR 0)] [] h Q
  refine AW.aload_n (pc := 0) dX9_startAnew_0 rfl ?_
  refine AW.getr (k := 8) (pc := 1) dX9_startAnew_1 ac_9 sh_0 rfl (by decide) fl_9_57 ?_
  refine AW.aload_n (pc := 4) dX9_startAnew_4 rfl ?_
  refine AW.getr (k := 3) (pc := 5) dX9_startAnew_5 ac_9 sh_0 rfl (by decide) fl_9_26 ?_
  refine AW.callVv (M' := mX4_begin) (F' := 2) (as := [aR 19]) (pc := 8) dX9_startAnew_8 (by decide) kX4_begin ml_9_298 ob_44 rfl npX4_begin (Nat.le_of_ble_eq_true rfl) (p_X4_begin  ?_)
  refine AW.aload_n (pc := 11) dX9_startAnew_11 rfl ?_
  refine AW.callVv (M' := mX9_forgetSteps) (F' := 0) (as := []) (pc := 12) dX9_startAnew_12 (by decide) kX9_forgetSteps ml_9_219 ob_0 rfl npX9_forgetSteps (Nat.le_of_ble_eq_true rfl) (p_X9_forgetSteps  ?_)
  refine AW.aload_n (pc := 15) dX9_startAnew_15 rfl ?_
  refine AW.getr (k := 10) (pc := 16) dX9_startAnew_16 ac_9 sh_0 rfl (by decide) fl_9_71 ?_
  refine AW.callVv (M' := mX0_forget) (F' := 0) (as := []) (pc := 19) dX9_startAnew_19 (by decide) kX0_forget ml_9_301 ob_69 rfl npX0_forget (Nat.le_of_ble_eq_true rfl) (aRun.mono (fun r1 h2 H_1 => ?_) H)
  refine AW.aload_n (pc := 22) dX9_startAnew_22 rfl ?_
  refine AW.getr (k := 11) (pc := 23) dX9_startAnew_23 ac_9 sh_0 rfl (by decide) fl_9_78 ?_
  refine AW.callVv (M' := mX2_forget) (F' := 0) (as := []) (pc := 26) dX9_startAnew_26 (by decide) kX2_forget ml_9_304 ob_73 rfl npX2_forget (Nat.le_of_ble_eq_true rfl) (p_X2_forget  ?_)
  refine AW.aload_n (pc := 29) dX9_startAnew_29 rfl ?_
  refine AW.callVv (M' := mX9_settle) (F' := 3) (as := []) (pc := 30) dX9_startAnew_30 (by decide) kX9_settle ml_9_274 ob_0 rfl npX9_settle (Nat.le_of_ble_eq_true rfl) (aRun.mono (fun r3 h4 H_2 => ?_) H_1)
  refine AW.vret (pc := 33) dX9_startAnew_33 rfl ?_
  exact H_2
set_option maxRecDepth 100000 in
set_option maxHeartbeats 4000000 in
theorem e_X9_back  {h : aH} {Q : aQ} (H : (((h 75 1) = 0 → Q (-5) h) ∧ (¬ ((h 75 1) = 0) → aRun mX9_startAnew 4 [aR 0] (a_cp (a_cp (a_cp (a_cp (a_cp (a_cp (a_cp (a_cp (a_up (a_up h 3 0 (h 75 0)) 3 1 (h 75 1)) 76 0 4 0 24) 77 0 5 0 24) 78 0 6 0 24) 79 0 7 0 24) 80 0 8 0 24) 81 0 9 0 24) 82 0 10 0 6) 83 0 19 0 24) (fun r1 h2 => Q (h2 3 1) h2)))) : aRun mX9_back 5 [aR 0] h Q := by
  refine aRun.of pn_9 rfl (Nat.le_of_ble_eq_true rfl) ?_
  show AW mX9_back 5 0 [some (aR 0)] [] h Q
  refine AW.aload_n (pc := 0) dX9_back_0 rfl ?_
  refine AW.getr (k := 12) (pc := 1) dX9_back_1 ac_9 sh_0 rfl (by decide) fl_9_82 ?_
  refine AW.geti' (k := 1) (j := 1) (pc := 4) dX9_back_4 ac_5 sh_75 rfl (by decide) fl_9_120 rfl (v := (h 75 1)) rfl ?_
  refine AW.if_ne (tgt := 13) (pc := 7) dX9_back_7 rfl (fun q => ?_) (fun q => ?_)
  · skip
    have H_1 := H.2 q
    refine AW.aload_n (pc := 13) dX9_back_13 rfl ?_
    refine AW.getr (k := 1) (pc := 14) dX9_back_14 ac_9 sh_0 rfl (by decide) fl_9_19 ?_
    refine AW.aload_n (pc := 17) dX9_back_17 rfl ?_
    refine AW.getr (k := 12) (pc := 18) dX9_back_18 ac_9 sh_0 rfl (by decide) fl_9_82 ?_
    refine AW.callVv (M' := mX5_copyOf) (F' := 2) (as := [aR 75]) (pc := 21) dX9_back_21 (by decide) kX5_copyOf ml_9_109 ob_3 rfl npX5_copyOf (Nat.le_of_ble_eq_true rfl) (p_X5_copyOf (Or.inl rfl) (Or.inr (Or.inr rfl))  ?_)
    refine AW.aload_n (pc := 24) dX9_back_24 rfl ?_
    refine AW.getr (k := 13) (pc := 25) dX9_back_25 ac_9 sh_0 rfl (by decide) fl_9_85 ?_
    refine AW.aload_n (pc := 28) dX9_back_28 rfl ?_
    refine AW.getr (k := 3) (pc := 29) dX9_back_29 ac_9 sh_0 rfl (by decide) fl_9_26 ?_
    refine AW.callSv (M' := mX9_copyRow) (F' := 1) (as := [aR 83, aR 19]) (pc := 32) dX9_back_32 (by decide) kX9_copyRow ml_9_231 rfl npX9_copyRow (Nat.le_of_ble_eq_true rfl) (p_X9_copyRow sh_83 sh_19  ?_)
    refine AW.aload_n (pc := 35) dX9_back_35 rfl ?_
    refine AW.callVv (M' := mX9_startAnew) (F' := 4) (as := []) (pc := 36) dX9_back_36 (by decide) kX9_startAnew ml_9_117 ob_0 rfl npX9_startAnew (Nat.le_of_ble_eq_true rfl) (aRun.mono (fun r1 h2 H_2 => ?_) H_1)
    refine AW.aload_n (pc := 39) dX9_back_39 rfl ?_
    refine AW.getr (k := 1) (pc := 40) dX9_back_40 ac_9 sh_0 rfl (by decide) fl_9_19 ?_
    refine AW.geti' (k := 1) (j := 1) (pc := 43) dX9_back_43 ac_5 sh_3 rfl (by decide) fl_9_120 rfl (v := (h2 3 1)) rfl ?_
    refine AW.iret (pc := 46) dX9_back_46 rfl ?_
    exact H_2
  · have q := Decidable.not_not.mp q
    have H_3 := H.1 q
    refine AW.bipush (pc := 10) dX9_back_10 rfl ⟨by decide, by decide⟩ ?_
    refine AW.iret (pc := 12) dX9_back_12 rfl ?_
    exact H_3
set_option maxRecDepth 100000 in
set_option maxHeartbeats 4000000 in
theorem e_X9_changed  {h : aH} {Q : aQ} (H : aRun mX4_note 2 [aR 44, aR 19] h (fun r1 h2 => aRun mX9_settle 3 [aR 0] h2 (fun r3 h4 => Q 0 h4))) : aRun mX9_changed 4 [aR 0] h Q := by
  refine aRun.of pn_9 rfl (Nat.le_of_ble_eq_true rfl) ?_
  show AW mX9_changed 4 0 [some (aR 0)] [] h Q
  refine AW.aload_n (pc := 0) dX9_changed_0 rfl ?_
  refine AW.getr (k := 8) (pc := 1) dX9_changed_1 ac_9 sh_0 rfl (by decide) fl_9_57 ?_
  refine AW.aload_n (pc := 4) dX9_changed_4 rfl ?_
  refine AW.getr (k := 3) (pc := 5) dX9_changed_5 ac_9 sh_0 rfl (by decide) fl_9_26 ?_
  refine AW.callVv (M' := mX4_note) (F' := 2) (as := [aR 19]) (pc := 8) dX9_changed_8 (by decide) kX4_note ml_9_305 ob_44 rfl npX4_note (Nat.le_of_ble_eq_true rfl) (aRun.mono (fun r1 h2 H_1 => ?_) H)
  refine AW.aload_n (pc := 11) dX9_changed_11 rfl ?_
  refine AW.callVv (M' := mX9_settle) (F' := 3) (as := []) (pc := 12) dX9_changed_12 (by decide) kX9_settle ml_9_274 ob_0 rfl npX9_settle (Nat.le_of_ble_eq_true rfl) (aRun.mono (fun r3 h4 H_2 => ?_) H_1)
  refine AW.vret (pc := 15) dX9_changed_15 rfl ?_
  exact H_2
def f_X9_spanOrRing (h : aH) : Int := (if (h 20 10) = 0 then (h 20 9) else ((-4) : Int))
set_option maxRecDepth 100000 in
set_option maxHeartbeats 4000000 in
theorem p_X9_spanOrRing  {h : aH} {Q : aQ} (k : Q (f_X9_spanOrRing h) h) : aRun mX9_spanOrRing 0 [aR 0] h Q := by
  unfold f_X9_spanOrRing at k
  refine aRun.of pn_9 rfl (Nat.le_of_ble_eq_true rfl) ?_
  show AW mX9_spanOrRing 0 0 [some (aR 0)] [] h Q
  refine AW.aload_n (pc := 0) dX9_spanOrRing_0 rfl ?_
  refine AW.getr (k := 4) (pc := 1) dX9_spanOrRing_1 ac_9 sh_0 rfl (by decide) fl_9_33 ?_
  refine AW.geti' (k := 10) (j := 10) (pc := 4) dX9_spanOrRing_4 ac_8 sh_20 rfl (by decide) fl_9_288 rfl (v := (h 20 10)) rfl ?_
  have K_1 : AW mX9_spanOrRing 0 22 [some (aR 0)] [aI (if (h 20 10) = 0 then (h 20 9) else ((-4) : Int))] h Q := by
    refine AW.iret (pc := 22) dX9_spanOrRing_22 rfl ?_
    exact k
  refine AW.if_eq (tgt := 15) (pc := 7) dX9_spanOrRing_7 rfl (fun q => ?_) (fun q => ?_)
  · skip
    rw [if_pos q] at K_1
    refine AW.aload_n (pc := 15) dX9_spanOrRing_15 rfl ?_
    refine AW.getr (k := 4) (pc := 16) dX9_spanOrRing_16 ac_9 sh_0 rfl (by decide) fl_9_33 ?_
    refine AW.geti' (k := 9) (j := 9) (pc := 19) dX9_spanOrRing_19 ac_8 sh_20 rfl (by decide) fl_9_169 rfl (v := (h 20 9)) rfl ?_
    exact K_1
  · skip
    rw [if_neg q] at K_1
    refine AW.bipush (pc := 10) dX9_spanOrRing_10 rfl ⟨by decide, by decide⟩ ?_
    refine AW.goto (tgt := 22) (pc := 12) dX9_spanOrRing_12 rfl ?_
    exact K_1
set_option maxRecDepth 100000 in
set_option maxHeartbeats 4000000 in
theorem e_X9_best {a1 : Int} {h : aH} {Q : aQ} (H : ((a1 < 0 → Q (-1) h) ∧ (¬ (a1 < 0) → ((a1 ≤ 1 → (((f_X9_noShop h) = 0 → (((h 0 15) = (-1) → Q (-2) h) ∧ (¬ ((h 0 15) = (-1)) → ((a1 = 0 → Q (h 0 15) h) ∧ (¬ (a1 = 0) → aRun mX9_changed 4 [aR 0] (a_cp h 84 0 19 0 24) (fun r1 h2 => Q (f_X9_spanOrRing h2) h2)))))) ∧ (¬ ((f_X9_noShop h) = 0) → Q (-5) h))) ∧ (¬ (a1 ≤ 1) → Q (-1) h))))) : aRun mX9_best 5 [aR 0, aI a1] h Q := by
  refine aRun.of pn_9 rfl (Nat.le_of_ble_eq_true rfl) ?_
  show AW mX9_best 5 0 [some (aR 0), some (aI a1)] [] h Q
  refine AW.iload_n (pc := 0) dX9_best_0 rfl ?_
  refine AW.if_lt (tgt := 9) (pc := 1) dX9_best_1 rfl (fun q => ?_) (fun q => ?_)
  · skip
    have H_1 := H.1 q
    refine AW.iconst (pc := 9) dX9_best_9 ⟨by decide, by decide⟩ ?_
    refine AW.iret (pc := 10) dX9_best_10 rfl ?_
    exact H_1
  · skip
    have H_2 := H.2 q
    refine AW.iload_n (pc := 4) dX9_best_4 rfl ?_
    refine AW.iconst (pc := 5) dX9_best_5 ⟨by decide, by decide⟩ ?_
    refine AW.icmp_le (tgt := 11) (pc := 6) dX9_best_6 rfl (fun q => ?_) (fun q => ?_)
    · skip
      have H_3 := H_2.1 q
      refine AW.aload_n (pc := 11) dX9_best_11 rfl ?_
      refine AW.callVi (M' := mX9_noShop) (F' := 0) (as := []) (pc := 12) dX9_best_12 (by decide) kX9_noShop ml_9_145 ob_0 rfl npX9_noShop (Nat.le_of_ble_eq_true rfl) (p_X9_noShop  ?_)
      refine AW.if_eq (tgt := 21) (pc := 15) dX9_best_15 rfl (fun q => ?_) (fun q => ?_)
      · skip
        have H_4 := H_3.1 q
        refine AW.aload_n (pc := 21) dX9_best_21 rfl ?_
        refine AW.geti' (k := 15) (j := 15) (pc := 22) dX9_best_22 ac_9 sh_0 rfl (by decide) fl_9_91 rfl (v := (h 0 15)) rfl ?_
        refine AW.iconst (pc := 25) dX9_best_25 ⟨by decide, by decide⟩ ?_
        refine AW.icmp_ne (tgt := 32) (pc := 26) dX9_best_26 rfl (fun q => ?_) (fun q => ?_)
        · skip
          have H_5 := H_4.2 q
          refine AW.iload_n (pc := 32) dX9_best_32 rfl ?_
          refine AW.if_ne (tgt := 41) (pc := 33) dX9_best_33 rfl (fun q => ?_) (fun q => ?_)
          · skip
            have H_6 := H_5.2 q
            refine AW.aload_n (pc := 41) dX9_best_41 rfl ?_
            refine AW.getr (k := 14) (pc := 42) dX9_best_42 ac_9 sh_0 rfl (by decide) fl_9_88 ?_
            refine AW.aload_n (pc := 45) dX9_best_45 rfl ?_
            refine AW.getr (k := 3) (pc := 46) dX9_best_46 ac_9 sh_0 rfl (by decide) fl_9_26 ?_
            refine AW.callSv (M' := mX9_copyRow) (F' := 1) (as := [aR 84, aR 19]) (pc := 49) dX9_best_49 (by decide) kX9_copyRow ml_9_231 rfl npX9_copyRow (Nat.le_of_ble_eq_true rfl) (p_X9_copyRow sh_84 sh_19  ?_)
            refine AW.aload_n (pc := 52) dX9_best_52 rfl ?_
            refine AW.callVv (M' := mX9_changed) (F' := 4) (as := []) (pc := 53) dX9_best_53 (by decide) kX9_changed ml_9_159 ob_0 rfl npX9_changed (Nat.le_of_ble_eq_true rfl) (aRun.mono (fun r1 h2 H_7 => ?_) H_6)
            refine AW.aload_n (pc := 56) dX9_best_56 rfl ?_
            refine AW.callVi (M' := mX9_spanOrRing) (F' := 0) (as := []) (pc := 57) dX9_best_57 (by decide) kX9_spanOrRing ml_9_162 ob_0 rfl npX9_spanOrRing (Nat.le_of_ble_eq_true rfl) (p_X9_spanOrRing  ?_)
            refine AW.iret (pc := 60) dX9_best_60 rfl ?_
            exact H_7
          · have q := Decidable.not_not.mp q
            have H_8 := H_5.1 q
            refine AW.aload_n (pc := 36) dX9_best_36 rfl ?_
            refine AW.geti' (k := 15) (j := 15) (pc := 37) dX9_best_37 ac_9 sh_0 rfl (by decide) fl_9_91 rfl (v := (h 0 15)) rfl ?_
            refine AW.iret (pc := 40) dX9_best_40 rfl ?_
            exact H_8
        · have q := Decidable.not_not.mp q
          have H_9 := H_4.1 q
          refine AW.bipush (pc := 29) dX9_best_29 rfl ⟨by decide, by decide⟩ ?_
          refine AW.iret (pc := 31) dX9_best_31 rfl ?_
          exact H_9
      · skip
        have H_10 := H_3.2 q
        refine AW.bipush (pc := 18) dX9_best_18 rfl ⟨by decide, by decide⟩ ?_
        refine AW.iret (pc := 20) dX9_best_20 rfl ?_
        exact H_10
    · skip
      have H_11 := H_2.2 q
      refine AW.iconst (pc := 9) dX9_best_9 ⟨by decide, by decide⟩ ?_
      refine AW.iret (pc := 10) dX9_best_10 rfl ?_
      exact H_11
def f_X9_refusedByState (h : aH) : Int := (if (f_X9_noShop h) = 0 then (if (h 20 10) = 0 then (0 : Int) else ((-4) : Int)) else ((-5) : Int))
set_option maxRecDepth 100000 in
set_option maxHeartbeats 4000000 in
theorem p_X9_refusedByState  {h : aH} {Q : aQ} (k : Q (f_X9_refusedByState h) h) : aRun mX9_refusedByState 1 [aR 0] h Q := by
  unfold f_X9_refusedByState at k
  refine aRun.of pn_9 rfl (Nat.le_of_ble_eq_true rfl) ?_
  show AW mX9_refusedByState 1 0 [some (aR 0)] [] h Q
  refine AW.aload_n (pc := 0) dX9_refusedByState_0 rfl ?_
  refine AW.callVi (M' := mX9_noShop) (F' := 0) (as := []) (pc := 1) dX9_refusedByState_1 (by decide) kX9_noShop ml_9_145 ob_0 rfl npX9_noShop (Nat.le_of_ble_eq_true rfl) (p_X9_noShop  ?_)
  refine AW.if_eq (tgt := 10) (pc := 4) dX9_refusedByState_4 rfl (fun q => ?_) (fun q => ?_)
  · skip
    rw [if_pos q] at k
    refine AW.aload_n (pc := 10) dX9_refusedByState_10 rfl ?_
    refine AW.getr (k := 4) (pc := 11) dX9_refusedByState_11 ac_9 sh_0 rfl (by decide) fl_9_33 ?_
    refine AW.geti' (k := 10) (j := 10) (pc := 14) dX9_refusedByState_14 ac_8 sh_20 rfl (by decide) fl_9_288 rfl (v := (h 20 10)) rfl ?_
    have K_2 : AW mX9_refusedByState 1 26 [some (aR 0)] [aI (if (h 20 10) = 0 then (0 : Int) else ((-4) : Int))] h Q := by
      refine AW.iret (pc := 26) dX9_refusedByState_26 rfl ?_
      exact k
    refine AW.if_eq (tgt := 25) (pc := 17) dX9_refusedByState_17 rfl (fun q => ?_) (fun q => ?_)
    · skip
      rw [if_pos q] at K_2
      refine AW.iconst (pc := 25) dX9_refusedByState_25 ⟨by decide, by decide⟩ ?_
      exact K_2
    · skip
      rw [if_neg q] at K_2
      refine AW.bipush (pc := 20) dX9_refusedByState_20 rfl ⟨by decide, by decide⟩ ?_
      refine AW.goto (tgt := 26) (pc := 22) dX9_refusedByState_22 rfl ?_
      exact K_2
  · skip
    rw [if_neg q] at k
    refine AW.bipush (pc := 7) dX9_refusedByState_7 rfl ⟨by decide, by decide⟩ ?_
    refine AW.iret (pc := 9) dX9_refusedByState_9 rfl ?_
    exact k
def f_X9_block (h : aH) (a1 : Int) : Int := (if (-1) ≤ a1 then (if (f_X9_refusedByState h) = 0 then (if a1 = (-1) then (h 38 3) else (if (h 38 3) ≤ a1 then ((-2) : Int) else ((h 40 (a1 + 1)) - (h 40 a1)))) else (f_X9_refusedByState h)) else ((-1) : Int))
def o_X9_block (h : aH) (a1 : Int) : Prop := ((-1) ≤ a1 → ((f_X9_refusedByState h) = 0 → (¬ (a1 = (-1)) → ((¬ ((h 38 3) ≤ a1) → (inR (a1 + 1) ∧ (0 ≤ (a1 + 1) ∧ (a1 + 1) < 25) ∧ (0 ≤ a1 ∧ a1 < 25) ∧ inR ((h 40 (a1 + 1)) - (h 40 a1))))))))
set_option maxRecDepth 100000 in
set_option maxHeartbeats 4000000 in
theorem p_X9_block {a1 : Int} {h : aH} {Q : aQ} (o : o_X9_block h a1) (k : Q (f_X9_block h a1) h) : aRun mX9_block 2 [aR 0, aI a1] h Q := by
  unfold f_X9_block at k
  unfold o_X9_block at o
  refine aRun.of pn_9 rfl (Nat.le_of_ble_eq_true rfl) ?_
  show AW mX9_block 2 0 [some (aR 0), some (aI a1), none] [] h Q
  refine AW.iload_n (pc := 0) dX9_block_0 rfl ?_
  refine AW.iconst (pc := 1) dX9_block_1 ⟨by decide, by decide⟩ ?_
  refine AW.icmp_ge (tgt := 7) (pc := 2) dX9_block_2 rfl (fun q => ?_) (fun q => ?_)
  · skip
    have H_1 := o q
    rw [if_pos q] at k
    refine AW.aload_n (pc := 7) dX9_block_7 rfl ?_
    refine AW.callVi (M' := mX9_refusedByState) (F' := 1) (as := []) (pc := 8) dX9_block_8 (by decide) kX9_refusedByState ml_9_166 ob_0 rfl npX9_refusedByState (Nat.le_of_ble_eq_true rfl) (p_X9_refusedByState  ?_)
    refine AW.istore_n (pc := 11) dX9_block_11 (by decide) rfl ?_
    refine AW.iload_n (pc := 12) dX9_block_12 rfl ?_
    refine AW.if_eq (tgt := 18) (pc := 13) dX9_block_13 rfl (fun q => ?_) (fun q => ?_)
    · skip
      have H_2 := H_1 q
      rw [if_pos q] at k
      refine AW.iload_n (pc := 18) dX9_block_18 rfl ?_
      refine AW.iconst (pc := 19) dX9_block_19 ⟨by decide, by decide⟩ ?_
      refine AW.icmp_ne (tgt := 31) (pc := 20) dX9_block_20 rfl (fun q => ?_) (fun q => ?_)
      · skip
        have H_3 := H_2 q
        rw [if_neg q] at k
        refine AW.iload_n (pc := 31) dX9_block_31 rfl ?_
        refine AW.aload_n (pc := 32) dX9_block_32 rfl ?_
        refine AW.getr (k := 6) (pc := 33) dX9_block_33 ac_9 sh_0 rfl (by decide) fl_9_43 ?_
        refine AW.geti' (k := 3) (j := 3) (pc := 36) dX9_block_36 ac_6 sh_38 rfl (by decide) fl_9_184 rfl (v := (h 38 3)) rfl ?_
        have K_4 : AW mX9_block 2 68 [some (aR 0), some (aI a1), some (aI (f_X9_refusedByState h))] [aI (if (h 38 3) ≤ a1 then ((-2) : Int) else ((h 40 (a1 + 1)) - (h 40 a1)))] h Q := by
          refine AW.iret (pc := 68) dX9_block_68 rfl ?_
          exact k
        have H_6 := H_3
        refine AW.icmp_ge (tgt := 66) (pc := 39) dX9_block_39 rfl (fun q => ?_) (fun q => ?_)
        · skip
          rw [if_pos q] at K_4
          refine AW.bipush (pc := 66) dX9_block_66 rfl ⟨by decide, by decide⟩ ?_
          exact K_4
        · skip
          have H_8 := H_6 q
          rw [if_neg q] at K_4
          refine AW.aload_n (pc := 42) dX9_block_42 rfl ?_
          refine AW.getr (k := 6) (pc := 43) dX9_block_43 ac_9 sh_0 rfl (by decide) fl_9_43 ?_
          refine AW.getr (k := 2) (pc := 46) dX9_block_46 ac_6 sh_38 rfl (by decide) fl_9_187 ?_
          refine AW.iload_n (pc := 49) dX9_block_49 rfl ?_
          refine AW.iconst (pc := 50) dX9_block_50 ⟨by decide, by decide⟩ ?_
          refine AW.iadd (pc := 51) dX9_block_51 (H_8.1) ?_
          refine AW.iald (pc := 52) dX9_block_52 sh_40 (H_8.2.1) (v := (h 40 (a1 + 1))) rfl ?_
          refine AW.aload_n (pc := 53) dX9_block_53 rfl ?_
          refine AW.getr (k := 6) (pc := 54) dX9_block_54 ac_9 sh_0 rfl (by decide) fl_9_43 ?_
          refine AW.getr (k := 2) (pc := 57) dX9_block_57 ac_6 sh_38 rfl (by decide) fl_9_187 ?_
          refine AW.iload_n (pc := 60) dX9_block_60 rfl ?_
          refine AW.iald (pc := 61) dX9_block_61 sh_40 (H_8.2.2.1) (v := (h 40 a1)) rfl ?_
          refine AW.isub (pc := 62) dX9_block_62 (H_8.2.2.2) ?_
          refine AW.goto (tgt := 68) (pc := 63) dX9_block_63 rfl ?_
          exact K_4
      · have q := Decidable.not_not.mp q
        rw [if_pos q] at k
        refine AW.aload_n (pc := 23) dX9_block_23 rfl ?_
        refine AW.getr (k := 6) (pc := 24) dX9_block_24 ac_9 sh_0 rfl (by decide) fl_9_43 ?_
        refine AW.geti' (k := 3) (j := 3) (pc := 27) dX9_block_27 ac_6 sh_38 rfl (by decide) fl_9_184 rfl (v := (h 38 3)) rfl ?_
        refine AW.iret (pc := 30) dX9_block_30 rfl ?_
        exact k
    · skip
      rw [if_neg q] at k
      refine AW.iload_n (pc := 16) dX9_block_16 rfl ?_
      refine AW.iret (pc := 17) dX9_block_17 rfl ?_
      exact k
  · skip
    rw [if_neg q] at k
    refine AW.iconst (pc := 5) dX9_block_5 ⟨by decide, by decide⟩ ?_
    refine AW.iret (pc := 6) dX9_block_6 rfl ?_
    exact k
set_option maxRecDepth 100000 in
set_option maxHeartbeats 4000000 in
theorem e_X9_bound  {h : aH} {Q : aQ} (H : (((f_X9_noShop h) = 0 → aRun mX5_longestJob 1 [aR 3] h (fun r1 h2 => AW mX9_bound 4 20 [some (aR 0), some (aI r1), some (aI 0), none] [] h2 Q)) ∧ (¬ ((f_X9_noShop h) = 0) → Q (-5) h))) : aRun mX9_bound 4 [aR 0] h Q := by
  refine aRun.of pn_9 rfl (Nat.le_of_ble_eq_true rfl) ?_
  show AW mX9_bound 4 0 [some (aR 0), none, none, none] [] h Q
  refine AW.aload_n (pc := 0) dX9_bound_0 rfl ?_
  refine AW.callVi (M' := mX9_noShop) (F' := 0) (as := []) (pc := 1) dX9_bound_1 (by decide) kX9_noShop ml_9_145 ob_0 rfl npX9_noShop (Nat.le_of_ble_eq_true rfl) (p_X9_noShop  ?_)
  refine AW.if_eq (tgt := 10) (pc := 4) dX9_bound_4 rfl (fun q => ?_) (fun q => ?_)
  · skip
    have H_1 := H.1 q
    refine AW.aload_n (pc := 10) dX9_bound_10 rfl ?_
    refine AW.getr (k := 1) (pc := 11) dX9_bound_11 ac_9 sh_0 rfl (by decide) fl_9_19 ?_
    refine AW.callVi (M' := mX5_longestJob) (F' := 1) (as := []) (pc := 14) dX9_bound_14 (by decide) kX5_longestJob ml_9_251 ob_3 rfl npX5_longestJob (Nat.le_of_ble_eq_true rfl) (aRun.mono (fun r1 h2 H_2 => ?_) H_1)
    refine AW.istore_n (pc := 17) dX9_bound_17 (by decide) rfl ?_
    refine AW.iconst (pc := 18) dX9_bound_18 ⟨by decide, by decide⟩ ?_
    refine AW.istore_n (pc := 19) dX9_bound_19 (by decide) rfl ?_
    exact H_2
  · skip
    have H_3 := H.2 q
    refine AW.bipush (pc := 7) dX9_bound_7 rfl ⟨by decide, by decide⟩ ?_
    refine AW.iret (pc := 9) dX9_bound_9 rfl ?_
    exact H_3
set_option maxRecDepth 100000 in
set_option maxHeartbeats 4000000 in
theorem s_X9_bound_20  {l1 l2 : Int} {h : aH} {Q : aQ} (H : ((5 ≤ l2 → Q l1 h) ∧ (¬ (5 ≤ l2) → aRun mX0_atBest 3 [aR 69, aR 3, aI l2] h (fun r1 h2 => ((r1 = (-7) → Q (-7) h2) ∧ (¬ (r1 = (-7)) → inR (l2 + 1) ∧ AW mX9_bound 4 20 [some (aR 0), some (aI (max l1 r1)), some (aI (l2 + 1)), none] [] h2 Q)))))) : AW mX9_bound 4 20 [some (aR 0), some (aI l1), some (aI l2), none] [] h Q := by
  refine AW.iload_n (pc := 20) dX9_bound_20 rfl ?_
  refine AW.iconst (pc := 21) dX9_bound_21 ⟨by decide, by decide⟩ ?_
  refine AW.icmp_ge (tgt := 59) (pc := 22) dX9_bound_22 rfl (fun q => ?_) (fun q => ?_)
  · skip
    have H_1 := H.1 q
    refine AW.iload_n (pc := 59) dX9_bound_59 rfl ?_
    refine AW.iret (pc := 60) dX9_bound_60 rfl ?_
    exact H_1
  · skip
    have H_2 := H.2 q
    refine AW.aload_n (pc := 25) dX9_bound_25 rfl ?_
    refine AW.getr (k := 10) (pc := 26) dX9_bound_26 ac_9 sh_0 rfl (by decide) fl_9_71 ?_
    refine AW.aload_n (pc := 29) dX9_bound_29 rfl ?_
    refine AW.getr (k := 1) (pc := 30) dX9_bound_30 ac_9 sh_0 rfl (by decide) fl_9_19 ?_
    refine AW.iload_n (pc := 33) dX9_bound_33 rfl ?_
    refine AW.callVi (M' := mX0_atBest) (F' := 3) (as := [aR 3, aI l2]) (pc := 34) dX9_bound_34 (by decide) kX0_atBest ml_9_244 ob_69 rfl npX0_atBest (Nat.le_of_ble_eq_true rfl) (aRun.mono (fun r1 h2 H_3 => ?_) H_2)
    refine AW.istore_n (pc := 37) dX9_bound_37 (by decide) rfl ?_
    refine AW.iload_n (pc := 38) dX9_bound_38 rfl ?_
    refine AW.bipush (pc := 39) dX9_bound_39 rfl ⟨by decide, by decide⟩ ?_
    refine AW.icmp_ne (tgt := 47) (pc := 41) dX9_bound_41 rfl (fun q => ?_) (fun q => ?_)
    · skip
      have H_4 := H_3.2 q
      refine AW.iload_n (pc := 47) dX9_bound_47 rfl ?_
      refine AW.iload_n (pc := 48) dX9_bound_48 rfl ?_
      refine AW.mmax (pc := 49) dX9_bound_49 (by decide) ml_9_254 (Nat.le_of_ble_eq_true rfl) ?_
      refine AW.istore_n (pc := 52) dX9_bound_52 (by decide) rfl ?_
      refine AW.iinc (pc := 53) dX9_bound_53 rfl (by decide) rfl (H_4.1) ?_
      refine AW.goto (tgt := 20) (pc := 56) dX9_bound_56 rfl ?_
      refine AW.mask [true, true, true, false] ?_
      exact H_4.2
    · have q := Decidable.not_not.mp q
      have H_5 := H_3.1 q
      refine AW.bipush (pc := 44) dX9_bound_44 rfl ⟨by decide, by decide⟩ ?_
      refine AW.iret (pc := 46) dX9_bound_46 rfl ?_
      exact H_5
def f_X9_pair (h : aH) (a0 : Int) (a1 : Int) : Int := ((100 * a0) + a1)
def o_X9_pair (h : aH) (a0 : Int) (a1 : Int) : Prop := inR (100 * a0) ∧ inR ((100 * a0) + a1)
set_option maxRecDepth 100000 in
set_option maxHeartbeats 4000000 in
theorem p_X9_pair {a0 a1 : Int} {h : aH} {Q : aQ} (o : o_X9_pair h a0 a1) (k : Q (f_X9_pair h a0 a1) h) : aRun mX9_pair 0 [aI a0, aI a1] h Q := by
  unfold f_X9_pair at k
  unfold o_X9_pair at o
  refine aRun.of pn_9 rfl (Nat.le_of_ble_eq_true rfl) ?_
  show AW mX9_pair 0 0 [some (aI a0), some (aI a1)] [] h Q
  refine AW.bipush (pc := 0) dX9_pair_0 rfl ⟨by decide, by decide⟩ ?_
  refine AW.iload_n (pc := 2) dX9_pair_2 rfl ?_
  refine AW.imul (pc := 3) dX9_pair_3 (o.1) ?_
  refine AW.iload_n (pc := 4) dX9_pair_4 rfl ?_
  refine AW.iadd (pc := 5) dX9_pair_5 (o.2) ?_
  refine AW.iret (pc := 6) dX9_pair_6 rfl ?_
  exact k
set_option maxRecDepth 100000 in
set_option maxHeartbeats 4000000 in
theorem e_X9_keptSince {a1 : Int} {h : aH} {Q : aQ} (H : o_X6_first h a1 ∧ o_X6_second h a1 ∧ o_X9_pair h (f_X6_first h a1) (f_X6_second h a1) ∧ aRun mX3_find 0 [aR 42, aI (f_X9_pair h (f_X6_first h a1) (f_X6_second h a1))] h (fun r1 h2 => Q r1 h2)) : aRun mX9_keptSince 1 [aR 0, aI a1] h Q := by
  refine aRun.of pn_9 rfl (Nat.le_of_ble_eq_true rfl) ?_
  show AW mX9_keptSince 1 0 [some (aR 0), some (aI a1)] [] h Q
  refine AW.aload_n (pc := 0) dX9_keptSince_0 rfl ?_
  refine AW.getr (k := 7) (pc := 1) dX9_keptSince_1 ac_9 sh_0 rfl (by decide) fl_9_50 ?_
  refine AW.aload_n (pc := 4) dX9_keptSince_4 rfl ?_
  refine AW.getr (k := 6) (pc := 5) dX9_keptSince_5 ac_9 sh_0 rfl (by decide) fl_9_43 ?_
  refine AW.iload_n (pc := 8) dX9_keptSince_8 rfl ?_
  refine AW.callVi (M' := mX6_first) (F' := 0) (as := [aI a1]) (pc := 9) dX9_keptSince_9 (by decide) kX6_first ml_9_193 ob_38 rfl npX6_first (Nat.le_of_ble_eq_true rfl) (p_X6_first (H.1) ?_)
  refine AW.aload_n (pc := 12) dX9_keptSince_12 rfl ?_
  refine AW.getr (k := 6) (pc := 13) dX9_keptSince_13 ac_9 sh_0 rfl (by decide) fl_9_43 ?_
  refine AW.iload_n (pc := 16) dX9_keptSince_16 rfl ?_
  refine AW.callVi (M' := mX6_second) (F' := 0) (as := [aI a1]) (pc := 17) dX9_keptSince_17 (by decide) kX6_second ml_9_196 ob_38 rfl npX6_second (Nat.le_of_ble_eq_true rfl) (p_X6_second (H.2.1) ?_)
  refine AW.callSi (M' := mX9_pair) (F' := 0) (as := [aI (f_X6_first h a1), aI (f_X6_second h a1)]) (pc := 20) dX9_keptSince_20 (by decide) kX9_pair ml_9_199 rfl npX9_pair (Nat.le_of_ble_eq_true rfl) (p_X9_pair (H.2.2.1) ?_)
  refine AW.callVi (M' := mX3_find) (F' := 0) (as := [aI (f_X9_pair h (f_X6_first h a1) (f_X6_second h a1))]) (pc := 23) dX9_keptSince_23 (by decide) kX3_find ml_9_318 ob_42 rfl npX3_find (Nat.le_of_ble_eq_true rfl) (aRun.mono (fun r1 h2 H_1 => ?_) H.2.2.2)
  refine AW.iret (pc := 26) dX9_keptSince_26 rfl ?_
  exact H_1
set_option maxRecDepth 100000 in
set_option maxHeartbeats 4000000 in
theorem e_X9_changePlaces {a1 : Int} {h : aH} {Q : aQ} (H : ((a1 < 0 → Q 0 h) ∧ (¬ (a1 < 0) → inR (a1 + 1) ∧ (((a1 + 1) < 24 → (0 ≤ a1 ∧ a1 < 24) ∧ (0 ≤ (a1 + 1) ∧ (a1 + 1) < 24) ∧ Q 0 (a_up (a_up h 19 a1 (h 19 (a1 + 1))) 19 (a1 + 1) (h 19 a1))) ∧ (¬ ((a1 + 1) < 24) → Q 0 h))))) : aRun mX9_changePlaces 0 [aR 0, aI a1] h Q := by
  refine aRun.of pn_9 rfl (Nat.le_of_ble_eq_true rfl) ?_
  show AW mX9_changePlaces 0 0 [some (aR 0), some (aI a1), none] [] h Q
  refine AW.iload_n (pc := 0) dX9_changePlaces_0 rfl ?_
  refine AW.if_lt (tgt := 12) (pc := 1) dX9_changePlaces_1 rfl (fun q => ?_) (fun q => ?_)
  · skip
    have H_1 := H.1 q
    refine AW.vret (pc := 12) dX9_changePlaces_12 rfl ?_
    exact H_1
  · skip
    have H_2 := H.2 q
    refine AW.iload_n (pc := 4) dX9_changePlaces_4 rfl ?_
    refine AW.iconst (pc := 5) dX9_changePlaces_5 ⟨by decide, by decide⟩ ?_
    refine AW.iadd (pc := 6) dX9_changePlaces_6 (H_2.1) ?_
    refine AW.bipush (pc := 7) dX9_changePlaces_7 rfl ⟨by decide, by decide⟩ ?_
    refine AW.icmp_lt (tgt := 13) (pc := 9) dX9_changePlaces_9 rfl (fun q => ?_) (fun q => ?_)
    · skip
      have H_3 := H_2.2.1 q
      refine AW.aload_n (pc := 13) dX9_changePlaces_13 rfl ?_
      refine AW.getr (k := 3) (pc := 14) dX9_changePlaces_14 ac_9 sh_0 rfl (by decide) fl_9_26 ?_
      refine AW.iload_n (pc := 17) dX9_changePlaces_17 rfl ?_
      refine AW.iald (pc := 18) dX9_changePlaces_18 sh_19 (H_3.1) (v := (h 19 a1)) rfl ?_
      refine AW.istore_n (pc := 19) dX9_changePlaces_19 (by decide) rfl ?_
      refine AW.aload_n (pc := 20) dX9_changePlaces_20 rfl ?_
      refine AW.getr (k := 3) (pc := 21) dX9_changePlaces_21 ac_9 sh_0 rfl (by decide) fl_9_26 ?_
      refine AW.iload_n (pc := 24) dX9_changePlaces_24 rfl ?_
      refine AW.aload_n (pc := 25) dX9_changePlaces_25 rfl ?_
      refine AW.getr (k := 3) (pc := 26) dX9_changePlaces_26 ac_9 sh_0 rfl (by decide) fl_9_26 ?_
      refine AW.iload_n (pc := 29) dX9_changePlaces_29 rfl ?_
      refine AW.iconst (pc := 30) dX9_changePlaces_30 ⟨by decide, by decide⟩ ?_
      refine AW.iadd (pc := 31) dX9_changePlaces_31 (H_2.1) ?_
      refine AW.iald (pc := 32) dX9_changePlaces_32 sh_19 (H_3.2.1) (v := (h 19 (a1 + 1))) rfl ?_
      refine AW.iast (pc := 33) dX9_changePlaces_33 sh_19 (H_3.1) ?_
      refine AW.aload_n (pc := 34) dX9_changePlaces_34 rfl ?_
      refine AW.getr (k := 3) (pc := 35) dX9_changePlaces_35 ac_9 sh_0 rfl (by decide) fl_9_26 ?_
      refine AW.iload_n (pc := 38) dX9_changePlaces_38 rfl ?_
      refine AW.iconst (pc := 39) dX9_changePlaces_39 ⟨by decide, by decide⟩ ?_
      refine AW.iadd (pc := 40) dX9_changePlaces_40 (H_2.1) ?_
      refine AW.iload_n (pc := 41) dX9_changePlaces_41 rfl ?_
      refine AW.iast (pc := 42) dX9_changePlaces_42 sh_19 (H_3.2.1) ?_
      refine AW.vret (pc := 43) dX9_changePlaces_43 rfl ?_
      exact H_3.2.2
    · skip
      have H_4 := H_2.2.2 q
      refine AW.vret (pc := 12) dX9_changePlaces_12 rfl ?_
      exact H_4
def f_X9_slotOf (h : aH) (a1 : Int) : Int := ((h 10 (h 6 a1)) + (h 21 a1))
def o_X9_slotOf (h : aH) (a1 : Int) : Prop := (0 ≤ a1 ∧ a1 < 24) ∧ (0 ≤ (h 6 a1) ∧ (h 6 a1) < 6) ∧ inR ((h 10 (h 6 a1)) + (h 21 a1))
set_option maxRecDepth 100000 in
set_option maxHeartbeats 4000000 in
theorem p_X9_slotOf {a1 : Int} {h : aH} {Q : aQ} (o : o_X9_slotOf h a1) (k : Q (f_X9_slotOf h a1) h) : aRun mX9_slotOf 0 [aR 0, aI a1] h Q := by
  unfold f_X9_slotOf at k
  unfold o_X9_slotOf at o
  refine aRun.of pn_9 rfl (Nat.le_of_ble_eq_true rfl) ?_
  show AW mX9_slotOf 0 0 [some (aR 0), some (aI a1)] [] h Q
  refine AW.aload_n (pc := 0) dX9_slotOf_0 rfl ?_
  refine AW.getr (k := 1) (pc := 1) dX9_slotOf_1 ac_9 sh_0 rfl (by decide) fl_9_19 ?_
  refine AW.getr (k := 8) (pc := 4) dX9_slotOf_4 ac_5 sh_3 rfl (by decide) fl_9_153 ?_
  refine AW.aload_n (pc := 7) dX9_slotOf_7 rfl ?_
  refine AW.getr (k := 1) (pc := 8) dX9_slotOf_8 ac_9 sh_0 rfl (by decide) fl_9_19 ?_
  refine AW.getr (k := 4) (pc := 11) dX9_slotOf_11 ac_5 sh_3 rfl (by decide) fl_9_133 ?_
  refine AW.iload_n (pc := 14) dX9_slotOf_14 rfl ?_
  refine AW.iald (pc := 15) dX9_slotOf_15 sh_6 (o.1) (v := (h 6 a1)) rfl ?_
  refine AW.iald (pc := 16) dX9_slotOf_16 sh_10 (o.2.1) (v := (h 10 (h 6 a1))) rfl ?_
  refine AW.aload_n (pc := 17) dX9_slotOf_17 rfl ?_
  refine AW.getr (k := 4) (pc := 18) dX9_slotOf_18 ac_9 sh_0 rfl (by decide) fl_9_33 ?_
  refine AW.getr (k := 0) (pc := 21) dX9_slotOf_21 ac_8 sh_20 rfl (by decide) fl_9_139 ?_
  refine AW.iload_n (pc := 24) dX9_slotOf_24 rfl ?_
  refine AW.iald (pc := 25) dX9_slotOf_25 sh_21 (o.1) (v := (h 21 a1)) rfl ?_
  refine AW.iadd (pc := 26) dX9_slotOf_26 (o.2.2) ?_
  refine AW.iret (pc := 27) dX9_slotOf_27 rfl ?_
  exact k
set_option maxRecDepth 100000 in
set_option maxHeartbeats 4000000 in
theorem e_X9_spanBehind {a1 : Int} {h : aH} {Q : aQ} (H : o_X6_first h a1 ∧ o_X9_slotOf h (f_X6_first h a1) ∧ aRun mX9_changePlaces 0 [aR 0, aI (f_X9_slotOf h (f_X6_first h a1))] h (fun r1 h2 => aRun mX8_lay 2 [aR 29, aR 3, aR 19] h2 (fun r3 h4 => aRun mX9_changePlaces 0 [aR 0, aI (f_X9_slotOf h (f_X6_first h a1))] h4 (fun r5 h6 => Q (h6 29 9) h6)))) : aRun mX9_spanBehind 3 [aR 0, aI a1] h Q := by
  refine aRun.of pn_9 rfl (Nat.le_of_ble_eq_true rfl) ?_
  show AW mX9_spanBehind 3 0 [some (aR 0), some (aI a1), none] [] h Q
  refine AW.aload_n (pc := 0) dX9_spanBehind_0 rfl ?_
  refine AW.aload_n (pc := 1) dX9_spanBehind_1 rfl ?_
  refine AW.getr (k := 6) (pc := 2) dX9_spanBehind_2 ac_9 sh_0 rfl (by decide) fl_9_43 ?_
  refine AW.iload_n (pc := 5) dX9_spanBehind_5 rfl ?_
  refine AW.callVi (M' := mX6_first) (F' := 0) (as := [aI a1]) (pc := 6) dX9_spanBehind_6 (by decide) kX6_first ml_9_193 ob_38 rfl npX6_first (Nat.le_of_ble_eq_true rfl) (p_X6_first (H.1) ?_)
  refine AW.callVi (M' := mX9_slotOf) (F' := 0) (as := [aI (f_X6_first h a1)]) (pc := 9) dX9_spanBehind_9 (by decide) kX9_slotOf ml_9_213 ob_0 rfl npX9_slotOf (Nat.le_of_ble_eq_true rfl) (p_X9_slotOf (H.2.1) ?_)
  refine AW.istore_n (pc := 12) dX9_spanBehind_12 (by decide) rfl ?_
  refine AW.aload_n (pc := 13) dX9_spanBehind_13 rfl ?_
  refine AW.iload_n (pc := 14) dX9_spanBehind_14 rfl ?_
  refine AW.callVv (M' := mX9_changePlaces) (F' := 0) (as := [aI (f_X9_slotOf h (f_X6_first h a1))]) (pc := 15) dX9_spanBehind_15 (by decide) kX9_changePlaces ml_9_156 ob_0 rfl npX9_changePlaces (Nat.le_of_ble_eq_true rfl) (aRun.mono (fun r1 h2 H_1 => ?_) H.2.2)
  refine AW.aload_n (pc := 18) dX9_spanBehind_18 rfl ?_
  refine AW.getr (k := 5) (pc := 19) dX9_spanBehind_19 ac_9 sh_0 rfl (by decide) fl_9_37 ?_
  refine AW.aload_n (pc := 22) dX9_spanBehind_22 rfl ?_
  refine AW.getr (k := 1) (pc := 23) dX9_spanBehind_23 ac_9 sh_0 rfl (by decide) fl_9_19 ?_
  refine AW.aload_n (pc := 26) dX9_spanBehind_26 rfl ?_
  refine AW.getr (k := 3) (pc := 27) dX9_spanBehind_27 ac_9 sh_0 rfl (by decide) fl_9_26 ?_
  refine AW.callVv (M' := mX8_lay) (F' := 2) (as := [aR 3, aR 19]) (pc := 30) dX9_spanBehind_30 (by decide) kX8_lay ml_9_308 ob_29 rfl npX8_lay (Nat.le_of_ble_eq_true rfl) (aRun.mono (fun r3 h4 H_2 => ?_) H_1)
  refine AW.aload_n (pc := 33) dX9_spanBehind_33 rfl ?_
  refine AW.iload_n (pc := 34) dX9_spanBehind_34 rfl ?_
  refine AW.callVv (M' := mX9_changePlaces) (F' := 0) (as := [aI (f_X9_slotOf h (f_X6_first h a1))]) (pc := 35) dX9_spanBehind_35 (by decide) kX9_changePlaces ml_9_156 ob_0 rfl npX9_changePlaces (Nat.le_of_ble_eq_true rfl) (aRun.mono (fun r5 h6 H_3 => ?_) H_2)
  refine AW.aload_n (pc := 38) dX9_spanBehind_38 rfl ?_
  refine AW.getr (k := 5) (pc := 39) dX9_spanBehind_39 ac_9 sh_0 rfl (by decide) fl_9_37 ?_
  refine AW.geti' (k := 9) (j := 9) (pc := 42) dX9_spanBehind_42 ac_8 sh_29 rfl (by decide) fl_9_169 rfl (v := (h6 29 9)) rfl ?_
  refine AW.iret (pc := 45) dX9_spanBehind_45 rfl ?_
  exact H_3
set_option maxRecDepth 100000 in
set_option maxHeartbeats 4000000 in
theorem e_X9_brings {a1 a2 : Int} {h : aH} {Q : aQ} (H : ((a1 < 0 → Q (-1) h) ∧ (¬ (a1 < 0) → ((a2 < 0 → Q (-1) h) ∧ (¬ (a2 < 0) → ((a2 ≤ 2 → (((f_X9_refusedByState h) = 0 → ((a1 < (h 38 5) → ((a2 = 0 → o_X6_first h a1 ∧ o_X6_second h a1 ∧ o_X8_atLeast h (f_X6_first h a1) (f_X6_second h a1) ∧ Q (f_X8_atLeast h (f_X6_first h a1) (f_X6_second h a1)) h) ∧ (¬ (a2 = 0) → ((a2 = 1 → aRun mX9_spanBehind 3 [aR 0, aI a1] h (fun r3 h4 => Q r3 h4)) ∧ (¬ (a2 = 1) → aRun mX9_keptSince 1 [aR 0, aI a1] h (fun r1 h2 => Q (if r1 = (-1) then (0 : Int) else (1 : Int)) h2)))))) ∧ (¬ (a1 < (h 38 5)) → Q (-2) h))) ∧ (¬ ((f_X9_refusedByState h) = 0) → Q (f_X9_refusedByState h) h))) ∧ (¬ (a2 ≤ 2) → Q (-1) h))))))) : aRun mX9_brings 4 [aR 0, aI a1, aI a2] h Q := by
  refine aRun.of pn_9 rfl (Nat.le_of_ble_eq_true rfl) ?_
  show AW mX9_brings 4 0 [some (aR 0), some (aI a1), some (aI a2), none] [] h Q
  refine AW.iload_n (pc := 0) dX9_brings_0 rfl ?_
  refine AW.if_lt (tgt := 13) (pc := 1) dX9_brings_1 rfl (fun q => ?_) (fun q => ?_)
  · skip
    have H_1 := H.1 q
    refine AW.iconst (pc := 13) dX9_brings_13 ⟨by decide, by decide⟩ ?_
    refine AW.iret (pc := 14) dX9_brings_14 rfl ?_
    exact H_1
  · skip
    have H_2 := H.2 q
    refine AW.iload_n (pc := 4) dX9_brings_4 rfl ?_
    refine AW.if_lt (tgt := 13) (pc := 5) dX9_brings_5 rfl (fun q => ?_) (fun q => ?_)
    · skip
      have H_3 := H_2.1 q
      refine AW.iconst (pc := 13) dX9_brings_13 ⟨by decide, by decide⟩ ?_
      refine AW.iret (pc := 14) dX9_brings_14 rfl ?_
      exact H_3
    · skip
      have H_4 := H_2.2 q
      refine AW.iload_n (pc := 8) dX9_brings_8 rfl ?_
      refine AW.iconst (pc := 9) dX9_brings_9 ⟨by decide, by decide⟩ ?_
      refine AW.icmp_le (tgt := 15) (pc := 10) dX9_brings_10 rfl (fun q => ?_) (fun q => ?_)
      · skip
        have H_5 := H_4.1 q
        refine AW.aload_n (pc := 15) dX9_brings_15 rfl ?_
        refine AW.callVi (M' := mX9_refusedByState) (F' := 1) (as := []) (pc := 16) dX9_brings_16 (by decide) kX9_refusedByState ml_9_166 ob_0 rfl npX9_refusedByState (Nat.le_of_ble_eq_true rfl) (p_X9_refusedByState  ?_)
        refine AW.istore_n (pc := 19) dX9_brings_19 (by decide) rfl ?_
        refine AW.iload_n (pc := 20) dX9_brings_20 rfl ?_
        refine AW.if_eq (tgt := 26) (pc := 21) dX9_brings_21 rfl (fun q => ?_) (fun q => ?_)
        · skip
          have H_6 := H_5.1 q
          refine AW.iload_n (pc := 26) dX9_brings_26 rfl ?_
          refine AW.aload_n (pc := 27) dX9_brings_27 rfl ?_
          refine AW.getr (k := 6) (pc := 28) dX9_brings_28 ac_9 sh_0 rfl (by decide) fl_9_43 ?_
          refine AW.geti' (k := 5) (j := 5) (pc := 31) dX9_brings_31 ac_6 sh_38 rfl (by decide) fl_9_190 rfl (v := (h 38 5)) rfl ?_
          refine AW.icmp_lt (tgt := 40) (pc := 34) dX9_brings_34 rfl (fun q => ?_) (fun q => ?_)
          · skip
            have H_7 := H_6.1 q
            refine AW.iload_n (pc := 40) dX9_brings_40 rfl ?_
            refine AW.if_ne (tgt := 72) (pc := 41) dX9_brings_41 rfl (fun q => ?_) (fun q => ?_)
            · skip
              have H_8 := H_7.2 q
              refine AW.iload_n (pc := 72) dX9_brings_72 rfl ?_
              refine AW.iconst (pc := 73) dX9_brings_73 ⟨by decide, by decide⟩ ?_
              refine AW.icmp_ne (tgt := 83) (pc := 74) dX9_brings_74 rfl (fun q => ?_) (fun q => ?_)
              · skip
                have H_9 := H_8.2 q
                refine AW.aload_n (pc := 83) dX9_brings_83 rfl ?_
                refine AW.iload_n (pc := 84) dX9_brings_84 rfl ?_
                refine AW.callVi (M' := mX9_keptSince) (F' := 1) (as := [aI a1]) (pc := 85) dX9_brings_85 (by decide) kX9_keptSince ml_9_210 ob_0 rfl npX9_keptSince (Nat.le_of_ble_eq_true rfl) (aRun.mono (fun r1 h2 H_10 => ?_) H_9)
                refine AW.iconst (pc := 88) dX9_brings_88 ⟨by decide, by decide⟩ ?_
                have K_11 : AW mX9_brings 4 97 [some (aR 0), some (aI a1), some (aI a2), some (aI (f_X9_refusedByState h))] [aI (if r1 = (-1) then (0 : Int) else (1 : Int))] h2 Q := by
                  have H_12 := H_10
                  refine AW.iret (pc := 97) dX9_brings_97 rfl ?_
                  exact H_12
                refine AW.icmp_eq (tgt := 96) (pc := 89) dX9_brings_89 rfl (fun q => ?_) (fun q => ?_)
                · skip
                  rw [if_pos q] at K_11
                  refine AW.iconst (pc := 96) dX9_brings_96 ⟨by decide, by decide⟩ ?_
                  exact K_11
                · skip
                  rw [if_neg q] at K_11
                  refine AW.iconst (pc := 92) dX9_brings_92 ⟨by decide, by decide⟩ ?_
                  refine AW.goto (tgt := 97) (pc := 93) dX9_brings_93 rfl ?_
                  exact K_11
              · have q := Decidable.not_not.mp q
                have H_16 := H_8.1 q
                refine AW.aload_n (pc := 77) dX9_brings_77 rfl ?_
                refine AW.iload_n (pc := 78) dX9_brings_78 rfl ?_
                refine AW.callVi (M' := mX9_spanBehind) (F' := 3) (as := [aI a1]) (pc := 79) dX9_brings_79 (by decide) kX9_spanBehind ml_9_207 ob_0 rfl npX9_spanBehind (Nat.le_of_ble_eq_true rfl) (aRun.mono (fun r3 h4 H_17 => ?_) H_16)
                refine AW.iret (pc := 82) dX9_brings_82 rfl ?_
                exact H_17
            · have q := Decidable.not_not.mp q
              have H_18 := H_7.1 q
              refine AW.aload_n (pc := 44) dX9_brings_44 rfl ?_
              refine AW.getr (k := 4) (pc := 45) dX9_brings_45 ac_9 sh_0 rfl (by decide) fl_9_33 ?_
              refine AW.aload_n (pc := 48) dX9_brings_48 rfl ?_
              refine AW.getr (k := 1) (pc := 49) dX9_brings_49 ac_9 sh_0 rfl (by decide) fl_9_19 ?_
              refine AW.aload_n (pc := 52) dX9_brings_52 rfl ?_
              refine AW.getr (k := 6) (pc := 53) dX9_brings_53 ac_9 sh_0 rfl (by decide) fl_9_43 ?_
              refine AW.iload_n (pc := 56) dX9_brings_56 rfl ?_
              refine AW.callVi (M' := mX6_first) (F' := 0) (as := [aI a1]) (pc := 57) dX9_brings_57 (by decide) kX6_first ml_9_193 ob_38 rfl npX6_first (Nat.le_of_ble_eq_true rfl) (p_X6_first (H_18.1) ?_)
              refine AW.aload_n (pc := 60) dX9_brings_60 rfl ?_
              refine AW.getr (k := 6) (pc := 61) dX9_brings_61 ac_9 sh_0 rfl (by decide) fl_9_43 ?_
              refine AW.iload_n (pc := 64) dX9_brings_64 rfl ?_
              refine AW.callVi (M' := mX6_second) (F' := 0) (as := [aI a1]) (pc := 65) dX9_brings_65 (by decide) kX6_second ml_9_196 ob_38 rfl npX6_second (Nat.le_of_ble_eq_true rfl) (p_X6_second (H_18.2.1) ?_)
              refine AW.callVi (M' := mX8_atLeast) (F' := 1) (as := [aR 3, aI (f_X6_first h a1), aI (f_X6_second h a1)]) (pc := 68) dX9_brings_68 (by decide) kX8_atLeast ml_9_203 ob_20 rfl npX8_atLeast (Nat.le_of_ble_eq_true rfl) (p_X8_atLeast (H_18.2.2.1) ?_)
              refine AW.iret (pc := 71) dX9_brings_71 rfl ?_
              exact H_18.2.2.2
          · skip
            have H_19 := H_6.2 q
            refine AW.bipush (pc := 37) dX9_brings_37 rfl ⟨by decide, by decide⟩ ?_
            refine AW.iret (pc := 39) dX9_brings_39 rfl ?_
            exact H_19
        · skip
          have H_20 := H_5.2 q
          refine AW.iload_n (pc := 24) dX9_brings_24 rfl ?_
          refine AW.iret (pc := 25) dX9_brings_25 rfl ?_
          exact H_20
      · skip
        have H_21 := H_4.2 q
        refine AW.iconst (pc := 13) dX9_brings_13 ⟨by decide, by decide⟩ ?_
        refine AW.iret (pc := 14) dX9_brings_14 rfl ?_
        exact H_21
