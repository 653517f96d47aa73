set_option maxRecDepth 100000 in
set_option maxHeartbeats 4000000 in
theorem e_X10_waysAll  {h : aH} {Q : aQ} (H : AW mX10_waysAll 0 4 [some (aR 85), some (aJ 1), none, some (aI 0), none] [] h Q) : aRun mX10_waysAll 0 [aR 85] h Q := by
  refine aRun.of pn_10 rfl (Nat.le_of_ble_eq_true rfl) ?_
  show AW mX10_waysAll 0 0 [some (aR 85), none, none, none, none] [] h Q
  refine AW.lconst (pc := 0) dX10_waysAll_0 ?_
  refine AW.lstore_n (pc := 1) dX10_waysAll_1 (by decide) rfl ?_
  refine AW.iconst (pc := 2) dX10_waysAll_2 ⟨by decide, by decide⟩ ?_
  refine AW.istore_n (pc := 3) dX10_waysAll_3 (by decide) rfl ?_
  exact H
set_option maxRecDepth 100000 in
set_option maxHeartbeats 4000000 in
theorem s_X10_waysAll_4  {l1 l3 : Int} {h : aH} {Q : aQ} (H : ((5 ≤ l3 → Q (if (lg_cmp (Int64.ofInt l1) (Int64.ofInt 720)).toInt ≤ 0 then (Int64.ofInt l1).toInt32.toInt else ((-7) : Int)) h) ∧ (¬ (5 ≤ l3) → AW mX10_waysAll 0 12 [some (aR 85), some (aJ l1), none, some (aI l3), some (aI 2)] [] h Q))) : AW mX10_waysAll 0 4 [some (aR 85), some (aJ l1), none, some (aI l3), none] [] h Q := by
  refine AW.iload_n (pc := 4) dX10_waysAll_4 rfl ?_
  refine AW.iconst (pc := 5) dX10_waysAll_5 ⟨by decide, by decide⟩ ?_
  refine AW.icmp_ge (tgt := 49) (pc := 6) dX10_waysAll_6 rfl (fun q => ?_) (fun q => ?_)
  · skip
    have H_1 := H.1 q
    refine AW.lload_n (pc := 49) dX10_waysAll_49 rfl ?_
    refine AW.ldc2 (n := 720) (pc := 50) dX10_waysAll_50 lw_720 ?_
    refine AW.lcmp (pc := 53) dX10_waysAll_53 ?_
    have K_2 : AW mX10_waysAll 0 64 [some (aR 85), some (aJ l1), none, some (aI l3), none] [aI (if (lg_cmp (Int64.ofInt l1) (Int64.ofInt 720)).toInt ≤ 0 then (Int64.ofInt l1).toInt32.toInt else ((-7) : Int))] h Q := by
      have H_3 := H_1
      refine AW.iret (pc := 64) dX10_waysAll_64 rfl ?_
      exact H_3
    refine AW.if_le (tgt := 62) (pc := 54) dX10_waysAll_54 rfl (fun q => ?_) (fun q => ?_)
    · skip
      rw [if_pos q] at K_2
      refine AW.lload_n (pc := 62) dX10_waysAll_62 rfl ?_
      refine AW.l2i (pc := 63) dX10_waysAll_63 ?_
      exact K_2
    · skip
      rw [if_neg q] at K_2
      refine AW.bipush (pc := 57) dX10_waysAll_57 rfl ⟨by decide, by decide⟩ ?_
      refine AW.goto (tgt := 64) (pc := 59) dX10_waysAll_59 rfl ?_
      exact K_2
  · skip
    have H_7 := H.2 q
    refine AW.iconst (pc := 9) dX10_waysAll_9 ⟨by decide, by decide⟩ ?_
    refine AW.istore (pc := 10) dX10_waysAll_10 (by decide) rfl ?_
    exact H_7
set_option maxRecDepth 100000 in
set_option maxHeartbeats 4000000 in
theorem s_X10_waysAll_12  {l1 l3 l4 : Int} {h : aH} {Q : aQ} (H : (0 ≤ l3 ∧ l3 < 5) ∧ (((h 91 l3) < l4 → inR (l3 + 1) ∧ AW mX10_waysAll 0 4 [some (aR 85), some (aJ l1), none, some (aI (l3 + 1)), none] [] h Q) ∧ (¬ ((h 91 l3) < l4) → ((0 < (lg_cmp (Int64.ofInt l1) (Int64.ofInt 720)).toInt → inR (l3 + 1) ∧ AW mX10_waysAll 0 4 [some (aR 85), some (aJ l1), none, some (aI (l3 + 1)), none] [] h Q) ∧ (¬ (0 < (lg_cmp (Int64.ofInt l1) (Int64.ofInt 720)).toInt) → inR (l4 + 1) ∧ AW mX10_waysAll 0 12 [some (aR 85), some (aJ (l1 * l4)), none, some (aI l3), some (aI (l4 + 1))] [] h Q))))) : AW mX10_waysAll 0 12 [some (aR 85), some (aJ l1), none, some (aI l3), some (aI l4)] [] h Q := by
  refine AW.iload (pc := 12) dX10_waysAll_12 rfl ?_
  refine AW.aload_n (pc := 14) dX10_waysAll_14 rfl ?_
  refine AW.getr (k := 7) (pc := 15) dX10_waysAll_15 ac_10 sh_85 rfl (by decide) fl_10_25 ?_
  refine AW.iload_n (pc := 18) dX10_waysAll_18 rfl ?_
  refine AW.iald (pc := 19) dX10_waysAll_19 sh_91 (H.1) (v := (h 91 l3)) rfl ?_
  refine AW.icmp_gt (tgt := 43) (pc := 20) dX10_waysAll_20 rfl (fun q => ?_) (fun q => ?_)
  · skip
    have H_1 := H.2.1 q
    refine AW.iinc (pc := 43) dX10_waysAll_43 rfl (by decide) rfl (H_1.1) ?_
    refine AW.goto (tgt := 4) (pc := 46) dX10_waysAll_46 rfl ?_
    refine AW.mask [true, true, true, true, false] ?_
    exact H_1.2
  · skip
    have H_2 := H.2.2 q
    refine AW.lload_n (pc := 23) dX10_waysAll_23 rfl ?_
    refine AW.ldc2 (n := 720) (pc := 24) dX10_waysAll_24 lw_720 ?_
    refine AW.lcmp (pc := 27) dX10_waysAll_27 ?_
    refine AW.if_gt (tgt := 43) (pc := 28) dX10_waysAll_28 rfl (fun q => ?_) (fun q => ?_)
    · skip
      have H_3 := H_2.1 q
      refine AW.iinc (pc := 43) dX10_waysAll_43 rfl (by decide) rfl (H_3.1) ?_
      refine AW.goto (tgt := 4) (pc := 46) dX10_waysAll_46 rfl ?_
      refine AW.mask [true, true, true, true, false] ?_
      exact H_3.2
    · skip
      have H_4 := H_2.2 q
      refine AW.lload_n (pc := 31) dX10_waysAll_31 rfl ?_
      refine AW.iload (pc := 32) dX10_waysAll_32 rfl ?_
      refine AW.i2l (pc := 34) dX10_waysAll_34 ?_
      refine AW.lmul (pc := 35) dX10_waysAll_35 ?_
      refine AW.lstore_n (pc := 36) dX10_waysAll_36 (by decide) rfl ?_
      refine AW.iinc (pc := 37) dX10_waysAll_37 rfl (by decide) rfl (H_4.1) ?_
      refine AW.goto (tgt := 12) (pc := 40) dX10_waysAll_40 rfl ?_
      exact H_4.2
set_option maxRecDepth 100000 in
set_option maxHeartbeats 4000000 in
theorem e_X10_all {a1 : Int} {h : aH} {Q : aQ} (H : (((f_X10_in h a1 0 1) = 0 → Q (-1) h) ∧ (¬ ((f_X10_in h a1 0 1) = 0) → (((h 85 1) = 0 → Q (-5) h) ∧ (¬ ((h 85 1) = 0) → aRun mX10_waysAll 0 [aR 85] h (fun r1 h2 => ((r1 = (-7) → Q (-7) h2) ∧ (¬ (r1 = (-7)) → aRun mX10_triesFrom 50 [aR 85, aI 0, aI 0] (a_up (a_up h2 85 48 0) 85 49 (-1)) (fun r3 h4 => Q (if a1 = 0 then (h4 85 48) else (h4 85 49)) h4))))))))) : aRun mX10_all 51 [aR 85, aI a1] h Q := by
  refine aRun.of pn_10 rfl (Nat.le_of_ble_eq_true rfl) ?_
  show AW mX10_all 51 0 [some (aR 85), some (aI a1)] [] h Q
  refine AW.iload_n (pc := 0) dX10_all_0 rfl ?_
  refine AW.iconst (pc := 1) dX10_all_1 ⟨by decide, by decide⟩ ?_
  refine AW.iconst (pc := 2) dX10_all_2 ⟨by decide, by decide⟩ ?_
  refine AW.callSi (M' := mX10_in) (F' := 0) (as := [aI a1, aI 0, aI 1]) (pc := 3) dX10_all_3 (by decide) kX10_in ml_10_108 rfl npX10_in (Nat.le_of_ble_eq_true rfl) (p_X10_in  ?_)
  refine AW.if_ne (tgt := 11) (pc := 6) dX10_all_6 rfl (fun q => ?_) (fun q => ?_)
  · skip
    have H_1 := H.2 q
    refine AW.aload_n (pc := 11) dX10_all_11 rfl ?_
    refine AW.geti' (k := 1) (j := 1) (pc := 12) dX10_all_12 ac_10 sh_85 rfl (by decide) fl_10_105 rfl (v := (h 85 1)) rfl ?_
    refine AW.if_ne (tgt := 21) (pc := 15) dX10_all_15 rfl (fun q => ?_) (fun q => ?_)
    · skip
      have H_2 := H_1.2 q
      refine AW.aload_n (pc := 21) dX10_all_21 rfl ?_
      refine AW.callVi (M' := mX10_waysAll) (F' := 0) (as := []) (pc := 22) dX10_all_22 (by decide) kX10_waysAll ml_10_368 ob_85 rfl npX10_waysAll (Nat.le_of_ble_eq_true rfl) (aRun.mono (fun r1 h2 H_3 => ?_) H_2)
      refine AW.bipush (pc := 25) dX10_all_25 rfl ⟨by decide, by decide⟩ ?_
      refine AW.icmp_ne (tgt := 33) (pc := 27) dX10_all_27 rfl (fun q => ?_) (fun q => ?_)
      · skip
        have H_4 := H_3.2 q
        refine AW.aload_n (pc := 33) dX10_all_33 rfl ?_
        refine AW.iconst (pc := 34) dX10_all_34 ⟨by decide, by decide⟩ ?_
        refine AW.puti' (k := 48) (j := 48) (pc := 35) dX10_all_35 ac_10 sh_85 rfl (by decide) fl_10_354 rfl rfl (tyX10_ok 48 (by decide)) (Or.inl rfl) ?_
        refine AW.aload_n (pc := 38) dX10_all_38 rfl ?_
        refine AW.iconst (pc := 39) dX10_all_39 ⟨by decide, by decide⟩ ?_
        refine AW.puti' (k := 49) (j := 49) (pc := 40) dX10_all_40 ac_10 sh_85 rfl (by decide) fl_10_357 rfl rfl (tyX10_ok 49 (by decide)) (Or.inl rfl) ?_
        refine AW.aload_n (pc := 43) dX10_all_43 rfl ?_
        refine AW.iconst (pc := 44) dX10_all_44 ⟨by decide, by decide⟩ ?_
        refine AW.iconst (pc := 45) dX10_all_45 ⟨by decide, by decide⟩ ?_
        refine AW.callVv (M' := mX10_triesFrom) (F' := 50) (as := [aI 0, aI 0]) (pc := 46) dX10_all_46 (by decide) kX10_triesFrom ml_10_360 ob_85 rfl npX10_triesFrom (Nat.le_of_ble_eq_true rfl) (aRun.mono (fun r3 h4 H_5 => ?_) H_4)
        refine AW.iload_n (pc := 49) dX10_all_49 rfl ?_
        have K_6 : AW mX10_all 51 64 [some (aR 85), some (aI a1)] [aI (if a1 = 0 then (h4 85 48) else (h4 85 49))] h4 Q := by
          have H_7 := H_5
          refine AW.iret (pc := 64) dX10_all_64 rfl ?_
          exact H_7
        refine AW.if_ne (tgt := 60) (pc := 50) dX10_all_50 rfl (fun q => ?_) (fun q => ?_)
        · skip
          rw [if_neg q] at K_6
          refine AW.aload_n (pc := 60) dX10_all_60 rfl ?_
          refine AW.geti' (k := 49) (j := 49) (pc := 61) dX10_all_61 ac_10 sh_85 rfl (by decide) fl_10_357 rfl (v := (h4 85 49)) rfl ?_
          exact K_6
        · have q := Decidable.not_not.mp q
          rw [if_pos q] at K_6
          refine AW.aload_n (pc := 53) dX10_all_53 rfl ?_
          refine AW.geti' (k := 48) (j := 48) (pc := 54) dX10_all_54 ac_10 sh_85 rfl (by decide) fl_10_354 rfl (v := (h4 85 48)) rfl ?_
          refine AW.goto (tgt := 64) (pc := 57) dX10_all_57 rfl ?_
          exact K_6
      · have q := Decidable.not_not.mp q
        have H_11 := H_3.1 q
        refine AW.bipush (pc := 30) dX10_all_30 rfl ⟨by decide, by decide⟩ ?_
        refine AW.iret (pc := 32) dX10_all_32 rfl ?_
        exact H_11
    · have q := Decidable.not_not.mp q
      have H_12 := H_1.1 q
      refine AW.bipush (pc := 18) dX10_all_18 rfl ⟨by decide, by decide⟩ ?_
      refine AW.iret (pc := 20) dX10_all_20 rfl ?_
      exact H_12
  · have q := Decidable.not_not.mp q
    have H_13 := H.1 q
    refine AW.iconst (pc := 9) dX10_all_9 ⟨by decide, by decide⟩ ?_
    refine AW.iret (pc := 10) dX10_all_10 rfl ?_
    exact H_13
set_option maxRecDepth 100000 in
set_option maxHeartbeats 4000000 in
theorem e_X10_headOf {a1 : Int} {h : aH} {Q : aQ} (H : (0 ≤ a1 ∧ a1 < 24) ∧ inR (a1 - (h 87 a1)) ∧ AW mX10_headOf 0 11 [some (aR 85), some (aI a1), some (aI 0), some (aI (a1 - (h 87 a1)))] [] h Q) : aRun mX10_headOf 0 [aR 85, aI a1] h Q := by
  refine aRun.of pn_10 rfl (Nat.le_of_ble_eq_true rfl) ?_
  show AW mX10_headOf 0 0 [some (aR 85), some (aI a1), none, none] [] h Q
  refine AW.iconst (pc := 0) dX10_headOf_0 ⟨by decide, by decide⟩ ?_
  refine AW.istore_n (pc := 1) dX10_headOf_1 (by decide) rfl ?_
  refine AW.iload_n (pc := 2) dX10_headOf_2 rfl ?_
  refine AW.aload_n (pc := 3) dX10_headOf_3 rfl ?_
  refine AW.getr (k := 3) (pc := 4) dX10_headOf_4 ac_10 sh_85 rfl (by decide) fl_10_13 ?_
  refine AW.iload_n (pc := 7) dX10_headOf_7 rfl ?_
  refine AW.iald (pc := 8) dX10_headOf_8 sh_87 (H.1) (v := (h 87 a1)) rfl ?_
  refine AW.isub (pc := 9) dX10_headOf_9 (H.2.1) ?_
  refine AW.istore_n (pc := 10) dX10_headOf_10 (by decide) rfl ?_
  exact H.2.2
set_option maxRecDepth 100000 in
set_option maxHeartbeats 4000000 in
theorem s_X10_headOf_11  {l1 l2 l3 : Int} {h : aH} {Q : aQ} (H : ((l1 ≤ l3 → Q l2 h) ∧ (¬ (l1 ≤ l3) → (0 ≤ l3 ∧ l3 < 24) ∧ inR (l2 + (h 89 l3)) ∧ inR (l3 + 1) ∧ AW mX10_headOf 0 11 [some (aR 85), some (aI l1), some (aI (l2 + (h 89 l3))), some (aI (l3 + 1))] [] h Q))) : AW mX10_headOf 0 11 [some (aR 85), some (aI l1), some (aI l2), some (aI l3)] [] h Q := by
  refine AW.iload_n (pc := 11) dX10_headOf_11 rfl ?_
  refine AW.iload_n (pc := 12) dX10_headOf_12 rfl ?_
  refine AW.icmp_ge (tgt := 31) (pc := 13) dX10_headOf_13 rfl (fun q => ?_) (fun q => ?_)
  · skip
    have H_1 := H.1 q
    refine AW.iload_n (pc := 31) dX10_headOf_31 rfl ?_
    refine AW.iret (pc := 32) dX10_headOf_32 rfl ?_
    exact H_1
  · skip
    have H_2 := H.2 q
    refine AW.iload_n (pc := 16) dX10_headOf_16 rfl ?_
    refine AW.aload_n (pc := 17) dX10_headOf_17 rfl ?_
    refine AW.getr (k := 5) (pc := 18) dX10_headOf_18 ac_10 sh_85 rfl (by decide) fl_10_19 ?_
    refine AW.iload_n (pc := 21) dX10_headOf_21 rfl ?_
    refine AW.iald (pc := 22) dX10_headOf_22 sh_89 (H_2.1) (v := (h 89 l3)) rfl ?_
    refine AW.iadd (pc := 23) dX10_headOf_23 (H_2.2.1) ?_
    refine AW.istore_n (pc := 24) dX10_headOf_24 (by decide) rfl ?_
    refine AW.iinc (pc := 25) dX10_headOf_25 rfl (by decide) rfl (H_2.2.2.1) ?_
    refine AW.goto (tgt := 11) (pc := 28) dX10_headOf_28 rfl ?_
    exact H_2.2.2.2
set_option maxRecDepth 100000 in
set_option maxHeartbeats 4000000 in
theorem e_X10_leftOf {a1 : Int} {h : aH} {Q : aQ} (H : AW mX10_leftOf 0 4 [some (aR 85), some (aI a1), some (aI 0), some (aI a1)] [] h Q) : aRun mX10_leftOf 0 [aR 85, aI a1] h Q := by
  refine aRun.of pn_10 rfl (Nat.le_of_ble_eq_true rfl) ?_
  show AW mX10_leftOf 0 0 [some (aR 85), some (aI a1), none, none] [] h Q
  refine AW.iconst (pc := 0) dX10_leftOf_0 ⟨by decide, by decide⟩ ?_
  refine AW.istore_n (pc := 1) dX10_leftOf_1 (by decide) rfl ?_
  refine AW.iload_n (pc := 2) dX10_leftOf_2 rfl ?_
  refine AW.istore_n (pc := 3) dX10_leftOf_3 (by decide) rfl ?_
  exact H
set_option maxRecDepth 100000 in
set_option maxHeartbeats 4000000 in
theorem s_X10_leftOf_4  {l1 l2 l3 : Int} {h : aH} {Q : aQ} (H : (((h 85 1) ≤ l3 → Q l2 h) ∧ (¬ ((h 85 1) ≤ l3) → (0 ≤ l3 ∧ l3 < 24) ∧ (0 ≤ l1 ∧ l1 < 24) ∧ (((h 86 l3) = (h 86 l1) → inR (l2 + (h 89 l3)) ∧ inR (l3 + 1) ∧ AW mX10_leftOf 0 4 [some (aR 85), some (aI l1), some (aI (l2 + (h 89 l3))), some (aI (l3 + 1))] [] h Q) ∧ (¬ ((h 86 l3) = (h 86 l1)) → Q l2 h))))) : AW mX10_leftOf 0 4 [some (aR 85), some (aI l1), some (aI l2), some (aI l3)] [] h Q := by
  refine AW.iload_n (pc := 4) dX10_leftOf_4 rfl ?_
  refine AW.aload_n (pc := 5) dX10_leftOf_5 rfl ?_
  refine AW.geti' (k := 1) (j := 1) (pc := 6) dX10_leftOf_6 ac_10 sh_85 rfl (by decide) fl_10_105 rfl (v := (h 85 1)) rfl ?_
  refine AW.icmp_ge (tgt := 42) (pc := 9) dX10_leftOf_9 rfl (fun q => ?_) (fun q => ?_)
  · skip
    have H_1 := H.1 q
    refine AW.iload_n (pc := 42) dX10_leftOf_42 rfl ?_
    refine AW.iret (pc := 43) dX10_leftOf_43 rfl ?_
    exact H_1
  · skip
    have H_2 := H.2 q
    refine AW.aload_n (pc := 12) dX10_leftOf_12 rfl ?_
    refine AW.getr (k := 2) (pc := 13) dX10_leftOf_13 ac_10 sh_85 rfl (by decide) fl_10_9 ?_
    refine AW.iload_n (pc := 16) dX10_leftOf_16 rfl ?_
    refine AW.iald (pc := 17) dX10_leftOf_17 sh_86 (H_2.1) (v := (h 86 l3)) rfl ?_
    refine AW.aload_n (pc := 18) dX10_leftOf_18 rfl ?_
    refine AW.getr (k := 2) (pc := 19) dX10_leftOf_19 ac_10 sh_85 rfl (by decide) fl_10_9 ?_
    refine AW.iload_n (pc := 22) dX10_leftOf_22 rfl ?_
    refine AW.iald (pc := 23) dX10_leftOf_23 sh_86 (H_2.2.1) (v := (h 86 l1)) rfl ?_
    refine AW.icmp_ne (tgt := 42) (pc := 24) dX10_leftOf_24 rfl (fun q => ?_) (fun q => ?_)
    · skip
      have H_3 := H_2.2.2.2 q
      refine AW.iload_n (pc := 42) dX10_leftOf_42 rfl ?_
      refine AW.iret (pc := 43) dX10_leftOf_43 rfl ?_
      exact H_3
    · have q := Decidable.not_not.mp q
      have H_4 := H_2.2.2.1 q
      refine AW.iload_n (pc := 27) dX10_leftOf_27 rfl ?_
      refine AW.aload_n (pc := 28) dX10_leftOf_28 rfl ?_
      refine AW.getr (k := 5) (pc := 29) dX10_leftOf_29 ac_10 sh_85 rfl (by decide) fl_10_19 ?_
      refine AW.iload_n (pc := 32) dX10_leftOf_32 rfl ?_
      refine AW.iald (pc := 33) dX10_leftOf_33 sh_89 (H_2.1) (v := (h 89 l3)) rfl ?_
      refine AW.iadd (pc := 34) dX10_leftOf_34 (H_4.1) ?_
      refine AW.istore_n (pc := 35) dX10_leftOf_35 (by decide) rfl ?_
      refine AW.iinc (pc := 36) dX10_leftOf_36 rfl (by decide) rfl (H_4.2.1) ?_
      refine AW.goto (tgt := 4) (pc := 39) dX10_leftOf_39 rfl ?_
      exact H_4.2.2
set_option maxRecDepth 100000 in
set_option maxHeartbeats 4000000 in
theorem e_X10_tailOf {a1 : Int} {h : aH} {Q : aQ} (H : aRun mX10_leftOf 0 [aR 85, aI a1] h (fun r1 h2 => (0 ≤ a1 ∧ a1 < 24) ∧ inR (r1 - (h2 89 a1)) ∧ Q (r1 - (h2 89 a1)) h2)) : aRun mX10_tailOf 1 [aR 85, aI a1] h Q := by
  refine aRun.of pn_10 rfl (Nat.le_of_ble_eq_true rfl) ?_
  show AW mX10_tailOf 1 0 [some (aR 85), some (aI a1)] [] h Q
  refine AW.aload_n (pc := 0) dX10_tailOf_0 rfl ?_
  refine AW.iload_n (pc := 1) dX10_tailOf_1 rfl ?_
  refine AW.callVi (M' := mX10_leftOf) (F' := 0) (as := [aI a1]) (pc := 2) dX10_tailOf_2 (by decide) kX10_leftOf ml_10_308 ob_85 rfl npX10_leftOf (Nat.le_of_ble_eq_true rfl) (aRun.mono (fun r1 h2 H_1 => ?_) H)
  refine AW.aload_n (pc := 5) dX10_tailOf_5 rfl ?_
  refine AW.getr (k := 5) (pc := 6) dX10_tailOf_6 ac_10 sh_85 rfl (by decide) fl_10_19 ?_
  refine AW.iload_n (pc := 9) dX10_tailOf_9 rfl ?_
  refine AW.iald (pc := 10) dX10_tailOf_10 sh_89 (H_1.1) (v := (h2 89 a1)) rfl ?_
  refine AW.isub (pc := 11) dX10_tailOf_11 (H_1.2.1) ?_
  refine AW.iret (pc := 12) dX10_tailOf_12 rfl ?_
  exact H_1.2.2
set_option maxRecDepth 100000 in
set_option maxHeartbeats 4000000 in
theorem e_X10_bestOf {F F' : Nat} (hF : F' + 1 ≤ F) (hB : 12 ≤ F) {a1 a2 a3 : Int} {h : aH} {Q : aQ} (H : ((a1 = 0 → Q a3 h) ∧ (¬ (a1 = 0) → AW mX10_bestOf F 12 [some (aR 85), some (aI a1), some (aI a2), some (aI a3), some (aI (-1)), some (aI 0), none, none] [] h Q))) : aRun mX10_bestOf F [aR 85, aI a1, aI a2, aI a3] h Q := by
  refine aRun.of pn_10 rfl (Nat.le_of_ble_eq_true rfl) ?_
  show AW mX10_bestOf F 0 [some (aR 85), some (aI a1), some (aI a2), some (aI a3), none, none, none, none] [] h Q
  refine AW.iload_n (pc := 0) dX10_bestOf_0 rfl ?_
  refine AW.if_ne (tgt := 6) (pc := 1) dX10_bestOf_1 rfl (fun q => ?_) (fun q => ?_)
  · skip
    have H_1 := H.2 q
    refine AW.iconst (pc := 6) dX10_bestOf_6 ⟨by decide, by decide⟩ ?_
    refine AW.istore (pc := 7) dX10_bestOf_7 (by decide) rfl ?_
    refine AW.iconst (pc := 9) dX10_bestOf_9 ⟨by decide, by decide⟩ ?_
    refine AW.istore (pc := 10) dX10_bestOf_10 (by decide) rfl ?_
    exact H_1
  · have q := Decidable.not_not.mp q
    have H_2 := H.1 q
    refine AW.iload_n (pc := 4) dX10_bestOf_4 rfl ?_
    refine AW.iret (pc := 5) dX10_bestOf_5 rfl ?_
    exact H_2
set_option maxRecDepth 100000 in
set_option maxHeartbeats 4000000 in
theorem s_X10_bestOf_12 {F F' : Nat} (hF : F' + 1 ≤ F) (hB : 12 ≤ F)  {l1 l2 l3 l4 l5 : Int} {h : aH} {Q : aQ} (H : (((h 85 46) ≤ l5 → Q l4 h) ∧ (¬ ((h 85 46) ≤ l5) → (((Int32.ofInt (Int32.ofInt l1 >>> (Int32.ofInt l5 &&& 31)).toInt &&& Int32.ofInt 1).toInt = 1 → (0 ≤ l5 ∧ l5 < 24) ∧ aRun mX10_headOf 0 [aR 85, aI (h 113 l5)] h (fun r1 h2 => (0 ≤ (h2 113 l5) ∧ (h2 113 l5) < 24) ∧ inR ((max l2 r1) + (h2 89 (h2 113 l5))) ∧ aRun mX10_tailOf 1 [aR 85, aI (h2 113 l5)] h2 (fun r3 h4 => inR (((max l2 r1) + (h2 89 (h2 113 l5))) + r3) ∧ aRun mX10_bestOf F' [aR 85, aI (Int32.ofInt l1 &&& Int32.ofInt (Int32.ofInt (Int32.ofInt 1 <<< (Int32.ofInt l5 &&& 31)).toInt ^^^ Int32.ofInt (-1)).toInt).toInt, aI ((max l2 r1) + (h2 89 (h2 113 l5))), aI (max l3 (((max l2 r1) + (h2 89 (h2 113 l5))) + r3))] h4 (fun r5 h6 => inR (l5 + 1) ∧ AW mX10_bestOf F 12 [some (aR 85), some (aI l1), some (aI l2), some (aI l3), some (aI (if l4 < 0 then r5 else (if l4 ≤ r5 then l4 else r5))), some (aI (l5 + 1)), none, none] [] h6 Q)))) ∧ (¬ ((Int32.ofInt (Int32.ofInt l1 >>> (Int32.ofInt l5 &&& 31)).toInt &&& Int32.ofInt 1).toInt = 1) → inR (l5 + 1) ∧ AW mX10_bestOf F 12 [some (aR 85), some (aI l1), some (aI l2), some (aI l3), some (aI l4), some (aI (l5 + 1)), none, none] [] h Q))))) : AW mX10_bestOf F 12 [some (aR 85), some (aI l1), some (aI l2), some (aI l3), some (aI l4), some (aI l5), none, none] [] h Q := by
  refine AW.iload (pc := 12) dX10_bestOf_12 rfl ?_
  refine AW.aload_n (pc := 14) dX10_bestOf_14 rfl ?_
  refine AW.geti' (k := 46) (j := 46) (pc := 15) dX10_bestOf_15 ac_10 sh_85 rfl (by decide) fl_10_329 rfl (v := (h 85 46)) rfl ?_
  refine AW.icmp_ge (tgt := 122) (pc := 18) dX10_bestOf_18 rfl (fun q => ?_) (fun q => ?_)
  · skip
    have H_1 := H.1 q
    refine AW.iload (pc := 122) dX10_bestOf_122 rfl ?_
    refine AW.iret (pc := 124) dX10_bestOf_124 rfl ?_
    exact H_1
  · skip
    have H_2 := H.2 q
    refine AW.iload_n (pc := 21) dX10_bestOf_21 rfl ?_
    refine AW.iload (pc := 22) dX10_bestOf_22 rfl ?_
    refine AW.ishr (pc := 24) dX10_bestOf_24 ?_
    refine AW.iconst (pc := 25) dX10_bestOf_25 ⟨by decide, by decide⟩ ?_
    refine AW.iand (pc := 26) dX10_bestOf_26 ?_
    refine AW.iconst (pc := 27) dX10_bestOf_27 ⟨by decide, by decide⟩ ?_
    refine AW.icmp_ne (tgt := 116) (pc := 28) dX10_bestOf_28 rfl (fun q => ?_) (fun q => ?_)
    · skip
      have H_3 := H_2.2 q
      refine AW.iinc (pc := 116) dX10_bestOf_116 rfl (by decide) rfl (H_3.1) ?_
      refine AW.goto (tgt := 12) (pc := 119) dX10_bestOf_119 rfl ?_
      exact H_3.2
    · have q := Decidable.not_not.mp q
      have H_4 := H_2.1 q
      refine AW.iload_n (pc := 31) dX10_bestOf_31 rfl ?_
      refine AW.aload_n (pc := 32) dX10_bestOf_32 rfl ?_
      refine AW.aload_n (pc := 33) dX10_bestOf_33 rfl ?_
      refine AW.getr (k := 45) (pc := 34) dX10_bestOf_34 ac_10 sh_85 rfl (by decide) fl_10_96 ?_
      refine AW.iload (pc := 37) dX10_bestOf_37 rfl ?_
      refine AW.iald (pc := 39) dX10_bestOf_39 sh_113 (H_4.1) (v := (h 113 l5)) rfl ?_
      refine AW.callVi (M' := mX10_headOf) (F' := 0) (as := [aI (h 113 l5)]) (pc := 40) dX10_bestOf_40 (by omega) kX10_headOf ml_10_332 ob_85 rfl npX10_headOf (Nat.le_of_ble_eq_true rfl) (aRun.mono (fun r1 h2 H_5 => ?_) H_4.2)
      refine AW.mmax (pc := 43) dX10_bestOf_43 (by omega) ml_10_214 (Nat.le_of_ble_eq_true rfl) ?_
      refine AW.aload_n (pc := 46) dX10_bestOf_46 rfl ?_
      refine AW.getr (k := 5) (pc := 47) dX10_bestOf_47 ac_10 sh_85 rfl (by decide) fl_10_19 ?_
      refine AW.aload_n (pc := 50) dX10_bestOf_50 rfl ?_
      refine AW.getr (k := 45) (pc := 51) dX10_bestOf_51 ac_10 sh_85 rfl (by decide) fl_10_96 ?_
      refine AW.iload (pc := 54) dX10_bestOf_54 rfl ?_
      refine AW.iald (pc := 56) dX10_bestOf_56 sh_113 (H_4.1) (v := (h2 113 l5)) rfl ?_
      refine AW.iald (pc := 57) dX10_bestOf_57 sh_89 (H_5.1) (v := (h2 89 (h2 113 l5))) rfl ?_
      refine AW.iadd (pc := 58) dX10_bestOf_58 (H_5.2.1) ?_
      refine AW.istore (pc := 59) dX10_bestOf_59 (by decide) rfl ?_
      refine AW.aload_n (pc := 61) dX10_bestOf_61 rfl ?_
      refine AW.iload_n (pc := 62) dX10_bestOf_62 rfl ?_
      refine AW.iconst (pc := 63) dX10_bestOf_63 ⟨by decide, by decide⟩ ?_
      refine AW.iload (pc := 64) dX10_bestOf_64 rfl ?_
      refine AW.ishl (pc := 66) dX10_bestOf_66 ?_
      refine AW.iconst (pc := 67) dX10_bestOf_67 ⟨by decide, by decide⟩ ?_
      refine AW.ixor (pc := 68) dX10_bestOf_68 ?_
      refine AW.iand (pc := 69) dX10_bestOf_69 ?_
      refine AW.iload (pc := 70) dX10_bestOf_70 rfl ?_
      refine AW.iload_n (pc := 72) dX10_bestOf_72 rfl ?_
      refine AW.iload (pc := 73) dX10_bestOf_73 rfl ?_
      refine AW.aload_n (pc := 75) dX10_bestOf_75 rfl ?_
      refine AW.aload_n (pc := 76) dX10_bestOf_76 rfl ?_
      refine AW.getr (k := 45) (pc := 77) dX10_bestOf_77 ac_10 sh_85 rfl (by decide) fl_10_96 ?_
      refine AW.iload (pc := 80) dX10_bestOf_80 rfl ?_
      refine AW.iald (pc := 82) dX10_bestOf_82 sh_113 (H_4.1) (v := (h2 113 l5)) rfl ?_
      refine AW.callVi (M' := mX10_tailOf) (F' := 1) (as := [aI (h2 113 l5)]) (pc := 83) dX10_bestOf_83 (by omega) kX10_tailOf ml_10_335 ob_85 rfl npX10_tailOf (Nat.le_of_ble_eq_true rfl) (aRun.mono (fun r3 h4 H_6 => ?_) H_5.2.2)
      refine AW.iadd (pc := 86) dX10_bestOf_86 (H_6.1) ?_
      refine AW.mmax (pc := 87) dX10_bestOf_87 (by omega) ml_10_214 (Nat.le_of_ble_eq_true rfl) ?_
      refine AW.callVi (M' := mX10_bestOf) (F' := F') (as := [aI (Int32.ofInt l1 &&& Int32.ofInt (Int32.ofInt (Int32.ofInt 1 <<< (Int32.ofInt l5 &&& 31)).toInt ^^^ Int32.ofInt (-1)).toInt).toInt, aI ((max l2 r1) + (h2 89 (h2 113 l5))), aI (max l3 (((max l2 r1) + (h2 89 (h2 113 l5))) + r3))]) (pc := 90) dX10_bestOf_90 hF kX10_bestOf ml_10_338 ob_85 rfl npX10_bestOf (Nat.le_of_ble_eq_true rfl) (aRun.mono (fun r5 h6 H_7 => ?_) H_6.2)
      refine AW.istore (pc := 93) dX10_bestOf_93 (by decide) rfl ?_
      refine AW.iload (pc := 95) dX10_bestOf_95 rfl ?_
      have K_8 : AW mX10_bestOf F 114 [some (aR 85), some (aI l1), some (aI l2), some (aI l3), some (aI l4), some (aI l5), some (aI ((max l2 r1) + (h2 89 (h2 113 l5)))), some (aI r5)] [aI (if l4 < 0 then r5 else (if l4 ≤ r5 then l4 else r5))] h6 Q := by
        have H_9 := H_7
        refine AW.istore (pc := 114) dX10_bestOf_114 (by decide) rfl ?_
        refine AW.iinc (pc := 116) dX10_bestOf_116 rfl (by decide) rfl (H_9.1) ?_
        refine AW.goto (tgt := 12) (pc := 119) dX10_bestOf_119 rfl ?_
        refine AW.mask [true, true, true, true, true, true, false, false] ?_
        exact H_9.2
      refine AW.if_lt (tgt := 107) (pc := 97) dX10_bestOf_97 rfl (fun q => ?_) (fun q => ?_)
      · skip
        rw [if_pos q] at K_8
        refine AW.iload (pc := 107) dX10_bestOf_107 rfl ?_
        refine AW.goto (tgt := 114) (pc := 109) dX10_bestOf_109 rfl ?_
        exact K_8
      · skip
        rw [if_neg q] at K_8
        refine AW.iload (pc := 100) dX10_bestOf_100 rfl ?_
        refine AW.iload (pc := 102) dX10_bestOf_102 rfl ?_
        refine AW.icmp_ge (tgt := 112) (pc := 104) dX10_bestOf_104 rfl (fun q => ?_) (fun q => ?_)
        · skip
          rw [if_pos q] at K_8
          refine AW.iload (pc := 112) dX10_bestOf_112 rfl ?_
          exact K_8
        · skip
          rw [if_neg q] at K_8
          refine AW.iload (pc := 107) dX10_bestOf_107 rfl ?_
          refine AW.goto (tgt := 114) (pc := 109) dX10_bestOf_109 rfl ?_
          exact K_8
set_option maxRecDepth 100000 in
set_option maxHeartbeats 4000000 in
theorem e_X10_takes {a1 : Int} {h : aH} {Q : aQ} (H : AW mX10_takes 0 7 [some (aR 85), some (aI a1), some (aI 0)] [] (a_up h 85 46 0) Q) : aRun mX10_takes 0 [aR 85, aI a1] h Q := by
  refine aRun.of pn_10 rfl (Nat.le_of_ble_eq_true rfl) ?_
  show AW mX10_takes 0 0 [some (aR 85), some (aI a1), none] [] h Q
  refine AW.aload_n (pc := 0) dX10_takes_0 rfl ?_
  refine AW.iconst (pc := 1) dX10_takes_1 ⟨by decide, by decide⟩ ?_
  refine AW.puti' (k := 46) (j := 46) (pc := 2) dX10_takes_2 ac_10 sh_85 rfl (by decide) fl_10_329 rfl rfl (tyX10_ok 46 (by decide)) (Or.inl rfl) ?_
  refine AW.iconst (pc := 5) dX10_takes_5 ⟨by decide, by decide⟩ ?_
  refine AW.istore_n (pc := 6) dX10_takes_6 (by decide) rfl ?_
  exact H
set_option maxRecDepth 100000 in
set_option maxHeartbeats 4000000 in
theorem s_X10_takes_7  {l1 l2 : Int} {h : aH} {Q : aQ} (H : (((h 85 1) ≤ l2 → Q 0 h) ∧ (¬ ((h 85 1) ≤ l2) → (0 ≤ l2 ∧ l2 < 24) ∧ (((h 88 l2) = l1 → (0 ≤ (h 85 46) ∧ (h 85 46) < 24) ∧ inR ((h 85 46) + 1) ∧ inR (l2 + 1) ∧ AW mX10_takes 0 7 [some (aR 85), some (aI l1), some (aI (l2 + 1))] [] (a_up (a_up h 113 (h 85 46) l2) 85 46 ((h 85 46) + 1)) Q) ∧ (¬ ((h 88 l2) = l1) → inR (l2 + 1) ∧ AW mX10_takes 0 7 [some (aR 85), some (aI l1), some (aI (l2 + 1))] [] h Q))))) : AW mX10_takes 0 7 [some (aR 85), some (aI l1), some (aI l2)] [] h Q := by
  refine AW.iload_n (pc := 7) dX10_takes_7 rfl ?_
  refine AW.aload_n (pc := 8) dX10_takes_8 rfl ?_
  refine AW.geti' (k := 1) (j := 1) (pc := 9) dX10_takes_9 ac_10 sh_85 rfl (by decide) fl_10_105 rfl (v := (h 85 1)) rfl ?_
  refine AW.icmp_ge (tgt := 51) (pc := 12) dX10_takes_12 rfl (fun q => ?_) (fun q => ?_)
  · skip
    have H_1 := H.1 q
    refine AW.vret (pc := 51) dX10_takes_51 rfl ?_
    exact H_1
  · skip
    have H_2 := H.2 q
    refine AW.aload_n (pc := 15) dX10_takes_15 rfl ?_
    refine AW.getr (k := 4) (pc := 16) dX10_takes_16 ac_10 sh_85 rfl (by decide) fl_10_16 ?_
    refine AW.iload_n (pc := 19) dX10_takes_19 rfl ?_
    refine AW.iald (pc := 20) dX10_takes_20 sh_88 (H_2.1) (v := (h 88 l2)) rfl ?_
    refine AW.iload_n (pc := 21) dX10_takes_21 rfl ?_
    refine AW.icmp_ne (tgt := 45) (pc := 22) dX10_takes_22 rfl (fun q => ?_) (fun q => ?_)
    · skip
      have H_3 := H_2.2.2 q
      refine AW.iinc (pc := 45) dX10_takes_45 rfl (by decide) rfl (H_3.1) ?_
      refine AW.goto (tgt := 7) (pc := 48) dX10_takes_48 rfl ?_
      exact H_3.2
    · have q := Decidable.not_not.mp q
      have H_4 := H_2.2.1 q
      refine AW.aload_n (pc := 25) dX10_takes_25 rfl ?_
      refine AW.getr (k := 45) (pc := 26) dX10_takes_26 ac_10 sh_85 rfl (by decide) fl_10_96 ?_
      refine AW.aload_n (pc := 29) dX10_takes_29 rfl ?_
      refine AW.geti' (k := 46) (j := 46) (pc := 30) dX10_takes_30 ac_10 sh_85 rfl (by decide) fl_10_329 rfl (v := (h 85 46)) rfl ?_
      refine AW.iload_n (pc := 33) dX10_takes_33 rfl ?_
      refine AW.iast (pc := 34) dX10_takes_34 sh_113 (H_4.1) ?_
      refine AW.aload_n (pc := 35) dX10_takes_35 rfl ?_
      refine AW.dup (pc := 36) dX10_takes_36 rfl ?_
      refine AW.geti' (k := 46) (j := 46) (pc := 37) dX10_takes_37 ac_10 sh_85 rfl (by decide) fl_10_329 rfl (v := (h 85 46)) (by rw [a_up_ne (by decide)]) ?_
      refine AW.iconst (pc := 40) dX10_takes_40 ⟨by decide, by decide⟩ ?_
      refine AW.iadd (pc := 41) dX10_takes_41 (H_4.2.1) ?_
      refine AW.puti' (k := 46) (j := 46) (pc := 42) dX10_takes_42 ac_10 sh_85 rfl (by decide) fl_10_329 rfl rfl (tyX10_ok 46 (by decide)) (Or.inl rfl) ?_
      refine AW.iinc (pc := 45) dX10_takes_45 rfl (by decide) rfl (H_4.2.2.1) ?_
      refine AW.goto (tgt := 7) (pc := 48) dX10_takes_48 rfl ?_
      exact H_4.2.2.2
set_option maxRecDepth 100000 in
set_option maxHeartbeats 4000000 in
theorem e_X10_alone {a1 : Int} {h : aH} {Q : aQ} (H : aRun mX10_takes 0 [aR 85, aI a1] h (fun r1 h2 => (((h2 85 46) = 0 → Q (-2) h2) ∧ (¬ ((h2 85 46) = 0) → (((h2 85 46) ≤ 6 → inR ((Int32.ofInt 1 <<< (Int32.ofInt (h2 85 46) &&& 31)).toInt - 1) ∧ aRun mX10_bestOf 20 [aR 85, aI ((Int32.ofInt 1 <<< (Int32.ofInt (h2 85 46) &&& 31)).toInt - 1), aI 0, aI 0] h2 (fun r3 h4 => Q r3 h4)) ∧ (¬ ((h2 85 46) ≤ 6) → Q (-7) h2)))))) : aRun mX10_alone 21 [aR 85, aI a1] h Q := by
  refine aRun.of pn_10 rfl (Nat.le_of_ble_eq_true rfl) ?_
  show AW mX10_alone 21 0 [some (aR 85), some (aI a1)] [] h Q
  refine AW.aload_n (pc := 0) dX10_alone_0 rfl ?_
  refine AW.iload_n (pc := 1) dX10_alone_1 rfl ?_
  refine AW.callVv (M' := mX10_takes) (F' := 0) (as := [aI a1]) (pc := 2) dX10_alone_2 (by decide) kX10_takes ml_10_345 ob_85 rfl npX10_takes (Nat.le_of_ble_eq_true rfl) (aRun.mono (fun r1 h2 H_1 => ?_) H)
  refine AW.aload_n (pc := 5) dX10_alone_5 rfl ?_
  refine AW.geti' (k := 46) (j := 46) (pc := 6) dX10_alone_6 ac_10 sh_85 rfl (by decide) fl_10_329 rfl (v := (h2 85 46)) rfl ?_
  refine AW.if_ne (tgt := 17) (pc := 9) dX10_alone_9 rfl (fun q => ?_) (fun q => ?_)
  · skip
    have H_2 := H_1.2 q
    refine AW.aload_n (pc := 17) dX10_alone_17 rfl ?_
    refine AW.geti' (k := 46) (j := 46) (pc := 18) dX10_alone_18 ac_10 sh_85 rfl (by decide) fl_10_329 rfl (v := (h2 85 46)) rfl ?_
    refine AW.bipush (pc := 21) dX10_alone_21 rfl ⟨by decide, by decide⟩ ?_
    refine AW.icmp_le (tgt := 31) (pc := 23) dX10_alone_23 rfl (fun q => ?_) (fun q => ?_)
    · skip
      have H_3 := H_2.1 q
      refine AW.aload_n (pc := 31) dX10_alone_31 rfl ?_
      refine AW.iconst (pc := 32) dX10_alone_32 ⟨by decide, by decide⟩ ?_
      refine AW.aload_n (pc := 33) dX10_alone_33 rfl ?_
      refine AW.geti' (k := 46) (j := 46) (pc := 34) dX10_alone_34 ac_10 sh_85 rfl (by decide) fl_10_329 rfl (v := (h2 85 46)) rfl ?_
      refine AW.ishl (pc := 37) dX10_alone_37 ?_
      refine AW.iconst (pc := 38) dX10_alone_38 ⟨by decide, by decide⟩ ?_
      refine AW.isub (pc := 39) dX10_alone_39 (H_3.1) ?_
      refine AW.iconst (pc := 40) dX10_alone_40 ⟨by decide, by decide⟩ ?_
      refine AW.iconst (pc := 41) dX10_alone_41 ⟨by decide, by decide⟩ ?_
      refine AW.callVi (M' := mX10_bestOf) (F' := 20) (as := [aI ((Int32.ofInt 1 <<< (Int32.ofInt (h2 85 46) &&& 31)).toInt - 1), aI 0, aI 0]) (pc := 42) dX10_alone_42 (by decide) kX10_bestOf ml_10_338 ob_85 rfl npX10_bestOf (Nat.le_of_ble_eq_true rfl) (aRun.mono (fun r3 h4 H_4 => ?_) H_3.2)
      refine AW.iret (pc := 45) dX10_alone_45 rfl ?_
      exact H_4
    · skip
      have H_5 := H_2.2 q
      refine AW.bipush (pc := 26) dX10_alone_26 rfl ⟨by decide, by decide⟩ ?_
      refine AW.goto (tgt := 45) (pc := 28) dX10_alone_28 rfl ?_
      refine AW.iret (pc := 45) dX10_alone_45 rfl ?_
      exact H_5
  · have q := Decidable.not_not.mp q
    have H_6 := H_1.1 q
    refine AW.bipush (pc := 12) dX10_alone_12 rfl ⟨by decide, by decide⟩ ?_
    refine AW.goto (tgt := 45) (pc := 14) dX10_alone_14 rfl ?_
    refine AW.iret (pc := 45) dX10_alone_45 rfl ?_
    exact H_6
set_option maxRecDepth 100000 in
set_option maxHeartbeats 4000000 in
theorem p_X10_forgets  {h : aH} {Q : aQ} (k : Q 0 (a_up (a_up h 85 36 0) 85 37 0)) : aRun mX10_forgets 0 [aR 85] h Q := by
  refine aRun.of pn_10 rfl (Nat.le_of_ble_eq_true rfl) ?_
  show AW mX10_forgets 0 0 [some (aR 85)] [] h Q
  refine AW.aload_n (pc := 0) dX10_forgets_0 rfl ?_
  refine AW.iconst (pc := 1) dX10_forgets_1 ⟨by decide, by decide⟩ ?_
  refine AW.puti' (k := 36) (j := 36) (pc := 2) dX10_forgets_2 ac_10 sh_85 rfl (by decide) fl_10_278 rfl rfl (tyX10_ok 36 (by decide)) (Or.inl rfl) ?_
  refine AW.aload_n (pc := 5) dX10_forgets_5 rfl ?_
  refine AW.iconst (pc := 6) dX10_forgets_6 ⟨by decide, by decide⟩ ?_
  refine AW.puti' (k := 37) (j := 37) (pc := 7) dX10_forgets_7 ac_10 sh_85 rfl (by decide) fl_10_281 rfl rfl (tyX10_ok 37 (by decide)) (Or.inr ⟨rfl, (Or.inl rfl)⟩) ?_
  refine AW.vret (pc := 10) dX10_forgets_10 rfl ?_
  exact k
set_option maxRecDepth 100000 in
set_option maxHeartbeats 4000000 in
theorem e_X10_lays  {h : aH} {Q : aQ} (H : AW mX10_lays 0 2 [some (aR 85), some (aI 0)] [] h Q) : aRun mX10_lays 0 [aR 85] h Q := by
  refine aRun.of pn_10 rfl (Nat.le_of_ble_eq_true rfl) ?_
  show AW mX10_lays 0 0 [some (aR 85), none] [] h Q
  refine AW.iconst (pc := 0) dX10_lays_0 ⟨by decide, by decide⟩ ?_
  refine AW.istore_n (pc := 1) dX10_lays_1 (by decide) rfl ?_
  exact H
set_option maxRecDepth 100000 in
set_option maxHeartbeats 4000000 in
theorem s_X10_lays_2  {l1 : Int} {h : aH} {Q : aQ} (H : ((120 ≤ l1 → Q 0 h) ∧ (¬ (120 ≤ l1) → inR (120 * (h 85 18)) ∧ inR ((120 * (h 85 18)) + l1) ∧ (0 ≤ l1 ∧ l1 < 120) ∧ (0 ≤ ((120 * (h 85 18)) + l1) ∧ ((120 * (h 85 18)) + l1) < 2040) ∧ inR (l1 + 1) ∧ AW mX10_lays 0 2 [some (aR 85), some (aI (l1 + 1))] [] (a_up h 96 ((120 * (h 85 18)) + l1) (h 90 l1)) Q))) : AW mX10_lays 0 2 [some (aR 85), some (aI l1)] [] h Q := by
  refine AW.iload_n (pc := 2) dX10_lays_2 rfl ?_
  refine AW.bipush (pc := 3) dX10_lays_3 rfl ⟨by decide, by decide⟩ ?_
  refine AW.icmp_ge (tgt := 34) (pc := 5) dX10_lays_5 rfl (fun q => ?_) (fun q => ?_)
  · skip
    have H_1 := H.1 q
    refine AW.vret (pc := 34) dX10_lays_34 rfl ?_
    exact H_1
  · skip
    have H_2 := H.2 q
    refine AW.aload_n (pc := 8) dX10_lays_8 rfl ?_
    refine AW.getr (k := 17) (pc := 9) dX10_lays_9 ac_10 sh_85 rfl (by decide) fl_10_40 ?_
    refine AW.bipush (pc := 12) dX10_lays_12 rfl ⟨by decide, by decide⟩ ?_
    refine AW.aload_n (pc := 14) dX10_lays_14 rfl ?_
    refine AW.geti' (k := 18) (j := 18) (pc := 15) dX10_lays_15 ac_10 sh_85 rfl (by decide) fl_10_159 rfl (v := (h 85 18)) rfl ?_
    refine AW.imul (pc := 18) dX10_lays_18 (H_2.1) ?_
    refine AW.iload_n (pc := 19) dX10_lays_19 rfl ?_
    refine AW.iadd (pc := 20) dX10_lays_20 (H_2.2.1) ?_
    refine AW.aload_n (pc := 21) dX10_lays_21 rfl ?_
    refine AW.getr (k := 6) (pc := 22) dX10_lays_22 ac_10 sh_85 rfl (by decide) fl_10_22 ?_
    refine AW.iload_n (pc := 25) dX10_lays_25 rfl ?_
    refine AW.iald (pc := 26) dX10_lays_26 sh_90 (H_2.2.2.1) (v := (h 90 l1)) rfl ?_
    refine AW.iast (pc := 27) dX10_lays_27 sh_96 (H_2.2.2.2.1) ?_
    refine AW.iinc (pc := 28) dX10_lays_28 rfl (by decide) rfl (H_2.2.2.2.2.1) ?_
    refine AW.goto (tgt := 2) (pc := 31) dX10_lays_31 rfl ?_
    exact H_2.2.2.2.2.2
set_option maxRecDepth 100000 in
set_option maxHeartbeats 4000000 in
theorem e_X10_begins  {h : aH} {Q : aQ} (H : aRun mX10_lays 0 [aR 85] (a_up (a_up h 85 18 0) 85 19 0) (fun r1 h2 => Q 0 (a_up (a_up h2 85 36 0) 85 37 0))) : aRun mX10_begins 1 [aR 85] h Q := by
  refine aRun.of pn_10 rfl (Nat.le_of_ble_eq_true rfl) ?_
  show AW mX10_begins 1 0 [some (aR 85)] [] h Q
  refine AW.aload_n (pc := 0) dX10_begins_0 rfl ?_
  refine AW.iconst (pc := 1) dX10_begins_1 ⟨by decide, by decide⟩ ?_
  refine AW.puti' (k := 18) (j := 18) (pc := 2) dX10_begins_2 ac_10 sh_85 rfl (by decide) fl_10_159 rfl rfl (tyX10_ok 18 (by decide)) (Or.inl rfl) ?_
  refine AW.aload_n (pc := 5) dX10_begins_5 rfl ?_
  refine AW.iconst (pc := 6) dX10_begins_6 ⟨by decide, by decide⟩ ?_
  refine AW.puti' (k := 19) (j := 19) (pc := 7) dX10_begins_7 ac_10 sh_85 rfl (by decide) fl_10_162 rfl rfl (tyX10_ok 19 (by decide)) (Or.inl rfl) ?_
  refine AW.aload_n (pc := 10) dX10_begins_10 rfl ?_
  refine AW.callVv (M' := mX10_lays) (F' := 0) (as := []) (pc := 11) dX10_begins_11 (by decide) kX10_lays ml_10_165 ob_85 rfl npX10_lays (Nat.le_of_ble_eq_true rfl) (aRun.mono (fun r1 h2 H_1 => ?_) H)
  refine AW.aload_n (pc := 14) dX10_begins_14 rfl ?_
  refine AW.callVv (M' := mX10_forgets) (F' := 0) (as := []) (pc := 15) dX10_begins_15 (by decide) kX10_forgets ml_10_171 ob_85 rfl npX10_forgets (Nat.le_of_ble_eq_true rfl) (p_X10_forgets  ?_)
  refine AW.vret (pc := 18) dX10_begins_18 rfl ?_
  exact H_1
set_option maxRecDepth 100000 in
set_option maxHeartbeats 4000000 in
theorem p_X10_passes {a1 : Int} {h : aH} {Q : aQ} (o : (((h 85 53) = 0 → (0 ≤ (h 85 52) ∧ (h 85 52) < 223)) ∧ ((0 ≤ (h 85 52) ∧ (h 85 52) < 223) ∧ inR ((h 85 52) + 1)))) (k : Q (if (h 85 53) = 0 then (h 115 (h 85 52)) else a1) (a_up (a_up h 115 (h 85 52) (if (h 85 53) = 0 then (h 115 (h 85 52)) else a1)) 85 52 ((h 85 52) + 1))) : aRun mX10_passes 0 [aR 85, aI a1] h Q := by
  refine aRun.of pn_10 rfl (Nat.le_of_ble_eq_true rfl) ?_
  show AW mX10_passes 0 0 [some (aR 85), some (aI a1), none] [] h Q
  refine AW.aload_n (pc := 0) dX10_passes_0 rfl ?_
  refine AW.geti' (k := 53) (j := 53) (pc := 1) dX10_passes_1 ac_10 sh_85 rfl (by decide) fl_10_374 rfl (v := (h 85 53)) rfl ?_
  have K_1 : AW mX10_passes 0 20 [some (aR 85), some (aI a1), none] [aI (if (h 85 53) = 0 then (h 115 (h 85 52)) else a1)] h Q := by
    have H_2 := o.2
    refine AW.istore_n (pc := 20) dX10_passes_20 (by decide) rfl ?_
    refine AW.aload_n (pc := 21) dX10_passes_21 rfl ?_
    refine AW.getr (k := 50) (pc := 22) dX10_passes_22 ac_10 sh_85 rfl (by decide) fl_10_102 ?_
    refine AW.aload_n (pc := 25) dX10_passes_25 rfl ?_
    refine AW.geti' (k := 52) (j := 52) (pc := 26) dX10_passes_26 ac_10 sh_85 rfl (by decide) fl_10_377 rfl (v := (h 85 52)) rfl ?_
    refine AW.iload_n (pc := 29) dX10_passes_29 rfl ?_
    refine AW.iast (pc := 30) dX10_passes_30 sh_115 (H_2.1) ?_
    refine AW.aload_n (pc := 31) dX10_passes_31 rfl ?_
    refine AW.dup (pc := 32) dX10_passes_32 rfl ?_
    refine AW.geti' (k := 52) (j := 52) (pc := 33) dX10_passes_33 ac_10 sh_85 rfl (by decide) fl_10_377 rfl (v := (h 85 52)) (by rw [a_up_ne (by decide)]) ?_
    refine AW.iconst (pc := 36) dX10_passes_36 ⟨by decide, by decide⟩ ?_
    refine AW.iadd (pc := 37) dX10_passes_37 (H_2.2) ?_
    refine AW.puti' (k := 52) (j := 52) (pc := 38) dX10_passes_38 ac_10 sh_85 rfl (by decide) fl_10_377 rfl rfl (tyX10_ok 52 (by decide)) (Or.inl rfl) ?_
    refine AW.iload_n (pc := 41) dX10_passes_41 rfl ?_
    refine AW.iret (pc := 42) dX10_passes_42 rfl ?_
    exact k
  have H_3 := o.1
  refine AW.if_eq (tgt := 11) (pc := 4) dX10_passes_4 rfl (fun q => ?_) (fun q => ?_)
  · skip
    have H_4 := H_3 q
    rw [if_pos q] at K_1
    refine AW.aload_n (pc := 11) dX10_passes_11 rfl ?_
    refine AW.getr (k := 50) (pc := 12) dX10_passes_12 ac_10 sh_85 rfl (by decide) fl_10_102 ?_
    refine AW.aload_n (pc := 15) dX10_passes_15 rfl ?_
    refine AW.geti' (k := 52) (j := 52) (pc := 16) dX10_passes_16 ac_10 sh_85 rfl (by decide) fl_10_377 rfl (v := (h 85 52)) rfl ?_
    refine AW.iald (pc := 19) dX10_passes_19 sh_115 H_4 (v := (h 115 (h 85 52))) rfl ?_
    exact K_1
  · skip
    rw [if_neg q] at K_1
    refine AW.iload_n (pc := 7) dX10_passes_7 rfl ?_
    refine AW.goto (tgt := 20) (pc := 8) dX10_passes_8 rfl ?_
    exact K_1
set_option maxRecDepth 100000 in
set_option maxHeartbeats 4000000 in
theorem e_X10_passesRow {r : Nat} {n : Nat} {br : Nat} (hr : a_T[r]? = some (.inl (0, n, br))) {h : aH} {Q : aQ} (H : AW mX10_passesRow 1 2 [some (aR 85), some (aR r), some (aI 0)] [] h Q) : aRun mX10_passesRow 1 [aR 85, aR r] h Q := by
  refine aRun.of pn_10 rfl (Nat.le_of_ble_eq_true rfl) ?_
  show AW mX10_passesRow 1 0 [some (aR 85), some (aR r), none] [] h Q
  refine AW.iconst (pc := 0) dX10_passesRow_0 ⟨by decide, by decide⟩ ?_
  refine AW.istore_n (pc := 1) dX10_passesRow_1 (by decide) rfl ?_
  exact H
set_option maxRecDepth 100000 in
set_option maxHeartbeats 4000000 in
theorem s_X10_passesRow_2 {r : Nat} {n : Nat} {br : Nat} (hr : a_T[r]? = some (.inl (0, n, br))) {l2 : Int} {h : aH} {Q : aQ} (H : inR (n : Int) ∧ (((n : Int) ≤ l2 → Q 0 h) ∧ (¬ ((n : Int) ≤ l2) → (0 ≤ l2 ∧ l2 < n) ∧ ((((h 85 53) = 0 → (0 ≤ (h 85 52) ∧ (h 85 52) < 223)) ∧ ((0 ≤ (h 85 52) ∧ (h 85 52) < 223) ∧ inR ((h 85 52) + 1)))) ∧ inR (l2 + 1) ∧ AW mX10_passesRow 1 2 [some (aR 85), some (aR r), some (aI (l2 + 1))] [] (a_up (a_up (a_up h 115 (h 85 52) (if (h 85 53) = 0 then (h 115 (h 85 52)) else (h r l2))) 85 52 ((h 85 52) + 1)) r l2 (if (h 85 53) = 0 then (h 115 (h 85 52)) else (h r l2))) Q))) : AW mX10_passesRow 1 2 [some (aR 85), some (aR r), some (aI l2)] [] h Q := by
  refine AW.iload_n (pc := 2) dX10_passesRow_2 rfl ?_
  refine AW.aload_n (pc := 3) dX10_passesRow_3 rfl ?_
  refine AW.alen (pc := 4) dX10_passesRow_4 hr (H.1) ?_
  refine AW.icmp_ge (tgt := 24) (pc := 5) dX10_passesRow_5 rfl (fun q => ?_) (fun q => ?_)
  · skip
    have H_1 := H.2.1 q
    refine AW.vret (pc := 24) dX10_passesRow_24 rfl ?_
    exact H_1
  · skip
    have H_2 := H.2.2 q
    refine AW.aload_n (pc := 8) dX10_passesRow_8 rfl ?_
    refine AW.iload_n (pc := 9) dX10_passesRow_9 rfl ?_
    refine AW.aload_n (pc := 10) dX10_passesRow_10 rfl ?_
    refine AW.aload_n (pc := 11) dX10_passesRow_11 rfl ?_
    refine AW.iload_n (pc := 12) dX10_passesRow_12 rfl ?_
    refine AW.iald (pc := 13) dX10_passesRow_13 hr (H_2.1) (v := (h r l2)) rfl ?_
    refine AW.callVi (M' := mX10_passes) (F' := 0) (as := [aI (h r l2)]) (pc := 14) dX10_passesRow_14 (by decide) kX10_passes ml_10_380 ob_85 rfl npX10_passes (Nat.le_of_ble_eq_true rfl) (p_X10_passes (H_2.2.1) ?_)
    refine AW.iast (pc := 17) dX10_passesRow_17 hr (H_2.1) ?_
    refine AW.iinc (pc := 18) dX10_passesRow_18 rfl (by decide) rfl (H_2.2.2.1) ?_
    refine AW.goto (tgt := 2) (pc := 21) dX10_passesRow_21 rfl ?_
    exact H_2.2.2.2
set_option maxRecDepth 100000 in
set_option maxHeartbeats 4000000 in
theorem e_X10_passesAll {a1 : Int} {h : aH} {Q : aQ} (H : (a1 = 0 ∨ a1 = 1) ∧ aRun mX10_passes 0 [aR 85, aI (h 85 0)] (a_up (a_up h 85 53 a1) 85 52 0) (fun r1 h2 => aRun mX10_passes 0 [aR 85, aI (h2 85 1)] (a_up h2 85 0 r1) (fun r3 h4 => aRun mX10_passesRow 1 [aR 85, aR 91] (a_up h4 85 1 r3) (fun r5 h6 => aRun mX10_passesRow 1 [aR 85, aR 86] h6 (fun r7 h8 => aRun mX10_passesRow 1 [aR 85, aR 87] h8 (fun r9 h10 => aRun mX10_passesRow 1 [aR 85, aR 88] h10 (fun r11 h12 => aRun mX10_passesRow 1 [aR 85, aR 89] h12 (fun r13 h14 => aRun mX10_passesRow 1 [aR 85, aR 90] h14 (fun r15 h16 => Q 0 h16))))))))) : aRun mX10_passesAll 2 [aR 85, aI a1] h Q := by
  refine aRun.of pn_10 rfl (Nat.le_of_ble_eq_true rfl) ?_
  show AW mX10_passesAll 2 0 [some (aR 85), some (aI a1)] [] h Q
  refine AW.aload_n (pc := 0) dX10_passesAll_0 rfl ?_
  refine AW.iload_n (pc := 1) dX10_passesAll_1 rfl ?_
  refine AW.puti' (k := 53) (j := 53) (pc := 2) dX10_passesAll_2 ac_10 sh_85 rfl (by decide) fl_10_374 rfl rfl (tyX10_ok 53 (by decide)) (Or.inr ⟨rfl, (H.1)⟩) ?_
  refine AW.aload_n (pc := 5) dX10_passesAll_5 rfl ?_
  refine AW.iconst (pc := 6) dX10_passesAll_6 ⟨by decide, by decide⟩ ?_
  refine AW.puti' (k := 52) (j := 52) (pc := 7) dX10_passesAll_7 ac_10 sh_85 rfl (by decide) fl_10_377 rfl rfl (tyX10_ok 52 (by decide)) (Or.inl rfl) ?_
  refine AW.aload_n (pc := 10) dX10_passesAll_10 rfl ?_
  refine AW.aload_n (pc := 11) dX10_passesAll_11 rfl ?_
  refine AW.aload_n (pc := 12) dX10_passesAll_12 rfl ?_
  refine AW.geti' (k := 0) (j := 0) (pc := 13) dX10_passesAll_13 ac_10 sh_85 rfl (by decide) fl_10_150 rfl (v := (h 85 0)) (by rw [a_up_off (by decide), a_up_off (by decide)]) ?_
  refine AW.callVi (M' := mX10_passes) (F' := 0) (as := [aI (h 85 0)]) (pc := 16) dX10_passesAll_16 (by decide) kX10_passes ml_10_380 ob_85 rfl npX10_passes (Nat.le_of_ble_eq_true rfl) (aRun.mono (fun r1 h2 H_1 => ?_) H.2)
  refine AW.puti' (k := 0) (j := 0) (pc := 19) dX10_passesAll_19 ac_10 sh_85 rfl (by decide) fl_10_150 rfl rfl (tyX10_ok 0 (by decide)) (Or.inl rfl) ?_
  refine AW.aload_n (pc := 22) dX10_passesAll_22 rfl ?_
  refine AW.aload_n (pc := 23) dX10_passesAll_23 rfl ?_
  refine AW.aload_n (pc := 24) dX10_passesAll_24 rfl ?_
  refine AW.geti' (k := 1) (j := 1) (pc := 25) dX10_passesAll_25 ac_10 sh_85 rfl (by decide) fl_10_105 rfl (v := (h2 85 1)) (by rw [a_up_off (by decide)]) ?_
  refine AW.callVi (M' := mX10_passes) (F' := 0) (as := [aI (h2 85 1)]) (pc := 28) dX10_passesAll_28 (by decide) kX10_passes ml_10_380 ob_85 rfl npX10_passes (Nat.le_of_ble_eq_true rfl) (aRun.mono (fun r3 h4 H_2 => ?_) H_1)
  refine AW.puti' (k := 1) (j := 1) (pc := 31) dX10_passesAll_31 ac_10 sh_85 rfl (by decide) fl_10_105 rfl rfl (tyX10_ok 1 (by decide)) (Or.inl rfl) ?_
  refine AW.aload_n (pc := 34) dX10_passesAll_34 rfl ?_
  refine AW.aload_n (pc := 35) dX10_passesAll_35 rfl ?_
  refine AW.getr (k := 7) (pc := 36) dX10_passesAll_36 ac_10 sh_85 rfl (by decide) fl_10_25 ?_
  refine AW.callVv (M' := mX10_passesRow) (F' := 1) (as := [aR 91]) (pc := 39) dX10_passesAll_39 (by decide) kX10_passesRow ml_10_383 ob_85 rfl npX10_passesRow (Nat.le_of_ble_eq_true rfl) (aRun.mono (fun r5 h6 H_3 => ?_) H_2)
  refine AW.aload_n (pc := 42) dX10_passesAll_42 rfl ?_
  refine AW.aload_n (pc := 43) dX10_passesAll_43 rfl ?_
  refine AW.getr (k := 2) (pc := 44) dX10_passesAll_44 ac_10 sh_85 rfl (by decide) fl_10_9 ?_
  refine AW.callVv (M' := mX10_passesRow) (F' := 1) (as := [aR 86]) (pc := 47) dX10_passesAll_47 (by decide) kX10_passesRow ml_10_383 ob_85 rfl npX10_passesRow (Nat.le_of_ble_eq_true rfl) (aRun.mono (fun r7 h8 H_4 => ?_) H_3)
  refine AW.aload_n (pc := 50) dX10_passesAll_50 rfl ?_
  refine AW.aload_n (pc := 51) dX10_passesAll_51 rfl ?_
  refine AW.getr (k := 3) (pc := 52) dX10_passesAll_52 ac_10 sh_85 rfl (by decide) fl_10_13 ?_
  refine AW.callVv (M' := mX10_passesRow) (F' := 1) (as := [aR 87]) (pc := 55) dX10_passesAll_55 (by decide) kX10_passesRow ml_10_383 ob_85 rfl npX10_passesRow (Nat.le_of_ble_eq_true rfl) (aRun.mono (fun r9 h10 H_5 => ?_) H_4)
  refine AW.aload_n (pc := 58) dX10_passesAll_58 rfl ?_
  refine AW.aload_n (pc := 59) dX10_passesAll_59 rfl ?_
  refine AW.getr (k := 4) (pc := 60) dX10_passesAll_60 ac_10 sh_85 rfl (by decide) fl_10_16 ?_
  refine AW.callVv (M' := mX10_passesRow) (F' := 1) (as := [aR 88]) (pc := 63) dX10_passesAll_63 (by decide) kX10_passesRow ml_10_383 ob_85 rfl npX10_passesRow (Nat.le_of_ble_eq_true rfl) (aRun.mono (fun r11 h12 H_6 => ?_) H_5)
  refine AW.aload_n (pc := 66) dX10_passesAll_66 rfl ?_
  refine AW.aload_n (pc := 67) dX10_passesAll_67 rfl ?_
  refine AW.getr (k := 5) (pc := 68) dX10_passesAll_68 ac_10 sh_85 rfl (by decide) fl_10_19 ?_
  refine AW.callVv (M' := mX10_passesRow) (F' := 1) (as := [aR 89]) (pc := 71) dX10_passesAll_71 (by decide) kX10_passesRow ml_10_383 ob_85 rfl npX10_passesRow (Nat.le_of_ble_eq_true rfl) (aRun.mono (fun r13 h14 H_7 => ?_) H_6)
  refine AW.aload_n (pc := 74) dX10_passesAll_74 rfl ?_
  refine AW.aload_n (pc := 75) dX10_passesAll_75 rfl ?_
  refine AW.getr (k := 6) (pc := 76) dX10_passesAll_76 ac_10 sh_85 rfl (by decide) fl_10_22 ?_
  refine AW.callVv (M' := mX10_passesRow) (F' := 1) (as := [aR 90]) (pc := 79) dX10_passesAll_79 (by decide) kX10_passesRow ml_10_383 ob_85 rfl npX10_passesRow (Nat.le_of_ble_eq_true rfl) (aRun.mono (fun r15 h16 H_8 => ?_) H_7)
  refine AW.vret (pc := 82) dX10_passesAll_82 rfl ?_
  exact H_8
set_option maxRecDepth 100000 in
set_option maxHeartbeats 4000000 in
theorem e_X10_back  {h : aH} {Q : aQ} (H : (((h 85 51) = 0 → Q (-5) h) ∧ (¬ ((h 85 51) = 0) → aRun mX10_passesAll 2 [aR 85, aI 0] h (fun r1 h2 => aRun mX10_begins 1 [aR 85] h2 (fun r3 h4 => Q (h4 85 1) h4))))) : aRun mX10_back 3 [aR 85] h Q := by
  refine aRun.of pn_10 rfl (Nat.le_of_ble_eq_true rfl) ?_
  show AW mX10_back 3 0 [some (aR 85)] [] h Q
  refine AW.aload_n (pc := 0) dX10_back_0 rfl ?_
  refine AW.geti' (k := 51) (j := 51) (pc := 1) dX10_back_1 ac_10 sh_85 rfl (by decide) fl_10_387 rfl (v := (h 85 51)) rfl ?_
  refine AW.if_ne (tgt := 10) (pc := 4) dX10_back_4 rfl (fun q => ?_) (fun q => ?_)
  · skip
    have H_1 := H.2 q
    refine AW.aload_n (pc := 10) dX10_back_10 rfl ?_
    refine AW.iconst (pc := 11) dX10_back_11 ⟨by decide, by decide⟩ ?_
    refine AW.callVv (M' := mX10_passesAll) (F' := 2) (as := [aI 0]) (pc := 12) dX10_back_12 (by decide) kX10_passesAll ml_10_390 ob_85 rfl npX10_passesAll (Nat.le_of_ble_eq_true rfl) (aRun.mono (fun r1 h2 H_2 => ?_) H_1)
    refine AW.aload_n (pc := 15) dX10_back_15 rfl ?_
    refine AW.callVv (M' := mX10_begins) (F' := 1) (as := []) (pc := 16) dX10_back_16 (by decide) kX10_begins ml_10_156 ob_85 rfl npX10_begins (Nat.le_of_ble_eq_true rfl) (aRun.mono (fun r3 h4 H_3 => ?_) H_2)
    refine AW.aload_n (pc := 19) dX10_back_19 rfl ?_
    refine AW.geti' (k := 1) (j := 1) (pc := 20) dX10_back_20 ac_10 sh_85 rfl (by decide) fl_10_105 rfl (v := (h4 85 1)) rfl ?_
    refine AW.iret (pc := 23) dX10_back_23 rfl ?_
    exact H_3
  · have q := Decidable.not_not.mp q
    have H_4 := H.1 q
    refine AW.bipush (pc := 7) dX10_back_7 rfl ⟨by decide, by decide⟩ ?_
    refine AW.iret (pc := 9) dX10_back_9 rfl ?_
    exact H_4
set_option maxRecDepth 100000 in
set_option maxHeartbeats 4000000 in
theorem e_X10_changed  {h : aH} {Q : aQ} (H : (((h 85 18) = 16 → AW mX10_changed 1 11 [some (aR 85), some (aI 0)] [] h Q) ∧ (¬ ((h 85 18) = 16) → inR ((h 85 18) + 1) ∧ aRun mX10_lays 0 [aR 85] (a_up (a_up h 85 18 ((h 85 18) + 1)) 85 19 0) (fun r1 h2 => Q 0 h2)))) : aRun mX10_changed 1 [aR 85] h Q := by
  refine aRun.of pn_10 rfl (Nat.le_of_ble_eq_true rfl) ?_
  show AW mX10_changed 1 0 [some (aR 85), none] [] h Q
  refine AW.aload_n (pc := 0) dX10_changed_0 rfl ?_
  refine AW.geti' (k := 18) (j := 18) (pc := 1) dX10_changed_1 ac_10 sh_85 rfl (by decide) fl_10_159 rfl (v := (h 85 18)) rfl ?_
  refine AW.bipush (pc := 4) dX10_changed_4 rfl ⟨by decide, by decide⟩ ?_
  refine AW.icmp_ne (tgt := 49) (pc := 6) dX10_changed_6 rfl (fun q => ?_) (fun q => ?_)
  · skip
    have H_1 := H.2 q
    refine AW.aload_n (pc := 49) dX10_changed_49 rfl ?_
    refine AW.dup (pc := 50) dX10_changed_50 rfl ?_
    refine AW.geti' (k := 18) (j := 18) (pc := 51) dX10_changed_51 ac_10 sh_85 rfl (by decide) fl_10_159 rfl (v := (h 85 18)) rfl ?_
    refine AW.iconst (pc := 54) dX10_changed_54 ⟨by decide, by decide⟩ ?_
    refine AW.iadd (pc := 55) dX10_changed_55 (H_1.1) ?_
    refine AW.puti' (k := 18) (j := 18) (pc := 56) dX10_changed_56 ac_10 sh_85 rfl (by decide) fl_10_159 rfl rfl (tyX10_ok 18 (by decide)) (Or.inl rfl) ?_
    refine AW.aload_n (pc := 59) dX10_changed_59 rfl ?_
    refine AW.iconst (pc := 60) dX10_changed_60 ⟨by decide, by decide⟩ ?_
    refine AW.puti' (k := 19) (j := 19) (pc := 61) dX10_changed_61 ac_10 sh_85 rfl (by decide) fl_10_162 rfl rfl (tyX10_ok 19 (by decide)) (Or.inl rfl) ?_
    refine AW.aload_n (pc := 64) dX10_changed_64 rfl ?_
    refine AW.callVv (M' := mX10_lays) (F' := 0) (as := []) (pc := 65) dX10_changed_65 (by decide) kX10_lays ml_10_165 ob_85 rfl npX10_lays (Nat.le_of_ble_eq_true rfl) (aRun.mono (fun r1 h2 H_2 => ?_) H_1.2)
    refine AW.vret (pc := 68) dX10_changed_68 rfl ?_
    exact H_2
  · have q := Decidable.not_not.mp q
    have H_3 := H.1 q
    refine AW.iconst (pc := 9) dX10_changed_9 ⟨by decide, by decide⟩ ?_
    refine AW.istore_n (pc := 10) dX10_changed_10 (by decide) rfl ?_
    exact H_3
set_option maxRecDepth 100000 in
set_option maxHeartbeats 4000000 in
theorem s_X10_changed_11  {l1 : Int} {h : aH} {Q : aQ} (H : ((1920 ≤ l1 → inR ((h 85 18) - 1) ∧ inR (((h 85 18) - 1) + 1) ∧ aRun mX10_lays 0 [aR 85] (a_up (a_up (a_up h 85 18 ((h 85 18) - 1)) 85 18 (((h 85 18) - 1) + 1)) 85 19 0) (fun r1 h2 => Q 0 h2)) ∧ (¬ (1920 ≤ l1) → inR (l1 + 120) ∧ (0 ≤ (l1 + 120) ∧ (l1 + 120) < 2040) ∧ (0 ≤ l1 ∧ l1 < 2040) ∧ inR (l1 + 1) ∧ AW mX10_changed 1 11 [some (aR 85), some (aI (l1 + 1))] [] (a_up h 96 l1 (h 96 (l1 + 120))) Q))) : AW mX10_changed 1 11 [some (aR 85), some (aI l1)] [] h Q := by
  refine AW.iload_n (pc := 11) dX10_changed_11 rfl ?_
  refine AW.sipush (pc := 12) dX10_changed_12 rfl ⟨by decide, by decide⟩ ?_
  refine AW.icmp_ge (tgt := 39) (pc := 15) dX10_changed_15 rfl (fun q => ?_) (fun q => ?_)
  · skip
    have H_1 := H.1 q
    refine AW.aload_n (pc := 39) dX10_changed_39 rfl ?_
    refine AW.dup (pc := 40) dX10_changed_40 rfl ?_
    refine AW.geti' (k := 18) (j := 18) (pc := 41) dX10_changed_41 ac_10 sh_85 rfl (by decide) fl_10_159 rfl (v := (h 85 18)) rfl ?_
    refine AW.iconst (pc := 44) dX10_changed_44 ⟨by decide, by decide⟩ ?_
    refine AW.isub (pc := 45) dX10_changed_45 (H_1.1) ?_
    refine AW.puti' (k := 18) (j := 18) (pc := 46) dX10_changed_46 ac_10 sh_85 rfl (by decide) fl_10_159 rfl rfl (tyX10_ok 18 (by decide)) (Or.inl rfl) ?_
    refine AW.aload_n (pc := 49) dX10_changed_49 rfl ?_
    refine AW.dup (pc := 50) dX10_changed_50 rfl ?_
    refine AW.geti' (k := 18) (j := 18) (pc := 51) dX10_changed_51 ac_10 sh_85 rfl (by decide) fl_10_159 rfl (v := ((h 85 18) - 1)) (by rw [a_up_eq]) ?_
    refine AW.iconst (pc := 54) dX10_changed_54 ⟨by decide, by decide⟩ ?_
    refine AW.iadd (pc := 55) dX10_changed_55 (H_1.2.1) ?_
    refine AW.puti' (k := 18) (j := 18) (pc := 56) dX10_changed_56 ac_10 sh_85 rfl (by decide) fl_10_159 rfl rfl (tyX10_ok 18 (by decide)) (Or.inl rfl) ?_
    refine AW.aload_n (pc := 59) dX10_changed_59 rfl ?_
    refine AW.iconst (pc := 60) dX10_changed_60 ⟨by decide, by decide⟩ ?_
    refine AW.puti' (k := 19) (j := 19) (pc := 61) dX10_changed_61 ac_10 sh_85 rfl (by decide) fl_10_162 rfl rfl (tyX10_ok 19 (by decide)) (Or.inl rfl) ?_
    refine AW.aload_n (pc := 64) dX10_changed_64 rfl ?_
    refine AW.callVv (M' := mX10_lays) (F' := 0) (as := []) (pc := 65) dX10_changed_65 (by decide) kX10_lays ml_10_165 ob_85 rfl npX10_lays (Nat.le_of_ble_eq_true rfl) (aRun.mono (fun r1 h2 H_2 => ?_) H_1.2.2)
    refine AW.vret (pc := 68) dX10_changed_68 rfl ?_
    exact H_2
  · skip
    have H_3 := H.2 q
    refine AW.aload_n (pc := 18) dX10_changed_18 rfl ?_
    refine AW.getr (k := 17) (pc := 19) dX10_changed_19 ac_10 sh_85 rfl (by decide) fl_10_40 ?_
    refine AW.iload_n (pc := 22) dX10_changed_22 rfl ?_
    refine AW.aload_n (pc := 23) dX10_changed_23 rfl ?_
    refine AW.getr (k := 17) (pc := 24) dX10_changed_24 ac_10 sh_85 rfl (by decide) fl_10_40 ?_
    refine AW.iload_n (pc := 27) dX10_changed_27 rfl ?_
    refine AW.bipush (pc := 28) dX10_changed_28 rfl ⟨by decide, by decide⟩ ?_
    refine AW.iadd (pc := 30) dX10_changed_30 (H_3.1) ?_
    refine AW.iald (pc := 31) dX10_changed_31 sh_96 (H_3.2.1) (v := (h 96 (l1 + 120))) rfl ?_
    refine AW.iast (pc := 32) dX10_changed_32 sh_96 (H_3.2.2.1) ?_
    refine AW.iinc (pc := 33) dX10_changed_33 rfl (by decide) rfl (H_3.2.2.2.1) ?_
    refine AW.goto (tgt := 11) (pc := 36) dX10_changed_36 rfl ?_
    exact H_3.2.2.2.2
