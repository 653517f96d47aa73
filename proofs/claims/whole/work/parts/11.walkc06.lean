set_option maxRecDepth 100000 in
set_option maxHeartbeats 4000000 in
theorem e_X9_chartByte {a1 a2 : Int} {h : aH} {Q : aQ} (H : ((a2 = (h 20 9) → Q 10 h) ∧ (¬ (a2 = (h 20 9)) → AW mX9_chartByte 0 16 [some (aR 0), some (aI a1), some (aI a2), some (aI 0), none, none] [] h Q))) : aRun mX9_chartByte 0 [aR 0, aI a1, aI a2] h Q := by
  refine aRun.of pn_9 rfl (Nat.le_of_ble_eq_true rfl) ?_
  show AW mX9_chartByte 0 0 [some (aR 0), some (aI a1), some (aI a2), none, none, none] [] h Q
  refine AW.iload_n (pc := 0) dX9_chartByte_0 rfl ?_
  refine AW.aload_n (pc := 1) dX9_chartByte_1 rfl ?_
  refine AW.getr (k := 4) (pc := 2) dX9_chartByte_2 ac_9 sh_0 rfl (by decide) fl_9_33 ?_
  refine AW.geti' (k := 9) (j := 9) (pc := 5) dX9_chartByte_5 ac_8 sh_20 rfl (by decide) fl_9_169 rfl (v := (h 20 9)) rfl ?_
  refine AW.icmp_ne (tgt := 14) (pc := 8) dX9_chartByte_8 rfl (fun q => ?_) (fun q => ?_)
  · skip
    have H_1 := H.2 q
    refine AW.iconst (pc := 14) dX9_chartByte_14 ⟨by decide, by decide⟩ ?_
    refine AW.istore_n (pc := 15) dX9_chartByte_15 (by decide) rfl ?_
    exact H_1
  · have q := Decidable.not_not.mp q
    have H_2 := H.1 q
    refine AW.bipush (pc := 11) dX9_chartByte_11 rfl ⟨by decide, by decide⟩ ?_
    refine AW.iret (pc := 13) dX9_chartByte_13 rfl ?_
    exact H_2
set_option maxRecDepth 100000 in
set_option maxHeartbeats 4000000 in
theorem s_X9_chartByte_16  {l1 l2 l3 : Int} {h : aH} {Q : aQ} (H : (((h 3 1) ≤ l3 → Q 46 h) ∧ (¬ ((h 3 1) ≤ l3) → (0 ≤ l3 ∧ l3 < 24) ∧ inR ((h 24 l3) + (h 7 l3)) ∧ (((h 6 l3) = l1 → (((if l2 < (h 24 l3) then (0 : Int) else (1 : Int)) = 0 → inR (l3 + 1) ∧ AW mX9_chartByte 0 16 [some (aR 0), some (aI l1), some (aI l2), some (aI (l3 + 1)), none, none] [] h Q) ∧ (¬ ((if l2 < (h 24 l3) then (0 : Int) else (1 : Int)) = 0) → (((if l2 < ((h 24 l3) + (h 7 l3)) then (0 : Int) else (1 : Int)) = 0 → inR (48 + (h 4 l3)) ∧ Q (48 + (h 4 l3)) h) ∧ (¬ ((if l2 < ((h 24 l3) + (h 7 l3)) then (0 : Int) else (1 : Int)) = 0) → inR (l3 + 1) ∧ AW mX9_chartByte 0 16 [some (aR 0), some (aI l1), some (aI l2), some (aI (l3 + 1)), none, none] [] h Q))))) ∧ (¬ ((h 6 l3) = l1) → inR (l3 + 1) ∧ AW mX9_chartByte 0 16 [some (aR 0), some (aI l1), some (aI l2), some (aI (l3 + 1)), none, none] [] h Q))))) : AW mX9_chartByte 0 16 [some (aR 0), some (aI l1), some (aI l2), some (aI l3), none, none] [] h Q := by
  refine AW.iload_n (pc := 16) dX9_chartByte_16 rfl ?_
  refine AW.aload_n (pc := 17) dX9_chartByte_17 rfl ?_
  refine AW.getr (k := 1) (pc := 18) dX9_chartByte_18 ac_9 sh_0 rfl (by decide) fl_9_19 ?_
  refine AW.geti' (k := 1) (j := 1) (pc := 21) dX9_chartByte_21 ac_5 sh_3 rfl (by decide) fl_9_120 rfl (v := (h 3 1)) rfl ?_
  refine AW.icmp_ge (tgt := 119) (pc := 24) dX9_chartByte_24 rfl (fun q => ?_) (fun q => ?_)
  · skip
    have H_1 := H.1 q
    refine AW.bipush (pc := 119) dX9_chartByte_119 rfl ⟨by decide, by decide⟩ ?_
    refine AW.iret (pc := 121) dX9_chartByte_121 rfl ?_
    exact H_1
  · skip
    have H_2 := H.2 q
    refine AW.aload_n (pc := 27) dX9_chartByte_27 rfl ?_
    refine AW.getr (k := 4) (pc := 28) dX9_chartByte_28 ac_9 sh_0 rfl (by decide) fl_9_33 ?_
    refine AW.getr (k := 3) (pc := 31) dX9_chartByte_31 ac_8 sh_20 rfl (by decide) fl_9_172 ?_
    refine AW.iload_n (pc := 34) dX9_chartByte_34 rfl ?_
    refine AW.iald (pc := 35) dX9_chartByte_35 sh_24 (H_2.1) (v := (h 24 l3)) rfl ?_
    refine AW.iload_n (pc := 36) dX9_chartByte_36 rfl ?_
    have K_3 : AW mX9_chartByte 0 45 [some (aR 0), some (aI l1), some (aI l2), some (aI l3), none, none] [aI (if l2 < (h 24 l3) then (0 : Int) else (1 : Int))] h Q := by
      have H_4 := H_2.2
      refine AW.istore (pc := 45) dX9_chartByte_45 (by decide) rfl ?_
      refine AW.aload_n (pc := 47) dX9_chartByte_47 rfl ?_
      refine AW.getr (k := 4) (pc := 48) dX9_chartByte_48 ac_9 sh_0 rfl (by decide) fl_9_33 ?_
      refine AW.getr (k := 3) (pc := 51) dX9_chartByte_51 ac_8 sh_20 rfl (by decide) fl_9_172 ?_
      refine AW.iload_n (pc := 54) dX9_chartByte_54 rfl ?_
      refine AW.iald (pc := 55) dX9_chartByte_55 sh_24 (H_2.1) (v := (h 24 l3)) rfl ?_
      refine AW.aload_n (pc := 56) dX9_chartByte_56 rfl ?_
      refine AW.getr (k := 1) (pc := 57) dX9_chartByte_57 ac_9 sh_0 rfl (by decide) fl_9_19 ?_
      refine AW.getr (k := 5) (pc := 60) dX9_chartByte_60 ac_5 sh_3 rfl (by decide) fl_9_136 ?_
      refine AW.iload_n (pc := 63) dX9_chartByte_63 rfl ?_
      refine AW.iald (pc := 64) dX9_chartByte_64 sh_7 (H_2.1) (v := (h 7 l3)) rfl ?_
      refine AW.iadd (pc := 65) dX9_chartByte_65 (H_4.1) ?_
      refine AW.iload_n (pc := 66) dX9_chartByte_66 rfl ?_
      have K_6 : AW mX9_chartByte 0 75 [some (aR 0), some (aI l1), some (aI l2), some (aI l3), some (aI (if l2 < (h 24 l3) then (0 : Int) else (1 : Int))), none] [aI (if l2 < ((h 24 l3) + (h 7 l3)) then (0 : Int) else (1 : Int))] h Q := by
        have H_7 := H_4.2
        refine AW.istore (pc := 75) dX9_chartByte_75 (by decide) rfl ?_
        refine AW.aload_n (pc := 77) dX9_chartByte_77 rfl ?_
        refine AW.getr (k := 1) (pc := 78) dX9_chartByte_78 ac_9 sh_0 rfl (by decide) fl_9_19 ?_
        refine AW.getr (k := 4) (pc := 81) dX9_chartByte_81 ac_5 sh_3 rfl (by decide) fl_9_133 ?_
        refine AW.iload_n (pc := 84) dX9_chartByte_84 rfl ?_
        refine AW.iald (pc := 85) dX9_chartByte_85 sh_6 (H_2.1) (v := (h 6 l3)) rfl ?_
        refine AW.iload_n (pc := 86) dX9_chartByte_86 rfl ?_
        refine AW.icmp_ne (tgt := 113) (pc := 87) dX9_chartByte_87 rfl (fun q => ?_) (fun q => ?_)
        · skip
          have H_9 := H_7.2 q
          refine AW.iinc (pc := 113) dX9_chartByte_113 rfl (by decide) rfl (H_9.1) ?_
          refine AW.goto (tgt := 16) (pc := 116) dX9_chartByte_116 rfl ?_
          refine AW.mask [true, true, true, true, false, false] ?_
          exact H_9.2
        · have q := Decidable.not_not.mp q
          have H_10 := H_7.1 q
          refine AW.iload (pc := 90) dX9_chartByte_90 rfl ?_
          refine AW.if_eq (tgt := 113) (pc := 92) dX9_chartByte_92 rfl (fun q => ?_) (fun q => ?_)
          · skip
            have H_11 := H_10.1 q
            refine AW.iinc (pc := 113) dX9_chartByte_113 rfl (by decide) rfl (H_11.1) ?_
            refine AW.goto (tgt := 16) (pc := 116) dX9_chartByte_116 rfl ?_
            refine AW.mask [true, true, true, true, false, false] ?_
            exact H_11.2
          · skip
            have H_12 := H_10.2 q
            refine AW.iload (pc := 95) dX9_chartByte_95 rfl ?_
            refine AW.if_ne (tgt := 113) (pc := 97) dX9_chartByte_97 rfl (fun q => ?_) (fun q => ?_)
            · skip
              have H_13 := H_12.2 q
              refine AW.iinc (pc := 113) dX9_chartByte_113 rfl (by decide) rfl (H_13.1) ?_
              refine AW.goto (tgt := 16) (pc := 116) dX9_chartByte_116 rfl ?_
              refine AW.mask [true, true, true, true, false, false] ?_
              exact H_13.2
            · have q := Decidable.not_not.mp q
              have H_14 := H_12.1 q
              refine AW.bipush (pc := 100) dX9_chartByte_100 rfl ⟨by decide, by decide⟩ ?_
              refine AW.aload_n (pc := 102) dX9_chartByte_102 rfl ?_
              refine AW.getr (k := 1) (pc := 103) dX9_chartByte_103 ac_9 sh_0 rfl (by decide) fl_9_19 ?_
              refine AW.getr (k := 2) (pc := 106) dX9_chartByte_106 ac_5 sh_3 rfl (by decide) fl_9_127 ?_
              refine AW.iload_n (pc := 109) dX9_chartByte_109 rfl ?_
              refine AW.iald (pc := 110) dX9_chartByte_110 sh_4 (H_2.1) (v := (h 4 l3)) rfl ?_
              refine AW.iadd (pc := 111) dX9_chartByte_111 (H_14.1) ?_
              refine AW.iret (pc := 112) dX9_chartByte_112 rfl ?_
              exact H_14.2
      refine AW.icmp_gt (tgt := 74) (pc := 67) dX9_chartByte_67 rfl (fun q => ?_) (fun q => ?_)
      · skip
        rw [if_pos q] at K_6
        refine AW.iconst (pc := 74) dX9_chartByte_74 ⟨by decide, by decide⟩ ?_
        exact K_6
      · skip
        rw [if_neg q] at K_6
        refine AW.iconst (pc := 70) dX9_chartByte_70 ⟨by decide, by decide⟩ ?_
        refine AW.goto (tgt := 75) (pc := 71) dX9_chartByte_71 rfl ?_
        exact K_6
    refine AW.icmp_gt (tgt := 44) (pc := 37) dX9_chartByte_37 rfl (fun q => ?_) (fun q => ?_)
    · skip
      rw [if_pos q] at K_3
      refine AW.iconst (pc := 44) dX9_chartByte_44 ⟨by decide, by decide⟩ ?_
      exact K_3
    · skip
      rw [if_neg q] at K_3
      refine AW.iconst (pc := 40) dX9_chartByte_40 ⟨by decide, by decide⟩ ?_
      refine AW.goto (tgt := 45) (pc := 41) dX9_chartByte_41 rfl ?_
      exact K_3
set_option maxRecDepth 100000 in
set_option maxHeartbeats 4000000 in
theorem e_X9_chart {a1 : Int} {h : aH} {Q : aQ} (H : (((-1) ≤ a1 → (((f_X9_refusedByState h) = 0 → inR ((h 20 9) + 1) ∧ ((a1 = (-1) → inR (5 * ((h 20 9) + 1)) ∧ Q (5 * ((h 20 9) + 1)) h) ∧ (¬ (a1 = (-1)) → ((((h 20 9) + 1) ≤ 0 → Q (-2) h) ∧ (¬ (((h 20 9) + 1) ≤ 0) → inR (5 * ((h 20 9) + 1)) ∧ (((5 * ((h 20 9) + 1)) ≤ a1 → Q (-2) h) ∧ (¬ ((5 * ((h 20 9) + 1)) ≤ a1) → 0 ≤ a1 ∧ 0 < ((h 20 9) + 1) ∧ aRun mX9_chartByte 0 [aR 0, aI (a1 / ((h 20 9) + 1)), aI (a1 % ((h 20 9) + 1))] h (fun r1 h2 => Q r1 h2)))))))) ∧ (¬ ((f_X9_refusedByState h) = 0) → Q (f_X9_refusedByState h) h))) ∧ (¬ ((-1) ≤ a1) → Q (-1) h))) : aRun mX9_chart 2 [aR 0, aI a1] h Q := by
  refine aRun.of pn_9 rfl (Nat.le_of_ble_eq_true rfl) ?_
  show AW mX9_chart 2 0 [some (aR 0), some (aI a1), none, none] [] h Q
  refine AW.iload_n (pc := 0) dX9_chart_0 rfl ?_
  refine AW.iconst (pc := 1) dX9_chart_1 ⟨by decide, by decide⟩ ?_
  refine AW.icmp_ge (tgt := 7) (pc := 2) dX9_chart_2 rfl (fun q => ?_) (fun q => ?_)
  · skip
    have H_1 := H.1 q
    refine AW.aload_n (pc := 7) dX9_chart_7 rfl ?_
    refine AW.callVi (M' := mX9_refusedByState) (F' := 1) (as := []) (pc := 8) dX9_chart_8 (by decide) kX9_refusedByState ml_9_166 ob_0 rfl npX9_refusedByState (Nat.le_of_ble_eq_true rfl) (p_X9_refusedByState  ?_)
    refine AW.istore_n (pc := 11) dX9_chart_11 (by decide) rfl ?_
    refine AW.iload_n (pc := 12) dX9_chart_12 rfl ?_
    refine AW.if_eq (tgt := 18) (pc := 13) dX9_chart_13 rfl (fun q => ?_) (fun q => ?_)
    · skip
      have H_2 := H_1.1 q
      refine AW.aload_n (pc := 18) dX9_chart_18 rfl ?_
      refine AW.getr (k := 4) (pc := 19) dX9_chart_19 ac_9 sh_0 rfl (by decide) fl_9_33 ?_
      refine AW.geti' (k := 9) (j := 9) (pc := 22) dX9_chart_22 ac_8 sh_20 rfl (by decide) fl_9_169 rfl (v := (h 20 9)) rfl ?_
      refine AW.iconst (pc := 25) dX9_chart_25 ⟨by decide, by decide⟩ ?_
      refine AW.iadd (pc := 26) dX9_chart_26 (H_2.1) ?_
      refine AW.istore_n (pc := 27) dX9_chart_27 (by decide) rfl ?_
      refine AW.iload_n (pc := 28) dX9_chart_28 rfl ?_
      refine AW.iconst (pc := 29) dX9_chart_29 ⟨by decide, by decide⟩ ?_
      refine AW.icmp_ne (tgt := 37) (pc := 30) dX9_chart_30 rfl (fun q => ?_) (fun q => ?_)
      · skip
        have H_3 := H_2.2.2 q
        refine AW.iload_n (pc := 37) dX9_chart_37 rfl ?_
        refine AW.if_le (tgt := 61) (pc := 38) dX9_chart_38 rfl (fun q => ?_) (fun q => ?_)
        · skip
          have H_4 := H_3.1 q
          refine AW.bipush (pc := 61) dX9_chart_61 rfl ⟨by decide, by decide⟩ ?_
          refine AW.iret (pc := 63) dX9_chart_63 rfl ?_
          exact H_4
        · skip
          have H_5 := H_3.2 q
          refine AW.iload_n (pc := 41) dX9_chart_41 rfl ?_
          refine AW.iconst (pc := 42) dX9_chart_42 ⟨by decide, by decide⟩ ?_
          refine AW.iload_n (pc := 43) dX9_chart_43 rfl ?_
          refine AW.imul (pc := 44) dX9_chart_44 (H_5.1) ?_
          refine AW.icmp_ge (tgt := 61) (pc := 45) dX9_chart_45 rfl (fun q => ?_) (fun q => ?_)
          · skip
            have H_6 := H_5.2.1 q
            refine AW.bipush (pc := 61) dX9_chart_61 rfl ⟨by decide, by decide⟩ ?_
            refine AW.iret (pc := 63) dX9_chart_63 rfl ?_
            exact H_6
          · skip
            have H_7 := H_5.2.2 q
            refine AW.aload_n (pc := 48) dX9_chart_48 rfl ?_
            refine AW.iload_n (pc := 49) dX9_chart_49 rfl ?_
            refine AW.iload_n (pc := 50) dX9_chart_50 rfl ?_
            refine AW.idiv (pc := 51) dX9_chart_51 (H_7.1) (H_7.2.1) ?_
            refine AW.iload_n (pc := 52) dX9_chart_52 rfl ?_
            refine AW.iload_n (pc := 53) dX9_chart_53 rfl ?_
            refine AW.irem (pc := 54) dX9_chart_54 (H_7.1) (H_7.2.1) ?_
            refine AW.callVi (M' := mX9_chartByte) (F' := 0) (as := [aI (a1 / ((h 20 9) + 1)), aI (a1 % ((h 20 9) + 1))]) (pc := 55) dX9_chart_55 (by decide) kX9_chartByte ml_9_267 ob_0 rfl npX9_chartByte (Nat.le_of_ble_eq_true rfl) (aRun.mono (fun r1 h2 H_8 => ?_) H_7.2.2)
            refine AW.goto (tgt := 63) (pc := 58) dX9_chart_58 rfl ?_
            refine AW.iret (pc := 63) dX9_chart_63 rfl ?_
            exact H_8
      · have q := Decidable.not_not.mp q
        have H_9 := H_2.2.1 q
        refine AW.iconst (pc := 33) dX9_chart_33 ⟨by decide, by decide⟩ ?_
        refine AW.iload_n (pc := 34) dX9_chart_34 rfl ?_
        refine AW.imul (pc := 35) dX9_chart_35 (H_9.1) ?_
        refine AW.iret (pc := 36) dX9_chart_36 rfl ?_
        exact H_9.2
    · skip
      have H_10 := H_1.2 q
      refine AW.iload_n (pc := 16) dX9_chart_16 rfl ?_
      refine AW.iret (pc := 17) dX9_chart_17 rfl ?_
      exact H_10
  · skip
    have H_11 := H.2 q
    refine AW.iconst (pc := 5) dX9_chart_5 ⟨by decide, by decide⟩ ?_
    refine AW.iret (pc := 6) dX9_chart_6 rfl ?_
    exact H_11
set_option maxRecDepth 100000 in
set_option maxHeartbeats 4000000 in
theorem e_X9_chosen  {h : aH} {Q : aQ} (H : AW mX9_chosen 4 13 [some (aR 0), some (aI (-1)), some (aI 0), some (aI 0), some (aI 9), some (aI 0), none, none] [] h Q) : aRun mX9_chosen 4 [aR 0] h Q := by
  refine aRun.of pn_9 rfl (Nat.le_of_ble_eq_true rfl) ?_
  show AW mX9_chosen 4 0 [some (aR 0), none, none, none, none, none, none, none] [] h Q
  refine AW.iconst (pc := 0) dX9_chosen_0 ⟨by decide, by decide⟩ ?_
  refine AW.istore_n (pc := 1) dX9_chosen_1 (by decide) rfl ?_
  refine AW.iconst (pc := 2) dX9_chosen_2 ⟨by decide, by decide⟩ ?_
  refine AW.istore_n (pc := 3) dX9_chosen_3 (by decide) rfl ?_
  refine AW.iconst (pc := 4) dX9_chosen_4 ⟨by decide, by decide⟩ ?_
  refine AW.istore_n (pc := 5) dX9_chosen_5 (by decide) rfl ?_
  refine AW.bipush (pc := 6) dX9_chosen_6 rfl ⟨by decide, by decide⟩ ?_
  refine AW.istore (pc := 8) dX9_chosen_8 (by decide) rfl ?_
  refine AW.iconst (pc := 10) dX9_chosen_10 ⟨by decide, by decide⟩ ?_
  refine AW.istore (pc := 11) dX9_chosen_11 (by decide) rfl ?_
  exact H
set_option maxRecDepth 100000 in
set_option maxHeartbeats 4000000 in
theorem s_X9_chosen_13  {l1 l2 l3 l4 l5 : Int} {h : aH} {Q : aQ} (H : (((h 38 5) ≤ l5 → Q (if l1 = (-1) then l3 else l1) h) ∧ (¬ ((h 38 5) ≤ l5) → aRun mX9_spanBehind 3 [aR 0, aI l5] h (fun r1 h2 => aRun mX9_keptSince 1 [aR 0, aI l5] h2 (fun r3 h4 => ((r3 = (-1) → ((l1 = (-1) → inR (l5 + 1) ∧ AW mX9_chosen 4 13 [some (aR 0), some (aI l5), some (aI r1), some (aI l3), some (aI l4), some (aI (l5 + 1)), none, none] [] h4 Q) ∧ (¬ (l1 = (-1)) → ((l2 ≤ r1 → inR (l5 + 1) ∧ AW mX9_chosen 4 13 [some (aR 0), some (aI l1), some (aI l2), some (aI l3), some (aI l4), some (aI (l5 + 1)), none, none] [] h4 Q) ∧ (¬ (l2 ≤ r1) → inR (l5 + 1) ∧ AW mX9_chosen 4 13 [some (aR 0), some (aI l5), some (aI r1), some (aI l3), some (aI l4), some (aI (l5 + 1)), none, none] [] h4 Q))))) ∧ (¬ (r3 = (-1)) → ((r1 < (h4 0 15) → ((l1 = (-1) → inR (l5 + 1) ∧ AW mX9_chosen 4 13 [some (aR 0), some (aI l5), some (aI r1), some (aI l3), some (aI l4), some (aI (l5 + 1)), none, none] [] h4 Q) ∧ (¬ (l1 = (-1)) → ((l2 ≤ r1 → inR (l5 + 1) ∧ AW mX9_chosen 4 13 [some (aR 0), some (aI l1), some (aI l2), some (aI l3), some (aI l4), some (aI (l5 + 1)), none, none] [] h4 Q) ∧ (¬ (l2 ≤ r1) → inR (l5 + 1) ∧ AW mX9_chosen 4 13 [some (aR 0), some (aI l5), some (aI r1), some (aI l3), some (aI l4), some (aI (l5 + 1)), none, none] [] h4 Q))))) ∧ (¬ (r1 < (h4 0 15)) → ((l4 ≤ r3 → inR (l5 + 1) ∧ AW mX9_chosen 4 13 [some (aR 0), some (aI l1), some (aI l2), some (aI l3), some (aI l4), some (aI (l5 + 1)), none, none] [] h4 Q) ∧ (¬ (l4 ≤ r3) → inR (l5 + 1) ∧ AW mX9_chosen 4 13 [some (aR 0), some (aI l1), some (aI l2), some (aI l5), some (aI r3), some (aI (l5 + 1)), none, none] [] h4 Q))))))))))) : AW mX9_chosen 4 13 [some (aR 0), some (aI l1), some (aI l2), some (aI l3), some (aI l4), some (aI l5), none, none] [] h Q := by
  refine AW.iload (pc := 13) dX9_chosen_13 rfl ?_
  refine AW.aload_n (pc := 15) dX9_chosen_15 rfl ?_
  refine AW.getr (k := 6) (pc := 16) dX9_chosen_16 ac_9 sh_0 rfl (by decide) fl_9_43 ?_
  refine AW.geti' (k := 5) (j := 5) (pc := 19) dX9_chosen_19 ac_6 sh_38 rfl (by decide) fl_9_190 rfl (v := (h 38 5)) rfl ?_
  refine AW.icmp_ge (tgt := 96) (pc := 22) dX9_chosen_22 rfl (fun q => ?_) (fun q => ?_)
  · skip
    have H_1 := H.1 q
    refine AW.iload_n (pc := 96) dX9_chosen_96 rfl ?_
    refine AW.iconst (pc := 97) dX9_chosen_97 ⟨by decide, by decide⟩ ?_
    have K_2 : AW mX9_chosen 4 106 [some (aR 0), some (aI l1), some (aI l2), some (aI l3), some (aI l4), some (aI l5), none, none] [aI (if l1 = (-1) then l3 else l1)] h Q := by
      have H_3 := H_1
      refine AW.iret (pc := 106) dX9_chosen_106 rfl ?_
      exact H_3
    refine AW.icmp_eq (tgt := 105) (pc := 98) dX9_chosen_98 rfl (fun q => ?_) (fun q => ?_)
    · skip
      rw [if_pos q] at K_2
      refine AW.iload_n (pc := 105) dX9_chosen_105 rfl ?_
      exact K_2
    · skip
      rw [if_neg q] at K_2
      refine AW.iload_n (pc := 101) dX9_chosen_101 rfl ?_
      refine AW.goto (tgt := 106) (pc := 102) dX9_chosen_102 rfl ?_
      exact K_2
  · skip
    have H_7 := H.2 q
    refine AW.aload_n (pc := 25) dX9_chosen_25 rfl ?_
    refine AW.iload (pc := 26) dX9_chosen_26 rfl ?_
    refine AW.callVi (M' := mX9_spanBehind) (F' := 3) (as := [aI l5]) (pc := 28) dX9_chosen_28 (by decide) kX9_spanBehind ml_9_207 ob_0 rfl npX9_spanBehind (Nat.le_of_ble_eq_true rfl) (aRun.mono (fun r1 h2 H_8 => ?_) H_7)
    refine AW.istore (pc := 31) dX9_chosen_31 (by decide) rfl ?_
    refine AW.aload_n (pc := 33) dX9_chosen_33 rfl ?_
    refine AW.iload (pc := 34) dX9_chosen_34 rfl ?_
    refine AW.callVi (M' := mX9_keptSince) (F' := 1) (as := [aI l5]) (pc := 36) dX9_chosen_36 (by decide) kX9_keptSince ml_9_210 ob_0 rfl npX9_keptSince (Nat.le_of_ble_eq_true rfl) (aRun.mono (fun r3 h4 H_9 => ?_) H_8)
    refine AW.istore (pc := 39) dX9_chosen_39 (by decide) rfl ?_
    refine AW.iload (pc := 41) dX9_chosen_41 rfl ?_
    refine AW.iconst (pc := 43) dX9_chosen_43 ⟨by decide, by decide⟩ ?_
    refine AW.icmp_eq (tgt := 73) (pc := 44) dX9_chosen_44 rfl (fun q => ?_) (fun q => ?_)
    · skip
      have H_10 := H_9.1 q
      refine AW.iload_n (pc := 73) dX9_chosen_73 rfl ?_
      refine AW.iconst (pc := 74) dX9_chosen_74 ⟨by decide, by decide⟩ ?_
      refine AW.icmp_eq (tgt := 84) (pc := 75) dX9_chosen_75 rfl (fun q => ?_) (fun q => ?_)
      · skip
        have H_11 := H_10.1 q
        refine AW.iload (pc := 84) dX9_chosen_84 rfl ?_
        refine AW.istore_n (pc := 86) dX9_chosen_86 (by decide) rfl ?_
        refine AW.iload (pc := 87) dX9_chosen_87 rfl ?_
        refine AW.istore_n (pc := 89) dX9_chosen_89 (by decide) rfl ?_
        refine AW.iinc (pc := 90) dX9_chosen_90 rfl (by decide) rfl (H_11.1) ?_
        refine AW.goto (tgt := 13) (pc := 93) dX9_chosen_93 rfl ?_
        refine AW.mask [true, true, true, true, true, true, false, false] ?_
        exact H_11.2
      · skip
        have H_12 := H_10.2 q
        refine AW.iload (pc := 78) dX9_chosen_78 rfl ?_
        refine AW.iload_n (pc := 80) dX9_chosen_80 rfl ?_
        refine AW.icmp_ge (tgt := 90) (pc := 81) dX9_chosen_81 rfl (fun q => ?_) (fun q => ?_)
        · skip
          have H_13 := H_12.1 q
          refine AW.iinc (pc := 90) dX9_chosen_90 rfl (by decide) rfl (H_13.1) ?_
          refine AW.goto (tgt := 13) (pc := 93) dX9_chosen_93 rfl ?_
          refine AW.mask [true, true, true, true, true, true, false, false] ?_
          exact H_13.2
        · skip
          have H_14 := H_12.2 q
          refine AW.iload (pc := 84) dX9_chosen_84 rfl ?_
          refine AW.istore_n (pc := 86) dX9_chosen_86 (by decide) rfl ?_
          refine AW.iload (pc := 87) dX9_chosen_87 rfl ?_
          refine AW.istore_n (pc := 89) dX9_chosen_89 (by decide) rfl ?_
          refine AW.iinc (pc := 90) dX9_chosen_90 rfl (by decide) rfl (H_14.1) ?_
          refine AW.goto (tgt := 13) (pc := 93) dX9_chosen_93 rfl ?_
          refine AW.mask [true, true, true, true, true, true, false, false] ?_
          exact H_14.2
    · skip
      have H_15 := H_9.2 q
      refine AW.iload (pc := 47) dX9_chosen_47 rfl ?_
      refine AW.aload_n (pc := 49) dX9_chosen_49 rfl ?_
      refine AW.geti' (k := 15) (j := 15) (pc := 50) dX9_chosen_50 ac_9 sh_0 rfl (by decide) fl_9_91 rfl (v := (h4 0 15)) rfl ?_
      refine AW.icmp_lt (tgt := 73) (pc := 53) dX9_chosen_53 rfl (fun q => ?_) (fun q => ?_)
      · skip
        have H_16 := H_15.1 q
        refine AW.iload_n (pc := 73) dX9_chosen_73 rfl ?_
        refine AW.iconst (pc := 74) dX9_chosen_74 ⟨by decide, by decide⟩ ?_
        refine AW.icmp_eq (tgt := 84) (pc := 75) dX9_chosen_75 rfl (fun q => ?_) (fun q => ?_)
        · skip
          have H_17 := H_16.1 q
          refine AW.iload (pc := 84) dX9_chosen_84 rfl ?_
          refine AW.istore_n (pc := 86) dX9_chosen_86 (by decide) rfl ?_
          refine AW.iload (pc := 87) dX9_chosen_87 rfl ?_
          refine AW.istore_n (pc := 89) dX9_chosen_89 (by decide) rfl ?_
          refine AW.iinc (pc := 90) dX9_chosen_90 rfl (by decide) rfl (H_17.1) ?_
          refine AW.goto (tgt := 13) (pc := 93) dX9_chosen_93 rfl ?_
          refine AW.mask [true, true, true, true, true, true, false, false] ?_
          exact H_17.2
        · skip
          have H_18 := H_16.2 q
          refine AW.iload (pc := 78) dX9_chosen_78 rfl ?_
          refine AW.iload_n (pc := 80) dX9_chosen_80 rfl ?_
          refine AW.icmp_ge (tgt := 90) (pc := 81) dX9_chosen_81 rfl (fun q => ?_) (fun q => ?_)
          · skip
            have H_19 := H_18.1 q
            refine AW.iinc (pc := 90) dX9_chosen_90 rfl (by decide) rfl (H_19.1) ?_
            refine AW.goto (tgt := 13) (pc := 93) dX9_chosen_93 rfl ?_
            refine AW.mask [true, true, true, true, true, true, false, false] ?_
            exact H_19.2
          · skip
            have H_20 := H_18.2 q
            refine AW.iload (pc := 84) dX9_chosen_84 rfl ?_
            refine AW.istore_n (pc := 86) dX9_chosen_86 (by decide) rfl ?_
            refine AW.iload (pc := 87) dX9_chosen_87 rfl ?_
            refine AW.istore_n (pc := 89) dX9_chosen_89 (by decide) rfl ?_
            refine AW.iinc (pc := 90) dX9_chosen_90 rfl (by decide) rfl (H_20.1) ?_
            refine AW.goto (tgt := 13) (pc := 93) dX9_chosen_93 rfl ?_
            refine AW.mask [true, true, true, true, true, true, false, false] ?_
            exact H_20.2
      · skip
        have H_21 := H_15.2 q
        refine AW.iload (pc := 56) dX9_chosen_56 rfl ?_
        refine AW.iload (pc := 58) dX9_chosen_58 rfl ?_
        refine AW.icmp_ge (tgt := 90) (pc := 60) dX9_chosen_60 rfl (fun q => ?_) (fun q => ?_)
        · skip
          have H_22 := H_21.1 q
          refine AW.iinc (pc := 90) dX9_chosen_90 rfl (by decide) rfl (H_22.1) ?_
          refine AW.goto (tgt := 13) (pc := 93) dX9_chosen_93 rfl ?_
          refine AW.mask [true, true, true, true, true, true, false, false] ?_
          exact H_22.2
        · skip
          have H_23 := H_21.2 q
          refine AW.iload (pc := 63) dX9_chosen_63 rfl ?_
          refine AW.istore (pc := 65) dX9_chosen_65 (by decide) rfl ?_
          refine AW.iload (pc := 67) dX9_chosen_67 rfl ?_
          refine AW.istore_n (pc := 69) dX9_chosen_69 (by decide) rfl ?_
          refine AW.goto (tgt := 90) (pc := 70) dX9_chosen_70 rfl ?_
          refine AW.iinc (pc := 90) dX9_chosen_90 rfl (by decide) rfl (H_23.1) ?_
          refine AW.goto (tgt := 13) (pc := 93) dX9_chosen_93 rfl ?_
          refine AW.mask [true, true, true, true, true, true, false, false] ?_
          exact H_23.2
def f_X9_count (h : aH) (a1 : Int) : Int := (if a1 = 0 then (h 3 0) else (if a1 = 1 then (h 3 1) else (if a1 = 2 then (h 1 1) else (if a1 = 3 then (h 44 1) else (if a1 = 4 then ((h 44 2) - (h 44 1)) else (if a1 = 5 then (h 0 16) else ((-1) : Int)))))))
def o_X9_count (h : aH) (a1 : Int) : Prop := ((a1 = 0 → True) ∧ (a1 = 1 → True) ∧ (a1 = 2 → True) ∧ (a1 = 3 → True) ∧ (a1 = 4 → inR ((h 44 2) - (h 44 1))) ∧ (a1 = 5 → True) ∧ ((a1 < 0 ∨ 5 < a1) → True))
set_option maxRecDepth 100000 in
set_option maxHeartbeats 4000000 in
theorem p_X9_count {a1 : Int} {h : aH} {Q : aQ} (o : o_X9_count h a1) (k : Q (f_X9_count h a1) h) : aRun mX9_count 0 [aR 0, aI a1] h Q := by
  unfold f_X9_count at k
  unfold o_X9_count at o
  refine aRun.of pn_9 rfl (Nat.le_of_ble_eq_true rfl) ?_
  show AW mX9_count 0 0 [some (aR 0), some (aI a1)] [] h Q
  refine AW.iload_n (pc := 0) dX9_count_0 rfl ?_
  refine AW.tsw (pc := 1) dX9_count_1 (fun q1 q2 => ?_) (fun q => ?_)
  · have q : a1 = 0 ∨ a1 = 1 ∨ a1 = 2 ∨ a1 = 3 ∨ a1 = 4 ∨ a1 = 5 := by omega
    rcases q with q | q | q | q | q | q
    · refine ⟨40, _, by rw [q]; rfl, rfl, ?_⟩
      have H_1 := o.1 q
      rw [if_pos q] at k
      refine AW.aload_n (pc := 40) dX9_count_40 rfl ?_
      refine AW.getr (k := 1) (pc := 41) dX9_count_41 ac_9 sh_0 rfl (by decide) fl_9_19 ?_
      refine AW.geti' (k := 0) (j := 0) (pc := 44) dX9_count_44 ac_5 sh_3 rfl (by decide) fl_9_286 rfl (v := (h 3 0)) rfl ?_
      refine AW.iret (pc := 47) dX9_count_47 rfl ?_
      exact k
    · refine ⟨48, _, by rw [q]; rfl, rfl, ?_⟩
      have H_2 := o.2.1 q
      rw [if_neg (show ¬ (a1 = 0) by omega), if_pos q] at k
      refine AW.aload_n (pc := 48) dX9_count_48 rfl ?_
      refine AW.getr (k := 1) (pc := 49) dX9_count_49 ac_9 sh_0 rfl (by decide) fl_9_19 ?_
      refine AW.geti' (k := 1) (j := 1) (pc := 52) dX9_count_52 ac_5 sh_3 rfl (by decide) fl_9_120 rfl (v := (h 3 1)) rfl ?_
      refine AW.iret (pc := 55) dX9_count_55 rfl ?_
      exact k
    · refine ⟨56, _, by rw [q]; rfl, rfl, ?_⟩
      have H_3 := o.2.2.1 q
      rw [if_neg (show ¬ (a1 = 0) by omega), if_neg (show ¬ (a1 = 1) by omega), if_pos q] at k
      refine AW.aload_n (pc := 56) dX9_count_56 rfl ?_
      refine AW.getr (k := 0) (pc := 57) dX9_count_57 ac_9 sh_0 rfl (by decide) fl_9_10 ?_
      refine AW.geti' (k := 1) (j := 1) (pc := 60) dX9_count_60 ac_7 sh_1 rfl (by decide) fl_9_98 rfl (v := (h 1 1)) rfl ?_
      refine AW.iret (pc := 63) dX9_count_63 rfl ?_
      exact k
    · refine ⟨64, _, by rw [q]; rfl, rfl, ?_⟩
      have H_4 := o.2.2.2.1 q
      rw [if_neg (show ¬ (a1 = 0) by omega), if_neg (show ¬ (a1 = 1) by omega), if_neg (show ¬ (a1 = 2) by omega), if_pos q] at k
      refine AW.aload_n (pc := 64) dX9_count_64 rfl ?_
      refine AW.getr (k := 8) (pc := 65) dX9_count_65 ac_9 sh_0 rfl (by decide) fl_9_57 ?_
      refine AW.geti' (k := 1) (j := 1) (pc := 68) dX9_count_68 ac_4 sh_44 rfl (by decide) fl_9_277 rfl (v := (h 44 1)) rfl ?_
      refine AW.iret (pc := 71) dX9_count_71 rfl ?_
      exact k
    · refine ⟨72, _, by rw [q]; rfl, rfl, ?_⟩
      have H_5 := o.2.2.2.2.1 q
      rw [if_neg (show ¬ (a1 = 0) by omega), if_neg (show ¬ (a1 = 1) by omega), if_neg (show ¬ (a1 = 2) by omega), if_neg (show ¬ (a1 = 3) by omega), if_pos q] at k
      refine AW.aload_n (pc := 72) dX9_count_72 rfl ?_
      refine AW.getr (k := 8) (pc := 73) dX9_count_73 ac_9 sh_0 rfl (by decide) fl_9_57 ?_
      refine AW.geti' (k := 2) (j := 2) (pc := 76) dX9_count_76 ac_4 sh_44 rfl (by decide) fl_9_283 rfl (v := (h 44 2)) rfl ?_
      refine AW.aload_n (pc := 79) dX9_count_79 rfl ?_
      refine AW.getr (k := 8) (pc := 80) dX9_count_80 ac_9 sh_0 rfl (by decide) fl_9_57 ?_
      refine AW.geti' (k := 1) (j := 1) (pc := 83) dX9_count_83 ac_4 sh_44 rfl (by decide) fl_9_277 rfl (v := (h 44 1)) rfl ?_
      refine AW.isub (pc := 86) dX9_count_86 H_5 ?_
      refine AW.iret (pc := 87) dX9_count_87 rfl ?_
      exact k
    · refine ⟨88, _, by rw [q]; rfl, rfl, ?_⟩
      have H_6 := o.2.2.2.2.2.1 q
      rw [if_neg (show ¬ (a1 = 0) by omega), if_neg (show ¬ (a1 = 1) by omega), if_neg (show ¬ (a1 = 2) by omega), if_neg (show ¬ (a1 = 3) by omega), if_neg (show ¬ (a1 = 4) by omega), if_pos q] at k
      refine AW.aload_n (pc := 88) dX9_count_88 rfl ?_
      refine AW.geti' (k := 16) (j := 16) (pc := 89) dX9_count_89 ac_9 sh_0 rfl (by decide) fl_9_95 rfl (v := (h 0 16)) rfl ?_
      refine AW.iret (pc := 92) dX9_count_92 rfl ?_
      exact k
  · refine ⟨93, rfl, ?_⟩
    have H_7 := o.2.2.2.2.2.2 q
    rw [if_neg (show ¬ (a1 = 0) by omega), if_neg (show ¬ (a1 = 1) by omega), if_neg (show ¬ (a1 = 2) by omega), if_neg (show ¬ (a1 = 3) by omega), if_neg (show ¬ (a1 = 4) by omega), if_neg (show ¬ (a1 = 5) by omega)] at k
    refine AW.iconst (pc := 93) dX9_count_93 ⟨by decide, by decide⟩ ?_
    refine AW.iret (pc := 94) dX9_count_94 rfl ?_
    exact k
set_option maxRecDepth 100000 in
set_option maxHeartbeats 4000000 in
theorem e_X9_would {a1 : Int} {h : aH} {Q : aQ} (H : ((a1 < 0 → Q (-1) h) ∧ (¬ (a1 < 0) → ((a1 < 4 → (((f_X9_noShop h) = 0 → aRun mX1_lay 3 [aR 63, aR 3, aI a1] h (fun r1 h2 => Q (h2 63 5) h2)) ∧ (¬ ((f_X9_noShop h) = 0) → Q (-5) h))) ∧ (¬ (a1 < 4) → Q (-1) h))))) : aRun mX9_would 4 [aR 0, aI a1] h Q := by
  refine aRun.of pn_9 rfl (Nat.le_of_ble_eq_true rfl) ?_
  show AW mX9_would 4 0 [some (aR 0), some (aI a1)] [] h Q
  refine AW.iload_n (pc := 0) dX9_would_0 rfl ?_
  refine AW.if_lt (tgt := 9) (pc := 1) dX9_would_1 rfl (fun q => ?_) (fun q => ?_)
  · skip
    have H_1 := H.1 q
    refine AW.iconst (pc := 9) dX9_would_9 ⟨by decide, by decide⟩ ?_
    refine AW.iret (pc := 10) dX9_would_10 rfl ?_
    exact H_1
  · skip
    have H_2 := H.2 q
    refine AW.iload_n (pc := 4) dX9_would_4 rfl ?_
    refine AW.iconst (pc := 5) dX9_would_5 ⟨by decide, by decide⟩ ?_
    refine AW.icmp_lt (tgt := 11) (pc := 6) dX9_would_6 rfl (fun q => ?_) (fun q => ?_)
    · skip
      have H_3 := H_2.1 q
      refine AW.aload_n (pc := 11) dX9_would_11 rfl ?_
      refine AW.callVi (M' := mX9_noShop) (F' := 0) (as := []) (pc := 12) dX9_would_12 (by decide) kX9_noShop ml_9_145 ob_0 rfl npX9_noShop (Nat.le_of_ble_eq_true rfl) (p_X9_noShop  ?_)
      refine AW.if_eq (tgt := 21) (pc := 15) dX9_would_15 rfl (fun q => ?_) (fun q => ?_)
      · skip
        have H_4 := H_3.1 q
        refine AW.aload_n (pc := 21) dX9_would_21 rfl ?_
        refine AW.getr (k := 9) (pc := 22) dX9_would_22 ac_9 sh_0 rfl (by decide) fl_9_64 ?_
        refine AW.aload_n (pc := 25) dX9_would_25 rfl ?_
        refine AW.getr (k := 1) (pc := 26) dX9_would_26 ac_9 sh_0 rfl (by decide) fl_9_19 ?_
        refine AW.iload_n (pc := 29) dX9_would_29 rfl ?_
        refine AW.callVv (M' := mX1_lay) (F' := 3) (as := [aR 3, aI a1]) (pc := 30) dX9_would_30 (by decide) kX1_lay ml_9_239 ob_63 rfl npX1_lay (Nat.le_of_ble_eq_true rfl) (aRun.mono (fun r1 h2 H_5 => ?_) H_4)
        refine AW.aload_n (pc := 33) dX9_would_33 rfl ?_
        refine AW.getr (k := 9) (pc := 34) dX9_would_34 ac_9 sh_0 rfl (by decide) fl_9_64 ?_
        refine AW.geti' (k := 5) (j := 5) (pc := 37) dX9_would_37 ac_1 sh_63 rfl (by decide) fl_9_243 rfl (v := (h2 63 5)) rfl ?_
        refine AW.iret (pc := 40) dX9_would_40 rfl ?_
        exact H_5
      · skip
        have H_6 := H_3.2 q
        refine AW.bipush (pc := 18) dX9_would_18 rfl ⟨by decide, by decide⟩ ?_
        refine AW.iret (pc := 20) dX9_would_20 rfl ?_
        exact H_6
    · skip
      have H_7 := H_2.2 q
      refine AW.iconst (pc := 9) dX9_would_9 ⟨by decide, by decide⟩ ?_
      refine AW.iret (pc := 10) dX9_would_10 rfl ?_
      exact H_7
set_option maxRecDepth 100000 in
set_option maxHeartbeats 4000000 in
theorem e_X9_dispatch {a1 : Int} {h : aH} {Q : aQ} (H : aRun mX9_would 4 [aR 0, aI a1] h (fun r1 h2 => ((0 ≤ r1 → aRun mX9_changed 4 [aR 0] (a_cp h2 64 0 19 0 24) (fun r3 h4 => Q (f_X9_spanOrRing h4) h4)) ∧ (¬ (0 ≤ r1) → Q r1 h2)))) : aRun mX9_dispatch 5 [aR 0, aI a1] h Q := by
  refine aRun.of pn_9 rfl (Nat.le_of_ble_eq_true rfl) ?_
  show AW mX9_dispatch 5 0 [some (aR 0), some (aI a1), none] [] h Q
  refine AW.aload_n (pc := 0) dX9_dispatch_0 rfl ?_
  refine AW.iload_n (pc := 1) dX9_dispatch_1 rfl ?_
  refine AW.callVi (M' := mX9_would) (F' := 4) (as := [aI a1]) (pc := 2) dX9_dispatch_2 (by decide) kX9_would ml_9_235 ob_0 rfl npX9_would (Nat.le_of_ble_eq_true rfl) (aRun.mono (fun r1 h2 H_1 => ?_) H)
  refine AW.istore_n (pc := 5) dX9_dispatch_5 (by decide) rfl ?_
  refine AW.iload_n (pc := 6) dX9_dispatch_6 rfl ?_
  refine AW.if_ge (tgt := 12) (pc := 7) dX9_dispatch_7 rfl (fun q => ?_) (fun q => ?_)
  · skip
    have H_2 := H_1.1 q
    refine AW.aload_n (pc := 12) dX9_dispatch_12 rfl ?_
    refine AW.getr (k := 9) (pc := 13) dX9_dispatch_13 ac_9 sh_0 rfl (by decide) fl_9_64 ?_
    refine AW.getr (k := 0) (pc := 16) dX9_dispatch_16 ac_1 sh_63 rfl (by decide) fl_9_238 ?_
    refine AW.aload_n (pc := 19) dX9_dispatch_19 rfl ?_
    refine AW.getr (k := 3) (pc := 20) dX9_dispatch_20 ac_9 sh_0 rfl (by decide) fl_9_26 ?_
    refine AW.callSv (M' := mX9_copyRow) (F' := 1) (as := [aR 64, aR 19]) (pc := 23) dX9_dispatch_23 (by decide) kX9_copyRow ml_9_231 rfl npX9_copyRow (Nat.le_of_ble_eq_true rfl) (p_X9_copyRow sh_64 sh_19  ?_)
    refine AW.aload_n (pc := 26) dX9_dispatch_26 rfl ?_
    refine AW.callVv (M' := mX9_changed) (F' := 4) (as := []) (pc := 27) dX9_dispatch_27 (by decide) kX9_changed ml_9_159 ob_0 rfl npX9_changed (Nat.le_of_ble_eq_true rfl) (aRun.mono (fun r3 h4 H_3 => ?_) H_2)
    refine AW.aload_n (pc := 30) dX9_dispatch_30 rfl ?_
    refine AW.callVi (M' := mX9_spanOrRing) (F' := 0) (as := []) (pc := 31) dX9_dispatch_31 (by decide) kX9_spanOrRing ml_9_162 ob_0 rfl npX9_spanOrRing (Nat.le_of_ble_eq_true rfl) (p_X9_spanOrRing  ?_)
    refine AW.iret (pc := 34) dX9_dispatch_34 rfl ?_
    exact H_3
  · skip
    have H_4 := H_1.2 q
    refine AW.iload_n (pc := 10) dX9_dispatch_10 rfl ?_
    refine AW.iret (pc := 11) dX9_dispatch_11 rfl ?_
    exact H_4
set_option maxRecDepth 100000 in
set_option maxHeartbeats 4000000 in
theorem e_X9_does {a1 : Int} {h : aH} {Q : aQ} (H : ((0 ≤ a1 → (((f_X9_refusedByState h) = 0 → ((a1 < (h 38 5) → o_X6_first h a1 ∧ o_X9_slotOf h (f_X6_first h a1) ∧ aRun mX9_changePlaces 0 [aR 0, aI (f_X9_slotOf h (f_X6_first h a1))] h (fun r1 h2 => aRun mX9_changed 4 [aR 0] h2 (fun r3 h4 => Q (f_X9_spanOrRing h4) h4))) ∧ (¬ (a1 < (h 38 5)) → Q (-2) h))) ∧ (¬ ((f_X9_refusedByState h) = 0) → Q (f_X9_refusedByState h) h))) ∧ (¬ (0 ≤ a1) → Q (-1) h))) : aRun mX9_does 5 [aR 0, aI a1] h Q := by
  refine aRun.of pn_9 rfl (Nat.le_of_ble_eq_true rfl) ?_
  show AW mX9_does 5 0 [some (aR 0), some (aI a1), none] [] h Q
  refine AW.iload_n (pc := 0) dX9_does_0 rfl ?_
  refine AW.if_ge (tgt := 6) (pc := 1) dX9_does_1 rfl (fun q => ?_) (fun q => ?_)
  · skip
    have H_1 := H.1 q
    refine AW.aload_n (pc := 6) dX9_does_6 rfl ?_
    refine AW.callVi (M' := mX9_refusedByState) (F' := 1) (as := []) (pc := 7) dX9_does_7 (by decide) kX9_refusedByState ml_9_166 ob_0 rfl npX9_refusedByState (Nat.le_of_ble_eq_true rfl) (p_X9_refusedByState  ?_)
    refine AW.istore_n (pc := 10) dX9_does_10 (by decide) rfl ?_
    refine AW.iload_n (pc := 11) dX9_does_11 rfl ?_
    refine AW.if_eq (tgt := 17) (pc := 12) dX9_does_12 rfl (fun q => ?_) (fun q => ?_)
    · skip
      have H_2 := H_1.1 q
      refine AW.iload_n (pc := 17) dX9_does_17 rfl ?_
      refine AW.aload_n (pc := 18) dX9_does_18 rfl ?_
      refine AW.getr (k := 6) (pc := 19) dX9_does_19 ac_9 sh_0 rfl (by decide) fl_9_43 ?_
      refine AW.geti' (k := 5) (j := 5) (pc := 22) dX9_does_22 ac_6 sh_38 rfl (by decide) fl_9_190 rfl (v := (h 38 5)) rfl ?_
      refine AW.icmp_lt (tgt := 31) (pc := 25) dX9_does_25 rfl (fun q => ?_) (fun q => ?_)
      · skip
        have H_3 := H_2.1 q
        refine AW.aload_n (pc := 31) dX9_does_31 rfl ?_
        refine AW.aload_n (pc := 32) dX9_does_32 rfl ?_
        refine AW.aload_n (pc := 33) dX9_does_33 rfl ?_
        refine AW.getr (k := 6) (pc := 34) dX9_does_34 ac_9 sh_0 rfl (by decide) fl_9_43 ?_
        refine AW.iload_n (pc := 37) dX9_does_37 rfl ?_
        refine AW.callVi (M' := mX6_first) (F' := 0) (as := [aI a1]) (pc := 38) dX9_does_38 (by decide) kX6_first ml_9_193 ob_38 rfl npX6_first (Nat.le_of_ble_eq_true rfl) (p_X6_first (H_3.1) ?_)
        refine AW.callVi (M' := mX9_slotOf) (F' := 0) (as := [aI (f_X6_first h a1)]) (pc := 41) dX9_does_41 (by decide) kX9_slotOf ml_9_213 ob_0 rfl npX9_slotOf (Nat.le_of_ble_eq_true rfl) (p_X9_slotOf (H_3.2.1) ?_)
        refine AW.callVv (M' := mX9_changePlaces) (F' := 0) (as := [aI (f_X9_slotOf h (f_X6_first h a1))]) (pc := 44) dX9_does_44 (by decide) kX9_changePlaces ml_9_156 ob_0 rfl npX9_changePlaces (Nat.le_of_ble_eq_true rfl) (aRun.mono (fun r1 h2 H_4 => ?_) H_3.2.2)
        refine AW.aload_n (pc := 47) dX9_does_47 rfl ?_
        refine AW.callVv (M' := mX9_changed) (F' := 4) (as := []) (pc := 48) dX9_does_48 (by decide) kX9_changed ml_9_159 ob_0 rfl npX9_changed (Nat.le_of_ble_eq_true rfl) (aRun.mono (fun r3 h4 H_5 => ?_) H_4)
        refine AW.aload_n (pc := 51) dX9_does_51 rfl ?_
        refine AW.callVi (M' := mX9_spanOrRing) (F' := 0) (as := []) (pc := 52) dX9_does_52 (by decide) kX9_spanOrRing ml_9_162 ob_0 rfl npX9_spanOrRing (Nat.le_of_ble_eq_true rfl) (p_X9_spanOrRing  ?_)
        refine AW.iret (pc := 55) dX9_does_55 rfl ?_
        exact H_5
      · skip
        have H_6 := H_2.2 q
        refine AW.bipush (pc := 28) dX9_does_28 rfl ⟨by decide, by decide⟩ ?_
        refine AW.iret (pc := 30) dX9_does_30 rfl ?_
        exact H_6
    · skip
      have H_7 := H_1.2 q
      refine AW.iload_n (pc := 15) dX9_does_15 rfl ?_
      refine AW.iret (pc := 16) dX9_does_16 rfl ?_
      exact H_7
  · skip
    have H_8 := H.2 q
    refine AW.iconst (pc := 4) dX9_does_4 ⟨by decide, by decide⟩ ?_
    refine AW.iret (pc := 5) dX9_does_5 rfl ?_
    exact H_8
set_option maxRecDepth 100000 in
set_option maxHeartbeats 4000000 in
theorem e_X9_feed {a1 : Int} {h : aH} {Q : aQ} (H : ((a1 < 32 → Q (-1) h) ∧ (¬ (a1 < 32) → ((a1 ≤ 126 → (((h 1 1) < 140 → aRun mX7_put 0 [aR 1, aI a1] h (fun r1 h2 => Q (h2 1 1) h2)) ∧ (¬ ((h 1 1) < 140) → Q (-3) h))) ∧ (¬ (a1 ≤ 126) → Q (-1) h))))) : aRun mX9_feed 1 [aR 0, aI a1] h Q := by
  refine aRun.of pn_9 rfl (Nat.le_of_ble_eq_true rfl) ?_
  show AW mX9_feed 1 0 [some (aR 0), some (aI a1)] [] h Q
  refine AW.iload_n (pc := 0) dX9_feed_0 rfl ?_
  refine AW.bipush (pc := 1) dX9_feed_1 rfl ⟨by decide, by decide⟩ ?_
  refine AW.icmp_lt (tgt := 12) (pc := 3) dX9_feed_3 rfl (fun q => ?_) (fun q => ?_)
  · skip
    have H_1 := H.1 q
    refine AW.iconst (pc := 12) dX9_feed_12 ⟨by decide, by decide⟩ ?_
    refine AW.iret (pc := 13) dX9_feed_13 rfl ?_
    exact H_1
  · skip
    have H_2 := H.2 q
    refine AW.iload_n (pc := 6) dX9_feed_6 rfl ?_
    refine AW.bipush (pc := 7) dX9_feed_7 rfl ⟨by decide, by decide⟩ ?_
    refine AW.icmp_le (tgt := 14) (pc := 9) dX9_feed_9 rfl (fun q => ?_) (fun q => ?_)
    · skip
      have H_3 := H_2.1 q
      refine AW.aload_n (pc := 14) dX9_feed_14 rfl ?_
      refine AW.getr (k := 0) (pc := 15) dX9_feed_15 ac_9 sh_0 rfl (by decide) fl_9_10 ?_
      refine AW.geti' (k := 1) (j := 1) (pc := 18) dX9_feed_18 ac_7 sh_1 rfl (by decide) fl_9_98 rfl (v := (h 1 1)) rfl ?_
      refine AW.sipush (pc := 21) dX9_feed_21 rfl ⟨by decide, by decide⟩ ?_
      refine AW.icmp_lt (tgt := 30) (pc := 24) dX9_feed_24 rfl (fun q => ?_) (fun q => ?_)
      · skip
        have H_4 := H_3.1 q
        refine AW.aload_n (pc := 30) dX9_feed_30 rfl ?_
        refine AW.getr (k := 0) (pc := 31) dX9_feed_31 ac_9 sh_0 rfl (by decide) fl_9_10 ?_
        refine AW.iload_n (pc := 34) dX9_feed_34 rfl ?_
        refine AW.callVv (M' := mX7_put) (F' := 0) (as := [aI a1]) (pc := 35) dX9_feed_35 (by decide) kX7_put ml_9_101 ob_1 rfl npX7_put (Nat.le_of_ble_eq_true rfl) (aRun.mono (fun r1 h2 H_5 => ?_) H_4)
        refine AW.aload_n (pc := 38) dX9_feed_38 rfl ?_
        refine AW.getr (k := 0) (pc := 39) dX9_feed_39 ac_9 sh_0 rfl (by decide) fl_9_10 ?_
        refine AW.geti' (k := 1) (j := 1) (pc := 42) dX9_feed_42 ac_7 sh_1 rfl (by decide) fl_9_98 rfl (v := (h2 1 1)) rfl ?_
        refine AW.iret (pc := 45) dX9_feed_45 rfl ?_
        exact H_5
      · skip
        have H_6 := H_3.2 q
        refine AW.bipush (pc := 27) dX9_feed_27 rfl ⟨by decide, by decide⟩ ?_
        refine AW.iret (pc := 29) dX9_feed_29 rfl ?_
        exact H_6
    · skip
      have H_7 := H_2.2 q
      refine AW.iconst (pc := 12) dX9_feed_12 ⟨by decide, by decide⟩ ?_
      refine AW.iret (pc := 13) dX9_feed_13 rfl ?_
      exact H_7
set_option maxRecDepth 100000 in
set_option maxHeartbeats 4000000 in
theorem e_X9_lookForLeast  {h : aH} {Q : aQ} (H : (((h 0 15) = (-1) → Q 0 (a_cp (a_up h 0 15 (h 20 9)) 19 0 84 0 24)) ∧ (¬ ((h 0 15) = (-1)) → (((h 0 15) ≤ (h 20 9) → Q 0 h) ∧ (¬ ((h 0 15) ≤ (h 20 9)) → Q 0 (a_cp (a_up h 0 15 (h 20 9)) 19 0 84 0 24)))))) : aRun mX9_lookForLeast 2 [aR 0] h Q := by
  refine aRun.of pn_9 rfl (Nat.le_of_ble_eq_true rfl) ?_
  show AW mX9_lookForLeast 2 0 [some (aR 0)] [] h Q
  refine AW.aload_n (pc := 0) dX9_lookForLeast_0 rfl ?_
  refine AW.geti' (k := 15) (j := 15) (pc := 1) dX9_lookForLeast_1 ac_9 sh_0 rfl (by decide) fl_9_91 rfl (v := (h 0 15)) rfl ?_
  refine AW.iconst (pc := 4) dX9_lookForLeast_4 ⟨by decide, by decide⟩ ?_
  refine AW.icmp_eq (tgt := 22) (pc := 5) dX9_lookForLeast_5 rfl (fun q => ?_) (fun q => ?_)
  · skip
    have H_1 := H.1 q
    refine AW.aload_n (pc := 22) dX9_lookForLeast_22 rfl ?_
    refine AW.aload_n (pc := 23) dX9_lookForLeast_23 rfl ?_
    refine AW.getr (k := 4) (pc := 24) dX9_lookForLeast_24 ac_9 sh_0 rfl (by decide) fl_9_33 ?_
    refine AW.geti' (k := 9) (j := 9) (pc := 27) dX9_lookForLeast_27 ac_8 sh_20 rfl (by decide) fl_9_169 rfl (v := (h 20 9)) rfl ?_
    refine AW.puti' (k := 15) (j := 15) (pc := 30) dX9_lookForLeast_30 ac_9 sh_0 rfl (by decide) fl_9_91 rfl rfl (tyX9_ok 15 (by decide)) (Or.inl rfl) ?_
    refine AW.aload_n (pc := 33) dX9_lookForLeast_33 rfl ?_
    refine AW.getr (k := 3) (pc := 34) dX9_lookForLeast_34 ac_9 sh_0 rfl (by decide) fl_9_26 ?_
    refine AW.aload_n (pc := 37) dX9_lookForLeast_37 rfl ?_
    refine AW.getr (k := 14) (pc := 38) dX9_lookForLeast_38 ac_9 sh_0 rfl (by decide) fl_9_88 ?_
    refine AW.callSv (M' := mX9_copyRow) (F' := 1) (as := [aR 19, aR 84]) (pc := 41) dX9_lookForLeast_41 (by decide) kX9_copyRow ml_9_231 rfl npX9_copyRow (Nat.le_of_ble_eq_true rfl) (p_X9_copyRow sh_19 sh_84  ?_)
    refine AW.vret (pc := 44) dX9_lookForLeast_44 rfl ?_
    exact H_1
  · skip
    have H_2 := H.2 q
    refine AW.aload_n (pc := 8) dX9_lookForLeast_8 rfl ?_
    refine AW.getr (k := 4) (pc := 9) dX9_lookForLeast_9 ac_9 sh_0 rfl (by decide) fl_9_33 ?_
    refine AW.geti' (k := 9) (j := 9) (pc := 12) dX9_lookForLeast_12 ac_8 sh_20 rfl (by decide) fl_9_169 rfl (v := (h 20 9)) rfl ?_
    refine AW.aload_n (pc := 15) dX9_lookForLeast_15 rfl ?_
    refine AW.geti' (k := 15) (j := 15) (pc := 16) dX9_lookForLeast_16 ac_9 sh_0 rfl (by decide) fl_9_91 rfl (v := (h 0 15)) rfl ?_
    refine AW.icmp_ge (tgt := 44) (pc := 19) dX9_lookForLeast_19 rfl (fun q => ?_) (fun q => ?_)
    · skip
      have H_3 := H_2.1 q
      refine AW.vret (pc := 44) dX9_lookForLeast_44 rfl ?_
      exact H_3
    · skip
      have H_4 := H_2.2 q
      refine AW.aload_n (pc := 22) dX9_lookForLeast_22 rfl ?_
      refine AW.aload_n (pc := 23) dX9_lookForLeast_23 rfl ?_
      refine AW.getr (k := 4) (pc := 24) dX9_lookForLeast_24 ac_9 sh_0 rfl (by decide) fl_9_33 ?_
      refine AW.geti' (k := 9) (j := 9) (pc := 27) dX9_lookForLeast_27 ac_8 sh_20 rfl (by decide) fl_9_169 rfl (v := (h 20 9)) rfl ?_
      refine AW.puti' (k := 15) (j := 15) (pc := 30) dX9_lookForLeast_30 ac_9 sh_0 rfl (by decide) fl_9_91 rfl rfl (tyX9_ok 15 (by decide)) (Or.inl rfl) ?_
      refine AW.aload_n (pc := 33) dX9_lookForLeast_33 rfl ?_
      refine AW.getr (k := 3) (pc := 34) dX9_lookForLeast_34 ac_9 sh_0 rfl (by decide) fl_9_26 ?_
      refine AW.aload_n (pc := 37) dX9_lookForLeast_37 rfl ?_
      refine AW.getr (k := 14) (pc := 38) dX9_lookForLeast_38 ac_9 sh_0 rfl (by decide) fl_9_88 ?_
      refine AW.callSv (M' := mX9_copyRow) (F' := 1) (as := [aR 19, aR 84]) (pc := 41) dX9_lookForLeast_41 (by decide) kX9_copyRow ml_9_231 rfl npX9_copyRow (Nat.le_of_ble_eq_true rfl) (p_X9_copyRow sh_19 sh_84  ?_)
      refine AW.vret (pc := 44) dX9_lookForLeast_44 rfl ?_
      exact H_4
set_option maxRecDepth 100000 in
set_option maxHeartbeats 4000000 in
theorem e_X9_goOn  {h : aH} {Q : aQ} (H : aRun mX9_lookForLeast 2 [aR 0] h (fun r1 h2 => (((h2 38 5) = 0 → Q 0 h2) ∧ (¬ ((h2 38 5) = 0) → aRun mX9_chosen 4 [aR 0] h2 (fun r3 h4 => o_X6_first h4 r3 ∧ o_X6_second h4 r3 ∧ o_X9_slotOf h4 (f_X6_first h4 r3) ∧ aRun mX9_changePlaces 0 [aR 0, aI (f_X9_slotOf h4 (f_X6_first h4 r3))] h4 (fun r5 h6 => aRun mX9_changed 4 [aR 0] h6 (fun r7 h8 => o_X9_pair h8 (f_X6_second h4 r3) (f_X6_first h4 r3) ∧ aRun mX3_keep 1 [aR 42, aI (f_X9_pair h8 (f_X6_second h4 r3) (f_X6_first h4 r3))] h8 (fun r9 h10 => aRun mX9_lookForLeast 2 [aR 0] h10 (fun r11 h12 => Q 1 h12))))))))) : aRun mX9_goOn 5 [aR 0] h Q := by
  refine aRun.of pn_9 rfl (Nat.le_of_ble_eq_true rfl) ?_
  show AW mX9_goOn 5 0 [some (aR 0), none, none, none] [] h Q
  refine AW.aload_n (pc := 0) dX9_goOn_0 rfl ?_
  refine AW.callVv (M' := mX9_lookForLeast) (F' := 2) (as := []) (pc := 1) dX9_goOn_1 (by decide) kX9_lookForLeast ml_9_320 ob_0 rfl npX9_lookForLeast (Nat.le_of_ble_eq_true rfl) (aRun.mono (fun r1 h2 H_1 => ?_) H)
  refine AW.aload_n (pc := 4) dX9_goOn_4 rfl ?_
  refine AW.getr (k := 6) (pc := 5) dX9_goOn_5 ac_9 sh_0 rfl (by decide) fl_9_43 ?_
  refine AW.geti' (k := 5) (j := 5) (pc := 8) dX9_goOn_8 ac_6 sh_38 rfl (by decide) fl_9_190 rfl (v := (h2 38 5)) rfl ?_
  refine AW.if_ne (tgt := 16) (pc := 11) dX9_goOn_11 rfl (fun q => ?_) (fun q => ?_)
  · skip
    have H_2 := H_1.2 q
    refine AW.aload_n (pc := 16) dX9_goOn_16 rfl ?_
    refine AW.callVi (M' := mX9_chosen) (F' := 4) (as := []) (pc := 17) dX9_goOn_17 (by decide) kX9_chosen ml_9_323 ob_0 rfl npX9_chosen (Nat.le_of_ble_eq_true rfl) (aRun.mono (fun r3 h4 H_3 => ?_) H_2)
    refine AW.istore_n (pc := 20) dX9_goOn_20 (by decide) rfl ?_
    refine AW.aload_n (pc := 21) dX9_goOn_21 rfl ?_
    refine AW.getr (k := 6) (pc := 22) dX9_goOn_22 ac_9 sh_0 rfl (by decide) fl_9_43 ?_
    refine AW.iload_n (pc := 25) dX9_goOn_25 rfl ?_
    refine AW.callVi (M' := mX6_first) (F' := 0) (as := [aI r3]) (pc := 26) dX9_goOn_26 (by decide) kX6_first ml_9_193 ob_38 rfl npX6_first (Nat.le_of_ble_eq_true rfl) (p_X6_first (H_3.1) ?_)
    refine AW.istore_n (pc := 29) dX9_goOn_29 (by decide) rfl ?_
    refine AW.aload_n (pc := 30) dX9_goOn_30 rfl ?_
    refine AW.getr (k := 6) (pc := 31) dX9_goOn_31 ac_9 sh_0 rfl (by decide) fl_9_43 ?_
    refine AW.iload_n (pc := 34) dX9_goOn_34 rfl ?_
    refine AW.callVi (M' := mX6_second) (F' := 0) (as := [aI r3]) (pc := 35) dX9_goOn_35 (by decide) kX6_second ml_9_196 ob_38 rfl npX6_second (Nat.le_of_ble_eq_true rfl) (p_X6_second (H_3.2.1) ?_)
    refine AW.istore_n (pc := 38) dX9_goOn_38 (by decide) rfl ?_
    refine AW.aload_n (pc := 39) dX9_goOn_39 rfl ?_
    refine AW.aload_n (pc := 40) dX9_goOn_40 rfl ?_
    refine AW.iload_n (pc := 41) dX9_goOn_41 rfl ?_
    refine AW.callVi (M' := mX9_slotOf) (F' := 0) (as := [aI (f_X6_first h4 r3)]) (pc := 42) dX9_goOn_42 (by decide) kX9_slotOf ml_9_213 ob_0 rfl npX9_slotOf (Nat.le_of_ble_eq_true rfl) (p_X9_slotOf (H_3.2.2.1) ?_)
    refine AW.callVv (M' := mX9_changePlaces) (F' := 0) (as := [aI (f_X9_slotOf h4 (f_X6_first h4 r3))]) (pc := 45) dX9_goOn_45 (by decide) kX9_changePlaces ml_9_156 ob_0 rfl npX9_changePlaces (Nat.le_of_ble_eq_true rfl) (aRun.mono (fun r5 h6 H_4 => ?_) H_3.2.2.2)
    refine AW.aload_n (pc := 48) dX9_goOn_48 rfl ?_
    refine AW.callVv (M' := mX9_changed) (F' := 4) (as := []) (pc := 49) dX9_goOn_49 (by decide) kX9_changed ml_9_159 ob_0 rfl npX9_changed (Nat.le_of_ble_eq_true rfl) (aRun.mono (fun r7 h8 H_5 => ?_) H_4)
    refine AW.aload_n (pc := 52) dX9_goOn_52 rfl ?_
    refine AW.getr (k := 7) (pc := 53) dX9_goOn_53 ac_9 sh_0 rfl (by decide) fl_9_50 ?_
    refine AW.iload_n (pc := 56) dX9_goOn_56 rfl ?_
    refine AW.iload_n (pc := 57) dX9_goOn_57 rfl ?_
    refine AW.callSi (M' := mX9_pair) (F' := 0) (as := [aI (f_X6_second h4 r3), aI (f_X6_first h4 r3)]) (pc := 58) dX9_goOn_58 (by decide) kX9_pair ml_9_199 rfl npX9_pair (Nat.le_of_ble_eq_true rfl) (p_X9_pair (H_5.1) ?_)
    refine AW.callVv (M' := mX3_keep) (F' := 1) (as := [aI (f_X9_pair h8 (f_X6_second h4 r3) (f_X6_first h4 r3))]) (pc := 61) dX9_goOn_61 (by decide) kX3_keep ml_9_326 ob_42 rfl npX3_keep (Nat.le_of_ble_eq_true rfl) (aRun.mono (fun r9 h10 H_6 => ?_) H_5.2)
    refine AW.aload_n (pc := 64) dX9_goOn_64 rfl ?_
    refine AW.callVv (M' := mX9_lookForLeast) (F' := 2) (as := []) (pc := 65) dX9_goOn_65 (by decide) kX9_lookForLeast ml_9_320 ob_0 rfl npX9_lookForLeast (Nat.le_of_ble_eq_true rfl) (aRun.mono (fun r11 h12 H_7 => ?_) H_6)
    refine AW.iconst (pc := 68) dX9_goOn_68 ⟨by decide, by decide⟩ ?_
    refine AW.zret (pc := 69) dX9_goOn_69 rfl (Or.inr rfl) ?_
    exact H_7
  · have q := Decidable.not_not.mp q
    have H_8 := H_1.1 q
    refine AW.iconst (pc := 14) dX9_goOn_14 ⟨by decide, by decide⟩ ?_
    refine AW.zret (pc := 15) dX9_goOn_15 rfl (Or.inl rfl) ?_
    exact H_8
set_option maxRecDepth 100000 in
set_option maxHeartbeats 4000000 in
theorem e_X9_image  {h : aH} {Q : aQ} (H : (((f_X9_noShop h) = 0 → Q (h 3 1) (a_cp (a_cp (a_cp (a_cp (a_cp (a_cp (a_cp (a_cp (a_up (a_up h 75 0 (h 3 0)) 75 1 (h 3 1)) 4 0 76 0 24) 5 0 77 0 24) 6 0 78 0 24) 7 0 79 0 24) 8 0 80 0 24) 9 0 81 0 24) 10 0 82 0 6) 19 0 83 0 24)) ∧ (¬ ((f_X9_noShop h) = 0) → Q (-5) h))) : aRun mX9_image 3 [aR 0] h Q := by
  refine aRun.of pn_9 rfl (Nat.le_of_ble_eq_true rfl) ?_
  show AW mX9_image 3 0 [some (aR 0)] [] h Q
  refine AW.aload_n (pc := 0) dX9_image_0 rfl ?_
  refine AW.callVi (M' := mX9_noShop) (F' := 0) (as := []) (pc := 1) dX9_image_1 (by decide) kX9_noShop ml_9_145 ob_0 rfl npX9_noShop (Nat.le_of_ble_eq_true rfl) (p_X9_noShop  ?_)
  refine AW.if_eq (tgt := 10) (pc := 4) dX9_image_4 rfl (fun q => ?_) (fun q => ?_)
  · skip
    have H_1 := H.1 q
    refine AW.aload_n (pc := 10) dX9_image_10 rfl ?_
    refine AW.getr (k := 12) (pc := 11) dX9_image_11 ac_9 sh_0 rfl (by decide) fl_9_82 ?_
    refine AW.aload_n (pc := 14) dX9_image_14 rfl ?_
    refine AW.getr (k := 1) (pc := 15) dX9_image_15 ac_9 sh_0 rfl (by decide) fl_9_19 ?_
    refine AW.callVv (M' := mX5_copyOf) (F' := 2) (as := [aR 3]) (pc := 18) dX9_image_18 (by decide) kX5_copyOf ml_9_109 ob_75 rfl npX5_copyOf (Nat.le_of_ble_eq_true rfl) (p_X5_copyOf (Or.inr (Or.inr rfl)) (Or.inl rfl)  ?_)
    refine AW.aload_n (pc := 21) dX9_image_21 rfl ?_
    refine AW.getr (k := 3) (pc := 22) dX9_image_22 ac_9 sh_0 rfl (by decide) fl_9_26 ?_
    refine AW.aload_n (pc := 25) dX9_image_25 rfl ?_
    refine AW.getr (k := 13) (pc := 26) dX9_image_26 ac_9 sh_0 rfl (by decide) fl_9_85 ?_
    refine AW.callSv (M' := mX9_copyRow) (F' := 1) (as := [aR 19, aR 83]) (pc := 29) dX9_image_29 (by decide) kX9_copyRow ml_9_231 rfl npX9_copyRow (Nat.le_of_ble_eq_true rfl) (p_X9_copyRow sh_19 sh_83  ?_)
    refine AW.aload_n (pc := 32) dX9_image_32 rfl ?_
    refine AW.getr (k := 1) (pc := 33) dX9_image_33 ac_9 sh_0 rfl (by decide) fl_9_19 ?_
    refine AW.geti' (k := 1) (j := 1) (pc := 36) dX9_image_36 ac_5 sh_3 rfl (by decide) fl_9_120 rfl (v := (h 3 1)) (by rw [a_cp_ne (by decide), a_cp_ne (by decide), a_cp_ne (by decide), a_cp_ne (by decide), a_cp_ne (by decide), a_cp_ne (by decide), a_cp_ne (by decide), a_cp_ne (by decide), a_up_ne (by decide), a_up_ne (by decide)]) ?_
    refine AW.iret (pc := 39) dX9_image_39 rfl ?_
    exact H_1
  · skip
    have H_2 := H.2 q
    refine AW.bipush (pc := 7) dX9_image_7 rfl ⟨by decide, by decide⟩ ?_
    refine AW.iret (pc := 9) dX9_image_9 rfl ?_
    exact H_2
