set_option maxRecDepth 100000 in
set_option maxHeartbeats 4000000 in
theorem e_X10_findsMoves  {h : aH} {Q : aQ} (H : aRun mX10_parts 4 [aR 85] h (fun r1 h2 => AW mX10_findsMoves 5 11 [some (aR 85), some (aI 0), none, none] [] (a_up h2 85 33 0) Q)) : aRun mX10_findsMoves 5 [aR 85] h Q := by
  refine aRun.of pn_10 rfl (Nat.le_of_ble_eq_true rfl) ?_
  show AW mX10_findsMoves 5 0 [some (aR 85), none, none, none] [] h Q
  refine AW.aload_n (pc := 0) dX10_findsMoves_0 rfl ?_
  refine AW.callVv (M' := mX10_parts) (F' := 4) (as := []) (pc := 1) dX10_findsMoves_1 (by decide) kX10_parts ml_10_251 ob_85 rfl npX10_parts (Nat.le_of_ble_eq_true rfl) (aRun.mono (fun r1 h2 H_1 => ?_) H)
  refine AW.aload_n (pc := 4) dX10_findsMoves_4 rfl ?_
  refine AW.iconst (pc := 5) dX10_findsMoves_5 ⟨by decide, by decide⟩ ?_
  refine AW.puti' (k := 33) (j := 33) (pc := 6) dX10_findsMoves_6 ac_10 sh_85 rfl (by decide) fl_10_254 rfl rfl (tyX10_ok 33 (by decide)) (Or.inl rfl) ?_
  refine AW.iconst (pc := 9) dX10_findsMoves_9 ⟨by decide, by decide⟩ ?_
  refine AW.istore_n (pc := 10) dX10_findsMoves_10 (by decide) rfl ?_
  exact H_1
set_option maxRecDepth 100000 in
set_option maxHeartbeats 4000000 in
theorem s_X10_findsMoves_11  {l1 : Int} {h : aH} {Q : aQ} (H : (((h 85 30) ≤ l1 → Q 0 h) ∧ (¬ ((h 85 30) ≤ l1) → (((h 85 30) ≤ 1 → Q 0 h) ∧ (¬ ((h 85 30) ≤ 1) → (0 ≤ l1 ∧ l1 < 25) ∧ inR (l1 + 1) ∧ (0 ≤ (l1 + 1) ∧ (l1 + 1) < 25) ∧ inR ((h 104 (l1 + 1)) - 1) ∧ ((((h 104 (l1 + 1)) - 1) ≤ (h 104 l1) → ((((h 104 (l1 + 1)) - 1) ≤ (h 104 l1) → AW mX10_findsMoves 5 11 [some (aR 85), some (aI (l1 + 1)), none, none] [] h Q) ∧ (¬ (((h 104 (l1 + 1)) - 1) ≤ (h 104 l1)) → inR ((h 85 30) - 1) ∧ ((((h 85 30) - 1) ≤ l1 → AW mX10_findsMoves 5 11 [some (aR 85), some (aI (l1 + 1)), none, none] [] h Q) ∧ (¬ (((h 85 30) - 1) ≤ l1) → ((l1 = 0 → inR (((h 104 (l1 + 1)) - 1) - 1) ∧ aRun mX10_comesMove 2 [aR 85, aI (((h 104 (l1 + 1)) - 1) - 1)] h (fun r1 h2 => AW mX10_findsMoves 5 11 [some (aR 85), some (aI (l1 + 1)), none, none] [] h2 Q)) ∧ (¬ (l1 = 0) → inR (((h 104 (l1 + 1)) - 1) - 1) ∧ (((((h 104 (l1 + 1)) - 1) - 1) ≤ (h 104 l1) → AW mX10_findsMoves 5 11 [some (aR 85), some (aI (l1 + 1)), none, none] [] h Q) ∧ (¬ ((((h 104 (l1 + 1)) - 1) - 1) ≤ (h 104 l1)) → aRun mX10_comesMove 2 [aR 85, aI (((h 104 (l1 + 1)) - 1) - 1)] h (fun r3 h4 => AW mX10_findsMoves 5 11 [some (aR 85), some (aI (l1 + 1)), none, none] [] h4 Q)))))))))) ∧ (¬ (((h 104 (l1 + 1)) - 1) ≤ (h 104 l1)) → ((l1 ≤ 0 → ((((h 104 (l1 + 1)) - 1) ≤ (h 104 l1) → AW mX10_findsMoves 5 11 [some (aR 85), some (aI (l1 + 1)), none, none] [] h Q) ∧ (¬ (((h 104 (l1 + 1)) - 1) ≤ (h 104 l1)) → inR ((h 85 30) - 1) ∧ ((((h 85 30) - 1) ≤ l1 → AW mX10_findsMoves 5 11 [some (aR 85), some (aI (l1 + 1)), none, none] [] h Q) ∧ (¬ (((h 85 30) - 1) ≤ l1) → ((l1 = 0 → inR (((h 104 (l1 + 1)) - 1) - 1) ∧ aRun mX10_comesMove 2 [aR 85, aI (((h 104 (l1 + 1)) - 1) - 1)] h (fun r5 h6 => AW mX10_findsMoves 5 11 [some (aR 85), some (aI (l1 + 1)), none, none] [] h6 Q)) ∧ (¬ (l1 = 0) → inR (((h 104 (l1 + 1)) - 1) - 1) ∧ (((((h 104 (l1 + 1)) - 1) - 1) ≤ (h 104 l1) → AW mX10_findsMoves 5 11 [some (aR 85), some (aI (l1 + 1)), none, none] [] h Q) ∧ (¬ ((((h 104 (l1 + 1)) - 1) - 1) ≤ (h 104 l1)) → aRun mX10_comesMove 2 [aR 85, aI (((h 104 (l1 + 1)) - 1) - 1)] h (fun r7 h8 => AW mX10_findsMoves 5 11 [some (aR 85), some (aI (l1 + 1)), none, none] [] h8 Q)))))))))) ∧ (¬ (l1 ≤ 0) → aRun mX10_comesMove 2 [aR 85, aI (h 104 l1)] h (fun r9 h10 => ((((h 104 (l1 + 1)) - 1) ≤ (h 104 l1) → AW mX10_findsMoves 5 11 [some (aR 85), some (aI (l1 + 1)), none, none] [] h10 Q) ∧ (¬ (((h 104 (l1 + 1)) - 1) ≤ (h 104 l1)) → inR ((h10 85 30) - 1) ∧ ((((h10 85 30) - 1) ≤ l1 → AW mX10_findsMoves 5 11 [some (aR 85), some (aI (l1 + 1)), none, none] [] h10 Q) ∧ (¬ (((h10 85 30) - 1) ≤ l1) → ((l1 = 0 → inR (((h 104 (l1 + 1)) - 1) - 1) ∧ aRun mX10_comesMove 2 [aR 85, aI (((h 104 (l1 + 1)) - 1) - 1)] h10 (fun r11 h12 => AW mX10_findsMoves 5 11 [some (aR 85), some (aI (l1 + 1)), none, none] [] h12 Q)) ∧ (¬ (l1 = 0) → inR (((h 104 (l1 + 1)) - 1) - 1) ∧ (((((h 104 (l1 + 1)) - 1) - 1) ≤ (h 104 l1) → AW mX10_findsMoves 5 11 [some (aR 85), some (aI (l1 + 1)), none, none] [] h10 Q) ∧ (¬ ((((h 104 (l1 + 1)) - 1) - 1) ≤ (h 104 l1)) → aRun mX10_comesMove 2 [aR 85, aI (((h 104 (l1 + 1)) - 1) - 1)] h10 (fun r13 h14 => AW mX10_findsMoves 5 11 [some (aR 85), some (aI (l1 + 1)), none, none] [] h14 Q))))))))))))))))))) : AW mX10_findsMoves 5 11 [some (aR 85), some (aI l1), none, none] [] h Q := by
  refine AW.iload_n (pc := 11) dX10_findsMoves_11 rfl ?_
  refine AW.aload_n (pc := 12) dX10_findsMoves_12 rfl ?_
  refine AW.geti' (k := 30) (j := 30) (pc := 13) dX10_findsMoves_13 ac_10 sh_85 rfl (by decide) fl_10_241 rfl (v := (h 85 30)) rfl ?_
  refine AW.icmp_ge (tgt := 98) (pc := 16) dX10_findsMoves_16 rfl (fun q => ?_) (fun q => ?_)
  · skip
    have H_1 := H.1 q
    refine AW.vret (pc := 98) dX10_findsMoves_98 rfl ?_
    exact H_1
  · skip
    have H_2 := H.2 q
    refine AW.aload_n (pc := 19) dX10_findsMoves_19 rfl ?_
    refine AW.geti' (k := 30) (j := 30) (pc := 20) dX10_findsMoves_20 ac_10 sh_85 rfl (by decide) fl_10_241 rfl (v := (h 85 30)) rfl ?_
    refine AW.iconst (pc := 23) dX10_findsMoves_23 ⟨by decide, by decide⟩ ?_
    refine AW.icmp_le (tgt := 98) (pc := 24) dX10_findsMoves_24 rfl (fun q => ?_) (fun q => ?_)
    · skip
      have H_3 := H_2.1 q
      refine AW.vret (pc := 98) dX10_findsMoves_98 rfl ?_
      exact H_3
    · skip
      have H_4 := H_2.2 q
      refine AW.aload_n (pc := 27) dX10_findsMoves_27 rfl ?_
      refine AW.getr (k := 29) (pc := 28) dX10_findsMoves_28 ac_10 sh_85 rfl (by decide) fl_10_65 ?_
      refine AW.iload_n (pc := 31) dX10_findsMoves_31 rfl ?_
      refine AW.iald (pc := 32) dX10_findsMoves_32 sh_104 (H_4.1) (v := (h 104 l1)) rfl ?_
      refine AW.istore_n (pc := 33) dX10_findsMoves_33 (by decide) rfl ?_
      refine AW.aload_n (pc := 34) dX10_findsMoves_34 rfl ?_
      refine AW.getr (k := 29) (pc := 35) dX10_findsMoves_35 ac_10 sh_85 rfl (by decide) fl_10_65 ?_
      refine AW.iload_n (pc := 38) dX10_findsMoves_38 rfl ?_
      refine AW.iconst (pc := 39) dX10_findsMoves_39 ⟨by decide, by decide⟩ ?_
      refine AW.iadd (pc := 40) dX10_findsMoves_40 (H_4.2.1) ?_
      refine AW.iald (pc := 41) dX10_findsMoves_41 sh_104 (H_4.2.2.1) (v := (h 104 (l1 + 1))) rfl ?_
      refine AW.iconst (pc := 42) dX10_findsMoves_42 ⟨by decide, by decide⟩ ?_
      refine AW.isub (pc := 43) dX10_findsMoves_43 (H_4.2.2.2.1) ?_
      refine AW.istore_n (pc := 44) dX10_findsMoves_44 (by decide) rfl ?_
      refine AW.iload_n (pc := 45) dX10_findsMoves_45 rfl ?_
      refine AW.iload_n (pc := 46) dX10_findsMoves_46 rfl ?_
      refine AW.icmp_le (tgt := 59) (pc := 47) dX10_findsMoves_47 rfl (fun q => ?_) (fun q => ?_)
      · skip
        have H_5 := H_4.2.2.2.2.1 q
        refine AW.iload_n (pc := 59) dX10_findsMoves_59 rfl ?_
        refine AW.iload_n (pc := 60) dX10_findsMoves_60 rfl ?_
        refine AW.icmp_le (tgt := 92) (pc := 61) dX10_findsMoves_61 rfl (fun q => ?_) (fun q => ?_)
        · skip
          have H_6 := H_5.1 q
          refine AW.iinc (pc := 92) dX10_findsMoves_92 rfl (by decide) rfl (H_4.2.1) ?_
          refine AW.goto (tgt := 11) (pc := 95) dX10_findsMoves_95 rfl ?_
          refine AW.mask [true, true, false, false] ?_
          exact H_6
        · skip
          have H_7 := H_5.2 q
          refine AW.iload_n (pc := 64) dX10_findsMoves_64 rfl ?_
          refine AW.aload_n (pc := 65) dX10_findsMoves_65 rfl ?_
          refine AW.geti' (k := 30) (j := 30) (pc := 66) dX10_findsMoves_66 ac_10 sh_85 rfl (by decide) fl_10_241 rfl (v := (h 85 30)) rfl ?_
          refine AW.iconst (pc := 69) dX10_findsMoves_69 ⟨by decide, by decide⟩ ?_
          refine AW.isub (pc := 70) dX10_findsMoves_70 (H_7.1) ?_
          refine AW.icmp_ge (tgt := 92) (pc := 71) dX10_findsMoves_71 rfl (fun q => ?_) (fun q => ?_)
          · skip
            have H_8 := H_7.2.1 q
            refine AW.iinc (pc := 92) dX10_findsMoves_92 rfl (by decide) rfl (H_4.2.1) ?_
            refine AW.goto (tgt := 11) (pc := 95) dX10_findsMoves_95 rfl ?_
            refine AW.mask [true, true, false, false] ?_
            exact H_8
          · skip
            have H_9 := H_7.2.2 q
            refine AW.iload_n (pc := 74) dX10_findsMoves_74 rfl ?_
            refine AW.if_eq (tgt := 85) (pc := 75) dX10_findsMoves_75 rfl (fun q => ?_) (fun q => ?_)
            · skip
              have H_10 := H_9.1 q
              refine AW.aload_n (pc := 85) dX10_findsMoves_85 rfl ?_
              refine AW.iload_n (pc := 86) dX10_findsMoves_86 rfl ?_
              refine AW.iconst (pc := 87) dX10_findsMoves_87 ⟨by decide, by decide⟩ ?_
              refine AW.isub (pc := 88) dX10_findsMoves_88 (H_10.1) ?_
              refine AW.callVv (M' := mX10_comesMove) (F' := 2) (as := [aI (((h 104 (l1 + 1)) - 1) - 1)]) (pc := 89) dX10_findsMoves_89 (by decide) kX10_comesMove ml_10_260 ob_85 rfl npX10_comesMove (Nat.le_of_ble_eq_true rfl) (aRun.mono (fun r1 h2 H_11 => ?_) H_10.2)
              refine AW.iinc (pc := 92) dX10_findsMoves_92 rfl (by decide) rfl (H_4.2.1) ?_
              refine AW.goto (tgt := 11) (pc := 95) dX10_findsMoves_95 rfl ?_
              refine AW.mask [true, true, false, false] ?_
              exact H_11
            · skip
              have H_12 := H_9.2 q
              refine AW.iload_n (pc := 78) dX10_findsMoves_78 rfl ?_
              refine AW.iconst (pc := 79) dX10_findsMoves_79 ⟨by decide, by decide⟩ ?_
              refine AW.isub (pc := 80) dX10_findsMoves_80 (H_12.1) ?_
              refine AW.iload_n (pc := 81) dX10_findsMoves_81 rfl ?_
              refine AW.icmp_le (tgt := 92) (pc := 82) dX10_findsMoves_82 rfl (fun q => ?_) (fun q => ?_)
              · skip
                have H_13 := H_12.2.1 q
                refine AW.iinc (pc := 92) dX10_findsMoves_92 rfl (by decide) rfl (H_4.2.1) ?_
                refine AW.goto (tgt := 11) (pc := 95) dX10_findsMoves_95 rfl ?_
                refine AW.mask [true, true, false, false] ?_
                exact H_13
              · skip
                have H_14 := H_12.2.2 q
                refine AW.aload_n (pc := 85) dX10_findsMoves_85 rfl ?_
                refine AW.iload_n (pc := 86) dX10_findsMoves_86 rfl ?_
                refine AW.iconst (pc := 87) dX10_findsMoves_87 ⟨by decide, by decide⟩ ?_
                refine AW.isub (pc := 88) dX10_findsMoves_88 (H_12.1) ?_
                refine AW.callVv (M' := mX10_comesMove) (F' := 2) (as := [aI (((h 104 (l1 + 1)) - 1) - 1)]) (pc := 89) dX10_findsMoves_89 (by decide) kX10_comesMove ml_10_260 ob_85 rfl npX10_comesMove (Nat.le_of_ble_eq_true rfl) (aRun.mono (fun r3 h4 H_15 => ?_) H_14)
                refine AW.iinc (pc := 92) dX10_findsMoves_92 rfl (by decide) rfl (H_4.2.1) ?_
                refine AW.goto (tgt := 11) (pc := 95) dX10_findsMoves_95 rfl ?_
                refine AW.mask [true, true, false, false] ?_
                exact H_15
      · skip
        have H_16 := H_4.2.2.2.2.2 q
        refine AW.iload_n (pc := 50) dX10_findsMoves_50 rfl ?_
        refine AW.if_le (tgt := 59) (pc := 51) dX10_findsMoves_51 rfl (fun q => ?_) (fun q => ?_)
        · skip
          have H_17 := H_16.1 q
          refine AW.iload_n (pc := 59) dX10_findsMoves_59 rfl ?_
          refine AW.iload_n (pc := 60) dX10_findsMoves_60 rfl ?_
          refine AW.icmp_le (tgt := 92) (pc := 61) dX10_findsMoves_61 rfl (fun q => ?_) (fun q => ?_)
          · skip
            have H_18 := H_17.1 q
            refine AW.iinc (pc := 92) dX10_findsMoves_92 rfl (by decide) rfl (H_4.2.1) ?_
            refine AW.goto (tgt := 11) (pc := 95) dX10_findsMoves_95 rfl ?_
            refine AW.mask [true, true, false, false] ?_
            exact H_18
          · skip
            have H_19 := H_17.2 q
            refine AW.iload_n (pc := 64) dX10_findsMoves_64 rfl ?_
            refine AW.aload_n (pc := 65) dX10_findsMoves_65 rfl ?_
            refine AW.geti' (k := 30) (j := 30) (pc := 66) dX10_findsMoves_66 ac_10 sh_85 rfl (by decide) fl_10_241 rfl (v := (h 85 30)) rfl ?_
            refine AW.iconst (pc := 69) dX10_findsMoves_69 ⟨by decide, by decide⟩ ?_
            refine AW.isub (pc := 70) dX10_findsMoves_70 (H_19.1) ?_
            refine AW.icmp_ge (tgt := 92) (pc := 71) dX10_findsMoves_71 rfl (fun q => ?_) (fun q => ?_)
            · skip
              have H_20 := H_19.2.1 q
              refine AW.iinc (pc := 92) dX10_findsMoves_92 rfl (by decide) rfl (H_4.2.1) ?_
              refine AW.goto (tgt := 11) (pc := 95) dX10_findsMoves_95 rfl ?_
              refine AW.mask [true, true, false, false] ?_
              exact H_20
            · skip
              have H_21 := H_19.2.2 q
              refine AW.iload_n (pc := 74) dX10_findsMoves_74 rfl ?_
              refine AW.if_eq (tgt := 85) (pc := 75) dX10_findsMoves_75 rfl (fun q => ?_) (fun q => ?_)
              · skip
                have H_22 := H_21.1 q
                refine AW.aload_n (pc := 85) dX10_findsMoves_85 rfl ?_
                refine AW.iload_n (pc := 86) dX10_findsMoves_86 rfl ?_
                refine AW.iconst (pc := 87) dX10_findsMoves_87 ⟨by decide, by decide⟩ ?_
                refine AW.isub (pc := 88) dX10_findsMoves_88 (H_22.1) ?_
                refine AW.callVv (M' := mX10_comesMove) (F' := 2) (as := [aI (((h 104 (l1 + 1)) - 1) - 1)]) (pc := 89) dX10_findsMoves_89 (by decide) kX10_comesMove ml_10_260 ob_85 rfl npX10_comesMove (Nat.le_of_ble_eq_true rfl) (aRun.mono (fun r5 h6 H_23 => ?_) H_22.2)
                refine AW.iinc (pc := 92) dX10_findsMoves_92 rfl (by decide) rfl (H_4.2.1) ?_
                refine AW.goto (tgt := 11) (pc := 95) dX10_findsMoves_95 rfl ?_
                refine AW.mask [true, true, false, false] ?_
                exact H_23
              · skip
                have H_24 := H_21.2 q
                refine AW.iload_n (pc := 78) dX10_findsMoves_78 rfl ?_
                refine AW.iconst (pc := 79) dX10_findsMoves_79 ⟨by decide, by decide⟩ ?_
                refine AW.isub (pc := 80) dX10_findsMoves_80 (H_24.1) ?_
                refine AW.iload_n (pc := 81) dX10_findsMoves_81 rfl ?_
                refine AW.icmp_le (tgt := 92) (pc := 82) dX10_findsMoves_82 rfl (fun q => ?_) (fun q => ?_)
                · skip
                  have H_25 := H_24.2.1 q
                  refine AW.iinc (pc := 92) dX10_findsMoves_92 rfl (by decide) rfl (H_4.2.1) ?_
                  refine AW.goto (tgt := 11) (pc := 95) dX10_findsMoves_95 rfl ?_
                  refine AW.mask [true, true, false, false] ?_
                  exact H_25
                · skip
                  have H_26 := H_24.2.2 q
                  refine AW.aload_n (pc := 85) dX10_findsMoves_85 rfl ?_
                  refine AW.iload_n (pc := 86) dX10_findsMoves_86 rfl ?_
                  refine AW.iconst (pc := 87) dX10_findsMoves_87 ⟨by decide, by decide⟩ ?_
                  refine AW.isub (pc := 88) dX10_findsMoves_88 (H_24.1) ?_
                  refine AW.callVv (M' := mX10_comesMove) (F' := 2) (as := [aI (((h 104 (l1 + 1)) - 1) - 1)]) (pc := 89) dX10_findsMoves_89 (by decide) kX10_comesMove ml_10_260 ob_85 rfl npX10_comesMove (Nat.le_of_ble_eq_true rfl) (aRun.mono (fun r7 h8 H_27 => ?_) H_26)
                  refine AW.iinc (pc := 92) dX10_findsMoves_92 rfl (by decide) rfl (H_4.2.1) ?_
                  refine AW.goto (tgt := 11) (pc := 95) dX10_findsMoves_95 rfl ?_
                  refine AW.mask [true, true, false, false] ?_
                  exact H_27
        · skip
          have H_28 := H_16.2 q
          refine AW.aload_n (pc := 54) dX10_findsMoves_54 rfl ?_
          refine AW.iload_n (pc := 55) dX10_findsMoves_55 rfl ?_
          refine AW.callVv (M' := mX10_comesMove) (F' := 2) (as := [aI (h 104 l1)]) (pc := 56) dX10_findsMoves_56 (by decide) kX10_comesMove ml_10_260 ob_85 rfl npX10_comesMove (Nat.le_of_ble_eq_true rfl) (aRun.mono (fun r9 h10 H_29 => ?_) H_28)
          refine AW.iload_n (pc := 59) dX10_findsMoves_59 rfl ?_
          refine AW.iload_n (pc := 60) dX10_findsMoves_60 rfl ?_
          refine AW.icmp_le (tgt := 92) (pc := 61) dX10_findsMoves_61 rfl (fun q => ?_) (fun q => ?_)
          · skip
            have H_30 := H_29.1 q
            refine AW.iinc (pc := 92) dX10_findsMoves_92 rfl (by decide) rfl (H_4.2.1) ?_
            refine AW.goto (tgt := 11) (pc := 95) dX10_findsMoves_95 rfl ?_
            refine AW.mask [true, true, false, false] ?_
            exact H_30
          · skip
            have H_31 := H_29.2 q
            refine AW.iload_n (pc := 64) dX10_findsMoves_64 rfl ?_
            refine AW.aload_n (pc := 65) dX10_findsMoves_65 rfl ?_
            refine AW.geti' (k := 30) (j := 30) (pc := 66) dX10_findsMoves_66 ac_10 sh_85 rfl (by decide) fl_10_241 rfl (v := (h10 85 30)) rfl ?_
            refine AW.iconst (pc := 69) dX10_findsMoves_69 ⟨by decide, by decide⟩ ?_
            refine AW.isub (pc := 70) dX10_findsMoves_70 (H_31.1) ?_
            refine AW.icmp_ge (tgt := 92) (pc := 71) dX10_findsMoves_71 rfl (fun q => ?_) (fun q => ?_)
            · skip
              have H_32 := H_31.2.1 q
              refine AW.iinc (pc := 92) dX10_findsMoves_92 rfl (by decide) rfl (H_4.2.1) ?_
              refine AW.goto (tgt := 11) (pc := 95) dX10_findsMoves_95 rfl ?_
              refine AW.mask [true, true, false, false] ?_
              exact H_32
            · skip
              have H_33 := H_31.2.2 q
              refine AW.iload_n (pc := 74) dX10_findsMoves_74 rfl ?_
              refine AW.if_eq (tgt := 85) (pc := 75) dX10_findsMoves_75 rfl (fun q => ?_) (fun q => ?_)
              · skip
                have H_34 := H_33.1 q
                refine AW.aload_n (pc := 85) dX10_findsMoves_85 rfl ?_
                refine AW.iload_n (pc := 86) dX10_findsMoves_86 rfl ?_
                refine AW.iconst (pc := 87) dX10_findsMoves_87 ⟨by decide, by decide⟩ ?_
                refine AW.isub (pc := 88) dX10_findsMoves_88 (H_34.1) ?_
                refine AW.callVv (M' := mX10_comesMove) (F' := 2) (as := [aI (((h 104 (l1 + 1)) - 1) - 1)]) (pc := 89) dX10_findsMoves_89 (by decide) kX10_comesMove ml_10_260 ob_85 rfl npX10_comesMove (Nat.le_of_ble_eq_true rfl) (aRun.mono (fun r11 h12 H_35 => ?_) H_34.2)
                refine AW.iinc (pc := 92) dX10_findsMoves_92 rfl (by decide) rfl (H_4.2.1) ?_
                refine AW.goto (tgt := 11) (pc := 95) dX10_findsMoves_95 rfl ?_
                refine AW.mask [true, true, false, false] ?_
                exact H_35
              · skip
                have H_36 := H_33.2 q
                refine AW.iload_n (pc := 78) dX10_findsMoves_78 rfl ?_
                refine AW.iconst (pc := 79) dX10_findsMoves_79 ⟨by decide, by decide⟩ ?_
                refine AW.isub (pc := 80) dX10_findsMoves_80 (H_36.1) ?_
                refine AW.iload_n (pc := 81) dX10_findsMoves_81 rfl ?_
                refine AW.icmp_le (tgt := 92) (pc := 82) dX10_findsMoves_82 rfl (fun q => ?_) (fun q => ?_)
                · skip
                  have H_37 := H_36.2.1 q
                  refine AW.iinc (pc := 92) dX10_findsMoves_92 rfl (by decide) rfl (H_4.2.1) ?_
                  refine AW.goto (tgt := 11) (pc := 95) dX10_findsMoves_95 rfl ?_
                  refine AW.mask [true, true, false, false] ?_
                  exact H_37
                · skip
                  have H_38 := H_36.2.2 q
                  refine AW.aload_n (pc := 85) dX10_findsMoves_85 rfl ?_
                  refine AW.iload_n (pc := 86) dX10_findsMoves_86 rfl ?_
                  refine AW.iconst (pc := 87) dX10_findsMoves_87 ⟨by decide, by decide⟩ ?_
                  refine AW.isub (pc := 88) dX10_findsMoves_88 (H_36.1) ?_
                  refine AW.callVv (M' := mX10_comesMove) (F' := 2) (as := [aI (((h 104 (l1 + 1)) - 1) - 1)]) (pc := 89) dX10_findsMoves_89 (by decide) kX10_comesMove ml_10_260 ob_85 rfl npX10_comesMove (Nat.le_of_ble_eq_true rfl) (aRun.mono (fun r13 h14 H_39 => ?_) H_38)
                  refine AW.iinc (pc := 92) dX10_findsMoves_92 rfl (by decide) rfl (H_4.2.1) ?_
                  refine AW.goto (tgt := 11) (pc := 95) dX10_findsMoves_95 rfl ?_
                  refine AW.mask [true, true, false, false] ?_
                  exact H_39
set_option maxRecDepth 100000 in
set_option maxHeartbeats 4000000 in
theorem e_X10_placeOf {a1 : Int} {h : aH} {Q : aQ} (H : (0 ≤ a1 ∧ a1 < 24) ∧ inR (24 * (h 88 a1)) ∧ AW mX10_placeOf 0 10 [some (aR 85), some (aI a1), some (aI (24 * (h 88 a1)))] [] h Q) : aRun mX10_placeOf 0 [aR 85, aI a1] h Q := by
  refine aRun.of pn_10 rfl (Nat.le_of_ble_eq_true rfl) ?_
  show AW mX10_placeOf 0 0 [some (aR 85), some (aI a1), none] [] h Q
  refine AW.bipush (pc := 0) dX10_placeOf_0 rfl ⟨by decide, by decide⟩ ?_
  refine AW.aload_n (pc := 2) dX10_placeOf_2 rfl ?_
  refine AW.getr (k := 4) (pc := 3) dX10_placeOf_3 ac_10 sh_85 rfl (by decide) fl_10_16 ?_
  refine AW.iload_n (pc := 6) dX10_placeOf_6 rfl ?_
  refine AW.iald (pc := 7) dX10_placeOf_7 sh_88 (H.1) (v := (h 88 a1)) rfl ?_
  refine AW.imul (pc := 8) dX10_placeOf_8 (H.2.1) ?_
  refine AW.istore_n (pc := 9) dX10_placeOf_9 (by decide) rfl ?_
  exact H.2.2
set_option maxRecDepth 100000 in
set_option maxHeartbeats 4000000 in
theorem s_X10_placeOf_10  {l1 l2 : Int} {h : aH} {Q : aQ} (H : (0 ≤ l2 ∧ l2 < 120) ∧ (((h 90 l2) = l1 → (0 ≤ l1 ∧ l1 < 24) ∧ inR (24 * (h 88 l1)) ∧ inR (l2 - (24 * (h 88 l1))) ∧ Q (l2 - (24 * (h 88 l1))) h) ∧ (¬ ((h 90 l2) = l1) → inR (l2 + 1) ∧ AW mX10_placeOf 0 10 [some (aR 85), some (aI l1), some (aI (l2 + 1))] [] h Q))) : AW mX10_placeOf 0 10 [some (aR 85), some (aI l1), some (aI l2)] [] h Q := by
  refine AW.aload_n (pc := 10) dX10_placeOf_10 rfl ?_
  refine AW.getr (k := 6) (pc := 11) dX10_placeOf_11 ac_10 sh_85 rfl (by decide) fl_10_22 ?_
  refine AW.iload_n (pc := 14) dX10_placeOf_14 rfl ?_
  refine AW.iald (pc := 15) dX10_placeOf_15 sh_90 (H.1) (v := (h 90 l2)) rfl ?_
  refine AW.iload_n (pc := 16) dX10_placeOf_16 rfl ?_
  refine AW.icmp_eq (tgt := 26) (pc := 17) dX10_placeOf_17 rfl (fun q => ?_) (fun q => ?_)
  · skip
    have H_1 := H.2.1 q
    refine AW.iload_n (pc := 26) dX10_placeOf_26 rfl ?_
    refine AW.bipush (pc := 27) dX10_placeOf_27 rfl ⟨by decide, by decide⟩ ?_
    refine AW.aload_n (pc := 29) dX10_placeOf_29 rfl ?_
    refine AW.getr (k := 4) (pc := 30) dX10_placeOf_30 ac_10 sh_85 rfl (by decide) fl_10_16 ?_
    refine AW.iload_n (pc := 33) dX10_placeOf_33 rfl ?_
    refine AW.iald (pc := 34) dX10_placeOf_34 sh_88 (H_1.1) (v := (h 88 l1)) rfl ?_
    refine AW.imul (pc := 35) dX10_placeOf_35 (H_1.2.1) ?_
    refine AW.isub (pc := 36) dX10_placeOf_36 (H_1.2.2.1) ?_
    refine AW.iret (pc := 37) dX10_placeOf_37 rfl ?_
    exact H_1.2.2.2
  · skip
    have H_2 := H.2.2 q
    refine AW.iinc (pc := 20) dX10_placeOf_20 rfl (by decide) rfl (H_2.1) ?_
    refine AW.goto (tgt := 10) (pc := 23) dX10_placeOf_23 rfl ?_
    exact H_2.2
set_option maxRecDepth 100000 in
set_option maxHeartbeats 4000000 in
theorem p_X10_swaps {a1 a2 : Int} {h : aH} {Q : aQ} (o : inR (24 * a1) ∧ inR ((24 * a1) + a2) ∧ (0 ≤ ((24 * a1) + a2) ∧ ((24 * a1) + a2) < 120) ∧ inR (((24 * a1) + a2) + 1) ∧ (0 ≤ (((24 * a1) + a2) + 1) ∧ (((24 * a1) + a2) + 1) < 120) ∧ (0 ≤ ((24 * a1) + a2) ∧ ((24 * a1) + a2) < 120) ∧ inR (((24 * a1) + a2) + 1) ∧ (0 ≤ (((24 * a1) + a2) + 1) ∧ (((24 * a1) + a2) + 1) < 120)) (k : Q 0 (a_up (a_up h 90 ((24 * a1) + a2) (h 90 (((24 * a1) + a2) + 1))) 90 (((24 * a1) + a2) + 1) (h 90 ((24 * a1) + a2)))) : aRun mX10_swaps 0 [aR 85, aI a1, aI a2] h Q := by
  refine aRun.of pn_10 rfl (Nat.le_of_ble_eq_true rfl) ?_
  show AW mX10_swaps 0 0 [some (aR 85), some (aI a1), some (aI a2), none, none] [] h Q
  refine AW.bipush (pc := 0) dX10_swaps_0 rfl ⟨by decide, by decide⟩ ?_
  refine AW.iload_n (pc := 2) dX10_swaps_2 rfl ?_
  refine AW.imul (pc := 3) dX10_swaps_3 (o.1) ?_
  refine AW.iload_n (pc := 4) dX10_swaps_4 rfl ?_
  refine AW.iadd (pc := 5) dX10_swaps_5 (o.2.1) ?_
  refine AW.istore_n (pc := 6) dX10_swaps_6 (by decide) rfl ?_
  refine AW.aload_n (pc := 7) dX10_swaps_7 rfl ?_
  refine AW.getr (k := 6) (pc := 8) dX10_swaps_8 ac_10 sh_85 rfl (by decide) fl_10_22 ?_
  refine AW.iload_n (pc := 11) dX10_swaps_11 rfl ?_
  refine AW.iald (pc := 12) dX10_swaps_12 sh_90 (o.2.2.1) (v := (h 90 ((24 * a1) + a2))) rfl ?_
  refine AW.istore (pc := 13) dX10_swaps_13 (by decide) rfl ?_
  refine AW.aload_n (pc := 15) dX10_swaps_15 rfl ?_
  refine AW.getr (k := 6) (pc := 16) dX10_swaps_16 ac_10 sh_85 rfl (by decide) fl_10_22 ?_
  refine AW.iload_n (pc := 19) dX10_swaps_19 rfl ?_
  refine AW.aload_n (pc := 20) dX10_swaps_20 rfl ?_
  refine AW.getr (k := 6) (pc := 21) dX10_swaps_21 ac_10 sh_85 rfl (by decide) fl_10_22 ?_
  refine AW.iload_n (pc := 24) dX10_swaps_24 rfl ?_
  refine AW.iconst (pc := 25) dX10_swaps_25 ⟨by decide, by decide⟩ ?_
  refine AW.iadd (pc := 26) dX10_swaps_26 (o.2.2.2.1) ?_
  refine AW.iald (pc := 27) dX10_swaps_27 sh_90 (o.2.2.2.2.1) (v := (h 90 (((24 * a1) + a2) + 1))) rfl ?_
  refine AW.iast (pc := 28) dX10_swaps_28 sh_90 (o.2.2.2.2.2.1) ?_
  refine AW.aload_n (pc := 29) dX10_swaps_29 rfl ?_
  refine AW.getr (k := 6) (pc := 30) dX10_swaps_30 ac_10 sh_85 rfl (by decide) fl_10_22 ?_
  refine AW.iload_n (pc := 33) dX10_swaps_33 rfl ?_
  refine AW.iconst (pc := 34) dX10_swaps_34 ⟨by decide, by decide⟩ ?_
  refine AW.iadd (pc := 35) dX10_swaps_35 (o.2.2.2.2.2.2.1) ?_
  refine AW.iload (pc := 36) dX10_swaps_36 rfl ?_
  refine AW.iast (pc := 38) dX10_swaps_38 sh_90 (o.2.2.2.2.2.2.2) ?_
  refine AW.vret (pc := 39) dX10_swaps_39 rfl ?_
  exact k
set_option maxRecDepth 100000 in
set_option maxHeartbeats 4000000 in
theorem e_X10_swapsMove {a1 : Int} {h : aH} {Q : aQ} (H : 0 ≤ a1 ∧ (0 ≤ (a1 / 100) ∧ (a1 / 100) < 24) ∧ aRun mX10_placeOf 0 [aR 85, aI (a1 / 100)] h (fun r1 h2 => aRun mX10_placeOf 0 [aR 85, aI (a1 % 100)] h2 (fun r3 h4 => (inR (24 * (h 88 (a1 / 100))) ∧ inR ((24 * (h 88 (a1 / 100))) + (min r1 r3)) ∧ (0 ≤ ((24 * (h 88 (a1 / 100))) + (min r1 r3)) ∧ ((24 * (h 88 (a1 / 100))) + (min r1 r3)) < 120) ∧ inR (((24 * (h 88 (a1 / 100))) + (min r1 r3)) + 1) ∧ (0 ≤ (((24 * (h 88 (a1 / 100))) + (min r1 r3)) + 1) ∧ (((24 * (h 88 (a1 / 100))) + (min r1 r3)) + 1) < 120) ∧ (0 ≤ ((24 * (h 88 (a1 / 100))) + (min r1 r3)) ∧ ((24 * (h 88 (a1 / 100))) + (min r1 r3)) < 120) ∧ inR (((24 * (h 88 (a1 / 100))) + (min r1 r3)) + 1) ∧ (0 ≤ (((24 * (h 88 (a1 / 100))) + (min r1 r3)) + 1) ∧ (((24 * (h 88 (a1 / 100))) + (min r1 r3)) + 1) < 120)) ∧ Q 0 (a_up (a_up h4 90 ((24 * (h 88 (a1 / 100))) + (min r1 r3)) (h4 90 (((24 * (h 88 (a1 / 100))) + (min r1 r3)) + 1))) 90 (((24 * (h 88 (a1 / 100))) + (min r1 r3)) + 1) (h4 90 ((24 * (h 88 (a1 / 100))) + (min r1 r3))))))) : aRun mX10_swapsMove 1 [aR 85, aI a1] h Q := by
  refine aRun.of pn_10 rfl (Nat.le_of_ble_eq_true rfl) ?_
  show AW mX10_swapsMove 1 0 [some (aR 85), some (aI a1), none, none] [] h Q
  refine AW.iload_n (pc := 0) dX10_swapsMove_0 rfl ?_
  refine AW.bipush (pc := 1) dX10_swapsMove_1 rfl ⟨by decide, by decide⟩ ?_
  refine AW.idiv (pc := 3) dX10_swapsMove_3 (H.1) (by decide) ?_
  refine AW.istore_n (pc := 4) dX10_swapsMove_4 (by decide) rfl ?_
  refine AW.iload_n (pc := 5) dX10_swapsMove_5 rfl ?_
  refine AW.bipush (pc := 6) dX10_swapsMove_6 rfl ⟨by decide, by decide⟩ ?_
  refine AW.irem (pc := 8) dX10_swapsMove_8 (H.1) (by decide) ?_
  refine AW.istore_n (pc := 9) dX10_swapsMove_9 (by decide) rfl ?_
  refine AW.aload_n (pc := 10) dX10_swapsMove_10 rfl ?_
  refine AW.aload_n (pc := 11) dX10_swapsMove_11 rfl ?_
  refine AW.getr (k := 4) (pc := 12) dX10_swapsMove_12 ac_10 sh_85 rfl (by decide) fl_10_16 ?_
  refine AW.iload_n (pc := 15) dX10_swapsMove_15 rfl ?_
  refine AW.iald (pc := 16) dX10_swapsMove_16 sh_88 (H.2.1) (v := (h 88 (a1 / 100))) rfl ?_
  refine AW.aload_n (pc := 17) dX10_swapsMove_17 rfl ?_
  refine AW.iload_n (pc := 18) dX10_swapsMove_18 rfl ?_
  refine AW.callVi (M' := mX10_placeOf) (F' := 0) (as := [aI (a1 / 100)]) (pc := 19) dX10_swapsMove_19 (by decide) kX10_placeOf ml_10_177 ob_85 rfl npX10_placeOf (Nat.le_of_ble_eq_true rfl) (aRun.mono (fun r1 h2 H_1 => ?_) H.2.2)
  refine AW.aload_n (pc := 22) dX10_swapsMove_22 rfl ?_
  refine AW.iload_n (pc := 23) dX10_swapsMove_23 rfl ?_
  refine AW.callVi (M' := mX10_placeOf) (F' := 0) (as := [aI (a1 % 100)]) (pc := 24) dX10_swapsMove_24 (by decide) kX10_placeOf ml_10_177 ob_85 rfl npX10_placeOf (Nat.le_of_ble_eq_true rfl) (aRun.mono (fun r3 h4 H_2 => ?_) H_1)
  refine AW.mmin (pc := 27) dX10_swapsMove_27 (by decide) ml_10_263 (Nat.le_of_ble_eq_true rfl) ?_
  refine AW.callVv (M' := mX10_swaps) (F' := 0) (as := [aI (h 88 (a1 / 100)), aI (min r1 r3)]) (pc := 30) dX10_swapsMove_30 (by decide) kX10_swaps ml_10_184 ob_85 rfl npX10_swaps (Nat.le_of_ble_eq_true rfl) (p_X10_swaps (H_2.1) ?_)
  refine AW.vret (pc := 33) dX10_swapsMove_33 rfl ?_
  exact H_2.2
set_option maxRecDepth 100000 in
set_option maxHeartbeats 4000000 in
theorem e_X10_spanBehind {a1 : Int} {h : aH} {Q : aQ} (H : aRun mX10_swapsMove 1 [aR 85, aI a1] h (fun r1 h2 => aRun mX10_reckons 3 [aR 85] h2 (fun r3 h4 => aRun mX10_swapsMove 1 [aR 85, aI a1] h4 (fun r5 h6 => Q (if r3 = 0 then ((-4) : Int) else (h6 85 26)) h6)))) : aRun mX10_spanBehind 4 [aR 85, aI a1] h Q := by
  refine aRun.of pn_10 rfl (Nat.le_of_ble_eq_true rfl) ?_
  show AW mX10_spanBehind 4 0 [some (aR 85), some (aI a1), none] [] h Q
  refine AW.aload_n (pc := 0) dX10_spanBehind_0 rfl ?_
  refine AW.iload_n (pc := 1) dX10_spanBehind_1 rfl ?_
  refine AW.callVv (M' := mX10_swapsMove) (F' := 1) (as := [aI a1]) (pc := 2) dX10_spanBehind_2 (by decide) kX10_swapsMove ml_10_266 ob_85 rfl npX10_swapsMove (Nat.le_of_ble_eq_true rfl) (aRun.mono (fun r1 h2 H_1 => ?_) H)
  refine AW.aload_n (pc := 5) dX10_spanBehind_5 rfl ?_
  refine AW.callVi (M' := mX10_reckons) (F' := 3) (as := []) (pc := 6) dX10_spanBehind_6 (by decide) kX10_reckons ml_10_191 ob_85 rfl npX10_reckons (Nat.le_of_ble_eq_true rfl) (aRun.mono (fun r3 h4 H_2 => ?_) H_1)
  refine AW.istore_n (pc := 9) dX10_spanBehind_9 (by decide) rfl ?_
  refine AW.aload_n (pc := 10) dX10_spanBehind_10 rfl ?_
  refine AW.iload_n (pc := 11) dX10_spanBehind_11 rfl ?_
  refine AW.callVv (M' := mX10_swapsMove) (F' := 1) (as := [aI a1]) (pc := 12) dX10_spanBehind_12 (by decide) kX10_swapsMove ml_10_266 ob_85 rfl npX10_swapsMove (Nat.le_of_ble_eq_true rfl) (aRun.mono (fun r5 h6 H_3 => ?_) H_2)
  refine AW.iload_n (pc := 15) dX10_spanBehind_15 rfl ?_
  have K_4 : AW mX10_spanBehind 4 28 [some (aR 85), some (aI a1), some (aI r3)] [aI (if r3 = 0 then ((-4) : Int) else (h6 85 26))] h6 Q := by
    have H_5 := H_3
    refine AW.iret (pc := 28) dX10_spanBehind_28 rfl ?_
    exact H_5
  refine AW.if_eq (tgt := 26) (pc := 16) dX10_spanBehind_16 rfl (fun q => ?_) (fun q => ?_)
  · skip
    rw [if_pos q] at K_4
    refine AW.bipush (pc := 26) dX10_spanBehind_26 rfl ⟨by decide, by decide⟩ ?_
    exact K_4
  · skip
    rw [if_neg q] at K_4
    refine AW.aload_n (pc := 19) dX10_spanBehind_19 rfl ?_
    refine AW.geti' (k := 26) (j := 26) (pc := 20) dX10_spanBehind_20 ac_10 sh_85 rfl (by decide) fl_10_195 rfl (v := (h6 85 26)) rfl ?_
    refine AW.goto (tgt := 28) (pc := 23) dX10_spanBehind_23 rfl ?_
    exact K_4
set_option maxRecDepth 100000 in
set_option maxHeartbeats 4000000 in
theorem e_X10_tabuAt {a1 : Int} {h : aH} {Q : aQ} (H : AW mX10_tabuAt 0 2 [some (aR 85), some (aI a1), some (aI 0)] [] h Q) : aRun mX10_tabuAt 0 [aR 85, aI a1] h Q := by
  refine aRun.of pn_10 rfl (Nat.le_of_ble_eq_true rfl) ?_
  show AW mX10_tabuAt 0 0 [some (aR 85), some (aI a1), none] [] h Q
  refine AW.iconst (pc := 0) dX10_tabuAt_0 ⟨by decide, by decide⟩ ?_
  refine AW.istore_n (pc := 1) dX10_tabuAt_1 (by decide) rfl ?_
  exact H
set_option maxRecDepth 100000 in
set_option maxHeartbeats 4000000 in
theorem s_X10_tabuAt_2  {l1 l2 : Int} {h : aH} {Q : aQ} (H : (((h 85 36) ≤ l2 → Q (-1) h) ∧ (¬ ((h 85 36) ≤ l2) → (0 ≤ l2 ∧ l2 < 10) ∧ (((h 107 l2) = l1 → Q l2 h) ∧ (¬ ((h 107 l2) = l1) → inR (l2 + 1) ∧ AW mX10_tabuAt 0 2 [some (aR 85), some (aI l1), some (aI (l2 + 1))] [] h Q))))) : AW mX10_tabuAt 0 2 [some (aR 85), some (aI l1), some (aI l2)] [] h Q := by
  refine AW.iload_n (pc := 2) dX10_tabuAt_2 rfl ?_
  refine AW.aload_n (pc := 3) dX10_tabuAt_3 rfl ?_
  refine AW.geti' (k := 36) (j := 36) (pc := 4) dX10_tabuAt_4 ac_10 sh_85 rfl (by decide) fl_10_278 rfl (v := (h 85 36)) rfl ?_
  refine AW.icmp_ge (tgt := 28) (pc := 7) dX10_tabuAt_7 rfl (fun q => ?_) (fun q => ?_)
  · skip
    have H_1 := H.1 q
    refine AW.iconst (pc := 28) dX10_tabuAt_28 ⟨by decide, by decide⟩ ?_
    refine AW.iret (pc := 29) dX10_tabuAt_29 rfl ?_
    exact H_1
  · skip
    have H_2 := H.2 q
    refine AW.aload_n (pc := 10) dX10_tabuAt_10 rfl ?_
    refine AW.getr (k := 35) (pc := 11) dX10_tabuAt_11 ac_10 sh_85 rfl (by decide) fl_10_78 ?_
    refine AW.iload_n (pc := 14) dX10_tabuAt_14 rfl ?_
    refine AW.iald (pc := 15) dX10_tabuAt_15 sh_107 (H_2.1) (v := (h 107 l2)) rfl ?_
    refine AW.iload_n (pc := 16) dX10_tabuAt_16 rfl ?_
    refine AW.icmp_ne (tgt := 22) (pc := 17) dX10_tabuAt_17 rfl (fun q => ?_) (fun q => ?_)
    · skip
      have H_3 := H_2.2.2 q
      refine AW.iinc (pc := 22) dX10_tabuAt_22 rfl (by decide) rfl (H_3.1) ?_
      refine AW.goto (tgt := 2) (pc := 25) dX10_tabuAt_25 rfl ?_
      exact H_3.2
    · have q := Decidable.not_not.mp q
      have H_4 := H_2.2.1 q
      refine AW.iload_n (pc := 20) dX10_tabuAt_20 rfl ?_
      refine AW.iret (pc := 21) dX10_tabuAt_21 rfl ?_
      exact H_4
set_option maxRecDepth 100000 in
set_option maxHeartbeats 4000000 in
theorem e_X10_brings {a1 a2 : Int} {h : aH} {Q : aQ} (H : ((a1 < 0 → Q (-1) h) ∧ (¬ (a1 < 0) → (((f_X10_in h a2 0 2) = 0 → Q (-1) h) ∧ (¬ ((f_X10_in h a2 0 2) = 0) → aRun mX10_wrong 4 [aR 85] h (fun r1 h2 => ((0 ≤ r1 → aRun mX10_findsMoves 5 [aR 85] h2 (fun r3 h4 => ((a1 < (h4 85 33) → ((a2 = 0 → (0 ≤ a1 ∧ a1 < 48) ∧ Q (h4 106 a1) h4) ∧ (¬ (a2 = 0) → ((a2 = 1 → (0 ≤ a1 ∧ a1 < 48) ∧ aRun mX10_spanBehind 4 [aR 85, aI (h4 105 a1)] h4 (fun r7 h8 => Q r7 h8)) ∧ (¬ (a2 = 1) → (0 ≤ a1 ∧ a1 < 48) ∧ aRun mX10_tabuAt 0 [aR 85, aI (h4 105 a1)] h4 (fun r5 h6 => Q (if 0 ≤ r5 then (1 : Int) else (0 : Int)) h6)))))) ∧ (¬ (a1 < (h4 85 33)) → Q (-2) h4)))) ∧ (¬ (0 ≤ r1) → Q r1 h2)))))))) : aRun mX10_brings 6 [aR 85, aI a1, aI a2] h Q := by
  refine aRun.of pn_10 rfl (Nat.le_of_ble_eq_true rfl) ?_
  show AW mX10_brings 6 0 [some (aR 85), some (aI a1), some (aI a2), none] [] h Q
  refine AW.iload_n (pc := 0) dX10_brings_0 rfl ?_
  refine AW.if_lt (tgt := 13) (pc := 1) dX10_brings_1 rfl (fun q => ?_) (fun q => ?_)
  · skip
    have H_1 := H.1 q
    refine AW.iconst (pc := 13) dX10_brings_13 ⟨by decide, by decide⟩ ?_
    refine AW.iret (pc := 14) dX10_brings_14 rfl ?_
    exact H_1
  · skip
    have H_2 := H.2 q
    refine AW.iload_n (pc := 4) dX10_brings_4 rfl ?_
    refine AW.iconst (pc := 5) dX10_brings_5 ⟨by decide, by decide⟩ ?_
    refine AW.iconst (pc := 6) dX10_brings_6 ⟨by decide, by decide⟩ ?_
    refine AW.callSi (M' := mX10_in) (F' := 0) (as := [aI a2, aI 0, aI 2]) (pc := 7) dX10_brings_7 (by decide) kX10_in ml_10_108 rfl npX10_in (Nat.le_of_ble_eq_true rfl) (p_X10_in  ?_)
    refine AW.if_ne (tgt := 15) (pc := 10) dX10_brings_10 rfl (fun q => ?_) (fun q => ?_)
    · skip
      have H_3 := H_2.2 q
      refine AW.aload_n (pc := 15) dX10_brings_15 rfl ?_
      refine AW.callVi (M' := mX10_wrong) (F' := 4) (as := []) (pc := 16) dX10_brings_16 (by decide) kX10_wrong ml_10_244 ob_85 rfl npX10_wrong (Nat.le_of_ble_eq_true rfl) (aRun.mono (fun r1 h2 H_4 => ?_) H_3)
      refine AW.istore_n (pc := 19) dX10_brings_19 (by decide) rfl ?_
      refine AW.iload_n (pc := 20) dX10_brings_20 rfl ?_
      refine AW.if_ge (tgt := 26) (pc := 21) dX10_brings_21 rfl (fun q => ?_) (fun q => ?_)
      · skip
        have H_5 := H_4.1 q
        refine AW.aload_n (pc := 26) dX10_brings_26 rfl ?_
        refine AW.callVv (M' := mX10_findsMoves) (F' := 5) (as := []) (pc := 27) dX10_brings_27 (by decide) kX10_findsMoves ml_10_269 ob_85 rfl npX10_findsMoves (Nat.le_of_ble_eq_true rfl) (aRun.mono (fun r3 h4 H_6 => ?_) H_5)
        refine AW.iload_n (pc := 30) dX10_brings_30 rfl ?_
        refine AW.aload_n (pc := 31) dX10_brings_31 rfl ?_
        refine AW.geti' (k := 33) (j := 33) (pc := 32) dX10_brings_32 ac_10 sh_85 rfl (by decide) fl_10_254 rfl (v := (h4 85 33)) rfl ?_
        refine AW.icmp_lt (tgt := 41) (pc := 35) dX10_brings_35 rfl (fun q => ?_) (fun q => ?_)
        · skip
          have H_7 := H_6.1 q
          refine AW.iload_n (pc := 41) dX10_brings_41 rfl ?_
          refine AW.if_ne (tgt := 54) (pc := 42) dX10_brings_42 rfl (fun q => ?_) (fun q => ?_)
          · skip
            have H_8 := H_7.2 q
            refine AW.iload_n (pc := 54) dX10_brings_54 rfl ?_
            refine AW.iconst (pc := 55) dX10_brings_55 ⟨by decide, by decide⟩ ?_
            refine AW.icmp_ne (tgt := 72) (pc := 56) dX10_brings_56 rfl (fun q => ?_) (fun q => ?_)
            · skip
              have H_9 := H_8.2 q
              refine AW.aload_n (pc := 72) dX10_brings_72 rfl ?_
              refine AW.aload_n (pc := 73) dX10_brings_73 rfl ?_
              refine AW.getr (k := 31) (pc := 74) dX10_brings_74 ac_10 sh_85 rfl (by decide) fl_10_68 ?_
              refine AW.iload_n (pc := 77) dX10_brings_77 rfl ?_
              refine AW.iald (pc := 78) dX10_brings_78 sh_105 (H_9.1) (v := (h4 105 a1)) rfl ?_
              refine AW.callVi (M' := mX10_tabuAt) (F' := 0) (as := [aI (h4 105 a1)]) (pc := 79) dX10_brings_79 (by decide) kX10_tabuAt ml_10_275 ob_85 rfl npX10_tabuAt (Nat.le_of_ble_eq_true rfl) (aRun.mono (fun r5 h6 H_10 => ?_) H_9.2)
              have K_11 : AW mX10_brings 6 90 [some (aR 85), some (aI a1), some (aI a2), some (aI r1)] [aI (if 0 ≤ r5 then (1 : Int) else (0 : Int))] h6 Q := by
                have H_12 := H_10
                refine AW.iret (pc := 90) dX10_brings_90 rfl ?_
                exact H_12
              refine AW.if_ge (tgt := 89) (pc := 82) dX10_brings_82 rfl (fun q => ?_) (fun q => ?_)
              · skip
                rw [if_pos q] at K_11
                refine AW.iconst (pc := 89) dX10_brings_89 ⟨by decide, by decide⟩ ?_
                exact K_11
              · skip
                rw [if_neg q] at K_11
                refine AW.iconst (pc := 85) dX10_brings_85 ⟨by decide, by decide⟩ ?_
                refine AW.goto (tgt := 90) (pc := 86) dX10_brings_86 rfl ?_
                exact K_11
            · have q := Decidable.not_not.mp q
              have H_16 := H_8.1 q
              refine AW.aload_n (pc := 59) dX10_brings_59 rfl ?_
              refine AW.aload_n (pc := 60) dX10_brings_60 rfl ?_
              refine AW.getr (k := 31) (pc := 61) dX10_brings_61 ac_10 sh_85 rfl (by decide) fl_10_68 ?_
              refine AW.iload_n (pc := 64) dX10_brings_64 rfl ?_
              refine AW.iald (pc := 65) dX10_brings_65 sh_105 (H_16.1) (v := (h4 105 a1)) rfl ?_
              refine AW.callVi (M' := mX10_spanBehind) (F' := 4) (as := [aI (h4 105 a1)]) (pc := 66) dX10_brings_66 (by decide) kX10_spanBehind ml_10_272 ob_85 rfl npX10_spanBehind (Nat.le_of_ble_eq_true rfl) (aRun.mono (fun r7 h8 H_17 => ?_) H_16.2)
              refine AW.goto (tgt := 90) (pc := 69) dX10_brings_69 rfl ?_
              refine AW.iret (pc := 90) dX10_brings_90 rfl ?_
              exact H_17
          · have q := Decidable.not_not.mp q
            have H_18 := H_7.1 q
            refine AW.aload_n (pc := 45) dX10_brings_45 rfl ?_
            refine AW.getr (k := 32) (pc := 46) dX10_brings_46 ac_10 sh_85 rfl (by decide) fl_10_71 ?_
            refine AW.iload_n (pc := 49) dX10_brings_49 rfl ?_
            refine AW.iald (pc := 50) dX10_brings_50 sh_106 (H_18.1) (v := (h4 106 a1)) rfl ?_
            refine AW.goto (tgt := 90) (pc := 51) dX10_brings_51 rfl ?_
            refine AW.iret (pc := 90) dX10_brings_90 rfl ?_
            exact H_18.2
        · skip
          have H_19 := H_6.2 q
          refine AW.bipush (pc := 38) dX10_brings_38 rfl ⟨by decide, by decide⟩ ?_
          refine AW.iret (pc := 40) dX10_brings_40 rfl ?_
          exact H_19
      · skip
        have H_20 := H_4.2 q
        refine AW.iload_n (pc := 24) dX10_brings_24 rfl ?_
        refine AW.iret (pc := 25) dX10_brings_25 rfl ?_
        exact H_20
    · have q := Decidable.not_not.mp q
      have H_21 := H_2.1 q
      refine AW.iconst (pc := 13) dX10_brings_13 ⟨by decide, by decide⟩ ?_
      refine AW.iret (pc := 14) dX10_brings_14 rfl ?_
      exact H_21
set_option maxRecDepth 100000 in
set_option maxHeartbeats 4000000 in
theorem e_X10_byteAt {a1 a2 : Int} {h : aH} {Q : aQ} (H : ((a2 = (h 85 26) → Q 10 h) ∧ (¬ (a2 = (h 85 26)) → AW mX10_byteAt 1 13 [some (aR 85), some (aI a1), some (aI a2), some (aI 0), none] [] h Q))) : aRun mX10_byteAt 1 [aR 85, aI a1, aI a2] h Q := by
  refine aRun.of pn_10 rfl (Nat.le_of_ble_eq_true rfl) ?_
  show AW mX10_byteAt 1 0 [some (aR 85), some (aI a1), some (aI a2), none, none] [] h Q
  refine AW.iload_n (pc := 0) dX10_byteAt_0 rfl ?_
  refine AW.aload_n (pc := 1) dX10_byteAt_1 rfl ?_
  refine AW.geti' (k := 26) (j := 26) (pc := 2) dX10_byteAt_2 ac_10 sh_85 rfl (by decide) fl_10_195 rfl (v := (h 85 26)) rfl ?_
  refine AW.icmp_ne (tgt := 11) (pc := 5) dX10_byteAt_5 rfl (fun q => ?_) (fun q => ?_)
  · skip
    have H_1 := H.2 q
    refine AW.iconst (pc := 11) dX10_byteAt_11 ⟨by decide, by decide⟩ ?_
    refine AW.istore_n (pc := 12) dX10_byteAt_12 (by decide) rfl ?_
    exact H_1
  · have q := Decidable.not_not.mp q
    have H_2 := H.1 q
    refine AW.bipush (pc := 8) dX10_byteAt_8 rfl ⟨by decide, by decide⟩ ?_
    refine AW.iret (pc := 10) dX10_byteAt_10 rfl ?_
    exact H_2
set_option maxRecDepth 100000 in
set_option maxHeartbeats 4000000 in
theorem s_X10_byteAt_13  {l1 l2 l3 : Int} {h : aH} {Q : aQ} (H : (0 ≤ l1 ∧ l1 < 5) ∧ (((h 91 l1) ≤ l3 → Q 46 h) ∧ (¬ ((h 91 l1) ≤ l3) → inR (24 * l1) ∧ inR ((24 * l1) + l3) ∧ (0 ≤ ((24 * l1) + l3) ∧ ((24 * l1) + l3) < 120) ∧ (0 ≤ (h 90 ((24 * l1) + l3)) ∧ (h 90 ((24 * l1) + l3)) < 24) ∧ o_X10_endOf h (h 90 ((24 * l1) + l3)) ∧ inR ((f_X10_endOf h (h 90 ((24 * l1) + l3))) - 1) ∧ (((f_X10_in h l2 (h 99 (h 90 ((24 * l1) + l3))) ((f_X10_endOf h (h 90 ((24 * l1) + l3))) - 1)) = 0 → inR (l3 + 1) ∧ AW mX10_byteAt 1 13 [some (aR 85), some (aI l1), some (aI l2), some (aI (l3 + 1)), none] [] h Q) ∧ (¬ ((f_X10_in h l2 (h 99 (h 90 ((24 * l1) + l3))) ((f_X10_endOf h (h 90 ((24 * l1) + l3))) - 1)) = 0) → inR (48 + (h 86 (h 90 ((24 * l1) + l3)))) ∧ Q (48 + (h 86 (h 90 ((24 * l1) + l3)))) h))))) : AW mX10_byteAt 1 13 [some (aR 85), some (aI l1), some (aI l2), some (aI l3), none] [] h Q := by
  refine AW.iload_n (pc := 13) dX10_byteAt_13 rfl ?_
  refine AW.aload_n (pc := 14) dX10_byteAt_14 rfl ?_
  refine AW.getr (k := 7) (pc := 15) dX10_byteAt_15 ac_10 sh_85 rfl (by decide) fl_10_25 ?_
  refine AW.iload_n (pc := 18) dX10_byteAt_18 rfl ?_
  refine AW.iald (pc := 19) dX10_byteAt_19 sh_91 (H.1) (v := (h 91 l1)) rfl ?_
  refine AW.icmp_ge (tgt := 75) (pc := 20) dX10_byteAt_20 rfl (fun q => ?_) (fun q => ?_)
  · skip
    have H_1 := H.2.1 q
    refine AW.bipush (pc := 75) dX10_byteAt_75 rfl ⟨by decide, by decide⟩ ?_
    refine AW.iret (pc := 77) dX10_byteAt_77 rfl ?_
    exact H_1
  · skip
    have H_2 := H.2.2 q
    refine AW.aload_n (pc := 23) dX10_byteAt_23 rfl ?_
    refine AW.getr (k := 6) (pc := 24) dX10_byteAt_24 ac_10 sh_85 rfl (by decide) fl_10_22 ?_
    refine AW.bipush (pc := 27) dX10_byteAt_27 rfl ⟨by decide, by decide⟩ ?_
    refine AW.iload_n (pc := 29) dX10_byteAt_29 rfl ?_
    refine AW.imul (pc := 30) dX10_byteAt_30 (H_2.1) ?_
    refine AW.iload_n (pc := 31) dX10_byteAt_31 rfl ?_
    refine AW.iadd (pc := 32) dX10_byteAt_32 (H_2.2.1) ?_
    refine AW.iald (pc := 33) dX10_byteAt_33 sh_90 (H_2.2.2.1) (v := (h 90 ((24 * l1) + l3))) rfl ?_
    refine AW.istore (pc := 34) dX10_byteAt_34 (by decide) rfl ?_
    refine AW.iload_n (pc := 36) dX10_byteAt_36 rfl ?_
    refine AW.aload_n (pc := 37) dX10_byteAt_37 rfl ?_
    refine AW.getr (k := 22) (pc := 38) dX10_byteAt_38 ac_10 sh_85 rfl (by decide) fl_10_49 ?_
    refine AW.iload (pc := 41) dX10_byteAt_41 rfl ?_
    refine AW.iald (pc := 43) dX10_byteAt_43 sh_99 (H_2.2.2.2.1) (v := (h 99 (h 90 ((24 * l1) + l3)))) rfl ?_
    refine AW.aload_n (pc := 44) dX10_byteAt_44 rfl ?_
    refine AW.iload (pc := 45) dX10_byteAt_45 rfl ?_
    refine AW.callVi (M' := mX10_endOf) (F' := 0) (as := [aI (h 90 ((24 * l1) + l3))]) (pc := 47) dX10_byteAt_47 (by decide) kX10_endOf ml_10_211 ob_85 rfl npX10_endOf (Nat.le_of_ble_eq_true rfl) (p_X10_endOf (H_2.2.2.2.2.1) ?_)
    refine AW.iconst (pc := 50) dX10_byteAt_50 ⟨by decide, by decide⟩ ?_
    refine AW.isub (pc := 51) dX10_byteAt_51 (H_2.2.2.2.2.2.1) ?_
    refine AW.callSi (M' := mX10_in) (F' := 0) (as := [aI l2, aI (h 99 (h 90 ((24 * l1) + l3))), aI ((f_X10_endOf h (h 90 ((24 * l1) + l3))) - 1)]) (pc := 52) dX10_byteAt_52 (by decide) kX10_in ml_10_108 rfl npX10_in (Nat.le_of_ble_eq_true rfl) (p_X10_in  ?_)
    refine AW.if_eq (tgt := 69) (pc := 55) dX10_byteAt_55 rfl (fun q => ?_) (fun q => ?_)
    · skip
      have H_3 := H_2.2.2.2.2.2.2.1 q
      refine AW.iinc (pc := 69) dX10_byteAt_69 rfl (by decide) rfl (H_3.1) ?_
      refine AW.goto (tgt := 13) (pc := 72) dX10_byteAt_72 rfl ?_
      refine AW.mask [true, true, true, true, false] ?_
      exact H_3.2
    · skip
      have H_4 := H_2.2.2.2.2.2.2.2 q
      refine AW.bipush (pc := 58) dX10_byteAt_58 rfl ⟨by decide, by decide⟩ ?_
      refine AW.aload_n (pc := 60) dX10_byteAt_60 rfl ?_
      refine AW.getr (k := 2) (pc := 61) dX10_byteAt_61 ac_10 sh_85 rfl (by decide) fl_10_9 ?_
      refine AW.iload (pc := 64) dX10_byteAt_64 rfl ?_
      refine AW.iald (pc := 66) dX10_byteAt_66 sh_86 (H_2.2.2.2.1) (v := (h 86 (h 90 ((24 * l1) + l3)))) rfl ?_
      refine AW.iadd (pc := 67) dX10_byteAt_67 (H_4.1) ?_
      refine AW.iret (pc := 68) dX10_byteAt_68 rfl ?_
      exact H_4.2
set_option maxRecDepth 100000 in
set_option maxHeartbeats 4000000 in
theorem e_X10_chart {a1 : Int} {h : aH} {Q : aQ} (H : (((-1) ≤ a1 → aRun mX10_wrong 4 [aR 85] h (fun r1 h2 => ((0 ≤ r1 → inR ((h2 85 26) + 1) ∧ inR (5 * ((h2 85 26) + 1)) ∧ ((0 ≤ a1 → (((5 * ((h2 85 26) + 1)) ≤ a1 → Q (-2) h2) ∧ (¬ ((5 * ((h2 85 26) + 1)) ≤ a1) → 0 ≤ a1 ∧ 0 < ((h2 85 26) + 1) ∧ aRun mX10_byteAt 1 [aR 85, aI (a1 / ((h2 85 26) + 1)), aI (a1 % ((h2 85 26) + 1))] h2 (fun r3 h4 => Q r3 h4)))) ∧ (¬ (0 ≤ a1) → Q (5 * ((h2 85 26) + 1)) h2))) ∧ (¬ (0 ≤ r1) → Q r1 h2)))) ∧ (¬ ((-1) ≤ a1) → Q (-1) h))) : aRun mX10_chart 5 [aR 85, aI a1] h Q := by
  refine aRun.of pn_10 rfl (Nat.le_of_ble_eq_true rfl) ?_
  show AW mX10_chart 5 0 [some (aR 85), some (aI a1), none, none] [] h Q
  refine AW.iload_n (pc := 0) dX10_chart_0 rfl ?_
  refine AW.iconst (pc := 1) dX10_chart_1 ⟨by decide, by decide⟩ ?_
  refine AW.icmp_ge (tgt := 7) (pc := 2) dX10_chart_2 rfl (fun q => ?_) (fun q => ?_)
  · skip
    have H_1 := H.1 q
    refine AW.aload_n (pc := 7) dX10_chart_7 rfl ?_
    refine AW.callVi (M' := mX10_wrong) (F' := 4) (as := []) (pc := 8) dX10_chart_8 (by decide) kX10_wrong ml_10_244 ob_85 rfl npX10_wrong (Nat.le_of_ble_eq_true rfl) (aRun.mono (fun r1 h2 H_2 => ?_) H_1)
    refine AW.istore_n (pc := 11) dX10_chart_11 (by decide) rfl ?_
    refine AW.iload_n (pc := 12) dX10_chart_12 rfl ?_
    refine AW.if_ge (tgt := 18) (pc := 13) dX10_chart_13 rfl (fun q => ?_) (fun q => ?_)
    · skip
      have H_3 := H_2.1 q
      refine AW.iconst (pc := 18) dX10_chart_18 ⟨by decide, by decide⟩ ?_
      refine AW.aload_n (pc := 19) dX10_chart_19 rfl ?_
      refine AW.geti' (k := 26) (j := 26) (pc := 20) dX10_chart_20 ac_10 sh_85 rfl (by decide) fl_10_195 rfl (v := (h2 85 26)) rfl ?_
      refine AW.iconst (pc := 23) dX10_chart_23 ⟨by decide, by decide⟩ ?_
      refine AW.iadd (pc := 24) dX10_chart_24 (H_3.1) ?_
      refine AW.imul (pc := 25) dX10_chart_25 (H_3.2.1) ?_
      refine AW.istore_n (pc := 26) dX10_chart_26 (by decide) rfl ?_
      refine AW.iload_n (pc := 27) dX10_chart_27 rfl ?_
      refine AW.if_ge (tgt := 35) (pc := 28) dX10_chart_28 rfl (fun q => ?_) (fun q => ?_)
      · skip
        have H_4 := H_3.2.2.1 q
        refine AW.iload_n (pc := 35) dX10_chart_35 rfl ?_
        refine AW.iload_n (pc := 36) dX10_chart_36 rfl ?_
        refine AW.icmp_ge (tgt := 63) (pc := 37) dX10_chart_37 rfl (fun q => ?_) (fun q => ?_)
        · skip
          have H_5 := H_4.1 q
          refine AW.bipush (pc := 63) dX10_chart_63 rfl ⟨by decide, by decide⟩ ?_
          refine AW.iret (pc := 65) dX10_chart_65 rfl ?_
          exact H_5
        · skip
          have H_6 := H_4.2 q
          refine AW.aload_n (pc := 40) dX10_chart_40 rfl ?_
          refine AW.iload_n (pc := 41) dX10_chart_41 rfl ?_
          refine AW.aload_n (pc := 42) dX10_chart_42 rfl ?_
          refine AW.geti' (k := 26) (j := 26) (pc := 43) dX10_chart_43 ac_10 sh_85 rfl (by decide) fl_10_195 rfl (v := (h2 85 26)) rfl ?_
          refine AW.iconst (pc := 46) dX10_chart_46 ⟨by decide, by decide⟩ ?_
          refine AW.iadd (pc := 47) dX10_chart_47 (H_3.1) ?_
          refine AW.idiv (pc := 48) dX10_chart_48 (H_6.1) (H_6.2.1) ?_
          refine AW.iload_n (pc := 49) dX10_chart_49 rfl ?_
          refine AW.aload_n (pc := 50) dX10_chart_50 rfl ?_
          refine AW.geti' (k := 26) (j := 26) (pc := 51) dX10_chart_51 ac_10 sh_85 rfl (by decide) fl_10_195 rfl (v := (h2 85 26)) rfl ?_
          refine AW.iconst (pc := 54) dX10_chart_54 ⟨by decide, by decide⟩ ?_
          refine AW.iadd (pc := 55) dX10_chart_55 (H_3.1) ?_
          refine AW.irem (pc := 56) dX10_chart_56 (H_6.1) (H_6.2.1) ?_
          refine AW.callVi (M' := mX10_byteAt) (F' := 1) (as := [aI (a1 / ((h2 85 26) + 1)), aI (a1 % ((h2 85 26) + 1))]) (pc := 57) dX10_chart_57 (by decide) kX10_byteAt ml_10_371 ob_85 rfl npX10_byteAt (Nat.le_of_ble_eq_true rfl) (aRun.mono (fun r3 h4 H_7 => ?_) H_6.2.2)
          refine AW.goto (tgt := 65) (pc := 60) dX10_chart_60 rfl ?_
          refine AW.iret (pc := 65) dX10_chart_65 rfl ?_
          exact H_7
      · skip
        have H_8 := H_3.2.2.2 q
        refine AW.iload_n (pc := 31) dX10_chart_31 rfl ?_
        refine AW.goto (tgt := 65) (pc := 32) dX10_chart_32 rfl ?_
        refine AW.iret (pc := 65) dX10_chart_65 rfl ?_
        exact H_8
    · skip
      have H_9 := H_2.2 q
      refine AW.iload_n (pc := 16) dX10_chart_16 rfl ?_
      refine AW.iret (pc := 17) dX10_chart_17 rfl ?_
      exact H_9
  · skip
    have H_10 := H.2 q
    refine AW.iconst (pc := 5) dX10_chart_5 ⟨by decide, by decide⟩ ?_
    refine AW.iret (pc := 6) dX10_chart_6 rfl ?_
    exact H_10
set_option maxRecDepth 100000 in
set_option maxHeartbeats 4000000 in
theorem e_X10_isLongest {a1 : Int} {h : aH} {Q : aQ} (H : AW mX10_isLongest 1 4 [some (aR 85), some (aI a1), some (aI 1), some (aI 0)] [] h Q) : aRun mX10_isLongest 1 [aR 85, aI a1] h Q := by
  refine aRun.of pn_10 rfl (Nat.le_of_ble_eq_true rfl) ?_
  show AW mX10_isLongest 1 0 [some (aR 85), some (aI a1), none, none] [] h Q
  refine AW.iconst (pc := 0) dX10_isLongest_0 ⟨by decide, by decide⟩ ?_
  refine AW.istore_n (pc := 1) dX10_isLongest_1 (by decide) rfl ?_
  refine AW.iconst (pc := 2) dX10_isLongest_2 ⟨by decide, by decide⟩ ?_
  refine AW.istore_n (pc := 3) dX10_isLongest_3 (by decide) rfl ?_
  exact H
set_option maxRecDepth 100000 in
set_option maxHeartbeats 4000000 in
theorem s_X10_isLongest_4  {l1 l2 l3 : Int} {h : aH} {Q : aQ} (H : (((h 85 33) ≤ l3 → (l2 = 0 ∨ l2 = 1) ∧ Q l2 h) ∧ (¬ ((h 85 33) ≤ l3) → ((l2 = 0 → inR (l3 + 1) ∧ AW mX10_isLongest 1 4 [some (aR 85), some (aI l1), some (aI 0), some (aI (l3 + 1))] [] h Q) ∧ (¬ (l2 = 0) → (0 ≤ l3 ∧ l3 < 48) ∧ aRun mX10_tabuAt 0 [aR 85, aI (h 105 l3)] h (fun r1 h2 => (0 ≤ l1 ∧ l1 < 48) ∧ aRun mX10_tabuAt 0 [aR 85, aI (h2 105 l1)] h2 (fun r3 h4 => inR (l3 + 1) ∧ AW mX10_isLongest 1 4 [some (aR 85), some (aI l1), some (aI (if r1 < r3 then (0 : Int) else (1 : Int))), some (aI (l3 + 1))] [] h4 Q))))))) : AW mX10_isLongest 1 4 [some (aR 85), some (aI l1), some (aI l2), some (aI l3)] [] h Q := by
  refine AW.iload_n (pc := 4) dX10_isLongest_4 rfl ?_
  refine AW.aload_n (pc := 5) dX10_isLongest_5 rfl ?_
  refine AW.geti' (k := 33) (j := 33) (pc := 6) dX10_isLongest_6 ac_10 sh_85 rfl (by decide) fl_10_254 rfl (v := (h 85 33)) rfl ?_
  refine AW.icmp_ge (tgt := 51) (pc := 9) dX10_isLongest_9 rfl (fun q => ?_) (fun q => ?_)
  · skip
    have H_1 := H.1 q
    refine AW.iload_n (pc := 51) dX10_isLongest_51 rfl ?_
    refine AW.zret (pc := 52) dX10_isLongest_52 rfl (H_1.1) ?_
    exact H_1.2
  · skip
    have H_2 := H.2 q
    refine AW.iload_n (pc := 12) dX10_isLongest_12 rfl ?_
    refine AW.if_eq (tgt := 43) (pc := 13) dX10_isLongest_13 rfl (fun q => ?_) (fun q => ?_)
    · skip
      have H_3 := H_2.1 q
      refine AW.iconst (pc := 43) dX10_isLongest_43 ⟨by decide, by decide⟩ ?_
      refine AW.istore_n (pc := 44) dX10_isLongest_44 (by decide) rfl ?_
      refine AW.iinc (pc := 45) dX10_isLongest_45 rfl (by decide) rfl (H_3.1) ?_
      refine AW.goto (tgt := 4) (pc := 48) dX10_isLongest_48 rfl ?_
      exact H_3.2
    · skip
      have H_4 := H_2.2 q
      refine AW.aload_n (pc := 16) dX10_isLongest_16 rfl ?_
      refine AW.aload_n (pc := 17) dX10_isLongest_17 rfl ?_
      refine AW.getr (k := 31) (pc := 18) dX10_isLongest_18 ac_10 sh_85 rfl (by decide) fl_10_68 ?_
      refine AW.iload_n (pc := 21) dX10_isLongest_21 rfl ?_
      refine AW.iald (pc := 22) dX10_isLongest_22 sh_105 (H_4.1) (v := (h 105 l3)) rfl ?_
      refine AW.callVi (M' := mX10_tabuAt) (F' := 0) (as := [aI (h 105 l3)]) (pc := 23) dX10_isLongest_23 (by decide) kX10_tabuAt ml_10_275 ob_85 rfl npX10_tabuAt (Nat.le_of_ble_eq_true rfl) (aRun.mono (fun r1 h2 H_5 => ?_) H_4.2)
      refine AW.aload_n (pc := 26) dX10_isLongest_26 rfl ?_
      refine AW.aload_n (pc := 27) dX10_isLongest_27 rfl ?_
      refine AW.getr (k := 31) (pc := 28) dX10_isLongest_28 ac_10 sh_85 rfl (by decide) fl_10_68 ?_
      refine AW.iload_n (pc := 31) dX10_isLongest_31 rfl ?_
      refine AW.iald (pc := 32) dX10_isLongest_32 sh_105 (H_5.1) (v := (h2 105 l1)) rfl ?_
      refine AW.callVi (M' := mX10_tabuAt) (F' := 0) (as := [aI (h2 105 l1)]) (pc := 33) dX10_isLongest_33 (by decide) kX10_tabuAt ml_10_275 ob_85 rfl npX10_tabuAt (Nat.le_of_ble_eq_true rfl) (aRun.mono (fun r3 h4 H_6 => ?_) H_5.2)
      have K_7 : AW mX10_isLongest 1 44 [some (aR 85), some (aI l1), some (aI l2), some (aI l3)] [aI (if r1 < r3 then (0 : Int) else (1 : Int))] h4 Q := by
        have H_8 := H_6
        refine AW.istore_n (pc := 44) dX10_isLongest_44 (by decide) rfl ?_
        refine AW.iinc (pc := 45) dX10_isLongest_45 rfl (by decide) rfl (H_8.1) ?_
        refine AW.goto (tgt := 4) (pc := 48) dX10_isLongest_48 rfl ?_
        exact H_8.2
      refine AW.icmp_lt (tgt := 43) (pc := 36) dX10_isLongest_36 rfl (fun q => ?_) (fun q => ?_)
      · skip
        rw [if_pos q] at K_7
        refine AW.iconst (pc := 43) dX10_isLongest_43 ⟨by decide, by decide⟩ ?_
        exact K_7
      · skip
        rw [if_neg q] at K_7
        refine AW.iconst (pc := 39) dX10_isLongest_39 ⟨by decide, by decide⟩ ?_
        refine AW.goto (tgt := 44) (pc := 40) dX10_isLongest_40 rfl ?_
        exact K_7
