set_option maxRecDepth 100000 in
set_option maxHeartbeats 4000000 in
theorem e_X10_chosen  {h : aH} {Q : aQ} (H : AW mX10_chosen 5 4 [some (aR 85), some (aI (-1)), some (aI 0), none] [] h Q) : aRun mX10_chosen 5 [aR 85] h Q := by
  refine aRun.of pn_10 rfl (Nat.le_of_ble_eq_true rfl) ?_
  show AW mX10_chosen 5 0 [some (aR 85), none, none, none] [] h Q
  refine AW.iconst (pc := 0) dX10_chosen_0 ⟨by decide, by decide⟩ ?_
  refine AW.istore_n (pc := 1) dX10_chosen_1 (by decide) rfl ?_
  refine AW.iconst (pc := 2) dX10_chosen_2 ⟨by decide, by decide⟩ ?_
  refine AW.istore_n (pc := 3) dX10_chosen_3 (by decide) rfl ?_
  exact H
set_option maxRecDepth 100000 in
set_option maxHeartbeats 4000000 in
theorem s_X10_chosen_4  {l1 l2 : Int} {h : aH} {Q : aQ} (H : (((h 85 33) ≤ l2 → AW mX10_chosen 5 93 [some (aR 85), some (aI l1), some (aI 0), none] [] h Q) ∧ (¬ ((h 85 33) ≤ l2) → (0 ≤ l2 ∧ l2 < 48) ∧ aRun mX10_spanBehind 4 [aR 85, aI (h 105 l2)] h (fun r1 h2 => aRun mX10_tabuAt 0 [aR 85, aI (h2 105 l2)] (a_up h2 109 l2 r1) (fun r3 h4 => (((if r3 < 0 then (1 : Int) else (if (h4 85 38) ≤ (h4 109 l2) then (0 : Int) else (1 : Int))) = 0 → inR (l2 + 1) ∧ AW mX10_chosen 5 4 [some (aR 85), some (aI l1), some (aI (l2 + 1)), none] [] h4 Q) ∧ (¬ ((if r3 < 0 then (1 : Int) else (if (h4 85 38) ≤ (h4 109 l2) then (0 : Int) else (1 : Int))) = 0) → ((l1 < 0 → inR (l2 + 1) ∧ AW mX10_chosen 5 4 [some (aR 85), some (aI l2), some (aI (l2 + 1)), none] [] h4 Q) ∧ (¬ (l1 < 0) → (0 ≤ l1 ∧ l1 < 48) ∧ (((h4 109 l1) ≤ (h4 109 l2) → inR (l2 + 1) ∧ AW mX10_chosen 5 4 [some (aR 85), some (aI l1), some (aI (l2 + 1)), none] [] h4 Q) ∧ (¬ ((h4 109 l1) ≤ (h4 109 l2)) → inR (l2 + 1) ∧ AW mX10_chosen 5 4 [some (aR 85), some (aI l2), some (aI (l2 + 1)), none] [] h4 Q))))))))))) : AW mX10_chosen 5 4 [some (aR 85), some (aI l1), some (aI l2), none] [] h Q := by
  refine AW.iload_n (pc := 4) dX10_chosen_4 rfl ?_
  refine AW.aload_n (pc := 5) dX10_chosen_5 rfl ?_
  refine AW.geti' (k := 33) (j := 33) (pc := 6) dX10_chosen_6 ac_10 sh_85 rfl (by decide) fl_10_254 rfl (v := (h 85 33)) rfl ?_
  refine AW.icmp_ge (tgt := 91) (pc := 9) dX10_chosen_9 rfl (fun q => ?_) (fun q => ?_)
  · skip
    have H_1 := H.1 q
    refine AW.iconst (pc := 91) dX10_chosen_91 ⟨by decide, by decide⟩ ?_
    refine AW.istore_n (pc := 92) dX10_chosen_92 (by decide) rfl ?_
    exact H_1
  · skip
    have H_2 := H.2 q
    refine AW.aload_n (pc := 12) dX10_chosen_12 rfl ?_
    refine AW.getr (k := 41) (pc := 13) dX10_chosen_13 ac_10 sh_85 rfl (by decide) fl_10_84 ?_
    refine AW.iload_n (pc := 16) dX10_chosen_16 rfl ?_
    refine AW.aload_n (pc := 17) dX10_chosen_17 rfl ?_
    refine AW.aload_n (pc := 18) dX10_chosen_18 rfl ?_
    refine AW.getr (k := 31) (pc := 19) dX10_chosen_19 ac_10 sh_85 rfl (by decide) fl_10_68 ?_
    refine AW.iload_n (pc := 22) dX10_chosen_22 rfl ?_
    refine AW.iald (pc := 23) dX10_chosen_23 sh_105 (H_2.1) (v := (h 105 l2)) rfl ?_
    refine AW.callVi (M' := mX10_spanBehind) (F' := 4) (as := [aI (h 105 l2)]) (pc := 24) dX10_chosen_24 (by decide) kX10_spanBehind ml_10_272 ob_85 rfl npX10_spanBehind (Nat.le_of_ble_eq_true rfl) (aRun.mono (fun r1 h2 H_3 => ?_) H_2.2)
    refine AW.iast (pc := 27) dX10_chosen_27 sh_109 (H_2.1) ?_
    refine AW.aload_n (pc := 28) dX10_chosen_28 rfl ?_
    refine AW.aload_n (pc := 29) dX10_chosen_29 rfl ?_
    refine AW.getr (k := 31) (pc := 30) dX10_chosen_30 ac_10 sh_85 rfl (by decide) fl_10_68 ?_
    refine AW.iload_n (pc := 33) dX10_chosen_33 rfl ?_
    refine AW.iald (pc := 34) dX10_chosen_34 sh_105 (H_2.1) (v := (h2 105 l2)) (by rw [a_up_ne (by decide)]) ?_
    refine AW.callVi (M' := mX10_tabuAt) (F' := 0) (as := [aI (h2 105 l2)]) (pc := 35) dX10_chosen_35 (by decide) kX10_tabuAt ml_10_275 ob_85 rfl npX10_tabuAt (Nat.le_of_ble_eq_true rfl) (aRun.mono (fun r3 h4 H_4 => ?_) H_3)
    have K_5 : AW mX10_chosen 5 59 [some (aR 85), some (aI l1), some (aI l2), none] [aI (if r3 < 0 then (1 : Int) else (if (h4 85 38) ≤ (h4 109 l2) then (0 : Int) else (1 : Int)))] h4 Q := by
      have H_6 := H_4
      refine AW.istore_n (pc := 59) dX10_chosen_59 (by decide) rfl ?_
      refine AW.iload_n (pc := 60) dX10_chosen_60 rfl ?_
      refine AW.if_eq (tgt := 85) (pc := 61) dX10_chosen_61 rfl (fun q => ?_) (fun q => ?_)
      · skip
        have H_8 := H_6.1 q
        refine AW.iinc (pc := 85) dX10_chosen_85 rfl (by decide) rfl (H_8.1) ?_
        refine AW.goto (tgt := 4) (pc := 88) dX10_chosen_88 rfl ?_
        refine AW.mask [true, true, true, false] ?_
        exact H_8.2
      · skip
        have H_9 := H_6.2 q
        refine AW.iload_n (pc := 64) dX10_chosen_64 rfl ?_
        refine AW.if_lt (tgt := 83) (pc := 65) dX10_chosen_65 rfl (fun q => ?_) (fun q => ?_)
        · skip
          have H_10 := H_9.1 q
          refine AW.iload_n (pc := 83) dX10_chosen_83 rfl ?_
          refine AW.istore_n (pc := 84) dX10_chosen_84 (by decide) rfl ?_
          refine AW.iinc (pc := 85) dX10_chosen_85 rfl (by decide) rfl (H_10.1) ?_
          refine AW.goto (tgt := 4) (pc := 88) dX10_chosen_88 rfl ?_
          refine AW.mask [true, true, true, false] ?_
          exact H_10.2
        · skip
          have H_11 := H_9.2 q
          refine AW.aload_n (pc := 68) dX10_chosen_68 rfl ?_
          refine AW.getr (k := 41) (pc := 69) dX10_chosen_69 ac_10 sh_85 rfl (by decide) fl_10_84 ?_
          refine AW.iload_n (pc := 72) dX10_chosen_72 rfl ?_
          refine AW.iald (pc := 73) dX10_chosen_73 sh_109 (H_2.1) (v := (h4 109 l2)) rfl ?_
          refine AW.aload_n (pc := 74) dX10_chosen_74 rfl ?_
          refine AW.getr (k := 41) (pc := 75) dX10_chosen_75 ac_10 sh_85 rfl (by decide) fl_10_84 ?_
          refine AW.iload_n (pc := 78) dX10_chosen_78 rfl ?_
          refine AW.iald (pc := 79) dX10_chosen_79 sh_109 (H_11.1) (v := (h4 109 l1)) rfl ?_
          refine AW.icmp_ge (tgt := 85) (pc := 80) dX10_chosen_80 rfl (fun q => ?_) (fun q => ?_)
          · skip
            have H_12 := H_11.2.1 q
            refine AW.iinc (pc := 85) dX10_chosen_85 rfl (by decide) rfl (H_12.1) ?_
            refine AW.goto (tgt := 4) (pc := 88) dX10_chosen_88 rfl ?_
            refine AW.mask [true, true, true, false] ?_
            exact H_12.2
          · skip
            have H_13 := H_11.2.2 q
            refine AW.iload_n (pc := 83) dX10_chosen_83 rfl ?_
            refine AW.istore_n (pc := 84) dX10_chosen_84 (by decide) rfl ?_
            refine AW.iinc (pc := 85) dX10_chosen_85 rfl (by decide) rfl (H_13.1) ?_
            refine AW.goto (tgt := 4) (pc := 88) dX10_chosen_88 rfl ?_
            refine AW.mask [true, true, true, false] ?_
            exact H_13.2
    refine AW.if_lt (tgt := 54) (pc := 38) dX10_chosen_38 rfl (fun q => ?_) (fun q => ?_)
    · skip
      rw [if_pos q] at K_5
      refine AW.iconst (pc := 54) dX10_chosen_54 ⟨by decide, by decide⟩ ?_
      refine AW.goto (tgt := 59) (pc := 55) dX10_chosen_55 rfl ?_
      exact K_5
    · skip
      rw [if_neg q] at K_5
      refine AW.aload_n (pc := 41) dX10_chosen_41 rfl ?_
      refine AW.getr (k := 41) (pc := 42) dX10_chosen_42 ac_10 sh_85 rfl (by decide) fl_10_84 ?_
      refine AW.iload_n (pc := 45) dX10_chosen_45 rfl ?_
      refine AW.iald (pc := 46) dX10_chosen_46 sh_109 (H_2.1) (v := (h4 109 l2)) rfl ?_
      refine AW.aload_n (pc := 47) dX10_chosen_47 rfl ?_
      refine AW.geti' (k := 38) (j := 38) (pc := 48) dX10_chosen_48 ac_10 sh_85 rfl (by decide) fl_10_287 rfl (v := (h4 85 38)) rfl ?_
      refine AW.icmp_ge (tgt := 58) (pc := 51) dX10_chosen_51 rfl (fun q => ?_) (fun q => ?_)
      · skip
        rw [if_pos q] at K_5
        refine AW.iconst (pc := 58) dX10_chosen_58 ⟨by decide, by decide⟩ ?_
        exact K_5
      · skip
        rw [if_neg q] at K_5
        refine AW.iconst (pc := 54) dX10_chosen_54 ⟨by decide, by decide⟩ ?_
        refine AW.goto (tgt := 59) (pc := 55) dX10_chosen_55 rfl ?_
        exact K_5
set_option maxRecDepth 100000 in
set_option maxHeartbeats 4000000 in
theorem s_X10_chosen_93  {l1 l2 : Int} {h : aH} {Q : aQ} (H : (((h 85 33) ≤ l2 → Q l1 h) ∧ (¬ ((h 85 33) ≤ l2) → ((0 ≤ l1 → Q l1 h) ∧ (¬ (0 ≤ l1) → aRun mX10_isLongest 1 [aR 85, aI l2] h (fun r1 h2 => inR (l2 + 1) ∧ AW mX10_chosen 5 93 [some (aR 85), some (aI (if r1 = 0 then l1 else l2)), some (aI (l2 + 1)), none] [] h2 Q)))))) : AW mX10_chosen 5 93 [some (aR 85), some (aI l1), some (aI l2), none] [] h Q := by
  refine AW.iload_n (pc := 93) dX10_chosen_93 rfl ?_
  refine AW.aload_n (pc := 94) dX10_chosen_94 rfl ?_
  refine AW.geti' (k := 33) (j := 33) (pc := 95) dX10_chosen_95 ac_10 sh_85 rfl (by decide) fl_10_254 rfl (v := (h 85 33)) rfl ?_
  refine AW.icmp_ge (tgt := 125) (pc := 98) dX10_chosen_98 rfl (fun q => ?_) (fun q => ?_)
  · skip
    have H_1 := H.1 q
    refine AW.iload_n (pc := 125) dX10_chosen_125 rfl ?_
    refine AW.iret (pc := 126) dX10_chosen_126 rfl ?_
    exact H_1
  · skip
    have H_2 := H.2 q
    refine AW.iload_n (pc := 101) dX10_chosen_101 rfl ?_
    refine AW.if_ge (tgt := 125) (pc := 102) dX10_chosen_102 rfl (fun q => ?_) (fun q => ?_)
    · skip
      have H_3 := H_2.1 q
      refine AW.iload_n (pc := 125) dX10_chosen_125 rfl ?_
      refine AW.iret (pc := 126) dX10_chosen_126 rfl ?_
      exact H_3
    · skip
      have H_4 := H_2.2 q
      refine AW.aload_n (pc := 105) dX10_chosen_105 rfl ?_
      refine AW.iload_n (pc := 106) dX10_chosen_106 rfl ?_
      refine AW.callVi (M' := mX10_isLongest) (F' := 1) (as := [aI l2]) (pc := 107) dX10_chosen_107 (by decide) kX10_isLongest ml_10_290 ob_85 rfl npX10_isLongest (Nat.le_of_ble_eq_true rfl) (aRun.mono (fun r1 h2 H_5 => ?_) H_4)
      have K_6 : AW mX10_chosen 5 118 [some (aR 85), some (aI l1), some (aI l2), none] [aI (if r1 = 0 then l1 else l2)] h2 Q := by
        have H_7 := H_5
        refine AW.istore_n (pc := 118) dX10_chosen_118 (by decide) rfl ?_
        refine AW.iinc (pc := 119) dX10_chosen_119 rfl (by decide) rfl (H_7.1) ?_
        refine AW.goto (tgt := 93) (pc := 122) dX10_chosen_122 rfl ?_
        exact H_7.2
      refine AW.if_eq (tgt := 117) (pc := 110) dX10_chosen_110 rfl (fun q => ?_) (fun q => ?_)
      · skip
        rw [if_pos q] at K_6
        refine AW.iload_n (pc := 117) dX10_chosen_117 rfl ?_
        exact K_6
      · skip
        rw [if_neg q] at K_6
        refine AW.iload_n (pc := 113) dX10_chosen_113 rfl ?_
        refine AW.goto (tgt := 118) (pc := 114) dX10_chosen_114 rfl ?_
        exact K_6
def f_X10_count (h : aH) (a1 : Int) : Int := (if a1 = 0 then (h 85 0) else (if a1 = 1 then (h 85 1) else (if a1 = 2 then (h 85 9) else (if a1 = 3 then (h 85 18) else (if a1 = 4 then (h 85 19) else (if a1 = 5 then (h 85 40) else ((-1) : Int)))))))
set_option maxRecDepth 100000 in
set_option maxHeartbeats 4000000 in
theorem p_X10_count {a1 : Int} {h : aH} {Q : aQ} (k : Q (f_X10_count h a1) h) : aRun mX10_count 0 [aR 85, aI a1] h Q := by
  unfold f_X10_count at k
  refine aRun.of pn_10 rfl (Nat.le_of_ble_eq_true rfl) ?_
  show AW mX10_count 0 0 [some (aR 85), some (aI a1)] [] h Q
  refine AW.iload_n (pc := 0) dX10_count_0 rfl ?_
  refine AW.tsw (pc := 1) dX10_count_1 (fun q1 q2 => ?_) (fun q => ?_)
  · have q : a1 = 0 ∨ a1 = 1 ∨ a1 = 2 ∨ a1 = 3 ∨ a1 = 4 ∨ a1 = 5 := by omega
    rcases q with q | q | q | q | q | q
    · refine ⟨40, _, by rw [q]; rfl, rfl, ?_⟩
      rw [if_pos q] at k
      refine AW.aload_n (pc := 40) dX10_count_40 rfl ?_
      refine AW.geti' (k := 0) (j := 0) (pc := 41) dX10_count_41 ac_10 sh_85 rfl (by decide) fl_10_150 rfl (v := (h 85 0)) rfl ?_
      refine AW.iret (pc := 44) dX10_count_44 rfl ?_
      exact k
    · refine ⟨45, _, by rw [q]; rfl, rfl, ?_⟩
      rw [if_neg (show ¬ (a1 = 0) by omega), if_pos q] at k
      refine AW.aload_n (pc := 45) dX10_count_45 rfl ?_
      refine AW.geti' (k := 1) (j := 1) (pc := 46) dX10_count_46 ac_10 sh_85 rfl (by decide) fl_10_105 rfl (v := (h 85 1)) rfl ?_
      refine AW.iret (pc := 49) dX10_count_49 rfl ?_
      exact k
    · refine ⟨50, _, by rw [q]; rfl, rfl, ?_⟩
      rw [if_neg (show ¬ (a1 = 0) by omega), if_neg (show ¬ (a1 = 1) by omega), if_pos q] at k
      refine AW.aload_n (pc := 50) dX10_count_50 rfl ?_
      refine AW.geti' (k := 9) (j := 9) (pc := 51) dX10_count_51 ac_10 sh_85 rfl (by decide) fl_10_112 rfl (v := (h 85 9)) rfl ?_
      refine AW.iret (pc := 54) dX10_count_54 rfl ?_
      exact k
    · refine ⟨55, _, by rw [q]; rfl, rfl, ?_⟩
      rw [if_neg (show ¬ (a1 = 0) by omega), if_neg (show ¬ (a1 = 1) by omega), if_neg (show ¬ (a1 = 2) by omega), if_pos q] at k
      refine AW.aload_n (pc := 55) dX10_count_55 rfl ?_
      refine AW.geti' (k := 18) (j := 18) (pc := 56) dX10_count_56 ac_10 sh_85 rfl (by decide) fl_10_159 rfl (v := (h 85 18)) rfl ?_
      refine AW.iret (pc := 59) dX10_count_59 rfl ?_
      exact k
    · refine ⟨60, _, by rw [q]; rfl, rfl, ?_⟩
      rw [if_neg (show ¬ (a1 = 0) by omega), if_neg (show ¬ (a1 = 1) by omega), if_neg (show ¬ (a1 = 2) by omega), if_neg (show ¬ (a1 = 3) by omega), if_pos q] at k
      refine AW.aload_n (pc := 60) dX10_count_60 rfl ?_
      refine AW.geti' (k := 19) (j := 19) (pc := 61) dX10_count_61 ac_10 sh_85 rfl (by decide) fl_10_162 rfl (v := (h 85 19)) rfl ?_
      refine AW.iret (pc := 64) dX10_count_64 rfl ?_
      exact k
    · refine ⟨65, _, by rw [q]; rfl, rfl, ?_⟩
      rw [if_neg (show ¬ (a1 = 0) by omega), if_neg (show ¬ (a1 = 1) by omega), if_neg (show ¬ (a1 = 2) by omega), if_neg (show ¬ (a1 = 3) by omega), if_neg (show ¬ (a1 = 4) by omega), if_pos q] at k
      refine AW.aload_n (pc := 65) dX10_count_65 rfl ?_
      refine AW.geti' (k := 40) (j := 40) (pc := 66) dX10_count_66 ac_10 sh_85 rfl (by decide) fl_10_299 rfl (v := (h 85 40)) rfl ?_
      refine AW.iret (pc := 69) dX10_count_69 rfl ?_
      exact k
  · refine ⟨70, rfl, ?_⟩
    rw [if_neg (show ¬ (a1 = 0) by omega), if_neg (show ¬ (a1 = 1) by omega), if_neg (show ¬ (a1 = 2) by omega), if_neg (show ¬ (a1 = 3) by omega), if_neg (show ¬ (a1 = 4) by omega), if_neg (show ¬ (a1 = 5) by omega)] at k
    refine AW.iconst (pc := 70) dX10_count_70 ⟨by decide, by decide⟩ ?_
    refine AW.iret (pc := 71) dX10_count_71 rfl ?_
    exact k
def f_X10_mayStart (h : aH) (a1 : Int) : Int := (max (h 111 (h 86 a1)) (h 112 (h 88 a1)))
def o_X10_mayStart (h : aH) (a1 : Int) : Prop := (0 ≤ a1 ∧ a1 < 24) ∧ (0 ≤ (h 86 a1) ∧ (h 86 a1) < 6) ∧ (0 ≤ (h 88 a1) ∧ (h 88 a1) < 5)
set_option maxRecDepth 100000 in
set_option maxHeartbeats 4000000 in
theorem p_X10_mayStart {a1 : Int} {h : aH} {Q : aQ} (o : o_X10_mayStart h a1) (k : Q (f_X10_mayStart h a1) h) : aRun mX10_mayStart 1 [aR 85, aI a1] h Q := by
  unfold f_X10_mayStart at k
  unfold o_X10_mayStart at o
  refine aRun.of pn_10 rfl (Nat.le_of_ble_eq_true rfl) ?_
  show AW mX10_mayStart 1 0 [some (aR 85), some (aI a1)] [] h Q
  refine AW.aload_n (pc := 0) dX10_mayStart_0 rfl ?_
  refine AW.getr (k := 43) (pc := 1) dX10_mayStart_1 ac_10 sh_85 rfl (by decide) fl_10_90 ?_
  refine AW.aload_n (pc := 4) dX10_mayStart_4 rfl ?_
  refine AW.getr (k := 2) (pc := 5) dX10_mayStart_5 ac_10 sh_85 rfl (by decide) fl_10_9 ?_
  refine AW.iload_n (pc := 8) dX10_mayStart_8 rfl ?_
  refine AW.iald (pc := 9) dX10_mayStart_9 sh_86 (o.1) (v := (h 86 a1)) rfl ?_
  refine AW.iald (pc := 10) dX10_mayStart_10 sh_111 (o.2.1) (v := (h 111 (h 86 a1))) rfl ?_
  refine AW.aload_n (pc := 11) dX10_mayStart_11 rfl ?_
  refine AW.getr (k := 44) (pc := 12) dX10_mayStart_12 ac_10 sh_85 rfl (by decide) fl_10_93 ?_
  refine AW.aload_n (pc := 15) dX10_mayStart_15 rfl ?_
  refine AW.getr (k := 4) (pc := 16) dX10_mayStart_16 ac_10 sh_85 rfl (by decide) fl_10_16 ?_
  refine AW.iload_n (pc := 19) dX10_mayStart_19 rfl ?_
  refine AW.iald (pc := 20) dX10_mayStart_20 sh_88 (o.1) (v := (h 88 a1)) rfl ?_
  refine AW.iald (pc := 21) dX10_mayStart_21 sh_112 (o.2.2) (v := (h 112 (h 88 a1))) rfl ?_
  refine AW.mmax (pc := 22) dX10_mayStart_22 (by decide) ml_10_214 (Nat.le_of_ble_eq_true rfl) ?_
  refine AW.iret (pc := 25) dX10_mayStart_25 rfl ?_
  exact k
set_option maxRecDepth 100000 in
set_option maxHeartbeats 4000000 in
theorem e_X10_worthOf {a1 a2 : Int} {h : aH} {Q : aQ} (H : ((a2 = 0 → (0 ≤ a1 ∧ a1 < 24) ∧ Q (h 89 a1) h) ∧ (¬ (a2 = 0) → ((a2 = 1 → (0 ≤ a1 ∧ a1 < 24) ∧ inR (-(h 89 a1)) ∧ Q (-(h 89 a1)) h) ∧ (¬ (a2 = 1) → ((a2 = 2 → aRun mX10_leftOf 0 [aR 85, aI a1] h (fun r3 h4 => inR (-r3) ∧ Q (-r3) h4)) ∧ (¬ (a2 = 2) → aRun mX10_leftOf 0 [aR 85, aI a1] h (fun r1 h2 => Q r1 h2)))))))) : aRun mX10_worthOf 1 [aR 85, aI a1, aI a2] h Q := by
  refine aRun.of pn_10 rfl (Nat.le_of_ble_eq_true rfl) ?_
  show AW mX10_worthOf 1 0 [some (aR 85), some (aI a1), some (aI a2)] [] h Q
  refine AW.iload_n (pc := 0) dX10_worthOf_0 rfl ?_
  refine AW.if_ne (tgt := 13) (pc := 1) dX10_worthOf_1 rfl (fun q => ?_) (fun q => ?_)
  · skip
    have H_1 := H.2 q
    refine AW.iload_n (pc := 13) dX10_worthOf_13 rfl ?_
    refine AW.iconst (pc := 14) dX10_worthOf_14 ⟨by decide, by decide⟩ ?_
    refine AW.icmp_ne (tgt := 28) (pc := 15) dX10_worthOf_15 rfl (fun q => ?_) (fun q => ?_)
    · skip
      have H_2 := H_1.2 q
      refine AW.iload_n (pc := 28) dX10_worthOf_28 rfl ?_
      refine AW.iconst (pc := 29) dX10_worthOf_29 ⟨by decide, by decide⟩ ?_
      refine AW.icmp_ne (tgt := 42) (pc := 30) dX10_worthOf_30 rfl (fun q => ?_) (fun q => ?_)
      · skip
        have H_3 := H_2.2 q
        refine AW.aload_n (pc := 42) dX10_worthOf_42 rfl ?_
        refine AW.iload_n (pc := 43) dX10_worthOf_43 rfl ?_
        refine AW.callVi (M' := mX10_leftOf) (F' := 0) (as := [aI a1]) (pc := 44) dX10_worthOf_44 (by decide) kX10_leftOf ml_10_308 ob_85 rfl npX10_leftOf (Nat.le_of_ble_eq_true rfl) (aRun.mono (fun r1 h2 H_4 => ?_) H_3)
        refine AW.iret (pc := 47) dX10_worthOf_47 rfl ?_
        exact H_4
      · have q := Decidable.not_not.mp q
        have H_5 := H_2.1 q
        refine AW.aload_n (pc := 33) dX10_worthOf_33 rfl ?_
        refine AW.iload_n (pc := 34) dX10_worthOf_34 rfl ?_
        refine AW.callVi (M' := mX10_leftOf) (F' := 0) (as := [aI a1]) (pc := 35) dX10_worthOf_35 (by decide) kX10_leftOf ml_10_308 ob_85 rfl npX10_leftOf (Nat.le_of_ble_eq_true rfl) (aRun.mono (fun r3 h4 H_6 => ?_) H_5)
        refine AW.ineg (pc := 38) dX10_worthOf_38 (H_6.1) ?_
        refine AW.goto (tgt := 47) (pc := 39) dX10_worthOf_39 rfl ?_
        refine AW.iret (pc := 47) dX10_worthOf_47 rfl ?_
        exact H_6.2
    · have q := Decidable.not_not.mp q
      have H_7 := H_1.1 q
      refine AW.aload_n (pc := 18) dX10_worthOf_18 rfl ?_
      refine AW.getr (k := 5) (pc := 19) dX10_worthOf_19 ac_10 sh_85 rfl (by decide) fl_10_19 ?_
      refine AW.iload_n (pc := 22) dX10_worthOf_22 rfl ?_
      refine AW.iald (pc := 23) dX10_worthOf_23 sh_89 (H_7.1) (v := (h 89 a1)) rfl ?_
      refine AW.ineg (pc := 24) dX10_worthOf_24 (H_7.2.1) ?_
      refine AW.goto (tgt := 47) (pc := 25) dX10_worthOf_25 rfl ?_
      refine AW.iret (pc := 47) dX10_worthOf_47 rfl ?_
      exact H_7.2.2
  · have q := Decidable.not_not.mp q
    have H_8 := H.1 q
    refine AW.aload_n (pc := 4) dX10_worthOf_4 rfl ?_
    refine AW.getr (k := 5) (pc := 5) dX10_worthOf_5 ac_10 sh_85 rfl (by decide) fl_10_19 ?_
    refine AW.iload_n (pc := 8) dX10_worthOf_8 rfl ?_
    refine AW.iald (pc := 9) dX10_worthOf_9 sh_89 (H_8.1) (v := (h 89 a1)) rfl ?_
    refine AW.goto (tgt := 47) (pc := 10) dX10_worthOf_10 rfl ?_
    refine AW.iret (pc := 47) dX10_worthOf_47 rfl ?_
    exact H_8.2
set_option maxRecDepth 100000 in
set_option maxHeartbeats 4000000 in
theorem e_X10_isBetter {a1 a2 a3 : Int} {h : aH} {Q : aQ} (H : o_X10_mayStart h a1 ∧ o_X10_mayStart h a2 ∧ (((f_X10_mayStart h a1) = (f_X10_mayStart h a2) → aRun mX10_worthOf 1 [aR 85, aI a1, aI a3] h (fun r1 h2 => aRun mX10_worthOf 1 [aR 85, aI a2, aI a3] h2 (fun r3 h4 => Q (if r3 ≤ r1 then (0 : Int) else (1 : Int)) h4))) ∧ (¬ ((f_X10_mayStart h a1) = (f_X10_mayStart h a2)) → Q (if (f_X10_mayStart h a2) ≤ (f_X10_mayStart h a1) then (0 : Int) else (1 : Int)) h))) : aRun mX10_isBetter 2 [aR 85, aI a1, aI a2, aI a3] h Q := by
  refine aRun.of pn_10 rfl (Nat.le_of_ble_eq_true rfl) ?_
  show AW mX10_isBetter 2 0 [some (aR 85), some (aI a1), some (aI a2), some (aI a3)] [] h Q
  refine AW.aload_n (pc := 0) dX10_isBetter_0 rfl ?_
  refine AW.iload_n (pc := 1) dX10_isBetter_1 rfl ?_
  refine AW.callVi (M' := mX10_mayStart) (F' := 1) (as := [aI a1]) (pc := 2) dX10_isBetter_2 (by decide) kX10_mayStart ml_10_311 ob_85 rfl npX10_mayStart (Nat.le_of_ble_eq_true rfl) (p_X10_mayStart (H.1) ?_)
  refine AW.aload_n (pc := 5) dX10_isBetter_5 rfl ?_
  refine AW.iload_n (pc := 6) dX10_isBetter_6 rfl ?_
  refine AW.callVi (M' := mX10_mayStart) (F' := 1) (as := [aI a2]) (pc := 7) dX10_isBetter_7 (by decide) kX10_mayStart ml_10_311 ob_85 rfl npX10_mayStart (Nat.le_of_ble_eq_true rfl) (p_X10_mayStart (H.2.1) ?_)
  refine AW.icmp_eq (tgt := 32) (pc := 10) dX10_isBetter_10 rfl (fun q => ?_) (fun q => ?_)
  · skip
    have H_1 := H.2.2.1 q
    refine AW.aload_n (pc := 32) dX10_isBetter_32 rfl ?_
    refine AW.iload_n (pc := 33) dX10_isBetter_33 rfl ?_
    refine AW.iload_n (pc := 34) dX10_isBetter_34 rfl ?_
    refine AW.callVi (M' := mX10_worthOf) (F' := 1) (as := [aI a1, aI a3]) (pc := 35) dX10_isBetter_35 (by decide) kX10_worthOf ml_10_314 ob_85 rfl npX10_worthOf (Nat.le_of_ble_eq_true rfl) (aRun.mono (fun r1 h2 H_2 => ?_) H_1)
    refine AW.aload_n (pc := 38) dX10_isBetter_38 rfl ?_
    refine AW.iload_n (pc := 39) dX10_isBetter_39 rfl ?_
    refine AW.iload_n (pc := 40) dX10_isBetter_40 rfl ?_
    refine AW.callVi (M' := mX10_worthOf) (F' := 1) (as := [aI a2, aI a3]) (pc := 41) dX10_isBetter_41 (by decide) kX10_worthOf ml_10_314 ob_85 rfl npX10_worthOf (Nat.le_of_ble_eq_true rfl) (aRun.mono (fun r3 h4 H_3 => ?_) H_2)
    have K_4 : AW mX10_isBetter 2 52 [some (aR 85), some (aI a1), some (aI a2), some (aI a3)] [aI (if r3 ≤ r1 then (0 : Int) else (1 : Int))] h4 Q := by
      have H_5 := H_3
      refine AW.zret (pc := 52) dX10_isBetter_52 rfl (a_ite01 (Or.inl rfl) (Or.inr rfl)) ?_
      exact H_5
    refine AW.icmp_ge (tgt := 51) (pc := 44) dX10_isBetter_44 rfl (fun q => ?_) (fun q => ?_)
    · skip
      rw [if_pos q] at K_4
      refine AW.iconst (pc := 51) dX10_isBetter_51 ⟨by decide, by decide⟩ ?_
      exact K_4
    · skip
      rw [if_neg q] at K_4
      refine AW.iconst (pc := 47) dX10_isBetter_47 ⟨by decide, by decide⟩ ?_
      refine AW.goto (tgt := 52) (pc := 48) dX10_isBetter_48 rfl ?_
      exact K_4
  · skip
    have H_9 := H.2.2.2 q
    refine AW.aload_n (pc := 13) dX10_isBetter_13 rfl ?_
    refine AW.iload_n (pc := 14) dX10_isBetter_14 rfl ?_
    refine AW.callVi (M' := mX10_mayStart) (F' := 1) (as := [aI a1]) (pc := 15) dX10_isBetter_15 (by decide) kX10_mayStart ml_10_311 ob_85 rfl npX10_mayStart (Nat.le_of_ble_eq_true rfl) (p_X10_mayStart (H.1) ?_)
    refine AW.aload_n (pc := 18) dX10_isBetter_18 rfl ?_
    refine AW.iload_n (pc := 19) dX10_isBetter_19 rfl ?_
    refine AW.callVi (M' := mX10_mayStart) (F' := 1) (as := [aI a2]) (pc := 20) dX10_isBetter_20 (by decide) kX10_mayStart ml_10_311 ob_85 rfl npX10_mayStart (Nat.le_of_ble_eq_true rfl) (p_X10_mayStart (H.2.1) ?_)
    have K_10 : AW mX10_isBetter 2 31 [some (aR 85), some (aI a1), some (aI a2), some (aI a3)] [aI (if (f_X10_mayStart h a2) ≤ (f_X10_mayStart h a1) then (0 : Int) else (1 : Int))] h Q := by
      have H_11 := H_9
      refine AW.zret (pc := 31) dX10_isBetter_31 rfl (a_ite01 (Or.inl rfl) (Or.inr rfl)) ?_
      exact H_11
    refine AW.icmp_ge (tgt := 30) (pc := 23) dX10_isBetter_23 rfl (fun q => ?_) (fun q => ?_)
    · skip
      rw [if_pos q] at K_10
      refine AW.iconst (pc := 30) dX10_isBetter_30 ⟨by decide, by decide⟩ ?_
      exact K_10
    · skip
      rw [if_neg q] at K_10
      refine AW.iconst (pc := 26) dX10_isBetter_26 ⟨by decide, by decide⟩ ?_
      refine AW.goto (tgt := 31) (pc := 27) dX10_isBetter_27 rfl ?_
      exact K_10
def f_X10_isOpen (h : aH) (a1 : Int) : Int := (if (h 85 1) ≤ (h 110 a1) then (0 : Int) else (if (h 86 (h 110 a1)) = a1 then (1 : Int) else (0 : Int)))
def o_X10_isOpen (h : aH) (a1 : Int) : Prop := (0 ≤ a1 ∧ a1 < 6) ∧ ((¬ ((h 85 1) ≤ (h 110 a1)) → (0 ≤ (h 110 a1) ∧ (h 110 a1) < 24)))
theorem b_X10_isOpen {h : aH} {a1 : Int} : f_X10_isOpen h a1 = 0 ∨ f_X10_isOpen h a1 = 1 := by
  unfold f_X10_isOpen
  exact (a_ite01 (Or.inl rfl) (a_ite01 (Or.inr rfl) (Or.inl rfl)))
set_option maxRecDepth 100000 in
set_option maxHeartbeats 4000000 in
theorem p_X10_isOpen {a1 : Int} {h : aH} {Q : aQ} (o : o_X10_isOpen h a1) (k : Q (f_X10_isOpen h a1) h) : aRun mX10_isOpen 0 [aR 85, aI a1] h Q := by
  unfold f_X10_isOpen at k
  unfold o_X10_isOpen at o
  refine aRun.of pn_10 rfl (Nat.le_of_ble_eq_true rfl) ?_
  show AW mX10_isOpen 0 0 [some (aR 85), some (aI a1)] [] h Q
  refine AW.aload_n (pc := 0) dX10_isOpen_0 rfl ?_
  refine AW.getr (k := 42) (pc := 1) dX10_isOpen_1 ac_10 sh_85 rfl (by decide) fl_10_87 ?_
  refine AW.iload_n (pc := 4) dX10_isOpen_4 rfl ?_
  refine AW.iald (pc := 5) dX10_isOpen_5 sh_110 (o.1) (v := (h 110 a1)) rfl ?_
  refine AW.aload_n (pc := 6) dX10_isOpen_6 rfl ?_
  refine AW.geti' (k := 1) (j := 1) (pc := 7) dX10_isOpen_7 ac_10 sh_85 rfl (by decide) fl_10_105 rfl (v := (h 85 1)) rfl ?_
  have K_1 : AW mX10_isOpen 0 33 [some (aR 85), some (aI a1)] [aI (if (h 85 1) ≤ (h 110 a1) then (0 : Int) else (if (h 86 (h 110 a1)) = a1 then (1 : Int) else (0 : Int)))] h Q := by
    refine AW.zret (pc := 33) dX10_isOpen_33 rfl (a_ite01 (Or.inl rfl) (a_ite01 (Or.inr rfl) (Or.inl rfl))) ?_
    exact k
  have H_3 := o.2
  refine AW.icmp_ge (tgt := 32) (pc := 10) dX10_isOpen_10 rfl (fun q => ?_) (fun q => ?_)
  · skip
    rw [if_pos q] at K_1
    refine AW.iconst (pc := 32) dX10_isOpen_32 ⟨by decide, by decide⟩ ?_
    exact K_1
  · skip
    have H_5 := H_3 q
    rw [if_neg q] at K_1
    refine AW.aload_n (pc := 13) dX10_isOpen_13 rfl ?_
    refine AW.getr (k := 2) (pc := 14) dX10_isOpen_14 ac_10 sh_85 rfl (by decide) fl_10_9 ?_
    refine AW.aload_n (pc := 17) dX10_isOpen_17 rfl ?_
    refine AW.getr (k := 42) (pc := 18) dX10_isOpen_18 ac_10 sh_85 rfl (by decide) fl_10_87 ?_
    refine AW.iload_n (pc := 21) dX10_isOpen_21 rfl ?_
    refine AW.iald (pc := 22) dX10_isOpen_22 sh_110 (o.1) (v := (h 110 a1)) rfl ?_
    refine AW.iald (pc := 23) dX10_isOpen_23 sh_86 H_5 (v := (h 86 (h 110 a1))) rfl ?_
    refine AW.iload_n (pc := 24) dX10_isOpen_24 rfl ?_
    refine AW.icmp_ne (tgt := 32) (pc := 25) dX10_isOpen_25 rfl (fun q => ?_) (fun q => ?_)
    · skip
      rw [if_neg q] at K_1
      refine AW.iconst (pc := 32) dX10_isOpen_32 ⟨by decide, by decide⟩ ?_
      exact K_1
    · have q := Decidable.not_not.mp q
      rw [if_pos q] at K_1
      refine AW.iconst (pc := 28) dX10_isOpen_28 ⟨by decide, by decide⟩ ?_
      refine AW.goto (tgt := 33) (pc := 29) dX10_isOpen_29 rfl ?_
      exact K_1
set_option maxRecDepth 100000 in
set_option maxHeartbeats 4000000 in
theorem p_X10_puts {a1 : Int} {h : aH} {Q : aQ} (o : (0 ≤ a1 ∧ a1 < 24) ∧ inR (24 * (h 88 a1)) ∧ (0 ≤ (h 88 a1) ∧ (h 88 a1) < 5) ∧ inR ((24 * (h 88 a1)) + (h 91 (h 88 a1))) ∧ (0 ≤ ((24 * (h 88 a1)) + (h 91 (h 88 a1))) ∧ ((24 * (h 88 a1)) + (h 91 (h 88 a1))) < 120) ∧ (0 ≤ (h 88 a1) ∧ (h 88 a1) < 5) ∧ inR ((h 91 (h 88 a1)) + 1) ∧ (0 ≤ (h 88 a1) ∧ (h 88 a1) < 5)) (k : Q 0 (a_up (a_up h 90 ((24 * (h 88 a1)) + (h 91 (h 88 a1))) a1) 91 (h 88 a1) ((h 91 (h 88 a1)) + 1))) : aRun mX10_puts 0 [aR 85, aI a1] h Q := by
  refine aRun.of pn_10 rfl (Nat.le_of_ble_eq_true rfl) ?_
  show AW mX10_puts 0 0 [some (aR 85), some (aI a1), none] [] h Q
  refine AW.aload_n (pc := 0) dX10_puts_0 rfl ?_
  refine AW.getr (k := 4) (pc := 1) dX10_puts_1 ac_10 sh_85 rfl (by decide) fl_10_16 ?_
  refine AW.iload_n (pc := 4) dX10_puts_4 rfl ?_
  refine AW.iald (pc := 5) dX10_puts_5 sh_88 (o.1) (v := (h 88 a1)) rfl ?_
  refine AW.istore_n (pc := 6) dX10_puts_6 (by decide) rfl ?_
  refine AW.aload_n (pc := 7) dX10_puts_7 rfl ?_
  refine AW.getr (k := 6) (pc := 8) dX10_puts_8 ac_10 sh_85 rfl (by decide) fl_10_22 ?_
  refine AW.bipush (pc := 11) dX10_puts_11 rfl ⟨by decide, by decide⟩ ?_
  refine AW.iload_n (pc := 13) dX10_puts_13 rfl ?_
  refine AW.imul (pc := 14) dX10_puts_14 (o.2.1) ?_
  refine AW.aload_n (pc := 15) dX10_puts_15 rfl ?_
  refine AW.getr (k := 7) (pc := 16) dX10_puts_16 ac_10 sh_85 rfl (by decide) fl_10_25 ?_
  refine AW.iload_n (pc := 19) dX10_puts_19 rfl ?_
  refine AW.iald (pc := 20) dX10_puts_20 sh_91 (o.2.2.1) (v := (h 91 (h 88 a1))) rfl ?_
  refine AW.iadd (pc := 21) dX10_puts_21 (o.2.2.2.1) ?_
  refine AW.iload_n (pc := 22) dX10_puts_22 rfl ?_
  refine AW.iast (pc := 23) dX10_puts_23 sh_90 (o.2.2.2.2.1) ?_
  refine AW.aload_n (pc := 24) dX10_puts_24 rfl ?_
  refine AW.getr (k := 7) (pc := 25) dX10_puts_25 ac_10 sh_85 rfl (by decide) fl_10_25 ?_
  refine AW.iload_n (pc := 28) dX10_puts_28 rfl ?_
  refine AW.dup2 (pc := 29) dX10_puts_29 rfl rfl ?_
  refine AW.iald (pc := 30) dX10_puts_30 sh_91 (o.2.2.2.2.2.1) (v := (h 91 (h 88 a1))) (by rw [a_up_ne (by decide)]) ?_
  refine AW.iconst (pc := 31) dX10_puts_31 ⟨by decide, by decide⟩ ?_
  refine AW.iadd (pc := 32) dX10_puts_32 (o.2.2.2.2.2.2.1) ?_
  refine AW.iast (pc := 33) dX10_puts_33 sh_91 (o.2.2.2.2.2.2.2) ?_
  refine AW.vret (pc := 34) dX10_puts_34 rfl ?_
  exact k
set_option maxRecDepth 100000 in
set_option maxHeartbeats 4000000 in
theorem e_X10_dispatchedBy {a1 : Int} {h : aH} {Q : aQ} (H : AW mX10_dispatchedBy 3 2 [some (aR 85), some (aI a1), some (aI 0), none, none, none] [] h Q) : aRun mX10_dispatchedBy 3 [aR 85, aI a1] h Q := by
  refine aRun.of pn_10 rfl (Nat.le_of_ble_eq_true rfl) ?_
  show AW mX10_dispatchedBy 3 0 [some (aR 85), some (aI a1), none, none, none, none] [] h Q
  refine AW.iconst (pc := 0) dX10_dispatchedBy_0 ⟨by decide, by decide⟩ ?_
  refine AW.istore_n (pc := 1) dX10_dispatchedBy_1 (by decide) rfl ?_
  exact H
set_option maxRecDepth 100000 in
set_option maxHeartbeats 4000000 in
theorem s_X10_dispatchedBy_2  {l1 l2 : Int} {h : aH} {Q : aQ} (H : ((5 ≤ l2 → AW mX10_dispatchedBy 3 29 [some (aR 85), some (aI l1), some (aI 0), none, none, none] [] h Q) ∧ (¬ (5 ≤ l2) → (0 ≤ l2 ∧ l2 < 5) ∧ inR (l2 + 1) ∧ AW mX10_dispatchedBy 3 2 [some (aR 85), some (aI l1), some (aI (l2 + 1)), none, none, none] [] (a_up (a_up h 91 l2 0) 112 l2 0) Q))) : AW mX10_dispatchedBy 3 2 [some (aR 85), some (aI l1), some (aI l2), none, none, none] [] h Q := by
  refine AW.iload_n (pc := 2) dX10_dispatchedBy_2 rfl ?_
  refine AW.iconst (pc := 3) dX10_dispatchedBy_3 ⟨by decide, by decide⟩ ?_
  refine AW.icmp_ge (tgt := 27) (pc := 4) dX10_dispatchedBy_4 rfl (fun q => ?_) (fun q => ?_)
  · skip
    have H_1 := H.1 q
    refine AW.iconst (pc := 27) dX10_dispatchedBy_27 ⟨by decide, by decide⟩ ?_
    refine AW.istore_n (pc := 28) dX10_dispatchedBy_28 (by decide) rfl ?_
    exact H_1
  · skip
    have H_2 := H.2 q
    refine AW.aload_n (pc := 7) dX10_dispatchedBy_7 rfl ?_
    refine AW.getr (k := 7) (pc := 8) dX10_dispatchedBy_8 ac_10 sh_85 rfl (by decide) fl_10_25 ?_
    refine AW.iload_n (pc := 11) dX10_dispatchedBy_11 rfl ?_
    refine AW.iconst (pc := 12) dX10_dispatchedBy_12 ⟨by decide, by decide⟩ ?_
    refine AW.iast (pc := 13) dX10_dispatchedBy_13 sh_91 (H_2.1) ?_
    refine AW.aload_n (pc := 14) dX10_dispatchedBy_14 rfl ?_
    refine AW.getr (k := 44) (pc := 15) dX10_dispatchedBy_15 ac_10 sh_85 rfl (by decide) fl_10_93 ?_
    refine AW.iload_n (pc := 18) dX10_dispatchedBy_18 rfl ?_
    refine AW.iconst (pc := 19) dX10_dispatchedBy_19 ⟨by decide, by decide⟩ ?_
    refine AW.iast (pc := 20) dX10_dispatchedBy_20 sh_112 (H_2.1) ?_
    refine AW.iinc (pc := 21) dX10_dispatchedBy_21 rfl (by decide) rfl (H_2.2.1) ?_
    refine AW.goto (tgt := 2) (pc := 24) dX10_dispatchedBy_24 rfl ?_
    exact H_2.2.2
set_option maxRecDepth 100000 in
set_option maxHeartbeats 4000000 in
theorem s_X10_dispatchedBy_29  {l1 l2 : Int} {h : aH} {Q : aQ} (H : (((h 85 0) ≤ l2 → AW mX10_dispatchedBy 3 65 [some (aR 85), some (aI l1), some (aI 0), some (aI 0), none, none] [] h Q) ∧ (¬ ((h 85 0) ≤ l2) → aRun mX10_firstOf 0 [aR 85, aI l2] h (fun r1 h2 => (0 ≤ l2 ∧ l2 < 6) ∧ inR (l2 + 1) ∧ AW mX10_dispatchedBy 3 29 [some (aR 85), some (aI l1), some (aI (l2 + 1)), none, none, none] [] (a_up (a_up h2 110 l2 r1) 111 l2 0) Q)))) : AW mX10_dispatchedBy 3 29 [some (aR 85), some (aI l1), some (aI l2), none, none, none] [] h Q := by
  refine AW.iload_n (pc := 29) dX10_dispatchedBy_29 rfl ?_
  refine AW.aload_n (pc := 30) dX10_dispatchedBy_30 rfl ?_
  refine AW.geti' (k := 0) (j := 0) (pc := 31) dX10_dispatchedBy_31 ac_10 sh_85 rfl (by decide) fl_10_150 rfl (v := (h 85 0)) rfl ?_
  refine AW.icmp_ge (tgt := 61) (pc := 34) dX10_dispatchedBy_34 rfl (fun q => ?_) (fun q => ?_)
  · skip
    have H_1 := H.1 q
    refine AW.iconst (pc := 61) dX10_dispatchedBy_61 ⟨by decide, by decide⟩ ?_
    refine AW.istore_n (pc := 62) dX10_dispatchedBy_62 (by decide) rfl ?_
    refine AW.iconst (pc := 63) dX10_dispatchedBy_63 ⟨by decide, by decide⟩ ?_
    refine AW.istore_n (pc := 64) dX10_dispatchedBy_64 (by decide) rfl ?_
    exact H_1
  · skip
    have H_2 := H.2 q
    refine AW.aload_n (pc := 37) dX10_dispatchedBy_37 rfl ?_
    refine AW.getr (k := 42) (pc := 38) dX10_dispatchedBy_38 ac_10 sh_85 rfl (by decide) fl_10_87 ?_
    refine AW.iload_n (pc := 41) dX10_dispatchedBy_41 rfl ?_
    refine AW.aload_n (pc := 42) dX10_dispatchedBy_42 rfl ?_
    refine AW.iload_n (pc := 43) dX10_dispatchedBy_43 rfl ?_
    refine AW.callVi (M' := mX10_firstOf) (F' := 0) (as := [aI l2]) (pc := 44) dX10_dispatchedBy_44 (by decide) kX10_firstOf ml_10_317 ob_85 rfl npX10_firstOf (Nat.le_of_ble_eq_true rfl) (aRun.mono (fun r1 h2 H_3 => ?_) H_2)
    refine AW.iast (pc := 47) dX10_dispatchedBy_47 sh_110 (H_3.1) ?_
    refine AW.aload_n (pc := 48) dX10_dispatchedBy_48 rfl ?_
    refine AW.getr (k := 43) (pc := 49) dX10_dispatchedBy_49 ac_10 sh_85 rfl (by decide) fl_10_90 ?_
    refine AW.iload_n (pc := 52) dX10_dispatchedBy_52 rfl ?_
    refine AW.iconst (pc := 53) dX10_dispatchedBy_53 ⟨by decide, by decide⟩ ?_
    refine AW.iast (pc := 54) dX10_dispatchedBy_54 sh_111 (H_3.1) ?_
    refine AW.iinc (pc := 55) dX10_dispatchedBy_55 rfl (by decide) rfl (H_3.2.1) ?_
    refine AW.goto (tgt := 29) (pc := 58) dX10_dispatchedBy_58 rfl ?_
    exact H_3.2.2
set_option maxRecDepth 100000 in
set_option maxHeartbeats 4000000 in
theorem s_X10_dispatchedBy_65  {l1 l2 l3 : Int} {h : aH} {Q : aQ} (H : (((h 85 1) ≤ l3 → Q l2 h) ∧ (¬ ((h 85 1) ≤ l3) → AW mX10_dispatchedBy 3 79 [some (aR 85), some (aI l1), some (aI l2), some (aI l3), some (aI (-1)), some (aI 0)] [] h Q))) : AW mX10_dispatchedBy 3 65 [some (aR 85), some (aI l1), some (aI l2), some (aI l3), none, none] [] h Q := by
  refine AW.iload_n (pc := 65) dX10_dispatchedBy_65 rfl ?_
  refine AW.aload_n (pc := 66) dX10_dispatchedBy_66 rfl ?_
  refine AW.geti' (k := 1) (j := 1) (pc := 67) dX10_dispatchedBy_67 ac_10 sh_85 rfl (by decide) fl_10_105 rfl (v := (h 85 1)) rfl ?_
  refine AW.icmp_ge (tgt := 213) (pc := 70) dX10_dispatchedBy_70 rfl (fun q => ?_) (fun q => ?_)
  · skip
    have H_1 := H.1 q
    refine AW.iload_n (pc := 213) dX10_dispatchedBy_213 rfl ?_
    refine AW.iret (pc := 214) dX10_dispatchedBy_214 rfl ?_
    exact H_1
  · skip
    have H_2 := H.2 q
    refine AW.iconst (pc := 73) dX10_dispatchedBy_73 ⟨by decide, by decide⟩ ?_
    refine AW.istore (pc := 74) dX10_dispatchedBy_74 (by decide) rfl ?_
    refine AW.iconst (pc := 76) dX10_dispatchedBy_76 ⟨by decide, by decide⟩ ?_
    refine AW.istore (pc := 77) dX10_dispatchedBy_77 (by decide) rfl ?_
    exact H_2
set_option maxRecDepth 100000 in
set_option maxHeartbeats 4000000 in
theorem s_X10_dispatchedBy_79  {l1 l2 l3 l4 l5 : Int} {h : aH} {Q : aQ} (H : (((h 85 0) ≤ l5 → o_X10_mayStart h l4 ∧ (0 ≤ l4 ∧ l4 < 24) ∧ inR ((f_X10_mayStart h l4) + (h 89 l4)) ∧ (0 ≤ (h 86 l4) ∧ (h 86 l4) < 6) ∧ (0 ≤ (h 88 l4) ∧ (h 88 l4) < 5) ∧ inR ((h 110 (h 86 l4)) + 1) ∧ aRun mX10_puts 0 [aR 85, aI l4] (a_up (a_up (a_up h 111 (h 86 l4) ((f_X10_mayStart h l4) + (h 89 l4))) 112 (h 88 l4) ((f_X10_mayStart h l4) + (h 89 l4))) 110 (h 86 l4) ((h 110 (h 86 l4)) + 1)) (fun r1 h2 => inR (l3 + 1) ∧ AW mX10_dispatchedBy 3 65 [some (aR 85), some (aI l1), some (aI (max l2 ((f_X10_mayStart h l4) + (h 89 l4)))), some (aI (l3 + 1)), none, none] [] h2 Q)) ∧ (¬ ((h 85 0) ≤ l5) → o_X10_isOpen h l5 ∧ (((f_X10_isOpen h l5) = 0 → inR (l5 + 1) ∧ AW mX10_dispatchedBy 3 79 [some (aR 85), some (aI l1), some (aI l2), some (aI l3), some (aI l4), some (aI (l5 + 1))] [] h Q) ∧ (¬ ((f_X10_isOpen h l5) = 0) → ((l4 < 0 → (0 ≤ l5 ∧ l5 < 6) ∧ inR (l5 + 1) ∧ AW mX10_dispatchedBy 3 79 [some (aR 85), some (aI l1), some (aI l2), some (aI l3), some (aI (h 110 l5)), some (aI (l5 + 1))] [] h Q) ∧ (¬ (l4 < 0) → (0 ≤ l5 ∧ l5 < 6) ∧ aRun mX10_isBetter 2 [aR 85, aI (h 110 l5), aI l4, aI l1] h (fun r3 h4 => ((r3 = 0 → inR (l5 + 1) ∧ AW mX10_dispatchedBy 3 79 [some (aR 85), some (aI l1), some (aI l2), some (aI l3), some (aI l4), some (aI (l5 + 1))] [] h4 Q) ∧ (¬ (r3 = 0) → inR (l5 + 1) ∧ AW mX10_dispatchedBy 3 79 [some (aR 85), some (aI l1), some (aI l2), some (aI l3), some (aI (h4 110 l5)), some (aI (l5 + 1))] [] h4 Q)))))))))) : AW mX10_dispatchedBy 3 79 [some (aR 85), some (aI l1), some (aI l2), some (aI l3), some (aI l4), some (aI l5)] [] h Q := by
  refine AW.iload (pc := 79) dX10_dispatchedBy_79 rfl ?_
  refine AW.aload_n (pc := 81) dX10_dispatchedBy_81 rfl ?_
  refine AW.geti' (k := 0) (j := 0) (pc := 82) dX10_dispatchedBy_82 ac_10 sh_85 rfl (by decide) fl_10_150 rfl (v := (h 85 0)) rfl ?_
  refine AW.icmp_ge (tgt := 134) (pc := 85) dX10_dispatchedBy_85 rfl (fun q => ?_) (fun q => ?_)
  · skip
    have H_1 := H.1 q
    refine AW.aload_n (pc := 134) dX10_dispatchedBy_134 rfl ?_
    refine AW.iload (pc := 135) dX10_dispatchedBy_135 rfl ?_
    refine AW.callVi (M' := mX10_mayStart) (F' := 1) (as := [aI l4]) (pc := 137) dX10_dispatchedBy_137 (by decide) kX10_mayStart ml_10_311 ob_85 rfl npX10_mayStart (Nat.le_of_ble_eq_true rfl) (p_X10_mayStart (H_1.1) ?_)
    refine AW.aload_n (pc := 140) dX10_dispatchedBy_140 rfl ?_
    refine AW.getr (k := 5) (pc := 141) dX10_dispatchedBy_141 ac_10 sh_85 rfl (by decide) fl_10_19 ?_
    refine AW.iload (pc := 144) dX10_dispatchedBy_144 rfl ?_
    refine AW.iald (pc := 146) dX10_dispatchedBy_146 sh_89 (H_1.2.1) (v := (h 89 l4)) rfl ?_
    refine AW.iadd (pc := 147) dX10_dispatchedBy_147 (H_1.2.2.1) ?_
    refine AW.istore (pc := 148) dX10_dispatchedBy_148 (by decide) rfl ?_
    refine AW.aload_n (pc := 150) dX10_dispatchedBy_150 rfl ?_
    refine AW.getr (k := 43) (pc := 151) dX10_dispatchedBy_151 ac_10 sh_85 rfl (by decide) fl_10_90 ?_
    refine AW.aload_n (pc := 154) dX10_dispatchedBy_154 rfl ?_
    refine AW.getr (k := 2) (pc := 155) dX10_dispatchedBy_155 ac_10 sh_85 rfl (by decide) fl_10_9 ?_
    refine AW.iload (pc := 158) dX10_dispatchedBy_158 rfl ?_
    refine AW.iald (pc := 160) dX10_dispatchedBy_160 sh_86 (H_1.2.1) (v := (h 86 l4)) rfl ?_
    refine AW.iload (pc := 161) dX10_dispatchedBy_161 rfl ?_
    refine AW.iast (pc := 163) dX10_dispatchedBy_163 sh_111 (H_1.2.2.2.1) ?_
    refine AW.aload_n (pc := 164) dX10_dispatchedBy_164 rfl ?_
    refine AW.getr (k := 44) (pc := 165) dX10_dispatchedBy_165 ac_10 sh_85 rfl (by decide) fl_10_93 ?_
    refine AW.aload_n (pc := 168) dX10_dispatchedBy_168 rfl ?_
    refine AW.getr (k := 4) (pc := 169) dX10_dispatchedBy_169 ac_10 sh_85 rfl (by decide) fl_10_16 ?_
    refine AW.iload (pc := 172) dX10_dispatchedBy_172 rfl ?_
    refine AW.iald (pc := 174) dX10_dispatchedBy_174 sh_88 (H_1.2.1) (v := (h 88 l4)) (by rw [a_up_ne (by decide)]) ?_
    refine AW.iload (pc := 175) dX10_dispatchedBy_175 rfl ?_
    refine AW.iast (pc := 177) dX10_dispatchedBy_177 sh_112 (H_1.2.2.2.2.1) ?_
    refine AW.aload_n (pc := 178) dX10_dispatchedBy_178 rfl ?_
    refine AW.getr (k := 42) (pc := 179) dX10_dispatchedBy_179 ac_10 sh_85 rfl (by decide) fl_10_87 ?_
    refine AW.aload_n (pc := 182) dX10_dispatchedBy_182 rfl ?_
    refine AW.getr (k := 2) (pc := 183) dX10_dispatchedBy_183 ac_10 sh_85 rfl (by decide) fl_10_9 ?_
    refine AW.iload (pc := 186) dX10_dispatchedBy_186 rfl ?_
    refine AW.iald (pc := 188) dX10_dispatchedBy_188 sh_86 (H_1.2.1) (v := (h 86 l4)) (by rw [a_up_ne (by decide), a_up_ne (by decide)]) ?_
    refine AW.dup2 (pc := 189) dX10_dispatchedBy_189 rfl rfl ?_
    refine AW.iald (pc := 190) dX10_dispatchedBy_190 sh_110 (H_1.2.2.2.1) (v := (h 110 (h 86 l4))) (by rw [a_up_ne (by decide), a_up_ne (by decide)]) ?_
    refine AW.iconst (pc := 191) dX10_dispatchedBy_191 ⟨by decide, by decide⟩ ?_
    refine AW.iadd (pc := 192) dX10_dispatchedBy_192 (H_1.2.2.2.2.2.1) ?_
    refine AW.iast (pc := 193) dX10_dispatchedBy_193 sh_110 (H_1.2.2.2.1) ?_
    refine AW.aload_n (pc := 194) dX10_dispatchedBy_194 rfl ?_
    refine AW.iload (pc := 195) dX10_dispatchedBy_195 rfl ?_
    refine AW.callVv (M' := mX10_puts) (F' := 0) (as := [aI l4]) (pc := 197) dX10_dispatchedBy_197 (by decide) kX10_puts ml_10_153 ob_85 rfl npX10_puts (Nat.le_of_ble_eq_true rfl) (aRun.mono (fun r1 h2 H_2 => ?_) H_1.2.2.2.2.2.2)
    refine AW.iload_n (pc := 200) dX10_dispatchedBy_200 rfl ?_
    refine AW.iload (pc := 201) dX10_dispatchedBy_201 rfl ?_
    refine AW.mmax (pc := 203) dX10_dispatchedBy_203 (by decide) ml_10_214 (Nat.le_of_ble_eq_true rfl) ?_
    refine AW.istore_n (pc := 206) dX10_dispatchedBy_206 (by decide) rfl ?_
    refine AW.iinc (pc := 207) dX10_dispatchedBy_207 rfl (by decide) rfl (H_2.1) ?_
    refine AW.goto (tgt := 65) (pc := 210) dX10_dispatchedBy_210 rfl ?_
    refine AW.mask [true, true, true, true, false, false] ?_
    exact H_2.2
  · skip
    have H_3 := H.2 q
    refine AW.aload_n (pc := 88) dX10_dispatchedBy_88 rfl ?_
    refine AW.iload (pc := 89) dX10_dispatchedBy_89 rfl ?_
    refine AW.callVi (M' := mX10_isOpen) (F' := 0) (as := [aI l5]) (pc := 91) dX10_dispatchedBy_91 (by decide) kX10_isOpen ml_10_320 ob_85 rfl npX10_isOpen (Nat.le_of_ble_eq_true rfl) (p_X10_isOpen (H_3.1) ?_)
    refine AW.if_eq (tgt := 128) (pc := 94) dX10_dispatchedBy_94 rfl (fun q => ?_) (fun q => ?_)
    · skip
      have H_4 := H_3.2.1 q
      refine AW.iinc (pc := 128) dX10_dispatchedBy_128 rfl (by decide) rfl (H_4.1) ?_
      refine AW.goto (tgt := 79) (pc := 131) dX10_dispatchedBy_131 rfl ?_
      exact H_4.2
    · skip
      have H_5 := H_3.2.2 q
      refine AW.iload (pc := 97) dX10_dispatchedBy_97 rfl ?_
      refine AW.if_lt (tgt := 119) (pc := 99) dX10_dispatchedBy_99 rfl (fun q => ?_) (fun q => ?_)
      · skip
        have H_6 := H_5.1 q
        refine AW.aload_n (pc := 119) dX10_dispatchedBy_119 rfl ?_
        refine AW.getr (k := 42) (pc := 120) dX10_dispatchedBy_120 ac_10 sh_85 rfl (by decide) fl_10_87 ?_
        refine AW.iload (pc := 123) dX10_dispatchedBy_123 rfl ?_
        refine AW.iald (pc := 125) dX10_dispatchedBy_125 sh_110 (H_6.1) (v := (h 110 l5)) rfl ?_
        refine AW.istore (pc := 126) dX10_dispatchedBy_126 (by decide) rfl ?_
        refine AW.iinc (pc := 128) dX10_dispatchedBy_128 rfl (by decide) rfl (H_6.2.1) ?_
        refine AW.goto (tgt := 79) (pc := 131) dX10_dispatchedBy_131 rfl ?_
        exact H_6.2.2
      · skip
        have H_7 := H_5.2 q
        refine AW.aload_n (pc := 102) dX10_dispatchedBy_102 rfl ?_
        refine AW.aload_n (pc := 103) dX10_dispatchedBy_103 rfl ?_
        refine AW.getr (k := 42) (pc := 104) dX10_dispatchedBy_104 ac_10 sh_85 rfl (by decide) fl_10_87 ?_
        refine AW.iload (pc := 107) dX10_dispatchedBy_107 rfl ?_
        refine AW.iald (pc := 109) dX10_dispatchedBy_109 sh_110 (H_7.1) (v := (h 110 l5)) rfl ?_
        refine AW.iload (pc := 110) dX10_dispatchedBy_110 rfl ?_
        refine AW.iload_n (pc := 112) dX10_dispatchedBy_112 rfl ?_
        refine AW.callVi (M' := mX10_isBetter) (F' := 2) (as := [aI (h 110 l5), aI l4, aI l1]) (pc := 113) dX10_dispatchedBy_113 (by decide) kX10_isBetter ml_10_323 ob_85 rfl npX10_isBetter (Nat.le_of_ble_eq_true rfl) (aRun.mono (fun r3 h4 H_8 => ?_) H_7.2)
        refine AW.if_eq (tgt := 128) (pc := 116) dX10_dispatchedBy_116 rfl (fun q => ?_) (fun q => ?_)
        · skip
          have H_9 := H_8.1 q
          refine AW.iinc (pc := 128) dX10_dispatchedBy_128 rfl (by decide) rfl (H_9.1) ?_
          refine AW.goto (tgt := 79) (pc := 131) dX10_dispatchedBy_131 rfl ?_
          exact H_9.2
        · skip
          have H_10 := H_8.2 q
          refine AW.aload_n (pc := 119) dX10_dispatchedBy_119 rfl ?_
          refine AW.getr (k := 42) (pc := 120) dX10_dispatchedBy_120 ac_10 sh_85 rfl (by decide) fl_10_87 ?_
          refine AW.iload (pc := 123) dX10_dispatchedBy_123 rfl ?_
          refine AW.iald (pc := 125) dX10_dispatchedBy_125 sh_110 (H_7.1) (v := (h4 110 l5)) rfl ?_
          refine AW.istore (pc := 126) dX10_dispatchedBy_126 (by decide) rfl ?_
          refine AW.iinc (pc := 128) dX10_dispatchedBy_128 rfl (by decide) rfl (H_10.1) ?_
          refine AW.goto (tgt := 79) (pc := 131) dX10_dispatchedBy_131 rfl ?_
          exact H_10.2
set_option maxRecDepth 100000 in
set_option maxHeartbeats 4000000 in
theorem e_X10_dispatch {a1 : Int} {h : aH} {Q : aQ} (H : (((f_X10_in h a1 0 3) = 0 → Q (-1) h) ∧ (¬ ((f_X10_in h a1 0 3) = 0) → (((h 85 1) = 0 → Q (-5) h) ∧ (¬ ((h 85 1) = 0) → aRun mX10_dispatchedBy 3 [aR 85, aI a1] h (fun r1 h2 => aRun mX10_changed 1 [aR 85] h2 (fun r3 h4 => Q r1 h4))))))) : aRun mX10_dispatch 4 [aR 85, aI a1] h Q := by
  refine aRun.of pn_10 rfl (Nat.le_of_ble_eq_true rfl) ?_
  show AW mX10_dispatch 4 0 [some (aR 85), some (aI a1), none] [] h Q
  refine AW.iload_n (pc := 0) dX10_dispatch_0 rfl ?_
  refine AW.iconst (pc := 1) dX10_dispatch_1 ⟨by decide, by decide⟩ ?_
  refine AW.iconst (pc := 2) dX10_dispatch_2 ⟨by decide, by decide⟩ ?_
  refine AW.callSi (M' := mX10_in) (F' := 0) (as := [aI a1, aI 0, aI 3]) (pc := 3) dX10_dispatch_3 (by decide) kX10_in ml_10_108 rfl npX10_in (Nat.le_of_ble_eq_true rfl) (p_X10_in  ?_)
  refine AW.if_ne (tgt := 11) (pc := 6) dX10_dispatch_6 rfl (fun q => ?_) (fun q => ?_)
  · skip
    have H_1 := H.2 q
    refine AW.aload_n (pc := 11) dX10_dispatch_11 rfl ?_
    refine AW.geti' (k := 1) (j := 1) (pc := 12) dX10_dispatch_12 ac_10 sh_85 rfl (by decide) fl_10_105 rfl (v := (h 85 1)) rfl ?_
    refine AW.if_ne (tgt := 21) (pc := 15) dX10_dispatch_15 rfl (fun q => ?_) (fun q => ?_)
    · skip
      have H_2 := H_1.2 q
      refine AW.aload_n (pc := 21) dX10_dispatch_21 rfl ?_
      refine AW.iload_n (pc := 22) dX10_dispatch_22 rfl ?_
      refine AW.callVi (M' := mX10_dispatchedBy) (F' := 3) (as := [aI a1]) (pc := 23) dX10_dispatch_23 (by decide) kX10_dispatchedBy ml_10_326 ob_85 rfl npX10_dispatchedBy (Nat.le_of_ble_eq_true rfl) (aRun.mono (fun r1 h2 H_3 => ?_) H_2)
      refine AW.istore_n (pc := 26) dX10_dispatch_26 (by decide) rfl ?_
      refine AW.aload_n (pc := 27) dX10_dispatch_27 rfl ?_
      refine AW.callVv (M' := mX10_changed) (F' := 1) (as := []) (pc := 28) dX10_dispatch_28 (by decide) kX10_changed ml_10_188 ob_85 rfl npX10_changed (Nat.le_of_ble_eq_true rfl) (aRun.mono (fun r3 h4 H_4 => ?_) H_3)
      refine AW.iload_n (pc := 31) dX10_dispatch_31 rfl ?_
      refine AW.iret (pc := 32) dX10_dispatch_32 rfl ?_
      exact H_4
    · have q := Decidable.not_not.mp q
      have H_5 := H_1.1 q
      refine AW.bipush (pc := 18) dX10_dispatch_18 rfl ⟨by decide, by decide⟩ ?_
      refine AW.iret (pc := 20) dX10_dispatch_20 rfl ?_
      exact H_5
  · have q := Decidable.not_not.mp q
    have H_6 := H.1 q
    refine AW.iconst (pc := 9) dX10_dispatch_9 ⟨by decide, by decide⟩ ?_
    refine AW.iret (pc := 10) dX10_dispatch_10 rfl ?_
    exact H_6
set_option maxRecDepth 100000 in
set_option maxHeartbeats 4000000 in
theorem e_X10_does {a1 : Int} {h : aH} {Q : aQ} (H : ((0 ≤ a1 → aRun mX10_wrong 4 [aR 85] h (fun r1 h2 => ((0 ≤ r1 → aRun mX10_findsMoves 5 [aR 85] h2 (fun r3 h4 => ((a1 < (h4 85 33) → (0 ≤ a1 ∧ a1 < 48) ∧ aRun mX10_swapsMove 1 [aR 85, aI (h4 105 a1)] h4 (fun r5 h6 => aRun mX10_changed 1 [aR 85] h6 (fun r7 h8 => aRun mX10_reckons 3 [aR 85] h8 (fun r9 h10 => Q (if r9 = 0 then ((-4) : Int) else (h10 85 26)) h10)))) ∧ (¬ (a1 < (h4 85 33)) → Q (-2) h4)))) ∧ (¬ (0 ≤ r1) → Q r1 h2)))) ∧ (¬ (0 ≤ a1) → Q (-1) h))) : aRun mX10_does 6 [aR 85, aI a1] h Q := by
  refine aRun.of pn_10 rfl (Nat.le_of_ble_eq_true rfl) ?_
  show AW mX10_does 6 0 [some (aR 85), some (aI a1), none] [] h Q
  refine AW.iload_n (pc := 0) dX10_does_0 rfl ?_
  refine AW.if_ge (tgt := 6) (pc := 1) dX10_does_1 rfl (fun q => ?_) (fun q => ?_)
  · skip
    have H_1 := H.1 q
    refine AW.aload_n (pc := 6) dX10_does_6 rfl ?_
    refine AW.callVi (M' := mX10_wrong) (F' := 4) (as := []) (pc := 7) dX10_does_7 (by decide) kX10_wrong ml_10_244 ob_85 rfl npX10_wrong (Nat.le_of_ble_eq_true rfl) (aRun.mono (fun r1 h2 H_2 => ?_) H_1)
    refine AW.istore_n (pc := 10) dX10_does_10 (by decide) rfl ?_
    refine AW.iload_n (pc := 11) dX10_does_11 rfl ?_
    refine AW.if_ge (tgt := 17) (pc := 12) dX10_does_12 rfl (fun q => ?_) (fun q => ?_)
    · skip
      have H_3 := H_2.1 q
      refine AW.aload_n (pc := 17) dX10_does_17 rfl ?_
      refine AW.callVv (M' := mX10_findsMoves) (F' := 5) (as := []) (pc := 18) dX10_does_18 (by decide) kX10_findsMoves ml_10_269 ob_85 rfl npX10_findsMoves (Nat.le_of_ble_eq_true rfl) (aRun.mono (fun r3 h4 H_4 => ?_) H_3)
      refine AW.iload_n (pc := 21) dX10_does_21 rfl ?_
      refine AW.aload_n (pc := 22) dX10_does_22 rfl ?_
      refine AW.geti' (k := 33) (j := 33) (pc := 23) dX10_does_23 ac_10 sh_85 rfl (by decide) fl_10_254 rfl (v := (h4 85 33)) rfl ?_
      refine AW.icmp_lt (tgt := 32) (pc := 26) dX10_does_26 rfl (fun q => ?_) (fun q => ?_)
      · skip
        have H_5 := H_4.1 q
        refine AW.aload_n (pc := 32) dX10_does_32 rfl ?_
        refine AW.aload_n (pc := 33) dX10_does_33 rfl ?_
        refine AW.getr (k := 31) (pc := 34) dX10_does_34 ac_10 sh_85 rfl (by decide) fl_10_68 ?_
        refine AW.iload_n (pc := 37) dX10_does_37 rfl ?_
        refine AW.iald (pc := 38) dX10_does_38 sh_105 (H_5.1) (v := (h4 105 a1)) rfl ?_
        refine AW.callVv (M' := mX10_swapsMove) (F' := 1) (as := [aI (h4 105 a1)]) (pc := 39) dX10_does_39 (by decide) kX10_swapsMove ml_10_266 ob_85 rfl npX10_swapsMove (Nat.le_of_ble_eq_true rfl) (aRun.mono (fun r5 h6 H_6 => ?_) H_5.2)
        refine AW.aload_n (pc := 42) dX10_does_42 rfl ?_
        refine AW.callVv (M' := mX10_changed) (F' := 1) (as := []) (pc := 43) dX10_does_43 (by decide) kX10_changed ml_10_188 ob_85 rfl npX10_changed (Nat.le_of_ble_eq_true rfl) (aRun.mono (fun r7 h8 H_7 => ?_) H_6)
        refine AW.aload_n (pc := 46) dX10_does_46 rfl ?_
        refine AW.callVi (M' := mX10_reckons) (F' := 3) (as := []) (pc := 47) dX10_does_47 (by decide) kX10_reckons ml_10_191 ob_85 rfl npX10_reckons (Nat.le_of_ble_eq_true rfl) (aRun.mono (fun r9 h10 H_8 => ?_) H_7)
        have K_9 : AW mX10_does 6 62 [some (aR 85), some (aI a1), some (aI r1)] [aI (if r9 = 0 then ((-4) : Int) else (h10 85 26))] h10 Q := by
          have H_10 := H_8
          refine AW.iret (pc := 62) dX10_does_62 rfl ?_
          exact H_10
        refine AW.if_eq (tgt := 60) (pc := 50) dX10_does_50 rfl (fun q => ?_) (fun q => ?_)
        · skip
          rw [if_pos q] at K_9
          refine AW.bipush (pc := 60) dX10_does_60 rfl ⟨by decide, by decide⟩ ?_
          exact K_9
        · skip
          rw [if_neg q] at K_9
          refine AW.aload_n (pc := 53) dX10_does_53 rfl ?_
          refine AW.geti' (k := 26) (j := 26) (pc := 54) dX10_does_54 ac_10 sh_85 rfl (by decide) fl_10_195 rfl (v := (h10 85 26)) rfl ?_
          refine AW.goto (tgt := 62) (pc := 57) dX10_does_57 rfl ?_
          exact K_9
      · skip
        have H_14 := H_4.2 q
        refine AW.bipush (pc := 29) dX10_does_29 rfl ⟨by decide, by decide⟩ ?_
        refine AW.iret (pc := 31) dX10_does_31 rfl ?_
        exact H_14
    · skip
      have H_15 := H_2.2 q
      refine AW.iload_n (pc := 15) dX10_does_15 rfl ?_
      refine AW.iret (pc := 16) dX10_does_16 rfl ?_
      exact H_15
  · skip
    have H_16 := H.2 q
    refine AW.iconst (pc := 4) dX10_does_4 ⟨by decide, by decide⟩ ?_
    refine AW.iret (pc := 5) dX10_does_5 rfl ?_
    exact H_16
