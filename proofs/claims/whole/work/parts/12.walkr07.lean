set_option maxRecDepth 100000 in
set_option maxHeartbeats 4000000 in
theorem e_X10_shop  {h : aH} {Q : aQ} (H : aRun mX10_readsAll 4 [aR 85] h (fun r1 h2 => (((h2 85 11) = 0 → inR ((-100) - (h2 85 10)) ∧ Q ((-100) - (h2 85 10)) (a_up h2 85 9 0)) ∧ (¬ ((h2 85 11) = 0) → AW mX10_shop 5 42 [some (aR 85), some (aI 0)] [] (a_up (a_up (a_up h2 85 9 0) 85 0 (h2 85 12)) 85 1 (h2 85 13)) Q)))) : aRun mX10_shop 5 [aR 85] h Q := by
  refine aRun.of pn_10 rfl (Nat.le_of_ble_eq_true rfl) ?_
  show AW mX10_shop 5 0 [some (aR 85), none] [] h Q
  refine AW.aload_n (pc := 0) dX10_shop_0 rfl ?_
  refine AW.callVv (M' := mX10_readsAll) (F' := 4) (as := []) (pc := 1) dX10_shop_1 (by decide) kX10_readsAll ml_10_147 ob_85 rfl npX10_readsAll (Nat.le_of_ble_eq_true rfl) (aRun.mono (fun r1 h2 H_1 => ?_) H)
  refine AW.aload_n (pc := 4) dX10_shop_4 rfl ?_
  refine AW.iconst (pc := 5) dX10_shop_5 ⟨by decide, by decide⟩ ?_
  refine AW.puti' (k := 9) (j := 9) (pc := 6) dX10_shop_6 ac_10 sh_85 rfl (by decide) fl_10_112 rfl rfl (tyX10_ok 9 (by decide)) (Or.inl rfl) ?_
  refine AW.aload_n (pc := 9) dX10_shop_9 rfl ?_
  refine AW.geti' (k := 11) (j := 11) (pc := 10) dX10_shop_10 ac_10 sh_85 rfl (by decide) fl_10_118 rfl (v := (h2 85 11)) (by rw [a_up_off (by decide)]) ?_
  refine AW.if_ne (tgt := 24) (pc := 13) dX10_shop_13 rfl (fun q => ?_) (fun q => ?_)
  · skip
    have H_2 := H_1.2 q
    refine AW.aload_n (pc := 24) dX10_shop_24 rfl ?_
    refine AW.aload_n (pc := 25) dX10_shop_25 rfl ?_
    refine AW.geti' (k := 12) (j := 12) (pc := 26) dX10_shop_26 ac_10 sh_85 rfl (by decide) fl_10_137 rfl (v := (h2 85 12)) (by rw [a_up_off (by decide)]) ?_
    refine AW.puti' (k := 0) (j := 0) (pc := 29) dX10_shop_29 ac_10 sh_85 rfl (by decide) fl_10_150 rfl rfl (tyX10_ok 0 (by decide)) (Or.inl rfl) ?_
    refine AW.aload_n (pc := 32) dX10_shop_32 rfl ?_
    refine AW.aload_n (pc := 33) dX10_shop_33 rfl ?_
    refine AW.geti' (k := 13) (j := 13) (pc := 34) dX10_shop_34 ac_10 sh_85 rfl (by decide) fl_10_122 rfl (v := (h2 85 13)) (by rw [a_up_off (by decide), a_up_off (by decide)]) ?_
    refine AW.puti' (k := 1) (j := 1) (pc := 37) dX10_shop_37 ac_10 sh_85 rfl (by decide) fl_10_105 rfl rfl (tyX10_ok 1 (by decide)) (Or.inl rfl) ?_
    refine AW.iconst (pc := 40) dX10_shop_40 ⟨by decide, by decide⟩ ?_
    refine AW.istore_n (pc := 41) dX10_shop_41 (by decide) rfl ?_
    exact H_2
  · have q := Decidable.not_not.mp q
    have H_3 := H_1.1 q
    refine AW.bipush (pc := 16) dX10_shop_16 rfl ⟨by decide, by decide⟩ ?_
    refine AW.aload_n (pc := 18) dX10_shop_18 rfl ?_
    refine AW.geti' (k := 10) (j := 10) (pc := 19) dX10_shop_19 ac_10 sh_85 rfl (by decide) fl_10_115 rfl (v := (h2 85 10)) (by rw [a_up_off (by decide)]) ?_
    refine AW.isub (pc := 22) dX10_shop_22 (H_3.1) ?_
    refine AW.iret (pc := 23) dX10_shop_23 rfl ?_
    exact H_3.2
set_option maxRecDepth 100000 in
set_option maxHeartbeats 4000000 in
theorem s_X10_shop_42  {l1 : Int} {h : aH} {Q : aQ} (H : ((5 ≤ l1 → AW mX10_shop 5 62 [some (aR 85), some (aI 0)] [] h Q) ∧ (¬ (5 ≤ l1) → (0 ≤ l1 ∧ l1 < 5) ∧ inR (l1 + 1) ∧ AW mX10_shop 5 42 [some (aR 85), some (aI (l1 + 1))] [] (a_up h 91 l1 0) Q))) : AW mX10_shop 5 42 [some (aR 85), some (aI l1)] [] h Q := by
  refine AW.iload_n (pc := 42) dX10_shop_42 rfl ?_
  refine AW.iconst (pc := 43) dX10_shop_43 ⟨by decide, by decide⟩ ?_
  refine AW.icmp_ge (tgt := 60) (pc := 44) dX10_shop_44 rfl (fun q => ?_) (fun q => ?_)
  · skip
    have H_1 := H.1 q
    refine AW.iconst (pc := 60) dX10_shop_60 ⟨by decide, by decide⟩ ?_
    refine AW.istore_n (pc := 61) dX10_shop_61 (by decide) rfl ?_
    exact H_1
  · skip
    have H_2 := H.2 q
    refine AW.aload_n (pc := 47) dX10_shop_47 rfl ?_
    refine AW.getr (k := 7) (pc := 48) dX10_shop_48 ac_10 sh_85 rfl (by decide) fl_10_25 ?_
    refine AW.iload_n (pc := 51) dX10_shop_51 rfl ?_
    refine AW.iconst (pc := 52) dX10_shop_52 ⟨by decide, by decide⟩ ?_
    refine AW.iast (pc := 53) dX10_shop_53 sh_91 (H_2.1) ?_
    refine AW.iinc (pc := 54) dX10_shop_54 rfl (by decide) rfl (H_2.2.1) ?_
    refine AW.goto (tgt := 42) (pc := 57) dX10_shop_57 rfl ?_
    exact H_2.2.2
set_option maxRecDepth 100000 in
set_option maxHeartbeats 4000000 in
theorem s_X10_shop_62  {l1 : Int} {h : aH} {Q : aQ} (H : (((h 85 1) ≤ l1 → aRun mX10_begins 1 [aR 85] h (fun r1 h2 => Q (h2 85 1) h2)) ∧ (¬ ((h 85 1) ≤ l1) → (0 ≤ l1 ∧ l1 < 24) ∧ ((¬ (l1 ≤ 0) → (inR (l1 - 1) ∧ (0 ≤ (l1 - 1) ∧ (l1 - 1) < 24) ∧ ((h 93 (l1 - 1)) = (h 93 l1) → inR ((h 87 (l1 - 1)) + 1)))) ∧ aRun mX10_puts 0 [aR 85, aI l1] (a_up (a_up (a_up (a_up h 86 l1 (h 93 l1)) 87 l1 (if l1 ≤ 0 then (0 : Int) else (if (h 93 (l1 - 1)) = (h 93 l1) then ((h 87 (l1 - 1)) + 1) else (0 : Int)))) 88 l1 (h 94 l1)) 89 l1 (h 95 l1)) (fun r3 h4 => inR (l1 + 1) ∧ AW mX10_shop 5 62 [some (aR 85), some (aI (l1 + 1))] [] h4 Q))))) : AW mX10_shop 5 62 [some (aR 85), some (aI l1)] [] h Q := by
  refine AW.iload_n (pc := 62) dX10_shop_62 rfl ?_
  refine AW.aload_n (pc := 63) dX10_shop_63 rfl ?_
  refine AW.geti' (k := 1) (j := 1) (pc := 64) dX10_shop_64 ac_10 sh_85 rfl (by decide) fl_10_105 rfl (v := (h 85 1)) rfl ?_
  refine AW.icmp_ge (tgt := 158) (pc := 67) dX10_shop_67 rfl (fun q => ?_) (fun q => ?_)
  · skip
    have H_1 := H.1 q
    refine AW.aload_n (pc := 158) dX10_shop_158 rfl ?_
    refine AW.callVv (M' := mX10_begins) (F' := 1) (as := []) (pc := 159) dX10_shop_159 (by decide) kX10_begins ml_10_156 ob_85 rfl npX10_begins (Nat.le_of_ble_eq_true rfl) (aRun.mono (fun r1 h2 H_2 => ?_) H_1)
    refine AW.aload_n (pc := 162) dX10_shop_162 rfl ?_
    refine AW.geti' (k := 1) (j := 1) (pc := 163) dX10_shop_163 ac_10 sh_85 rfl (by decide) fl_10_105 rfl (v := (h2 85 1)) rfl ?_
    refine AW.iret (pc := 166) dX10_shop_166 rfl ?_
    exact H_2
  · skip
    have H_3 := H.2 q
    refine AW.aload_n (pc := 70) dX10_shop_70 rfl ?_
    refine AW.getr (k := 2) (pc := 71) dX10_shop_71 ac_10 sh_85 rfl (by decide) fl_10_9 ?_
    refine AW.iload_n (pc := 74) dX10_shop_74 rfl ?_
    refine AW.aload_n (pc := 75) dX10_shop_75 rfl ?_
    refine AW.getr (k := 14) (pc := 76) dX10_shop_76 ac_10 sh_85 rfl (by decide) fl_10_31 ?_
    refine AW.iload_n (pc := 79) dX10_shop_79 rfl ?_
    refine AW.iald (pc := 80) dX10_shop_80 sh_93 (H_3.1) (v := (h 93 l1)) rfl ?_
    refine AW.iast (pc := 81) dX10_shop_81 sh_86 (H_3.1) ?_
    refine AW.aload_n (pc := 82) dX10_shop_82 rfl ?_
    refine AW.getr (k := 3) (pc := 83) dX10_shop_83 ac_10 sh_85 rfl (by decide) fl_10_13 ?_
    refine AW.iload_n (pc := 86) dX10_shop_86 rfl ?_
    refine AW.iload_n (pc := 87) dX10_shop_87 rfl ?_
    have K_4 : AW mX10_shop 5 122 [some (aR 85), some (aI l1)] [aI (if l1 ≤ 0 then (0 : Int) else (if (h 93 (l1 - 1)) = (h 93 l1) then ((h 87 (l1 - 1)) + 1) else (0 : Int))), aI l1, aR 87] (a_up h 86 l1 (h 93 l1)) Q := by
      have H_5 := H_3.2.2
      refine AW.iast (pc := 122) dX10_shop_122 sh_87 (H_3.1) ?_
      refine AW.aload_n (pc := 123) dX10_shop_123 rfl ?_
      refine AW.getr (k := 4) (pc := 124) dX10_shop_124 ac_10 sh_85 rfl (by decide) fl_10_16 ?_
      refine AW.iload_n (pc := 127) dX10_shop_127 rfl ?_
      refine AW.aload_n (pc := 128) dX10_shop_128 rfl ?_
      refine AW.getr (k := 15) (pc := 129) dX10_shop_129 ac_10 sh_85 rfl (by decide) fl_10_34 ?_
      refine AW.iload_n (pc := 132) dX10_shop_132 rfl ?_
      refine AW.iald (pc := 133) dX10_shop_133 sh_94 (H_3.1) (v := (h 94 l1)) (by rw [a_up_ne (by decide), a_up_ne (by decide)]) ?_
      refine AW.iast (pc := 134) dX10_shop_134 sh_88 (H_3.1) ?_
      refine AW.aload_n (pc := 135) dX10_shop_135 rfl ?_
      refine AW.getr (k := 5) (pc := 136) dX10_shop_136 ac_10 sh_85 rfl (by decide) fl_10_19 ?_
      refine AW.iload_n (pc := 139) dX10_shop_139 rfl ?_
      refine AW.aload_n (pc := 140) dX10_shop_140 rfl ?_
      refine AW.getr (k := 16) (pc := 141) dX10_shop_141 ac_10 sh_85 rfl (by decide) fl_10_37 ?_
      refine AW.iload_n (pc := 144) dX10_shop_144 rfl ?_
      refine AW.iald (pc := 145) dX10_shop_145 sh_95 (H_3.1) (v := (h 95 l1)) (by rw [a_up_ne (by decide), a_up_ne (by decide), a_up_ne (by decide)]) ?_
      refine AW.iast (pc := 146) dX10_shop_146 sh_89 (H_3.1) ?_
      refine AW.aload_n (pc := 147) dX10_shop_147 rfl ?_
      refine AW.iload_n (pc := 148) dX10_shop_148 rfl ?_
      refine AW.callVv (M' := mX10_puts) (F' := 0) (as := [aI l1]) (pc := 149) dX10_shop_149 (by decide) kX10_puts ml_10_153 ob_85 rfl npX10_puts (Nat.le_of_ble_eq_true rfl) (aRun.mono (fun r3 h4 H_7 => ?_) H_5)
      refine AW.iinc (pc := 152) dX10_shop_152 rfl (by decide) rfl (H_7.1) ?_
      refine AW.goto (tgt := 62) (pc := 155) dX10_shop_155 rfl ?_
      exact H_7.2
    have H_6 := H_3.2.1
    refine AW.if_le (tgt := 121) (pc := 88) dX10_shop_88 rfl (fun q => ?_) (fun q => ?_)
    · skip
      rw [if_pos q] at K_4
      refine AW.iconst (pc := 121) dX10_shop_121 ⟨by decide, by decide⟩ ?_
      exact K_4
    · skip
      have H_9 := H_6 q
      rw [if_neg q] at K_4
      refine AW.aload_n (pc := 91) dX10_shop_91 rfl ?_
      refine AW.getr (k := 14) (pc := 92) dX10_shop_92 ac_10 sh_85 rfl (by decide) fl_10_31 ?_
      refine AW.iload_n (pc := 95) dX10_shop_95 rfl ?_
      refine AW.iconst (pc := 96) dX10_shop_96 ⟨by decide, by decide⟩ ?_
      refine AW.isub (pc := 97) dX10_shop_97 (H_9.1) ?_
      refine AW.iald (pc := 98) dX10_shop_98 sh_93 (H_9.2.1) (v := (h 93 (l1 - 1))) (by rw [a_up_ne (by decide)]) ?_
      refine AW.aload_n (pc := 99) dX10_shop_99 rfl ?_
      refine AW.getr (k := 14) (pc := 100) dX10_shop_100 ac_10 sh_85 rfl (by decide) fl_10_31 ?_
      refine AW.iload_n (pc := 103) dX10_shop_103 rfl ?_
      refine AW.iald (pc := 104) dX10_shop_104 sh_93 (H_3.1) (v := (h 93 l1)) (by rw [a_up_ne (by decide)]) ?_
      refine AW.icmp_ne (tgt := 121) (pc := 105) dX10_shop_105 rfl (fun q => ?_) (fun q => ?_)
      · skip
        rw [if_neg q] at K_4
        refine AW.iconst (pc := 121) dX10_shop_121 ⟨by decide, by decide⟩ ?_
        exact K_4
      · have q := Decidable.not_not.mp q
        have H_11 := H_9.2.2 q
        rw [if_pos q] at K_4
        refine AW.aload_n (pc := 108) dX10_shop_108 rfl ?_
        refine AW.getr (k := 3) (pc := 109) dX10_shop_109 ac_10 sh_85 rfl (by decide) fl_10_13 ?_
        refine AW.iload_n (pc := 112) dX10_shop_112 rfl ?_
        refine AW.iconst (pc := 113) dX10_shop_113 ⟨by decide, by decide⟩ ?_
        refine AW.isub (pc := 114) dX10_shop_114 (H_9.1) ?_
        refine AW.iald (pc := 115) dX10_shop_115 sh_87 (H_9.2.1) (v := (h 87 (l1 - 1))) (by rw [a_up_ne (by decide)]) ?_
        refine AW.iconst (pc := 116) dX10_shop_116 ⟨by decide, by decide⟩ ?_
        refine AW.iadd (pc := 117) dX10_shop_117 H_11 ?_
        refine AW.goto (tgt := 122) (pc := 118) dX10_shop_118 rfl ?_
        exact K_4
set_option maxRecDepth 100000 in
set_option maxHeartbeats 4000000 in
theorem e_X10_span  {h : aH} {Q : aQ} (H : (((h 85 1) = 0 → Q (-5) h) ∧ (¬ ((h 85 1) = 0) → aRun mX10_reckons 3 [aR 85] h (fun r1 h2 => Q (if r1 = 0 then ((-4) : Int) else (h2 85 26)) h2)))) : aRun mX10_span 4 [aR 85] h Q := by
  refine aRun.of pn_10 rfl (Nat.le_of_ble_eq_true rfl) ?_
  show AW mX10_span 4 0 [some (aR 85)] [] h Q
  refine AW.aload_n (pc := 0) dX10_span_0 rfl ?_
  refine AW.geti' (k := 1) (j := 1) (pc := 1) dX10_span_1 ac_10 sh_85 rfl (by decide) fl_10_105 rfl (v := (h 85 1)) rfl ?_
  refine AW.if_ne (tgt := 10) (pc := 4) dX10_span_4 rfl (fun q => ?_) (fun q => ?_)
  · skip
    have H_1 := H.2 q
    refine AW.aload_n (pc := 10) dX10_span_10 rfl ?_
    refine AW.callVi (M' := mX10_reckons) (F' := 3) (as := []) (pc := 11) dX10_span_11 (by decide) kX10_reckons ml_10_191 ob_85 rfl npX10_reckons (Nat.le_of_ble_eq_true rfl) (aRun.mono (fun r1 h2 H_2 => ?_) H_1)
    have K_3 : AW mX10_span 4 26 [some (aR 85)] [aI (if r1 = 0 then ((-4) : Int) else (h2 85 26))] h2 Q := by
      have H_4 := H_2
      refine AW.iret (pc := 26) dX10_span_26 rfl ?_
      exact H_4
    refine AW.if_eq (tgt := 24) (pc := 14) dX10_span_14 rfl (fun q => ?_) (fun q => ?_)
    · skip
      rw [if_pos q] at K_3
      refine AW.bipush (pc := 24) dX10_span_24 rfl ⟨by decide, by decide⟩ ?_
      exact K_3
    · skip
      rw [if_neg q] at K_3
      refine AW.aload_n (pc := 17) dX10_span_17 rfl ?_
      refine AW.geti' (k := 26) (j := 26) (pc := 18) dX10_span_18 ac_10 sh_85 rfl (by decide) fl_10_195 rfl (v := (h2 85 26)) rfl ?_
      refine AW.goto (tgt := 26) (pc := 21) dX10_span_21 rfl ?_
      exact K_3
  · have q := Decidable.not_not.mp q
    have H_8 := H.1 q
    refine AW.bipush (pc := 7) dX10_span_7 rfl ⟨by decide, by decide⟩ ?_
    refine AW.iret (pc := 9) dX10_span_9 rfl ?_
    exact H_8
set_option maxRecDepth 100000 in
set_option maxHeartbeats 4000000 in
theorem e_X10_steps  {h : aH} {Q : aQ} (H : aRun mX10_reckons 3 [aR 85] h (fun r1 h2 => aRun mX10_notes 0 [aR 85, aI (h2 85 26)] h2 (fun r3 h4 => aRun mX10_findsMoves 5 [aR 85] h4 (fun r5 h6 => aRun mX10_chosen 5 [aR 85] h6 (fun r7 h8 => ((r7 < 0 → Q 0 h8) ∧ (¬ (r7 < 0) → ((r1 = 0 → Q 0 h8) ∧ (¬ (r1 = 0) → (0 ≤ r7 ∧ r7 < 48) ∧ aRun mX10_swapsMove 1 [aR 85, aI (h8 105 r7)] h8 (fun r9 h10 => aRun mX10_changed 1 [aR 85] h10 (fun r11 h12 => inR ((h12 85 40) + 1) ∧ 0 ≤ (h8 105 r7) ∧ inR (100 * ((h8 105 r7) % 100)) ∧ inR ((100 * ((h8 105 r7) % 100)) + ((h8 105 r7) / 100)) ∧ aRun mX10_keepsMove 1 [aR 85, aI ((100 * ((h8 105 r7) % 100)) + ((h8 105 r7) / 100))] (a_up h12 85 40 ((h12 85 40) + 1)) (fun r13 h14 => aRun mX10_notes 0 [aR 85, aI (h14 109 r7)] h14 (fun r15 h16 => Q 1 h16))))))))))))) : aRun mX10_steps 6 [aR 85] h Q := by
  refine aRun.of pn_10 rfl (Nat.le_of_ble_eq_true rfl) ?_
  show AW mX10_steps 6 0 [some (aR 85), none, none, none] [] h Q
  refine AW.aload_n (pc := 0) dX10_steps_0 rfl ?_
  refine AW.callVi (M' := mX10_reckons) (F' := 3) (as := []) (pc := 1) dX10_steps_1 (by decide) kX10_reckons ml_10_191 ob_85 rfl npX10_reckons (Nat.le_of_ble_eq_true rfl) (aRun.mono (fun r1 h2 H_1 => ?_) H)
  refine AW.istore_n (pc := 4) dX10_steps_4 (by decide) rfl ?_
  refine AW.aload_n (pc := 5) dX10_steps_5 rfl ?_
  refine AW.aload_n (pc := 6) dX10_steps_6 rfl ?_
  refine AW.geti' (k := 26) (j := 26) (pc := 7) dX10_steps_7 ac_10 sh_85 rfl (by decide) fl_10_195 rfl (v := (h2 85 26)) rfl ?_
  refine AW.callVv (M' := mX10_notes) (F' := 0) (as := [aI (h2 85 26)]) (pc := 10) dX10_steps_10 (by decide) kX10_notes ml_10_293 ob_85 rfl npX10_notes (Nat.le_of_ble_eq_true rfl) (aRun.mono (fun r3 h4 H_2 => ?_) H_1)
  refine AW.aload_n (pc := 13) dX10_steps_13 rfl ?_
  refine AW.callVv (M' := mX10_findsMoves) (F' := 5) (as := []) (pc := 14) dX10_steps_14 (by decide) kX10_findsMoves ml_10_269 ob_85 rfl npX10_findsMoves (Nat.le_of_ble_eq_true rfl) (aRun.mono (fun r5 h6 H_3 => ?_) H_2)
  refine AW.aload_n (pc := 17) dX10_steps_17 rfl ?_
  refine AW.callVi (M' := mX10_chosen) (F' := 5) (as := []) (pc := 18) dX10_steps_18 (by decide) kX10_chosen ml_10_296 ob_85 rfl npX10_chosen (Nat.le_of_ble_eq_true rfl) (aRun.mono (fun r7 h8 H_4 => ?_) H_3)
  refine AW.istore_n (pc := 21) dX10_steps_21 (by decide) rfl ?_
  refine AW.iload_n (pc := 22) dX10_steps_22 rfl ?_
  refine AW.if_lt (tgt := 30) (pc := 23) dX10_steps_23 rfl (fun q => ?_) (fun q => ?_)
  · skip
    have H_5 := H_4.1 q
    refine AW.iconst (pc := 30) dX10_steps_30 ⟨by decide, by decide⟩ ?_
    refine AW.zret (pc := 31) dX10_steps_31 rfl (Or.inl rfl) ?_
    exact H_5
  · skip
    have H_6 := H_4.2 q
    refine AW.iload_n (pc := 26) dX10_steps_26 rfl ?_
    refine AW.if_ne (tgt := 32) (pc := 27) dX10_steps_27 rfl (fun q => ?_) (fun q => ?_)
    · skip
      have H_7 := H_6.2 q
      refine AW.aload_n (pc := 32) dX10_steps_32 rfl ?_
      refine AW.getr (k := 31) (pc := 33) dX10_steps_33 ac_10 sh_85 rfl (by decide) fl_10_68 ?_
      refine AW.iload_n (pc := 36) dX10_steps_36 rfl ?_
      refine AW.iald (pc := 37) dX10_steps_37 sh_105 (H_7.1) (v := (h8 105 r7)) rfl ?_
      refine AW.istore_n (pc := 38) dX10_steps_38 (by decide) rfl ?_
      refine AW.aload_n (pc := 39) dX10_steps_39 rfl ?_
      refine AW.iload_n (pc := 40) dX10_steps_40 rfl ?_
      refine AW.callVv (M' := mX10_swapsMove) (F' := 1) (as := [aI (h8 105 r7)]) (pc := 41) dX10_steps_41 (by decide) kX10_swapsMove ml_10_266 ob_85 rfl npX10_swapsMove (Nat.le_of_ble_eq_true rfl) (aRun.mono (fun r9 h10 H_8 => ?_) H_7.2)
      refine AW.aload_n (pc := 44) dX10_steps_44 rfl ?_
      refine AW.callVv (M' := mX10_changed) (F' := 1) (as := []) (pc := 45) dX10_steps_45 (by decide) kX10_changed ml_10_188 ob_85 rfl npX10_changed (Nat.le_of_ble_eq_true rfl) (aRun.mono (fun r11 h12 H_9 => ?_) H_8)
      refine AW.aload_n (pc := 48) dX10_steps_48 rfl ?_
      refine AW.dup (pc := 49) dX10_steps_49 rfl ?_
      refine AW.geti' (k := 40) (j := 40) (pc := 50) dX10_steps_50 ac_10 sh_85 rfl (by decide) fl_10_299 rfl (v := (h12 85 40)) rfl ?_
      refine AW.iconst (pc := 53) dX10_steps_53 ⟨by decide, by decide⟩ ?_
      refine AW.iadd (pc := 54) dX10_steps_54 (H_9.1) ?_
      refine AW.puti' (k := 40) (j := 40) (pc := 55) dX10_steps_55 ac_10 sh_85 rfl (by decide) fl_10_299 rfl rfl (tyX10_ok 40 (by decide)) (Or.inl rfl) ?_
      refine AW.aload_n (pc := 58) dX10_steps_58 rfl ?_
      refine AW.bipush (pc := 59) dX10_steps_59 rfl ⟨by decide, by decide⟩ ?_
      refine AW.iload_n (pc := 61) dX10_steps_61 rfl ?_
      refine AW.bipush (pc := 62) dX10_steps_62 rfl ⟨by decide, by decide⟩ ?_
      refine AW.irem (pc := 64) dX10_steps_64 (H_9.2.1) (by decide) ?_
      refine AW.imul (pc := 65) dX10_steps_65 (H_9.2.2.1) ?_
      refine AW.iload_n (pc := 66) dX10_steps_66 rfl ?_
      refine AW.bipush (pc := 67) dX10_steps_67 rfl ⟨by decide, by decide⟩ ?_
      refine AW.idiv (pc := 69) dX10_steps_69 (H_9.2.1) (by decide) ?_
      refine AW.iadd (pc := 70) dX10_steps_70 (H_9.2.2.2.1) ?_
      refine AW.callVv (M' := mX10_keepsMove) (F' := 1) (as := [aI ((100 * ((h8 105 r7) % 100)) + ((h8 105 r7) / 100))]) (pc := 71) dX10_steps_71 (by decide) kX10_keepsMove ml_10_302 ob_85 rfl npX10_keepsMove (Nat.le_of_ble_eq_true rfl) (aRun.mono (fun r13 h14 H_10 => ?_) H_9.2.2.2.2)
      refine AW.aload_n (pc := 74) dX10_steps_74 rfl ?_
      refine AW.aload_n (pc := 75) dX10_steps_75 rfl ?_
      refine AW.getr (k := 41) (pc := 76) dX10_steps_76 ac_10 sh_85 rfl (by decide) fl_10_84 ?_
      refine AW.iload_n (pc := 79) dX10_steps_79 rfl ?_
      refine AW.iald (pc := 80) dX10_steps_80 sh_109 (H_7.1) (v := (h14 109 r7)) rfl ?_
      refine AW.callVv (M' := mX10_notes) (F' := 0) (as := [aI (h14 109 r7)]) (pc := 81) dX10_steps_81 (by decide) kX10_notes ml_10_293 ob_85 rfl npX10_notes (Nat.le_of_ble_eq_true rfl) (aRun.mono (fun r15 h16 H_11 => ?_) H_10)
      refine AW.iconst (pc := 84) dX10_steps_84 ⟨by decide, by decide⟩ ?_
      refine AW.zret (pc := 85) dX10_steps_85 rfl (Or.inr rfl) ?_
      exact H_11
    · have q := Decidable.not_not.mp q
      have H_12 := H_6.1 q
      refine AW.iconst (pc := 30) dX10_steps_30 ⟨by decide, by decide⟩ ?_
      refine AW.zret (pc := 31) dX10_steps_31 rfl (Or.inl rfl) ?_
      exact H_12
set_option maxRecDepth 100000 in
set_option maxHeartbeats 4000000 in
theorem e_X10_step {a1 : Int} {h : aH} {Q : aQ} (H : (((f_X10_in h a1 1 30) = 0 → Q (-1) h) ∧ (¬ ((f_X10_in h a1 1 30) = 0) → aRun mX10_wrong 4 [aR 85] h (fun r1 h2 => ((0 ≤ r1 → AW mX10_step 7 25 [some (aR 85), some (aI a1), none, some (aI 0)] [] h2 Q) ∧ (¬ (0 ≤ r1) → Q r1 h2)))))) : aRun mX10_step 7 [aR 85, aI a1] h Q := by
  refine aRun.of pn_10 rfl (Nat.le_of_ble_eq_true rfl) ?_
  show AW mX10_step 7 0 [some (aR 85), some (aI a1), none, none] [] h Q
  refine AW.iload_n (pc := 0) dX10_step_0 rfl ?_
  refine AW.iconst (pc := 1) dX10_step_1 ⟨by decide, by decide⟩ ?_
  refine AW.bipush (pc := 2) dX10_step_2 rfl ⟨by decide, by decide⟩ ?_
  refine AW.callSi (M' := mX10_in) (F' := 0) (as := [aI a1, aI 1, aI 30]) (pc := 4) dX10_step_4 (by decide) kX10_in ml_10_108 rfl npX10_in (Nat.le_of_ble_eq_true rfl) (p_X10_in  ?_)
  refine AW.if_ne (tgt := 12) (pc := 7) dX10_step_7 rfl (fun q => ?_) (fun q => ?_)
  · skip
    have H_1 := H.2 q
    refine AW.aload_n (pc := 12) dX10_step_12 rfl ?_
    refine AW.callVi (M' := mX10_wrong) (F' := 4) (as := []) (pc := 13) dX10_step_13 (by decide) kX10_wrong ml_10_244 ob_85 rfl npX10_wrong (Nat.le_of_ble_eq_true rfl) (aRun.mono (fun r1 h2 H_2 => ?_) H_1)
    refine AW.istore_n (pc := 16) dX10_step_16 (by decide) rfl ?_
    refine AW.iload_n (pc := 17) dX10_step_17 rfl ?_
    refine AW.if_ge (tgt := 23) (pc := 18) dX10_step_18 rfl (fun q => ?_) (fun q => ?_)
    · skip
      have H_3 := H_2.1 q
      refine AW.iconst (pc := 23) dX10_step_23 ⟨by decide, by decide⟩ ?_
      refine AW.istore_n (pc := 24) dX10_step_24 (by decide) rfl ?_
      refine AW.mask [true, true, false, true] ?_
      exact H_3
    · skip
      have H_4 := H_2.2 q
      refine AW.iload_n (pc := 21) dX10_step_21 rfl ?_
      refine AW.iret (pc := 22) dX10_step_22 rfl ?_
      exact H_4
  · have q := Decidable.not_not.mp q
    have H_5 := H.1 q
    refine AW.iconst (pc := 10) dX10_step_10 ⟨by decide, by decide⟩ ?_
    refine AW.iret (pc := 11) dX10_step_11 rfl ?_
    exact H_5
set_option maxRecDepth 100000 in
set_option maxHeartbeats 4000000 in
theorem s_X10_step_25  {l1 l3 : Int} {h : aH} {Q : aQ} (H : ((l1 ≤ l3 → Q l3 h) ∧ (¬ (l1 ≤ l3) → aRun mX10_steps 6 [aR 85] h (fun r1 h2 => ((r1 = 0 → Q l3 h2) ∧ (¬ (r1 = 0) → inR (l3 + 1) ∧ AW mX10_step 7 25 [some (aR 85), some (aI l1), none, some (aI (l3 + 1))] [] h2 Q)))))) : AW mX10_step 7 25 [some (aR 85), some (aI l1), none, some (aI l3)] [] h Q := by
  refine AW.iload_n (pc := 25) dX10_step_25 rfl ?_
  refine AW.iload_n (pc := 26) dX10_step_26 rfl ?_
  refine AW.icmp_ge (tgt := 43) (pc := 27) dX10_step_27 rfl (fun q => ?_) (fun q => ?_)
  · skip
    have H_1 := H.1 q
    refine AW.iload_n (pc := 43) dX10_step_43 rfl ?_
    refine AW.iret (pc := 44) dX10_step_44 rfl ?_
    exact H_1
  · skip
    have H_2 := H.2 q
    refine AW.aload_n (pc := 30) dX10_step_30 rfl ?_
    refine AW.callVi (M' := mX10_steps) (F' := 6) (as := []) (pc := 31) dX10_step_31 (by decide) kX10_steps ml_10_305 ob_85 rfl npX10_steps (Nat.le_of_ble_eq_true rfl) (aRun.mono (fun r1 h2 H_3 => ?_) H_2)
    refine AW.if_eq (tgt := 43) (pc := 34) dX10_step_34 rfl (fun q => ?_) (fun q => ?_)
    · skip
      have H_4 := H_3.1 q
      refine AW.iload_n (pc := 43) dX10_step_43 rfl ?_
      refine AW.iret (pc := 44) dX10_step_44 rfl ?_
      exact H_4
    · skip
      have H_5 := H_3.2 q
      refine AW.iinc (pc := 37) dX10_step_37 rfl (by decide) rfl (H_5.1) ?_
      refine AW.goto (tgt := 25) (pc := 40) dX10_step_40 rfl ?_
      exact H_5.2
set_option maxRecDepth 100000 in
set_option maxHeartbeats 4000000 in
theorem e_X10_tabu {a1 : Int} {h : aH} {Q : aQ} (H : (((f_X10_in h a1 0 9) = 0 → Q (-1) h) ∧ (¬ ((f_X10_in h a1 0 9) = 0) → Q (h 85 34) (a_up (a_up (a_up h 85 34 a1) 85 36 0) 85 37 0)))) : aRun mX10_tabu 1 [aR 85, aI a1] h Q := by
  refine aRun.of pn_10 rfl (Nat.le_of_ble_eq_true rfl) ?_
  show AW mX10_tabu 1 0 [some (aR 85), some (aI a1), none] [] h Q
  refine AW.iload_n (pc := 0) dX10_tabu_0 rfl ?_
  refine AW.iconst (pc := 1) dX10_tabu_1 ⟨by decide, by decide⟩ ?_
  refine AW.bipush (pc := 2) dX10_tabu_2 rfl ⟨by decide, by decide⟩ ?_
  refine AW.callSi (M' := mX10_in) (F' := 0) (as := [aI a1, aI 0, aI 9]) (pc := 4) dX10_tabu_4 (by decide) kX10_in ml_10_108 rfl npX10_in (Nat.le_of_ble_eq_true rfl) (p_X10_in  ?_)
  refine AW.if_ne (tgt := 12) (pc := 7) dX10_tabu_7 rfl (fun q => ?_) (fun q => ?_)
  · skip
    have H_1 := H.2 q
    refine AW.aload_n (pc := 12) dX10_tabu_12 rfl ?_
    refine AW.geti' (k := 34) (j := 34) (pc := 13) dX10_tabu_13 ac_10 sh_85 rfl (by decide) fl_10_74 rfl (v := (h 85 34)) rfl ?_
    refine AW.istore_n (pc := 16) dX10_tabu_16 (by decide) rfl ?_
    refine AW.aload_n (pc := 17) dX10_tabu_17 rfl ?_
    refine AW.iload_n (pc := 18) dX10_tabu_18 rfl ?_
    refine AW.puti' (k := 34) (j := 34) (pc := 19) dX10_tabu_19 ac_10 sh_85 rfl (by decide) fl_10_74 rfl rfl (tyX10_ok 34 (by decide)) (Or.inl rfl) ?_
    refine AW.aload_n (pc := 22) dX10_tabu_22 rfl ?_
    refine AW.callVv (M' := mX10_forgets) (F' := 0) (as := []) (pc := 23) dX10_tabu_23 (by decide) kX10_forgets ml_10_171 ob_85 rfl npX10_forgets (Nat.le_of_ble_eq_true rfl) (p_X10_forgets  ?_)
    refine AW.iload_n (pc := 26) dX10_tabu_26 rfl ?_
    refine AW.iret (pc := 27) dX10_tabu_27 rfl ?_
    exact H_1
  · have q := Decidable.not_not.mp q
    have H_2 := H.1 q
    refine AW.iconst (pc := 10) dX10_tabu_10 ⟨by decide, by decide⟩ ?_
    refine AW.iret (pc := 11) dX10_tabu_11 rfl ?_
    exact H_2
set_option maxRecDepth 100000 in
set_option maxHeartbeats 4000000 in
theorem e_X10_task {a1 a2 : Int} {h : aH} {Q : aQ} (H : o_X10_isTask h a1 ∧ (((f_X10_isTask h a1) = 0 → Q (-1) h) ∧ (¬ ((f_X10_isTask h a1) = 0) → (((f_X10_in h a2 0 4) = 0 → Q (-1) h) ∧ (¬ ((f_X10_in h a2 0 4) = 0) → ((a2 = 0 → (0 ≤ a1 ∧ a1 < 24) ∧ Q (h 86 a1) h) ∧ (¬ (a2 = 0) → ((a2 = 1 → (0 ≤ a1 ∧ a1 < 24) ∧ Q (h 87 a1) h) ∧ (¬ (a2 = 1) → ((a2 = 2 → (0 ≤ a1 ∧ a1 < 24) ∧ Q (h 88 a1) h) ∧ (¬ (a2 = 2) → ((a2 = 3 → (0 ≤ a1 ∧ a1 < 24) ∧ Q (h 89 a1) h) ∧ (¬ (a2 = 3) → aRun mX10_placeOf 0 [aR 85, aI a1] h (fun r1 h2 => Q r1 h2)))))))))))))) : aRun mX10_task 2 [aR 85, aI a1, aI a2] h Q := by
  refine aRun.of pn_10 rfl (Nat.le_of_ble_eq_true rfl) ?_
  show AW mX10_task 2 0 [some (aR 85), some (aI a1), some (aI a2)] [] h Q
  refine AW.aload_n (pc := 0) dX10_task_0 rfl ?_
  refine AW.iload_n (pc := 1) dX10_task_1 rfl ?_
  refine AW.callVi (M' := mX10_isTask) (F' := 1) (as := [aI a1]) (pc := 2) dX10_task_2 (by decide) kX10_isTask ml_10_174 ob_85 rfl npX10_isTask (Nat.le_of_ble_eq_true rfl) (p_X10_isTask (H.1) ?_)
  refine AW.if_eq (tgt := 17) (pc := 5) dX10_task_5 rfl (fun q => ?_) (fun q => ?_)
  · skip
    have H_1 := H.2.1 q
    refine AW.iconst (pc := 17) dX10_task_17 ⟨by decide, by decide⟩ ?_
    refine AW.iret (pc := 18) dX10_task_18 rfl ?_
    exact H_1
  · skip
    have H_2 := H.2.2 q
    refine AW.iload_n (pc := 8) dX10_task_8 rfl ?_
    refine AW.iconst (pc := 9) dX10_task_9 ⟨by decide, by decide⟩ ?_
    refine AW.iconst (pc := 10) dX10_task_10 ⟨by decide, by decide⟩ ?_
    refine AW.callSi (M' := mX10_in) (F' := 0) (as := [aI a2, aI 0, aI 4]) (pc := 11) dX10_task_11 (by decide) kX10_in ml_10_108 rfl npX10_in (Nat.le_of_ble_eq_true rfl) (p_X10_in  ?_)
    refine AW.if_ne (tgt := 19) (pc := 14) dX10_task_14 rfl (fun q => ?_) (fun q => ?_)
    · skip
      have H_3 := H_2.2 q
      refine AW.iload_n (pc := 19) dX10_task_19 rfl ?_
      refine AW.if_ne (tgt := 32) (pc := 20) dX10_task_20 rfl (fun q => ?_) (fun q => ?_)
      · skip
        have H_4 := H_3.2 q
        refine AW.iload_n (pc := 32) dX10_task_32 rfl ?_
        refine AW.iconst (pc := 33) dX10_task_33 ⟨by decide, by decide⟩ ?_
        refine AW.icmp_ne (tgt := 46) (pc := 34) dX10_task_34 rfl (fun q => ?_) (fun q => ?_)
        · skip
          have H_5 := H_4.2 q
          refine AW.iload_n (pc := 46) dX10_task_46 rfl ?_
          refine AW.iconst (pc := 47) dX10_task_47 ⟨by decide, by decide⟩ ?_
          refine AW.icmp_ne (tgt := 60) (pc := 48) dX10_task_48 rfl (fun q => ?_) (fun q => ?_)
          · skip
            have H_6 := H_5.2 q
            refine AW.iload_n (pc := 60) dX10_task_60 rfl ?_
            refine AW.iconst (pc := 61) dX10_task_61 ⟨by decide, by decide⟩ ?_
            refine AW.icmp_ne (tgt := 74) (pc := 62) dX10_task_62 rfl (fun q => ?_) (fun q => ?_)
            · skip
              have H_7 := H_6.2 q
              refine AW.aload_n (pc := 74) dX10_task_74 rfl ?_
              refine AW.iload_n (pc := 75) dX10_task_75 rfl ?_
              refine AW.callVi (M' := mX10_placeOf) (F' := 0) (as := [aI a1]) (pc := 76) dX10_task_76 (by decide) kX10_placeOf ml_10_177 ob_85 rfl npX10_placeOf (Nat.le_of_ble_eq_true rfl) (aRun.mono (fun r1 h2 H_8 => ?_) H_7)
              refine AW.iret (pc := 79) dX10_task_79 rfl ?_
              exact H_8
            · have q := Decidable.not_not.mp q
              have H_9 := H_6.1 q
              refine AW.aload_n (pc := 65) dX10_task_65 rfl ?_
              refine AW.getr (k := 5) (pc := 66) dX10_task_66 ac_10 sh_85 rfl (by decide) fl_10_19 ?_
              refine AW.iload_n (pc := 69) dX10_task_69 rfl ?_
              refine AW.iald (pc := 70) dX10_task_70 sh_89 (H_9.1) (v := (h 89 a1)) rfl ?_
              refine AW.goto (tgt := 79) (pc := 71) dX10_task_71 rfl ?_
              refine AW.iret (pc := 79) dX10_task_79 rfl ?_
              exact H_9.2
          · have q := Decidable.not_not.mp q
            have H_10 := H_5.1 q
            refine AW.aload_n (pc := 51) dX10_task_51 rfl ?_
            refine AW.getr (k := 4) (pc := 52) dX10_task_52 ac_10 sh_85 rfl (by decide) fl_10_16 ?_
            refine AW.iload_n (pc := 55) dX10_task_55 rfl ?_
            refine AW.iald (pc := 56) dX10_task_56 sh_88 (H_10.1) (v := (h 88 a1)) rfl ?_
            refine AW.goto (tgt := 79) (pc := 57) dX10_task_57 rfl ?_
            refine AW.iret (pc := 79) dX10_task_79 rfl ?_
            exact H_10.2
        · have q := Decidable.not_not.mp q
          have H_11 := H_4.1 q
          refine AW.aload_n (pc := 37) dX10_task_37 rfl ?_
          refine AW.getr (k := 3) (pc := 38) dX10_task_38 ac_10 sh_85 rfl (by decide) fl_10_13 ?_
          refine AW.iload_n (pc := 41) dX10_task_41 rfl ?_
          refine AW.iald (pc := 42) dX10_task_42 sh_87 (H_11.1) (v := (h 87 a1)) rfl ?_
          refine AW.goto (tgt := 79) (pc := 43) dX10_task_43 rfl ?_
          refine AW.iret (pc := 79) dX10_task_79 rfl ?_
          exact H_11.2
      · have q := Decidable.not_not.mp q
        have H_12 := H_3.1 q
        refine AW.aload_n (pc := 23) dX10_task_23 rfl ?_
        refine AW.getr (k := 2) (pc := 24) dX10_task_24 ac_10 sh_85 rfl (by decide) fl_10_9 ?_
        refine AW.iload_n (pc := 27) dX10_task_27 rfl ?_
        refine AW.iald (pc := 28) dX10_task_28 sh_86 (H_12.1) (v := (h 86 a1)) rfl ?_
        refine AW.goto (tgt := 79) (pc := 29) dX10_task_29 rfl ?_
        refine AW.iret (pc := 79) dX10_task_79 rfl ?_
        exact H_12.2
    · have q := Decidable.not_not.mp q
      have H_13 := H_2.1 q
      refine AW.iconst (pc := 17) dX10_task_17 ⟨by decide, by decide⟩ ?_
      refine AW.iret (pc := 18) dX10_task_18 rfl ?_
      exact H_13
set_option maxRecDepth 100000 in
set_option maxHeartbeats 4000000 in
theorem e_X10_turn {a1 a2 : Int} {h : aH} {Q : aQ} (H : (((f_X10_isMachine h a1) = 0 → Q (-1) h) ∧ (¬ ((f_X10_isMachine h a1) = 0) → ((a2 < 0 → Q (-1) h) ∧ (¬ (a2 < 0) → (((h 85 1) = 0 → Q (-1) h) ∧ (¬ ((h 85 1) = 0) → (0 ≤ a1 ∧ a1 < 5) ∧ inR ((h 91 a1) - 1) ∧ ((a2 < ((h 91 a1) - 1) → (inR (24 * a1) ∧ inR ((24 * a1) + a2) ∧ (0 ≤ ((24 * a1) + a2) ∧ ((24 * a1) + a2) < 120) ∧ inR (((24 * a1) + a2) + 1) ∧ (0 ≤ (((24 * a1) + a2) + 1) ∧ (((24 * a1) + a2) + 1) < 120) ∧ (0 ≤ ((24 * a1) + a2) ∧ ((24 * a1) + a2) < 120) ∧ inR (((24 * a1) + a2) + 1) ∧ (0 ≤ (((24 * a1) + a2) + 1) ∧ (((24 * a1) + a2) + 1) < 120)) ∧ aRun mX10_changed 1 [aR 85] (a_up (a_up h 90 ((24 * a1) + a2) (h 90 (((24 * a1) + a2) + 1))) 90 (((24 * a1) + a2) + 1) (h 90 ((24 * a1) + a2))) (fun r1 h2 => aRun mX10_reckons 3 [aR 85] h2 (fun r3 h4 => Q (if r3 = 0 then ((-4) : Int) else (h4 85 26)) h4))) ∧ (¬ (a2 < ((h 91 a1) - 1)) → Q (-1) h))))))))) : aRun mX10_turn 4 [aR 85, aI a1, aI a2] h Q := by
  refine aRun.of pn_10 rfl (Nat.le_of_ble_eq_true rfl) ?_
  show AW mX10_turn 4 0 [some (aR 85), some (aI a1), some (aI a2)] [] h Q
  refine AW.iload_n (pc := 0) dX10_turn_0 rfl ?_
  refine AW.callSi (M' := mX10_isMachine) (F' := 1) (as := [aI a1]) (pc := 1) dX10_turn_1 (by decide) kX10_isMachine ml_10_181 rfl npX10_isMachine (Nat.le_of_ble_eq_true rfl) (p_X10_isMachine  ?_)
  refine AW.if_eq (tgt := 30) (pc := 4) dX10_turn_4 rfl (fun q => ?_) (fun q => ?_)
  · skip
    have H_1 := H.1 q
    refine AW.iconst (pc := 30) dX10_turn_30 ⟨by decide, by decide⟩ ?_
    refine AW.iret (pc := 31) dX10_turn_31 rfl ?_
    exact H_1
  · skip
    have H_2 := H.2 q
    refine AW.iload_n (pc := 7) dX10_turn_7 rfl ?_
    refine AW.if_lt (tgt := 30) (pc := 8) dX10_turn_8 rfl (fun q => ?_) (fun q => ?_)
    · skip
      have H_3 := H_2.1 q
      refine AW.iconst (pc := 30) dX10_turn_30 ⟨by decide, by decide⟩ ?_
      refine AW.iret (pc := 31) dX10_turn_31 rfl ?_
      exact H_3
    · skip
      have H_4 := H_2.2 q
      refine AW.aload_n (pc := 11) dX10_turn_11 rfl ?_
      refine AW.geti' (k := 1) (j := 1) (pc := 12) dX10_turn_12 ac_10 sh_85 rfl (by decide) fl_10_105 rfl (v := (h 85 1)) rfl ?_
      refine AW.if_eq (tgt := 30) (pc := 15) dX10_turn_15 rfl (fun q => ?_) (fun q => ?_)
      · skip
        have H_5 := H_4.1 q
        refine AW.iconst (pc := 30) dX10_turn_30 ⟨by decide, by decide⟩ ?_
        refine AW.iret (pc := 31) dX10_turn_31 rfl ?_
        exact H_5
      · skip
        have H_6 := H_4.2 q
        refine AW.iload_n (pc := 18) dX10_turn_18 rfl ?_
        refine AW.aload_n (pc := 19) dX10_turn_19 rfl ?_
        refine AW.getr (k := 7) (pc := 20) dX10_turn_20 ac_10 sh_85 rfl (by decide) fl_10_25 ?_
        refine AW.iload_n (pc := 23) dX10_turn_23 rfl ?_
        refine AW.iald (pc := 24) dX10_turn_24 sh_91 (H_6.1) (v := (h 91 a1)) rfl ?_
        refine AW.iconst (pc := 25) dX10_turn_25 ⟨by decide, by decide⟩ ?_
        refine AW.isub (pc := 26) dX10_turn_26 (H_6.2.1) ?_
        refine AW.icmp_lt (tgt := 32) (pc := 27) dX10_turn_27 rfl (fun q => ?_) (fun q => ?_)
        · skip
          have H_7 := H_6.2.2.1 q
          refine AW.aload_n (pc := 32) dX10_turn_32 rfl ?_
          refine AW.iload_n (pc := 33) dX10_turn_33 rfl ?_
          refine AW.iload_n (pc := 34) dX10_turn_34 rfl ?_
          refine AW.callVv (M' := mX10_swaps) (F' := 0) (as := [aI a1, aI a2]) (pc := 35) dX10_turn_35 (by decide) kX10_swaps ml_10_184 ob_85 rfl npX10_swaps (Nat.le_of_ble_eq_true rfl) (p_X10_swaps (H_7.1) ?_)
          refine AW.aload_n (pc := 38) dX10_turn_38 rfl ?_
          refine AW.callVv (M' := mX10_changed) (F' := 1) (as := []) (pc := 39) dX10_turn_39 (by decide) kX10_changed ml_10_188 ob_85 rfl npX10_changed (Nat.le_of_ble_eq_true rfl) (aRun.mono (fun r1 h2 H_8 => ?_) H_7.2)
          refine AW.aload_n (pc := 42) dX10_turn_42 rfl ?_
          refine AW.callVi (M' := mX10_reckons) (F' := 3) (as := []) (pc := 43) dX10_turn_43 (by decide) kX10_reckons ml_10_191 ob_85 rfl npX10_reckons (Nat.le_of_ble_eq_true rfl) (aRun.mono (fun r3 h4 H_9 => ?_) H_8)
          have K_10 : AW mX10_turn 4 58 [some (aR 85), some (aI a1), some (aI a2)] [aI (if r3 = 0 then ((-4) : Int) else (h4 85 26))] h4 Q := by
            have H_11 := H_9
            refine AW.iret (pc := 58) dX10_turn_58 rfl ?_
            exact H_11
          refine AW.if_eq (tgt := 56) (pc := 46) dX10_turn_46 rfl (fun q => ?_) (fun q => ?_)
          · skip
            rw [if_pos q] at K_10
            refine AW.bipush (pc := 56) dX10_turn_56 rfl ⟨by decide, by decide⟩ ?_
            exact K_10
          · skip
            rw [if_neg q] at K_10
            refine AW.aload_n (pc := 49) dX10_turn_49 rfl ?_
            refine AW.geti' (k := 26) (j := 26) (pc := 50) dX10_turn_50 ac_10 sh_85 rfl (by decide) fl_10_195 rfl (v := (h4 85 26)) rfl ?_
            refine AW.goto (tgt := 58) (pc := 53) dX10_turn_53 rfl ?_
            exact K_10
        · skip
          have H_15 := H_6.2.2.2 q
          refine AW.iconst (pc := 30) dX10_turn_30 ⟨by decide, by decide⟩ ?_
          refine AW.iret (pc := 31) dX10_turn_31 rfl ?_
          exact H_15
set_option maxRecDepth 100000 in
set_option maxHeartbeats 4000000 in
theorem e_X10_undo  {h : aH} {Q : aQ} (H : (((h 85 18) = 0 → Q (-5) h) ∧ (¬ ((h 85 18) = 0) → inR ((h 85 18) - 1) ∧ inR ((h 85 19) + 1) ∧ aRun mX10_fetches 0 [aR 85] (a_up (a_up h 85 18 ((h 85 18) - 1)) 85 19 ((h 85 19) + 1)) (fun r1 h2 => Q (h2 85 18) h2)))) : aRun mX10_undo 1 [aR 85] h Q := by
  refine aRun.of pn_10 rfl (Nat.le_of_ble_eq_true rfl) ?_
  show AW mX10_undo 1 0 [some (aR 85)] [] h Q
  refine AW.aload_n (pc := 0) dX10_undo_0 rfl ?_
  refine AW.geti' (k := 18) (j := 18) (pc := 1) dX10_undo_1 ac_10 sh_85 rfl (by decide) fl_10_159 rfl (v := (h 85 18)) rfl ?_
  refine AW.if_ne (tgt := 10) (pc := 4) dX10_undo_4 rfl (fun q => ?_) (fun q => ?_)
  · skip
    have H_1 := H.2 q
    refine AW.aload_n (pc := 10) dX10_undo_10 rfl ?_
    refine AW.dup (pc := 11) dX10_undo_11 rfl ?_
    refine AW.geti' (k := 18) (j := 18) (pc := 12) dX10_undo_12 ac_10 sh_85 rfl (by decide) fl_10_159 rfl (v := (h 85 18)) rfl ?_
    refine AW.iconst (pc := 15) dX10_undo_15 ⟨by decide, by decide⟩ ?_
    refine AW.isub (pc := 16) dX10_undo_16 (H_1.1) ?_
    refine AW.puti' (k := 18) (j := 18) (pc := 17) dX10_undo_17 ac_10 sh_85 rfl (by decide) fl_10_159 rfl rfl (tyX10_ok 18 (by decide)) (Or.inl rfl) ?_
    refine AW.aload_n (pc := 20) dX10_undo_20 rfl ?_
    refine AW.dup (pc := 21) dX10_undo_21 rfl ?_
    refine AW.geti' (k := 19) (j := 19) (pc := 22) dX10_undo_22 ac_10 sh_85 rfl (by decide) fl_10_162 rfl (v := (h 85 19)) (by rw [a_up_off (by decide)]) ?_
    refine AW.iconst (pc := 25) dX10_undo_25 ⟨by decide, by decide⟩ ?_
    refine AW.iadd (pc := 26) dX10_undo_26 (H_1.2.1) ?_
    refine AW.puti' (k := 19) (j := 19) (pc := 27) dX10_undo_27 ac_10 sh_85 rfl (by decide) fl_10_162 rfl rfl (tyX10_ok 19 (by decide)) (Or.inl rfl) ?_
    refine AW.aload_n (pc := 30) dX10_undo_30 rfl ?_
    refine AW.callVv (M' := mX10_fetches) (F' := 0) (as := []) (pc := 31) dX10_undo_31 (by decide) kX10_fetches ml_10_168 ob_85 rfl npX10_fetches (Nat.le_of_ble_eq_true rfl) (aRun.mono (fun r1 h2 H_2 => ?_) H_1.2.2)
    refine AW.aload_n (pc := 34) dX10_undo_34 rfl ?_
    refine AW.geti' (k := 18) (j := 18) (pc := 35) dX10_undo_35 ac_10 sh_85 rfl (by decide) fl_10_159 rfl (v := (h2 85 18)) rfl ?_
    refine AW.iret (pc := 38) dX10_undo_38 rfl ?_
    exact H_2
  · have q := Decidable.not_not.mp q
    have H_3 := H.1 q
    refine AW.bipush (pc := 7) dX10_undo_7 rfl ⟨by decide, by decide⟩ ?_
    refine AW.iret (pc := 9) dX10_undo_9 rfl ?_
    exact H_3
set_option maxRecDepth 100000 in
set_option maxHeartbeats 4000000 in
theorem e_X10_way {a1 : Int} {h : aH} {Q : aQ} (H : (((-1) ≤ a1 → aRun mX10_wrong 4 [aR 85] h (fun r1 h2 => ((0 ≤ r1 → aRun mX10_walks 3 [aR 85] h2 (fun r3 h4 => o_X10_toldAt h4 103 24 (h4 85 28) a1 ∧ Q (f_X10_toldAt h4 103 24 (h4 85 28) a1) h4)) ∧ (¬ (0 ≤ r1) → Q r1 h2)))) ∧ (¬ ((-1) ≤ a1) → Q (-1) h))) : aRun mX10_way 5 [aR 85, aI a1] h Q := by
  refine aRun.of pn_10 rfl (Nat.le_of_ble_eq_true rfl) ?_
  show AW mX10_way 5 0 [some (aR 85), some (aI a1), none] [] h Q
  refine AW.iload_n (pc := 0) dX10_way_0 rfl ?_
  refine AW.iconst (pc := 1) dX10_way_1 ⟨by decide, by decide⟩ ?_
  refine AW.icmp_ge (tgt := 7) (pc := 2) dX10_way_2 rfl (fun q => ?_) (fun q => ?_)
  · skip
    have H_1 := H.1 q
    refine AW.aload_n (pc := 7) dX10_way_7 rfl ?_
    refine AW.callVi (M' := mX10_wrong) (F' := 4) (as := []) (pc := 8) dX10_way_8 (by decide) kX10_wrong ml_10_244 ob_85 rfl npX10_wrong (Nat.le_of_ble_eq_true rfl) (aRun.mono (fun r1 h2 H_2 => ?_) H_1)
    refine AW.istore_n (pc := 11) dX10_way_11 (by decide) rfl ?_
    refine AW.iload_n (pc := 12) dX10_way_12 rfl ?_
    refine AW.if_ge (tgt := 18) (pc := 13) dX10_way_13 rfl (fun q => ?_) (fun q => ?_)
    · skip
      have H_3 := H_2.1 q
      refine AW.aload_n (pc := 18) dX10_way_18 rfl ?_
      refine AW.callVv (M' := mX10_walks) (F' := 3) (as := []) (pc := 19) dX10_way_19 (by decide) kX10_walks ml_10_238 ob_85 rfl npX10_walks (Nat.le_of_ble_eq_true rfl) (aRun.mono (fun r3 h4 H_4 => ?_) H_3)
      refine AW.aload_n (pc := 22) dX10_way_22 rfl ?_
      refine AW.getr (k := 27) (pc := 23) dX10_way_23 ac_10 sh_85 rfl (by decide) fl_10_62 ?_
      refine AW.aload_n (pc := 26) dX10_way_26 rfl ?_
      refine AW.geti' (k := 28) (j := 28) (pc := 27) dX10_way_27 ac_10 sh_85 rfl (by decide) fl_10_232 rfl (v := (h4 85 28)) rfl ?_
      refine AW.iload_n (pc := 30) dX10_way_30 rfl ?_
      refine AW.callSi (M' := mX10_toldAt) (F' := 0) (as := [aR 103, aI (h4 85 28), aI a1]) (pc := 31) dX10_way_31 (by decide) kX10_toldAt ml_10_247 rfl npX10_toldAt (Nat.le_of_ble_eq_true rfl) (p_X10_toldAt sh_103 (H_4.1) ?_)
      refine AW.iret (pc := 34) dX10_way_34 rfl ?_
      exact H_4.2
    · skip
      have H_5 := H_2.2 q
      refine AW.iload_n (pc := 16) dX10_way_16 rfl ?_
      refine AW.iret (pc := 17) dX10_way_17 rfl ?_
      exact H_5
  · skip
    have H_6 := H.2 q
    refine AW.iconst (pc := 5) dX10_way_5 ⟨by decide, by decide⟩ ?_
    refine AW.iret (pc := 6) dX10_way_6 rfl ?_
    exact H_6
set_option maxRecDepth 100000 in
set_option maxHeartbeats 4000000 in
theorem e_X10_would {a1 : Int} {h : aH} {Q : aQ} (H : (((f_X10_in h a1 0 3) = 0 → Q (-1) h) ∧ (¬ ((f_X10_in h a1 0 3) = 0) → (((h 85 1) = 0 → Q (-5) h) ∧ (¬ ((h 85 1) = 0) → aRun mX10_dispatchedBy 3 [aR 85, aI a1] h (fun r1 h2 => aRun mX10_fetches 0 [aR 85] h2 (fun r3 h4 => Q r1 h4))))))) : aRun mX10_would 4 [aR 85, aI a1] h Q := by
  refine aRun.of pn_10 rfl (Nat.le_of_ble_eq_true rfl) ?_
  show AW mX10_would 4 0 [some (aR 85), some (aI a1), none] [] h Q
  refine AW.iload_n (pc := 0) dX10_would_0 rfl ?_
  refine AW.iconst (pc := 1) dX10_would_1 ⟨by decide, by decide⟩ ?_
  refine AW.iconst (pc := 2) dX10_would_2 ⟨by decide, by decide⟩ ?_
  refine AW.callSi (M' := mX10_in) (F' := 0) (as := [aI a1, aI 0, aI 3]) (pc := 3) dX10_would_3 (by decide) kX10_in ml_10_108 rfl npX10_in (Nat.le_of_ble_eq_true rfl) (p_X10_in  ?_)
  refine AW.if_ne (tgt := 11) (pc := 6) dX10_would_6 rfl (fun q => ?_) (fun q => ?_)
  · skip
    have H_1 := H.2 q
    refine AW.aload_n (pc := 11) dX10_would_11 rfl ?_
    refine AW.geti' (k := 1) (j := 1) (pc := 12) dX10_would_12 ac_10 sh_85 rfl (by decide) fl_10_105 rfl (v := (h 85 1)) rfl ?_
    refine AW.if_ne (tgt := 21) (pc := 15) dX10_would_15 rfl (fun q => ?_) (fun q => ?_)
    · skip
      have H_2 := H_1.2 q
      refine AW.aload_n (pc := 21) dX10_would_21 rfl ?_
      refine AW.iload_n (pc := 22) dX10_would_22 rfl ?_
      refine AW.callVi (M' := mX10_dispatchedBy) (F' := 3) (as := [aI a1]) (pc := 23) dX10_would_23 (by decide) kX10_dispatchedBy ml_10_326 ob_85 rfl npX10_dispatchedBy (Nat.le_of_ble_eq_true rfl) (aRun.mono (fun r1 h2 H_3 => ?_) H_2)
      refine AW.istore_n (pc := 26) dX10_would_26 (by decide) rfl ?_
      refine AW.aload_n (pc := 27) dX10_would_27 rfl ?_
      refine AW.callVv (M' := mX10_fetches) (F' := 0) (as := []) (pc := 28) dX10_would_28 (by decide) kX10_fetches ml_10_168 ob_85 rfl npX10_fetches (Nat.le_of_ble_eq_true rfl) (aRun.mono (fun r3 h4 H_4 => ?_) H_3)
      refine AW.iload_n (pc := 31) dX10_would_31 rfl ?_
      refine AW.iret (pc := 32) dX10_would_32 rfl ?_
      exact H_4
    · have q := Decidable.not_not.mp q
      have H_5 := H_1.1 q
      refine AW.bipush (pc := 18) dX10_would_18 rfl ⟨by decide, by decide⟩ ?_
      refine AW.iret (pc := 20) dX10_would_20 rfl ?_
      exact H_5
  · have q := Decidable.not_not.mp q
    have H_6 := H.1 q
    refine AW.iconst (pc := 9) dX10_would_9 ⟨by decide, by decide⟩ ?_
    refine AW.iret (pc := 10) dX10_would_10 rfl ?_
    exact H_6
