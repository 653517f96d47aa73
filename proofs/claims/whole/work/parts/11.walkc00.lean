set_option maxRecDepth 100000 in
set_option maxHeartbeats 4000000 in
theorem e_X0_over {a2 : Int} {h : aH} {Q : aQ} (H : AW mX0_over 1 8 [some (aR 69), some (aR 3), some (aI a2), some (aI 0), some (aI 0), some (aI 0), none] [] h Q) : aRun mX0_over 1 [aR 69, aR 3, aI a2] h Q := by
  refine aRun.of pn_0 rfl (Nat.le_of_ble_eq_true rfl) ?_
  show AW mX0_over 1 0 [some (aR 69), some (aR 3), some (aI a2), none, none, none, none] [] h Q
  refine AW.iconst (pc := 0) dX0_over_0 ⟨by decide, by decide⟩ ?_
  refine AW.istore_n (pc := 1) dX0_over_1 (by decide) rfl ?_
  refine AW.iconst (pc := 2) dX0_over_2 ⟨by decide, by decide⟩ ?_
  refine AW.istore (pc := 3) dX0_over_3 (by decide) rfl ?_
  refine AW.iconst (pc := 5) dX0_over_5 ⟨by decide, by decide⟩ ?_
  refine AW.istore (pc := 6) dX0_over_6 (by decide) rfl ?_
  exact H
set_option maxRecDepth 100000 in
set_option maxHeartbeats 4000000 in
theorem s_X0_over_8  {l2 l3 l4 l5 : Int} {h : aH} {Q : aQ} (H : ((l2 ≤ l5 → Q l4 h) ∧ (¬ (l2 ≤ l5) → (0 ≤ l5 ∧ l5 < 6) ∧ (0 ≤ (h 70 l5) ∧ (h 70 l5) < 24) ∧ inR ((max l3 (h 8 (h 70 l5))) + (h 7 (h 70 l5))) ∧ inR (((max l3 (h 8 (h 70 l5))) + (h 7 (h 70 l5))) + (h 9 (h 70 l5))) ∧ inR (l5 + 1) ∧ AW mX0_over 1 8 [some (aR 69), some (aR 3), some (aI l2), some (aI ((max l3 (h 8 (h 70 l5))) + (h 7 (h 70 l5)))), some (aI (max l4 (((max l3 (h 8 (h 70 l5))) + (h 7 (h 70 l5))) + (h 9 (h 70 l5))))), some (aI (l5 + 1)), none] [] h Q))) : AW mX0_over 1 8 [some (aR 69), some (aR 3), some (aI l2), some (aI l3), some (aI l4), some (aI l5), none] [] h Q := by
  refine AW.iload (pc := 8) dX0_over_8 rfl ?_
  refine AW.iload_n (pc := 10) dX0_over_10 rfl ?_
  refine AW.icmp_ge (tgt := 65) (pc := 11) dX0_over_11 rfl (fun q => ?_) (fun q => ?_)
  · skip
    have H_1 := H.1 q
    refine AW.iload (pc := 65) dX0_over_65 rfl ?_
    refine AW.iret (pc := 67) dX0_over_67 rfl ?_
    exact H_1
  · skip
    have H_2 := H.2 q
    refine AW.aload_n (pc := 14) dX0_over_14 rfl ?_
    refine AW.getr (k := 0) (pc := 15) dX0_over_15 ac_0 sh_69 rfl (by decide) fl_0_9 ?_
    refine AW.iload (pc := 18) dX0_over_18 rfl ?_
    refine AW.iald (pc := 20) dX0_over_20 sh_70 (H_2.1) (v := (h 70 l5)) rfl ?_
    refine AW.istore (pc := 21) dX0_over_21 (by decide) rfl ?_
    refine AW.iload_n (pc := 23) dX0_over_23 rfl ?_
    refine AW.aload_n (pc := 24) dX0_over_24 rfl ?_
    refine AW.getr (k := 6) (pc := 25) dX0_over_25 ac_5 sh_3 rfl (by decide) fl_0_50 ?_
    refine AW.iload (pc := 28) dX0_over_28 rfl ?_
    refine AW.iald (pc := 30) dX0_over_30 sh_8 (H_2.2.1) (v := (h 8 (h 70 l5))) rfl ?_
    refine AW.mmax (pc := 31) dX0_over_31 (by decide) ml_0_53 (Nat.le_of_ble_eq_true rfl) ?_
    refine AW.aload_n (pc := 34) dX0_over_34 rfl ?_
    refine AW.getr (k := 5) (pc := 35) dX0_over_35 ac_5 sh_3 rfl (by decide) fl_0_56 ?_
    refine AW.iload (pc := 38) dX0_over_38 rfl ?_
    refine AW.iald (pc := 40) dX0_over_40 sh_7 (H_2.2.1) (v := (h 7 (h 70 l5))) rfl ?_
    refine AW.iadd (pc := 41) dX0_over_41 (H_2.2.2.1) ?_
    refine AW.istore_n (pc := 42) dX0_over_42 (by decide) rfl ?_
    refine AW.iload (pc := 43) dX0_over_43 rfl ?_
    refine AW.iload_n (pc := 45) dX0_over_45 rfl ?_
    refine AW.aload_n (pc := 46) dX0_over_46 rfl ?_
    refine AW.getr (k := 7) (pc := 47) dX0_over_47 ac_5 sh_3 rfl (by decide) fl_0_59 ?_
    refine AW.iload (pc := 50) dX0_over_50 rfl ?_
    refine AW.iald (pc := 52) dX0_over_52 sh_9 (H_2.2.1) (v := (h 9 (h 70 l5))) rfl ?_
    refine AW.iadd (pc := 53) dX0_over_53 (H_2.2.2.2.1) ?_
    refine AW.mmax (pc := 54) dX0_over_54 (by decide) ml_0_53 (Nat.le_of_ble_eq_true rfl) ?_
    refine AW.istore (pc := 57) dX0_over_57 (by decide) rfl ?_
    refine AW.iinc (pc := 59) dX0_over_59 rfl (by decide) rfl (H_2.2.2.2.2.1) ?_
    refine AW.goto (tgt := 8) (pc := 62) dX0_over_62 rfl ?_
    refine AW.mask [true, true, true, true, true, true, false] ?_
    exact H_2.2.2.2.2.2
set_option maxRecDepth 100000 in
set_option maxHeartbeats 4000000 in
theorem e_X9_nextOrder {r : Nat} {n : Nat} {br : Nat} (hr : a_T[r]? = some (.inl (0, n, br))) {a1 a2 : Int} {h : aH} {Q : aQ} (H : inR (a2 - 2) ∧ AW mX9_nextOrder 1 4 [some (aR r), some (aI a1), some (aI a2), some (aI (a2 - 2)), none, none, none] [] h Q) : aRun mX9_nextOrder 1 [aR r, aI a1, aI a2] h Q := by
  refine aRun.of pn_9 rfl (Nat.le_of_ble_eq_true rfl) ?_
  show AW mX9_nextOrder 1 0 [some (aR r), some (aI a1), some (aI a2), none, none, none, none] [] h Q
  refine AW.iload_n (pc := 0) dX9_nextOrder_0 rfl ?_
  refine AW.iconst (pc := 1) dX9_nextOrder_1 ⟨by decide, by decide⟩ ?_
  refine AW.isub (pc := 2) dX9_nextOrder_2 (H.1) ?_
  refine AW.istore_n (pc := 3) dX9_nextOrder_3 (by decide) rfl ?_
  exact H.2
set_option maxRecDepth 100000 in
set_option maxHeartbeats 4000000 in
theorem s_X9_nextOrder_4 {r : Nat} {n : Nat} {br : Nat} (hr : a_T[r]? = some (.inl (0, n, br)))  {l1 l2 l3 : Int} {h : aH} {Q : aQ} (H : ((l3 < l1 → ((l3 < l1 → inR (l1 - 1) ∧ inR ((max l3 (l1 - 1)) + 1) ∧ inR (l2 - 1) ∧ AW mX9_nextOrder 1 92 [some (aR r), some (aI l1), none, some (aI l3), some (aI ((max l3 (l1 - 1)) + 1)), some (aI (l2 - 1)), none] [] h Q) ∧ (¬ (l3 < l1) → inR (l2 - 1) ∧ AW mX9_nextOrder 1 36 [some (aR r), some (aI l1), some (aI l2), some (aI l3), some (aI (l2 - 1)), none, none] [] h Q))) ∧ (¬ (l3 < l1) → (0 ≤ l3 ∧ l3 < n) ∧ inR (l3 + 1) ∧ (0 ≤ (l3 + 1) ∧ (l3 + 1) < n) ∧ (((h r l3) ≤ (h r (l3 + 1)) → ((l3 < l1 → inR (l1 - 1) ∧ inR ((max l3 (l1 - 1)) + 1) ∧ inR (l2 - 1) ∧ AW mX9_nextOrder 1 92 [some (aR r), some (aI l1), none, some (aI l3), some (aI ((max l3 (l1 - 1)) + 1)), some (aI (l2 - 1)), none] [] h Q) ∧ (¬ (l3 < l1) → inR (l2 - 1) ∧ AW mX9_nextOrder 1 36 [some (aR r), some (aI l1), some (aI l2), some (aI l3), some (aI (l2 - 1)), none, none] [] h Q))) ∧ (¬ ((h r l3) ≤ (h r (l3 + 1))) → inR (l3 + (-1)) ∧ AW mX9_nextOrder 1 4 [some (aR r), some (aI l1), some (aI l2), some (aI (l3 + (-1))), none, none, none] [] h Q))))) : AW mX9_nextOrder 1 4 [some (aR r), some (aI l1), some (aI l2), some (aI l3), none, none, none] [] h Q := by
  refine AW.iload_n (pc := 4) dX9_nextOrder_4 rfl ?_
  refine AW.iload_n (pc := 5) dX9_nextOrder_5 rfl ?_
  refine AW.icmp_lt (tgt := 26) (pc := 6) dX9_nextOrder_6 rfl (fun q => ?_) (fun q => ?_)
  · skip
    have H_1 := H.1 q
    refine AW.iload_n (pc := 26) dX9_nextOrder_26 rfl ?_
    refine AW.iload_n (pc := 27) dX9_nextOrder_27 rfl ?_
    refine AW.icmp_lt (tgt := 76) (pc := 28) dX9_nextOrder_28 rfl (fun q => ?_) (fun q => ?_)
    · skip
      have H_2 := H_1.1 q
      refine AW.iload_n (pc := 76) dX9_nextOrder_76 rfl ?_
      refine AW.iload_n (pc := 77) dX9_nextOrder_77 rfl ?_
      refine AW.iconst (pc := 78) dX9_nextOrder_78 ⟨by decide, by decide⟩ ?_
      refine AW.isub (pc := 79) dX9_nextOrder_79 (H_2.1) ?_
      refine AW.mmax (pc := 80) dX9_nextOrder_80 (by decide) ml_9_254 (Nat.le_of_ble_eq_true rfl) ?_
      refine AW.iconst (pc := 83) dX9_nextOrder_83 ⟨by decide, by decide⟩ ?_
      refine AW.iadd (pc := 84) dX9_nextOrder_84 (H_2.2.1) ?_
      refine AW.istore (pc := 85) dX9_nextOrder_85 (by decide) rfl ?_
      refine AW.iload_n (pc := 87) dX9_nextOrder_87 rfl ?_
      refine AW.iconst (pc := 88) dX9_nextOrder_88 ⟨by decide, by decide⟩ ?_
      refine AW.isub (pc := 89) dX9_nextOrder_89 (H_2.2.2.1) ?_
      refine AW.istore (pc := 90) dX9_nextOrder_90 (by decide) rfl ?_
      refine AW.mask [true, true, false, true, true, true, true] ?_
      exact H_2.2.2.2
    · skip
      have H_3 := H_1.2 q
      refine AW.iload_n (pc := 31) dX9_nextOrder_31 rfl ?_
      refine AW.iconst (pc := 32) dX9_nextOrder_32 ⟨by decide, by decide⟩ ?_
      refine AW.isub (pc := 33) dX9_nextOrder_33 (H_3.1) ?_
      refine AW.istore (pc := 34) dX9_nextOrder_34 (by decide) rfl ?_
      exact H_3.2
  · skip
    have H_4 := H.2 q
    refine AW.aload_n (pc := 9) dX9_nextOrder_9 rfl ?_
    refine AW.iload_n (pc := 10) dX9_nextOrder_10 rfl ?_
    refine AW.iald (pc := 11) dX9_nextOrder_11 hr (H_4.1) (v := (h r l3)) rfl ?_
    refine AW.aload_n (pc := 12) dX9_nextOrder_12 rfl ?_
    refine AW.iload_n (pc := 13) dX9_nextOrder_13 rfl ?_
    refine AW.iconst (pc := 14) dX9_nextOrder_14 ⟨by decide, by decide⟩ ?_
    refine AW.iadd (pc := 15) dX9_nextOrder_15 (H_4.2.1) ?_
    refine AW.iald (pc := 16) dX9_nextOrder_16 hr (H_4.2.2.1) (v := (h r (l3 + 1))) rfl ?_
    refine AW.icmp_le (tgt := 26) (pc := 17) dX9_nextOrder_17 rfl (fun q => ?_) (fun q => ?_)
    · skip
      have H_5 := H_4.2.2.2.1 q
      refine AW.iload_n (pc := 26) dX9_nextOrder_26 rfl ?_
      refine AW.iload_n (pc := 27) dX9_nextOrder_27 rfl ?_
      refine AW.icmp_lt (tgt := 76) (pc := 28) dX9_nextOrder_28 rfl (fun q => ?_) (fun q => ?_)
      · skip
        have H_6 := H_5.1 q
        refine AW.iload_n (pc := 76) dX9_nextOrder_76 rfl ?_
        refine AW.iload_n (pc := 77) dX9_nextOrder_77 rfl ?_
        refine AW.iconst (pc := 78) dX9_nextOrder_78 ⟨by decide, by decide⟩ ?_
        refine AW.isub (pc := 79) dX9_nextOrder_79 (H_6.1) ?_
        refine AW.mmax (pc := 80) dX9_nextOrder_80 (by decide) ml_9_254 (Nat.le_of_ble_eq_true rfl) ?_
        refine AW.iconst (pc := 83) dX9_nextOrder_83 ⟨by decide, by decide⟩ ?_
        refine AW.iadd (pc := 84) dX9_nextOrder_84 (H_6.2.1) ?_
        refine AW.istore (pc := 85) dX9_nextOrder_85 (by decide) rfl ?_
        refine AW.iload_n (pc := 87) dX9_nextOrder_87 rfl ?_
        refine AW.iconst (pc := 88) dX9_nextOrder_88 ⟨by decide, by decide⟩ ?_
        refine AW.isub (pc := 89) dX9_nextOrder_89 (H_6.2.2.1) ?_
        refine AW.istore (pc := 90) dX9_nextOrder_90 (by decide) rfl ?_
        refine AW.mask [true, true, false, true, true, true, true] ?_
        exact H_6.2.2.2
      · skip
        have H_7 := H_5.2 q
        refine AW.iload_n (pc := 31) dX9_nextOrder_31 rfl ?_
        refine AW.iconst (pc := 32) dX9_nextOrder_32 ⟨by decide, by decide⟩ ?_
        refine AW.isub (pc := 33) dX9_nextOrder_33 (H_7.1) ?_
        refine AW.istore (pc := 34) dX9_nextOrder_34 (by decide) rfl ?_
        exact H_7.2
    · skip
      have H_8 := H_4.2.2.2.2 q
      refine AW.iinc (pc := 20) dX9_nextOrder_20 rfl (by decide) rfl (H_8.1) ?_
      refine AW.goto (tgt := 4) (pc := 23) dX9_nextOrder_23 rfl ?_
      exact H_8.2
set_option maxRecDepth 100000 in
set_option maxHeartbeats 4000000 in
theorem s_X9_nextOrder_36 {r : Nat} {n : Nat} {br : Nat} (hr : a_T[r]? = some (.inl (0, n, br)))  {l1 l2 l3 l4 : Int} {h : aH} {Q : aQ} (H : ((l4 ≤ l3 → (0 ≤ l3 ∧ l3 < n) ∧ (0 ≤ l4 ∧ l4 < n) ∧ inR (l1 - 1) ∧ inR ((max l3 (l1 - 1)) + 1) ∧ inR (l2 - 1) ∧ AW mX9_nextOrder 1 92 [some (aR r), some (aI l1), none, some (aI l3), some (aI ((max l3 (l1 - 1)) + 1)), some (aI (l2 - 1)), none] [] (a_up (a_up h r l3 (h r l4)) r l4 (h r l3)) Q) ∧ (¬ (l4 ≤ l3) → (0 ≤ l4 ∧ l4 < n) ∧ (0 ≤ l3 ∧ l3 < n) ∧ (((h r l3) ≤ (h r l4) → inR (l1 - 1) ∧ inR ((max l3 (l1 - 1)) + 1) ∧ inR (l2 - 1) ∧ AW mX9_nextOrder 1 92 [some (aR r), some (aI l1), none, some (aI l3), some (aI ((max l3 (l1 - 1)) + 1)), some (aI (l2 - 1)), none] [] (a_up (a_up h r l3 (h r l4)) r l4 (h r l3)) Q) ∧ (¬ ((h r l3) ≤ (h r l4)) → inR (l4 + (-1)) ∧ AW mX9_nextOrder 1 36 [some (aR r), some (aI l1), some (aI l2), some (aI l3), some (aI (l4 + (-1))), none, none] [] h Q))))) : AW mX9_nextOrder 1 36 [some (aR r), some (aI l1), some (aI l2), some (aI l3), some (aI l4), none, none] [] h Q := by
  refine AW.iload (pc := 36) dX9_nextOrder_36 rfl ?_
  refine AW.iload_n (pc := 38) dX9_nextOrder_38 rfl ?_
  refine AW.icmp_le (tgt := 58) (pc := 39) dX9_nextOrder_39 rfl (fun q => ?_) (fun q => ?_)
  · skip
    have H_1 := H.1 q
    refine AW.aload_n (pc := 58) dX9_nextOrder_58 rfl ?_
    refine AW.iload_n (pc := 59) dX9_nextOrder_59 rfl ?_
    refine AW.iald (pc := 60) dX9_nextOrder_60 hr (H_1.1) (v := (h r l3)) rfl ?_
    refine AW.istore (pc := 61) dX9_nextOrder_61 (by decide) rfl ?_
    refine AW.aload_n (pc := 63) dX9_nextOrder_63 rfl ?_
    refine AW.iload_n (pc := 64) dX9_nextOrder_64 rfl ?_
    refine AW.aload_n (pc := 65) dX9_nextOrder_65 rfl ?_
    refine AW.iload (pc := 66) dX9_nextOrder_66 rfl ?_
    refine AW.iald (pc := 68) dX9_nextOrder_68 hr (H_1.2.1) (v := (h r l4)) rfl ?_
    refine AW.iast (pc := 69) dX9_nextOrder_69 hr (H_1.1) ?_
    refine AW.aload_n (pc := 70) dX9_nextOrder_70 rfl ?_
    refine AW.iload (pc := 71) dX9_nextOrder_71 rfl ?_
    refine AW.iload (pc := 73) dX9_nextOrder_73 rfl ?_
    refine AW.iast (pc := 75) dX9_nextOrder_75 hr (H_1.2.1) ?_
    refine AW.iload_n (pc := 76) dX9_nextOrder_76 rfl ?_
    refine AW.iload_n (pc := 77) dX9_nextOrder_77 rfl ?_
    refine AW.iconst (pc := 78) dX9_nextOrder_78 ⟨by decide, by decide⟩ ?_
    refine AW.isub (pc := 79) dX9_nextOrder_79 (H_1.2.2.1) ?_
    refine AW.mmax (pc := 80) dX9_nextOrder_80 (by decide) ml_9_254 (Nat.le_of_ble_eq_true rfl) ?_
    refine AW.iconst (pc := 83) dX9_nextOrder_83 ⟨by decide, by decide⟩ ?_
    refine AW.iadd (pc := 84) dX9_nextOrder_84 (H_1.2.2.2.1) ?_
    refine AW.istore (pc := 85) dX9_nextOrder_85 (by decide) rfl ?_
    refine AW.iload_n (pc := 87) dX9_nextOrder_87 rfl ?_
    refine AW.iconst (pc := 88) dX9_nextOrder_88 ⟨by decide, by decide⟩ ?_
    refine AW.isub (pc := 89) dX9_nextOrder_89 (H_1.2.2.2.2.1) ?_
    refine AW.istore (pc := 90) dX9_nextOrder_90 (by decide) rfl ?_
    refine AW.mask [true, true, false, true, true, true, true] ?_
    exact H_1.2.2.2.2.2
  · skip
    have H_2 := H.2 q
    refine AW.aload_n (pc := 42) dX9_nextOrder_42 rfl ?_
    refine AW.iload (pc := 43) dX9_nextOrder_43 rfl ?_
    refine AW.iald (pc := 45) dX9_nextOrder_45 hr (H_2.1) (v := (h r l4)) rfl ?_
    refine AW.aload_n (pc := 46) dX9_nextOrder_46 rfl ?_
    refine AW.iload_n (pc := 47) dX9_nextOrder_47 rfl ?_
    refine AW.iald (pc := 48) dX9_nextOrder_48 hr (H_2.2.1) (v := (h r l3)) rfl ?_
    refine AW.icmp_ge (tgt := 58) (pc := 49) dX9_nextOrder_49 rfl (fun q => ?_) (fun q => ?_)
    · skip
      have H_3 := H_2.2.2.1 q
      refine AW.aload_n (pc := 58) dX9_nextOrder_58 rfl ?_
      refine AW.iload_n (pc := 59) dX9_nextOrder_59 rfl ?_
      refine AW.iald (pc := 60) dX9_nextOrder_60 hr (H_2.2.1) (v := (h r l3)) rfl ?_
      refine AW.istore (pc := 61) dX9_nextOrder_61 (by decide) rfl ?_
      refine AW.aload_n (pc := 63) dX9_nextOrder_63 rfl ?_
      refine AW.iload_n (pc := 64) dX9_nextOrder_64 rfl ?_
      refine AW.aload_n (pc := 65) dX9_nextOrder_65 rfl ?_
      refine AW.iload (pc := 66) dX9_nextOrder_66 rfl ?_
      refine AW.iald (pc := 68) dX9_nextOrder_68 hr (H_2.1) (v := (h r l4)) rfl ?_
      refine AW.iast (pc := 69) dX9_nextOrder_69 hr (H_2.2.1) ?_
      refine AW.aload_n (pc := 70) dX9_nextOrder_70 rfl ?_
      refine AW.iload (pc := 71) dX9_nextOrder_71 rfl ?_
      refine AW.iload (pc := 73) dX9_nextOrder_73 rfl ?_
      refine AW.iast (pc := 75) dX9_nextOrder_75 hr (H_2.1) ?_
      refine AW.iload_n (pc := 76) dX9_nextOrder_76 rfl ?_
      refine AW.iload_n (pc := 77) dX9_nextOrder_77 rfl ?_
      refine AW.iconst (pc := 78) dX9_nextOrder_78 ⟨by decide, by decide⟩ ?_
      refine AW.isub (pc := 79) dX9_nextOrder_79 (H_3.1) ?_
      refine AW.mmax (pc := 80) dX9_nextOrder_80 (by decide) ml_9_254 (Nat.le_of_ble_eq_true rfl) ?_
      refine AW.iconst (pc := 83) dX9_nextOrder_83 ⟨by decide, by decide⟩ ?_
      refine AW.iadd (pc := 84) dX9_nextOrder_84 (H_3.2.1) ?_
      refine AW.istore (pc := 85) dX9_nextOrder_85 (by decide) rfl ?_
      refine AW.iload_n (pc := 87) dX9_nextOrder_87 rfl ?_
      refine AW.iconst (pc := 88) dX9_nextOrder_88 ⟨by decide, by decide⟩ ?_
      refine AW.isub (pc := 89) dX9_nextOrder_89 (H_3.2.2.1) ?_
      refine AW.istore (pc := 90) dX9_nextOrder_90 (by decide) rfl ?_
      refine AW.mask [true, true, false, true, true, true, true] ?_
      exact H_3.2.2.2
    · skip
      have H_4 := H_2.2.2.2 q
      refine AW.iinc (pc := 52) dX9_nextOrder_52 rfl (by decide) rfl (H_4.1) ?_
      refine AW.goto (tgt := 36) (pc := 55) dX9_nextOrder_55 rfl ?_
      exact H_4.2
set_option maxRecDepth 100000 in
set_option maxHeartbeats 4000000 in
theorem s_X9_nextOrder_92 {r : Nat} {n : Nat} {br : Nat} (hr : a_T[r]? = some (.inl (0, n, br)))  {l1 l3 l4 l5 : Int} {h : aH} {Q : aQ} (H : ((l5 ≤ l4 → Q (if l3 < l1 then (0 : Int) else (1 : Int)) h) ∧ (¬ (l5 ≤ l4) → (0 ≤ l4 ∧ l4 < n) ∧ (0 ≤ l5 ∧ l5 < n) ∧ inR (l4 + 1) ∧ inR (l5 + (-1)) ∧ AW mX9_nextOrder 1 92 [some (aR r), some (aI l1), none, some (aI l3), some (aI (l4 + 1)), some (aI (l5 + (-1))), none] [] (a_up (a_up h r l4 (h r l5)) r l5 (h r l4)) Q))) : AW mX9_nextOrder 1 92 [some (aR r), some (aI l1), none, some (aI l3), some (aI l4), some (aI l5), none] [] h Q := by
  refine AW.iload (pc := 92) dX9_nextOrder_92 rfl ?_
  refine AW.iload (pc := 94) dX9_nextOrder_94 rfl ?_
  refine AW.icmp_ge (tgt := 128) (pc := 96) dX9_nextOrder_96 rfl (fun q => ?_) (fun q => ?_)
  · skip
    have H_1 := H.1 q
    refine AW.iload_n (pc := 128) dX9_nextOrder_128 rfl ?_
    refine AW.iload_n (pc := 129) dX9_nextOrder_129 rfl ?_
    have K_2 : AW mX9_nextOrder 1 138 [some (aR r), some (aI l1), none, some (aI l3), some (aI l4), some (aI l5), none] [aI (if l3 < l1 then (0 : Int) else (1 : Int))] h Q := by
      have H_3 := H_1
      refine AW.zret (pc := 138) dX9_nextOrder_138 rfl (a_ite01 (Or.inl rfl) (Or.inr rfl)) ?_
      exact H_3
    refine AW.icmp_lt (tgt := 137) (pc := 130) dX9_nextOrder_130 rfl (fun q => ?_) (fun q => ?_)
    · skip
      rw [if_pos q] at K_2
      refine AW.iconst (pc := 137) dX9_nextOrder_137 ⟨by decide, by decide⟩ ?_
      exact K_2
    · skip
      rw [if_neg q] at K_2
      refine AW.iconst (pc := 133) dX9_nextOrder_133 ⟨by decide, by decide⟩ ?_
      refine AW.goto (tgt := 138) (pc := 134) dX9_nextOrder_134 rfl ?_
      exact K_2
  · skip
    have H_7 := H.2 q
    refine AW.aload_n (pc := 99) dX9_nextOrder_99 rfl ?_
    refine AW.iload (pc := 100) dX9_nextOrder_100 rfl ?_
    refine AW.iald (pc := 102) dX9_nextOrder_102 hr (H_7.1) (v := (h r l4)) rfl ?_
    refine AW.istore (pc := 103) dX9_nextOrder_103 (by decide) rfl ?_
    refine AW.aload_n (pc := 105) dX9_nextOrder_105 rfl ?_
    refine AW.iload (pc := 106) dX9_nextOrder_106 rfl ?_
    refine AW.aload_n (pc := 108) dX9_nextOrder_108 rfl ?_
    refine AW.iload (pc := 109) dX9_nextOrder_109 rfl ?_
    refine AW.iald (pc := 111) dX9_nextOrder_111 hr (H_7.2.1) (v := (h r l5)) rfl ?_
    refine AW.iast (pc := 112) dX9_nextOrder_112 hr (H_7.1) ?_
    refine AW.aload_n (pc := 113) dX9_nextOrder_113 rfl ?_
    refine AW.iload (pc := 114) dX9_nextOrder_114 rfl ?_
    refine AW.iload (pc := 116) dX9_nextOrder_116 rfl ?_
    refine AW.iast (pc := 118) dX9_nextOrder_118 hr (H_7.2.1) ?_
    refine AW.iinc (pc := 119) dX9_nextOrder_119 rfl (by decide) rfl (H_7.2.2.1) ?_
    refine AW.iinc (pc := 122) dX9_nextOrder_122 rfl (by decide) rfl (H_7.2.2.2.1) ?_
    refine AW.goto (tgt := 92) (pc := 125) dX9_nextOrder_125 rfl ?_
    refine AW.mask [true, true, true, true, true, true, false] ?_
    exact H_7.2.2.2.2
set_option maxRecDepth 100000 in
set_option maxHeartbeats 4000000 in
theorem e_X0_leastOfAllOrders {a2 : Int} {h : aH} {Q : aQ} (H : AW mX0_leastOfAllOrders 2 8 [some (aR 69), some (aR 3), some (aI a2), some (aI 0), some (aI 1), some (aI 0), none] [] h Q) : aRun mX0_leastOfAllOrders 2 [aR 69, aR 3, aI a2] h Q := by
  refine aRun.of pn_0 rfl (Nat.le_of_ble_eq_true rfl) ?_
  show AW mX0_leastOfAllOrders 2 0 [some (aR 69), some (aR 3), some (aI a2), none, none, none, none] [] h Q
  refine AW.iconst (pc := 0) dX0_leastOfAllOrders_0 ⟨by decide, by decide⟩ ?_
  refine AW.istore_n (pc := 1) dX0_leastOfAllOrders_1 (by decide) rfl ?_
  refine AW.iconst (pc := 2) dX0_leastOfAllOrders_2 ⟨by decide, by decide⟩ ?_
  refine AW.istore (pc := 3) dX0_leastOfAllOrders_3 (by decide) rfl ?_
  refine AW.iconst (pc := 5) dX0_leastOfAllOrders_5 ⟨by decide, by decide⟩ ?_
  refine AW.istore (pc := 6) dX0_leastOfAllOrders_6 (by decide) rfl ?_
  exact H
set_option maxRecDepth 100000 in
set_option maxHeartbeats 4000000 in
theorem s_X0_leastOfAllOrders_8  {l2 l3 l4 l5 : Int} {h : aH} {Q : aQ} (H : (((h 3 1) ≤ l5 → aRun mX0_over 1 [aR 69, aR 3, aI l3] h (fun r1 h2 => AW mX0_leastOfAllOrders 2 68 [some (aR 69), some (aR 3), none, some (aI l3), some (aI l4), some (aI r1), some (aI 1)] [] h2 Q)) ∧ (¬ ((h 3 1) ≤ l5) → (0 ≤ l5 ∧ l5 < 24) ∧ (((h 6 l5) = l2 → ((6 ≤ l3 → inR (l5 + 1) ∧ AW mX0_leastOfAllOrders 2 8 [some (aR 69), some (aR 3), some (aI l2), some (aI l3), some (aI l4), some (aI (l5 + 1)), none] [] h Q) ∧ (¬ (6 ≤ l3) → (0 ≤ l3 ∧ l3 < 6) ∧ inR (l3 + 1) ∧ inR (l4 * (l3 + 1)) ∧ inR (l5 + 1) ∧ AW mX0_leastOfAllOrders 2 8 [some (aR 69), some (aR 3), some (aI l2), some (aI (l3 + 1)), some (aI (l4 * (l3 + 1))), some (aI (l5 + 1)), none] [] (a_up h 70 l3 l5) Q))) ∧ (¬ ((h 6 l5) = l2) → inR (l5 + 1) ∧ AW mX0_leastOfAllOrders 2 8 [some (aR 69), some (aR 3), some (aI l2), some (aI l3), some (aI l4), some (aI (l5 + 1)), none] [] h Q))))) : AW mX0_leastOfAllOrders 2 8 [some (aR 69), some (aR 3), some (aI l2), some (aI l3), some (aI l4), some (aI l5), none] [] h Q := by
  refine AW.iload (pc := 8) dX0_leastOfAllOrders_8 rfl ?_
  refine AW.aload_n (pc := 10) dX0_leastOfAllOrders_10 rfl ?_
  refine AW.geti' (k := 1) (j := 1) (pc := 11) dX0_leastOfAllOrders_11 ac_5 sh_3 rfl (by decide) fl_0_31 rfl (v := (h 3 1)) rfl ?_
  refine AW.icmp_ge (tgt := 57) (pc := 14) dX0_leastOfAllOrders_14 rfl (fun q => ?_) (fun q => ?_)
  · skip
    have H_1 := H.1 q
    refine AW.aload_n (pc := 57) dX0_leastOfAllOrders_57 rfl ?_
    refine AW.aload_n (pc := 58) dX0_leastOfAllOrders_58 rfl ?_
    refine AW.iload_n (pc := 59) dX0_leastOfAllOrders_59 rfl ?_
    refine AW.callVi (M' := mX0_over) (F' := 1) (as := [aR 3, aI l3]) (pc := 60) dX0_leastOfAllOrders_60 (by decide) kX0_over ml_0_37 ob_69 rfl npX0_over (Nat.le_of_ble_eq_true rfl) (aRun.mono (fun r1 h2 H_2 => ?_) H_1)
    refine AW.istore (pc := 63) dX0_leastOfAllOrders_63 (by decide) rfl ?_
    refine AW.iconst (pc := 65) dX0_leastOfAllOrders_65 ⟨by decide, by decide⟩ ?_
    refine AW.istore (pc := 66) dX0_leastOfAllOrders_66 (by decide) rfl ?_
    refine AW.mask [true, true, false, true, true, true, true] ?_
    exact H_2
  · skip
    have H_3 := H.2 q
    refine AW.aload_n (pc := 17) dX0_leastOfAllOrders_17 rfl ?_
    refine AW.getr (k := 4) (pc := 18) dX0_leastOfAllOrders_18 ac_5 sh_3 rfl (by decide) fl_0_34 ?_
    refine AW.iload (pc := 21) dX0_leastOfAllOrders_21 rfl ?_
    refine AW.iald (pc := 23) dX0_leastOfAllOrders_23 sh_6 (H_3.1) (v := (h 6 l5)) rfl ?_
    refine AW.iload_n (pc := 24) dX0_leastOfAllOrders_24 rfl ?_
    refine AW.icmp_ne (tgt := 51) (pc := 25) dX0_leastOfAllOrders_25 rfl (fun q => ?_) (fun q => ?_)
    · skip
      have H_4 := H_3.2.2 q
      refine AW.iinc (pc := 51) dX0_leastOfAllOrders_51 rfl (by decide) rfl (H_4.1) ?_
      refine AW.goto (tgt := 8) (pc := 54) dX0_leastOfAllOrders_54 rfl ?_
      exact H_4.2
    · have q := Decidable.not_not.mp q
      have H_5 := H_3.2.1 q
      refine AW.iload_n (pc := 28) dX0_leastOfAllOrders_28 rfl ?_
      refine AW.bipush (pc := 29) dX0_leastOfAllOrders_29 rfl ⟨by decide, by decide⟩ ?_
      refine AW.icmp_ge (tgt := 51) (pc := 31) dX0_leastOfAllOrders_31 rfl (fun q => ?_) (fun q => ?_)
      · skip
        have H_6 := H_5.1 q
        refine AW.iinc (pc := 51) dX0_leastOfAllOrders_51 rfl (by decide) rfl (H_6.1) ?_
        refine AW.goto (tgt := 8) (pc := 54) dX0_leastOfAllOrders_54 rfl ?_
        exact H_6.2
      · skip
        have H_7 := H_5.2 q
        refine AW.aload_n (pc := 34) dX0_leastOfAllOrders_34 rfl ?_
        refine AW.getr (k := 0) (pc := 35) dX0_leastOfAllOrders_35 ac_0 sh_69 rfl (by decide) fl_0_9 ?_
        refine AW.iload_n (pc := 38) dX0_leastOfAllOrders_38 rfl ?_
        refine AW.iload (pc := 39) dX0_leastOfAllOrders_39 rfl ?_
        refine AW.iast (pc := 41) dX0_leastOfAllOrders_41 sh_70 (H_7.1) ?_
        refine AW.iinc (pc := 42) dX0_leastOfAllOrders_42 rfl (by decide) rfl (H_7.2.1) ?_
        refine AW.iload (pc := 45) dX0_leastOfAllOrders_45 rfl ?_
        refine AW.iload_n (pc := 47) dX0_leastOfAllOrders_47 rfl ?_
        refine AW.imul (pc := 48) dX0_leastOfAllOrders_48 (H_7.2.2.1) ?_
        refine AW.istore (pc := 49) dX0_leastOfAllOrders_49 (by decide) rfl ?_
        refine AW.iinc (pc := 51) dX0_leastOfAllOrders_51 rfl (by decide) rfl (H_7.2.2.2.1) ?_
        refine AW.goto (tgt := 8) (pc := 54) dX0_leastOfAllOrders_54 rfl ?_
        exact H_7.2.2.2.2
set_option maxRecDepth 100000 in
set_option maxHeartbeats 4000000 in
theorem s_X0_leastOfAllOrders_68  {l3 l4 l5 l6 : Int} {h : aH} {Q : aQ} (H : ((l4 ≤ l6 → Q l5 h) ∧ (¬ (l4 ≤ l6) → aRun mX9_nextOrder 1 [aR 70, aI 0, aI l3] h (fun r1 h2 => aRun mX0_over 1 [aR 69, aR 3, aI l3] h2 (fun r3 h4 => inR (l6 + 1) ∧ AW mX0_leastOfAllOrders 2 68 [some (aR 69), some (aR 3), none, some (aI l3), some (aI l4), some (aI (min l5 r3)), some (aI (l6 + 1))] [] h4 Q))))) : AW mX0_leastOfAllOrders 2 68 [some (aR 69), some (aR 3), none, some (aI l3), some (aI l4), some (aI l5), some (aI l6)] [] h Q := by
  refine AW.iload (pc := 68) dX0_leastOfAllOrders_68 rfl ?_
  refine AW.iload (pc := 70) dX0_leastOfAllOrders_70 rfl ?_
  refine AW.icmp_ge (tgt := 104) (pc := 72) dX0_leastOfAllOrders_72 rfl (fun q => ?_) (fun q => ?_)
  · skip
    have H_1 := H.1 q
    refine AW.iload (pc := 104) dX0_leastOfAllOrders_104 rfl ?_
    refine AW.iret (pc := 106) dX0_leastOfAllOrders_106 rfl ?_
    exact H_1
  · skip
    have H_2 := H.2 q
    refine AW.aload_n (pc := 75) dX0_leastOfAllOrders_75 rfl ?_
    refine AW.getr (k := 0) (pc := 76) dX0_leastOfAllOrders_76 ac_0 sh_69 rfl (by decide) fl_0_9 ?_
    refine AW.iconst (pc := 79) dX0_leastOfAllOrders_79 ⟨by decide, by decide⟩ ?_
    refine AW.iload_n (pc := 80) dX0_leastOfAllOrders_80 rfl ?_
    refine AW.callNi (M' := mX9_nextOrder) (F' := 1) (as := [aR 70, aI 0, aI l3]) (pc := 81) dX0_leastOfAllOrders_81 (by decide) kX9_nextOrder nl_0_40 rfl npX9_nextOrder (Nat.le_of_ble_eq_true rfl) (aRun.mono (fun r1 h2 H_3 => ?_) H_2)
    refine AW.pop (pc := 84) dX0_leastOfAllOrders_84 rfl ?_
    refine AW.iload (pc := 85) dX0_leastOfAllOrders_85 rfl ?_
    refine AW.aload_n (pc := 87) dX0_leastOfAllOrders_87 rfl ?_
    refine AW.aload_n (pc := 88) dX0_leastOfAllOrders_88 rfl ?_
    refine AW.iload_n (pc := 89) dX0_leastOfAllOrders_89 rfl ?_
    refine AW.callVi (M' := mX0_over) (F' := 1) (as := [aR 3, aI l3]) (pc := 90) dX0_leastOfAllOrders_90 (by decide) kX0_over ml_0_37 ob_69 rfl npX0_over (Nat.le_of_ble_eq_true rfl) (aRun.mono (fun r3 h4 H_4 => ?_) H_3)
    refine AW.mmin (pc := 93) dX0_leastOfAllOrders_93 (by decide) ml_0_44 (Nat.le_of_ble_eq_true rfl) ?_
    refine AW.istore (pc := 96) dX0_leastOfAllOrders_96 (by decide) rfl ?_
    refine AW.iinc (pc := 98) dX0_leastOfAllOrders_98 rfl (by decide) rfl (H_4.1) ?_
    refine AW.goto (tgt := 68) (pc := 101) dX0_leastOfAllOrders_101 rfl ?_
    exact H_4.2
def f_X5_tasksOn (h : aH) (a1 : Int) : Int := ((h 10 (a1 + 1)) - (h 10 a1))
def o_X5_tasksOn (h : aH) (a1 : Int) : Prop := inR (a1 + 1) ∧ (0 ≤ (a1 + 1) ∧ (a1 + 1) < 6) ∧ (0 ≤ a1 ∧ a1 < 6) ∧ inR ((h 10 (a1 + 1)) - (h 10 a1))
set_option maxRecDepth 100000 in
set_option maxHeartbeats 4000000 in
theorem p_X5_tasksOn {a1 : Int} {h : aH} {Q : aQ} (o : o_X5_tasksOn h a1) (k : Q (f_X5_tasksOn h a1) h) : aRun mX5_tasksOn 0 [aR 3, aI a1] h Q := by
  unfold f_X5_tasksOn at k
  unfold o_X5_tasksOn at o
  refine aRun.of pn_5 rfl (Nat.le_of_ble_eq_true rfl) ?_
  show AW mX5_tasksOn 0 0 [some (aR 3), some (aI a1)] [] h Q
  refine AW.aload_n (pc := 0) dX5_tasksOn_0 rfl ?_
  refine AW.getr (k := 8) (pc := 1) dX5_tasksOn_1 ac_5 sh_3 rfl (by decide) fl_5_37 ?_
  refine AW.iload_n (pc := 4) dX5_tasksOn_4 rfl ?_
  refine AW.iconst (pc := 5) dX5_tasksOn_5 ⟨by decide, by decide⟩ ?_
  refine AW.iadd (pc := 6) dX5_tasksOn_6 (o.1) ?_
  refine AW.iald (pc := 7) dX5_tasksOn_7 sh_10 (o.2.1) (v := (h 10 (a1 + 1))) rfl ?_
  refine AW.aload_n (pc := 8) dX5_tasksOn_8 rfl ?_
  refine AW.getr (k := 8) (pc := 9) dX5_tasksOn_9 ac_5 sh_3 rfl (by decide) fl_5_37 ?_
  refine AW.iload_n (pc := 12) dX5_tasksOn_12 rfl ?_
  refine AW.iald (pc := 13) dX5_tasksOn_13 sh_10 (o.2.2.1) (v := (h 10 a1)) rfl ?_
  refine AW.isub (pc := 14) dX5_tasksOn_14 (o.2.2.2) ?_
  refine AW.iret (pc := 15) dX5_tasksOn_15 rfl ?_
  exact k
set_option maxRecDepth 100000 in
set_option maxHeartbeats 4000000 in
theorem e_X0_atBest {a2 : Int} {h : aH} {Q : aQ} (H : o_X5_tasksOn h a2 ∧ (((f_X5_tasksOn h a2) ≤ 6 → (0 ≤ a2 ∧ a2 < 5) ∧ (((h 72 a2) = (-1) → aRun mX0_leastOfAllOrders 2 [aR 69, aR 3, aI a2] h (fun r1 h2 => Q r1 (a_up h2 72 a2 r1))) ∧ (¬ ((h 72 a2) = (-1)) → Q (h 72 a2) h))) ∧ (¬ ((f_X5_tasksOn h a2) ≤ 6) → Q (-7) h))) : aRun mX0_atBest 3 [aR 69, aR 3, aI a2] h Q := by
  refine aRun.of pn_0 rfl (Nat.le_of_ble_eq_true rfl) ?_
  show AW mX0_atBest 3 0 [some (aR 69), some (aR 3), some (aI a2)] [] h Q
  refine AW.aload_n (pc := 0) dX0_atBest_0 rfl ?_
  refine AW.iload_n (pc := 1) dX0_atBest_1 rfl ?_
  refine AW.callVi (M' := mX5_tasksOn) (F' := 0) (as := [aI a2]) (pc := 2) dX0_atBest_2 (by decide) kX5_tasksOn ml_0_21 ob_3 rfl npX5_tasksOn (Nat.le_of_ble_eq_true rfl) (p_X5_tasksOn (H.1) ?_)
  refine AW.bipush (pc := 5) dX0_atBest_5 rfl ⟨by decide, by decide⟩ ?_
  refine AW.icmp_le (tgt := 13) (pc := 7) dX0_atBest_7 rfl (fun q => ?_) (fun q => ?_)
  · skip
    have H_1 := H.2.1 q
    refine AW.aload_n (pc := 13) dX0_atBest_13 rfl ?_
    refine AW.getr (k := 2) (pc := 14) dX0_atBest_14 ac_0 sh_69 rfl (by decide) fl_0_18 ?_
    refine AW.iload_n (pc := 17) dX0_atBest_17 rfl ?_
    refine AW.iald (pc := 18) dX0_atBest_18 sh_72 (H_1.1) (v := (h 72 a2)) rfl ?_
    refine AW.iconst (pc := 19) dX0_atBest_19 ⟨by decide, by decide⟩ ?_
    refine AW.icmp_ne (tgt := 35) (pc := 20) dX0_atBest_20 rfl (fun q => ?_) (fun q => ?_)
    · skip
      have H_2 := H_1.2.2 q
      refine AW.aload_n (pc := 35) dX0_atBest_35 rfl ?_
      refine AW.getr (k := 2) (pc := 36) dX0_atBest_36 ac_0 sh_69 rfl (by decide) fl_0_18 ?_
      refine AW.iload_n (pc := 39) dX0_atBest_39 rfl ?_
      refine AW.iald (pc := 40) dX0_atBest_40 sh_72 (H_1.1) (v := (h 72 a2)) rfl ?_
      refine AW.iret (pc := 41) dX0_atBest_41 rfl ?_
      exact H_2
    · have q := Decidable.not_not.mp q
      have H_3 := H_1.2.1 q
      refine AW.aload_n (pc := 23) dX0_atBest_23 rfl ?_
      refine AW.getr (k := 2) (pc := 24) dX0_atBest_24 ac_0 sh_69 rfl (by decide) fl_0_18 ?_
      refine AW.iload_n (pc := 27) dX0_atBest_27 rfl ?_
      refine AW.aload_n (pc := 28) dX0_atBest_28 rfl ?_
      refine AW.aload_n (pc := 29) dX0_atBest_29 rfl ?_
      refine AW.iload_n (pc := 30) dX0_atBest_30 rfl ?_
      refine AW.callVi (M' := mX0_leastOfAllOrders) (F' := 2) (as := [aR 3, aI a2]) (pc := 31) dX0_atBest_31 (by decide) kX0_leastOfAllOrders ml_0_27 ob_69 rfl npX0_leastOfAllOrders (Nat.le_of_ble_eq_true rfl) (aRun.mono (fun r1 h2 H_4 => ?_) H_3)
      refine AW.iast (pc := 34) dX0_atBest_34 sh_72 (H_1.1) ?_
      refine AW.aload_n (pc := 35) dX0_atBest_35 rfl ?_
      refine AW.getr (k := 2) (pc := 36) dX0_atBest_36 ac_0 sh_69 rfl (by decide) fl_0_18 ?_
      refine AW.iload_n (pc := 39) dX0_atBest_39 rfl ?_
      refine AW.iald (pc := 40) dX0_atBest_40 sh_72 (H_1.1) (v := r1) (by rw [a_up_eq]) ?_
      refine AW.iret (pc := 41) dX0_atBest_41 rfl ?_
      exact H_4
  · skip
    have H_5 := H.2.2 q
    refine AW.bipush (pc := 10) dX0_atBest_10 rfl ⟨by decide, by decide⟩ ?_
    refine AW.iret (pc := 12) dX0_atBest_12 rfl ?_
    exact H_5
set_option maxRecDepth 100000 in
set_option maxHeartbeats 4000000 in
theorem e_X0_forget  {h : aH} {Q : aQ} (H : AW mX0_forget 0 2 [some (aR 69), some (aI 0)] [] h Q) : aRun mX0_forget 0 [aR 69] h Q := by
  refine aRun.of pn_0 rfl (Nat.le_of_ble_eq_true rfl) ?_
  show AW mX0_forget 0 0 [some (aR 69), none] [] h Q
  refine AW.iconst (pc := 0) dX0_forget_0 ⟨by decide, by decide⟩ ?_
  refine AW.istore_n (pc := 1) dX0_forget_1 (by decide) rfl ?_
  exact H
set_option maxRecDepth 100000 in
set_option maxHeartbeats 4000000 in
theorem s_X0_forget_2  {l1 : Int} {h : aH} {Q : aQ} (H : ((5 ≤ l1 → Q 0 h) ∧ (¬ (5 ≤ l1) → (0 ≤ l1 ∧ l1 < 5) ∧ inR (l1 + 1) ∧ AW mX0_forget 0 2 [some (aR 69), some (aI (l1 + 1))] [] (a_up h 72 l1 (-1)) Q))) : AW mX0_forget 0 2 [some (aR 69), some (aI l1)] [] h Q := by
  refine AW.iload_n (pc := 2) dX0_forget_2 rfl ?_
  refine AW.iconst (pc := 3) dX0_forget_3 ⟨by decide, by decide⟩ ?_
  refine AW.icmp_ge (tgt := 20) (pc := 4) dX0_forget_4 rfl (fun q => ?_) (fun q => ?_)
  · skip
    have H_1 := H.1 q
    refine AW.vret (pc := 20) dX0_forget_20 rfl ?_
    exact H_1
  · skip
    have H_2 := H.2 q
    refine AW.aload_n (pc := 7) dX0_forget_7 rfl ?_
    refine AW.getr (k := 2) (pc := 8) dX0_forget_8 ac_0 sh_69 rfl (by decide) fl_0_18 ?_
    refine AW.iload_n (pc := 11) dX0_forget_11 rfl ?_
    refine AW.iconst (pc := 12) dX0_forget_12 ⟨by decide, by decide⟩ ?_
    refine AW.iast (pc := 13) dX0_forget_13 sh_72 (H_2.1) ?_
    refine AW.iinc (pc := 14) dX0_forget_14 rfl (by decide) rfl (H_2.2.1) ?_
    refine AW.goto (tgt := 2) (pc := 17) dX0_forget_17 rfl ?_
    exact H_2.2.2
set_option maxRecDepth 100000 in
set_option maxHeartbeats 4000000 in
theorem e_X0_nextHead {a2 : Int} {h : aH} {Q : aQ} (H : AW mX0_nextHead 0 5 [some (aR 69), some (aR 3), some (aI a2), some (aI (-1)), some (aI 0)] [] h Q) : aRun mX0_nextHead 0 [aR 69, aR 3, aI a2] h Q := by
  refine aRun.of pn_0 rfl (Nat.le_of_ble_eq_true rfl) ?_
  show AW mX0_nextHead 0 0 [some (aR 69), some (aR 3), some (aI a2), none, none] [] h Q
  refine AW.iconst (pc := 0) dX0_nextHead_0 ⟨by decide, by decide⟩ ?_
  refine AW.istore_n (pc := 1) dX0_nextHead_1 (by decide) rfl ?_
  refine AW.iconst (pc := 2) dX0_nextHead_2 ⟨by decide, by decide⟩ ?_
  refine AW.istore (pc := 3) dX0_nextHead_3 (by decide) rfl ?_
  exact H
set_option maxRecDepth 100000 in
set_option maxHeartbeats 4000000 in
theorem s_X0_nextHead_5  {l2 l3 l4 : Int} {h : aH} {Q : aQ} (H : (((h 3 1) ≤ l4 → Q l3 h) ∧ (¬ ((h 3 1) ≤ l4) → (0 ≤ l4 ∧ l4 < 24) ∧ (((h 71 l4) ≤ 0 → inR (l4 + 1) ∧ AW mX0_nextHead 0 5 [some (aR 69), some (aR 3), some (aI l2), some (aI l3), some (aI (l4 + 1))] [] h Q) ∧ (¬ ((h 71 l4) ≤ 0) → (((h 8 l4) ≤ l2 → inR (l4 + 1) ∧ AW mX0_nextHead 0 5 [some (aR 69), some (aR 3), some (aI l2), some (aI l3), some (aI (l4 + 1))] [] h Q) ∧ (¬ ((h 8 l4) ≤ l2) → ((l3 = (-1) → inR (l4 + 1) ∧ AW mX0_nextHead 0 5 [some (aR 69), some (aR 3), some (aI l2), some (aI (h 8 l4)), some (aI (l4 + 1))] [] h Q) ∧ (¬ (l3 = (-1)) → ((l3 ≤ (h 8 l4) → inR (l4 + 1) ∧ AW mX0_nextHead 0 5 [some (aR 69), some (aR 3), some (aI l2), some (aI l3), some (aI (l4 + 1))] [] h Q) ∧ (¬ (l3 ≤ (h 8 l4)) → inR (l4 + 1) ∧ AW mX0_nextHead 0 5 [some (aR 69), some (aR 3), some (aI l2), some (aI (h 8 l4)), some (aI (l4 + 1))] [] h Q))))))))))) : AW mX0_nextHead 0 5 [some (aR 69), some (aR 3), some (aI l2), some (aI l3), some (aI l4)] [] h Q := by
  refine AW.iload (pc := 5) dX0_nextHead_5 rfl ?_
  refine AW.aload_n (pc := 7) dX0_nextHead_7 rfl ?_
  refine AW.geti' (k := 1) (j := 1) (pc := 8) dX0_nextHead_8 ac_5 sh_3 rfl (by decide) fl_0_31 rfl (v := (h 3 1)) rfl ?_
  refine AW.icmp_ge (tgt := 65) (pc := 11) dX0_nextHead_11 rfl (fun q => ?_) (fun q => ?_)
  · skip
    have H_1 := H.1 q
    refine AW.iload_n (pc := 65) dX0_nextHead_65 rfl ?_
    refine AW.iret (pc := 66) dX0_nextHead_66 rfl ?_
    exact H_1
  · skip
    have H_2 := H.2 q
    refine AW.aload_n (pc := 14) dX0_nextHead_14 rfl ?_
    refine AW.getr (k := 1) (pc := 15) dX0_nextHead_15 ac_0 sh_69 rfl (by decide) fl_0_15 ?_
    refine AW.iload (pc := 18) dX0_nextHead_18 rfl ?_
    refine AW.iald (pc := 20) dX0_nextHead_20 sh_71 (H_2.1) (v := (h 71 l4)) rfl ?_
    refine AW.if_le (tgt := 59) (pc := 21) dX0_nextHead_21 rfl (fun q => ?_) (fun q => ?_)
    · skip
      have H_3 := H_2.2.1 q
      refine AW.iinc (pc := 59) dX0_nextHead_59 rfl (by decide) rfl (H_3.1) ?_
      refine AW.goto (tgt := 5) (pc := 62) dX0_nextHead_62 rfl ?_
      exact H_3.2
    · skip
      have H_4 := H_2.2.2 q
      refine AW.aload_n (pc := 24) dX0_nextHead_24 rfl ?_
      refine AW.getr (k := 6) (pc := 25) dX0_nextHead_25 ac_5 sh_3 rfl (by decide) fl_0_50 ?_
      refine AW.iload (pc := 28) dX0_nextHead_28 rfl ?_
      refine AW.iald (pc := 30) dX0_nextHead_30 sh_8 (H_2.1) (v := (h 8 l4)) rfl ?_
      refine AW.iload_n (pc := 31) dX0_nextHead_31 rfl ?_
      refine AW.icmp_le (tgt := 59) (pc := 32) dX0_nextHead_32 rfl (fun q => ?_) (fun q => ?_)
      · skip
        have H_5 := H_4.1 q
        refine AW.iinc (pc := 59) dX0_nextHead_59 rfl (by decide) rfl (H_5.1) ?_
        refine AW.goto (tgt := 5) (pc := 62) dX0_nextHead_62 rfl ?_
        exact H_5.2
      · skip
        have H_6 := H_4.2 q
        refine AW.iload_n (pc := 35) dX0_nextHead_35 rfl ?_
        refine AW.iconst (pc := 36) dX0_nextHead_36 ⟨by decide, by decide⟩ ?_
        refine AW.icmp_eq (tgt := 51) (pc := 37) dX0_nextHead_37 rfl (fun q => ?_) (fun q => ?_)
        · skip
          have H_7 := H_6.1 q
          refine AW.aload_n (pc := 51) dX0_nextHead_51 rfl ?_
          refine AW.getr (k := 6) (pc := 52) dX0_nextHead_52 ac_5 sh_3 rfl (by decide) fl_0_50 ?_
          refine AW.iload (pc := 55) dX0_nextHead_55 rfl ?_
          refine AW.iald (pc := 57) dX0_nextHead_57 sh_8 (H_2.1) (v := (h 8 l4)) rfl ?_
          refine AW.istore_n (pc := 58) dX0_nextHead_58 (by decide) rfl ?_
          refine AW.iinc (pc := 59) dX0_nextHead_59 rfl (by decide) rfl (H_7.1) ?_
          refine AW.goto (tgt := 5) (pc := 62) dX0_nextHead_62 rfl ?_
          exact H_7.2
        · skip
          have H_8 := H_6.2 q
          refine AW.aload_n (pc := 40) dX0_nextHead_40 rfl ?_
          refine AW.getr (k := 6) (pc := 41) dX0_nextHead_41 ac_5 sh_3 rfl (by decide) fl_0_50 ?_
          refine AW.iload (pc := 44) dX0_nextHead_44 rfl ?_
          refine AW.iald (pc := 46) dX0_nextHead_46 sh_8 (H_2.1) (v := (h 8 l4)) rfl ?_
          refine AW.iload_n (pc := 47) dX0_nextHead_47 rfl ?_
          refine AW.icmp_ge (tgt := 59) (pc := 48) dX0_nextHead_48 rfl (fun q => ?_) (fun q => ?_)
          · skip
            have H_9 := H_8.1 q
            refine AW.iinc (pc := 59) dX0_nextHead_59 rfl (by decide) rfl (H_9.1) ?_
            refine AW.goto (tgt := 5) (pc := 62) dX0_nextHead_62 rfl ?_
            exact H_9.2
          · skip
            have H_10 := H_8.2 q
            refine AW.aload_n (pc := 51) dX0_nextHead_51 rfl ?_
            refine AW.getr (k := 6) (pc := 52) dX0_nextHead_52 ac_5 sh_3 rfl (by decide) fl_0_50 ?_
            refine AW.iload (pc := 55) dX0_nextHead_55 rfl ?_
            refine AW.iald (pc := 57) dX0_nextHead_57 sh_8 (H_2.1) (v := (h 8 l4)) rfl ?_
            refine AW.istore_n (pc := 58) dX0_nextHead_58 (by decide) rfl ?_
            refine AW.iinc (pc := 59) dX0_nextHead_59 rfl (by decide) rfl (H_10.1) ?_
            refine AW.goto (tgt := 5) (pc := 62) dX0_nextHead_62 rfl ?_
            exact H_10.2
set_option maxRecDepth 100000 in
set_option maxHeartbeats 4000000 in
theorem e_X0_workedOn {a2 : Int} {h : aH} {Q : aQ} (H : AW mX0_workedOn 0 5 [some (aR 69), some (aR 3), some (aI a2), some (aI (-1)), some (aI 0)] [] h Q) : aRun mX0_workedOn 0 [aR 69, aR 3, aI a2] h Q := by
  refine aRun.of pn_0 rfl (Nat.le_of_ble_eq_true rfl) ?_
  show AW mX0_workedOn 0 0 [some (aR 69), some (aR 3), some (aI a2), none, none] [] h Q
  refine AW.iconst (pc := 0) dX0_workedOn_0 ⟨by decide, by decide⟩ ?_
  refine AW.istore_n (pc := 1) dX0_workedOn_1 (by decide) rfl ?_
  refine AW.iconst (pc := 2) dX0_workedOn_2 ⟨by decide, by decide⟩ ?_
  refine AW.istore (pc := 3) dX0_workedOn_3 (by decide) rfl ?_
  exact H
set_option maxRecDepth 100000 in
set_option maxHeartbeats 4000000 in
theorem s_X0_workedOn_5  {l2 l3 l4 : Int} {h : aH} {Q : aQ} (H : (((h 3 1) ≤ l4 → Q l3 h) ∧ (¬ ((h 3 1) ≤ l4) → (0 ≤ l4 ∧ l4 < 24) ∧ (((h 71 l4) ≤ 0 → inR (l4 + 1) ∧ AW mX0_workedOn 0 5 [some (aR 69), some (aR 3), some (aI l2), some (aI l3), some (aI (l4 + 1))] [] h Q) ∧ (¬ ((h 71 l4) ≤ 0) → ((l2 < (h 8 l4) → inR (l4 + 1) ∧ AW mX0_workedOn 0 5 [some (aR 69), some (aR 3), some (aI l2), some (aI l3), some (aI (l4 + 1))] [] h Q) ∧ (¬ (l2 < (h 8 l4)) → ((l3 = (-1) → inR (l4 + 1) ∧ AW mX0_workedOn 0 5 [some (aR 69), some (aR 3), some (aI l2), some (aI l4), some (aI (l4 + 1))] [] h Q) ∧ (¬ (l3 = (-1)) → (0 ≤ l3 ∧ l3 < 24) ∧ (((h 9 l4) ≤ (h 9 l3) → inR (l4 + 1) ∧ AW mX0_workedOn 0 5 [some (aR 69), some (aR 3), some (aI l2), some (aI l3), some (aI (l4 + 1))] [] h Q) ∧ (¬ ((h 9 l4) ≤ (h 9 l3)) → inR (l4 + 1) ∧ AW mX0_workedOn 0 5 [some (aR 69), some (aR 3), some (aI l2), some (aI l4), some (aI (l4 + 1))] [] h Q))))))))))) : AW mX0_workedOn 0 5 [some (aR 69), some (aR 3), some (aI l2), some (aI l3), some (aI l4)] [] h Q := by
  refine AW.iload (pc := 5) dX0_workedOn_5 rfl ?_
  refine AW.aload_n (pc := 7) dX0_workedOn_7 rfl ?_
  refine AW.geti' (k := 1) (j := 1) (pc := 8) dX0_workedOn_8 ac_5 sh_3 rfl (by decide) fl_0_31 rfl (v := (h 3 1)) rfl ?_
  refine AW.icmp_ge (tgt := 65) (pc := 11) dX0_workedOn_11 rfl (fun q => ?_) (fun q => ?_)
  · skip
    have H_1 := H.1 q
    refine AW.iload_n (pc := 65) dX0_workedOn_65 rfl ?_
    refine AW.iret (pc := 66) dX0_workedOn_66 rfl ?_
    exact H_1
  · skip
    have H_2 := H.2 q
    refine AW.aload_n (pc := 14) dX0_workedOn_14 rfl ?_
    refine AW.getr (k := 1) (pc := 15) dX0_workedOn_15 ac_0 sh_69 rfl (by decide) fl_0_15 ?_
    refine AW.iload (pc := 18) dX0_workedOn_18 rfl ?_
    refine AW.iald (pc := 20) dX0_workedOn_20 sh_71 (H_2.1) (v := (h 71 l4)) rfl ?_
    refine AW.if_le (tgt := 59) (pc := 21) dX0_workedOn_21 rfl (fun q => ?_) (fun q => ?_)
    · skip
      have H_3 := H_2.2.1 q
      refine AW.iinc (pc := 59) dX0_workedOn_59 rfl (by decide) rfl (H_3.1) ?_
      refine AW.goto (tgt := 5) (pc := 62) dX0_workedOn_62 rfl ?_
      exact H_3.2
    · skip
      have H_4 := H_2.2.2 q
      refine AW.aload_n (pc := 24) dX0_workedOn_24 rfl ?_
      refine AW.getr (k := 6) (pc := 25) dX0_workedOn_25 ac_5 sh_3 rfl (by decide) fl_0_50 ?_
      refine AW.iload (pc := 28) dX0_workedOn_28 rfl ?_
      refine AW.iald (pc := 30) dX0_workedOn_30 sh_8 (H_2.1) (v := (h 8 l4)) rfl ?_
      refine AW.iload_n (pc := 31) dX0_workedOn_31 rfl ?_
      refine AW.icmp_gt (tgt := 59) (pc := 32) dX0_workedOn_32 rfl (fun q => ?_) (fun q => ?_)
      · skip
        have H_5 := H_4.1 q
        refine AW.iinc (pc := 59) dX0_workedOn_59 rfl (by decide) rfl (H_5.1) ?_
        refine AW.goto (tgt := 5) (pc := 62) dX0_workedOn_62 rfl ?_
        exact H_5.2
      · skip
        have H_6 := H_4.2 q
        refine AW.iload_n (pc := 35) dX0_workedOn_35 rfl ?_
        refine AW.iconst (pc := 36) dX0_workedOn_36 ⟨by decide, by decide⟩ ?_
        refine AW.icmp_eq (tgt := 56) (pc := 37) dX0_workedOn_37 rfl (fun q => ?_) (fun q => ?_)
        · skip
          have H_7 := H_6.1 q
          refine AW.iload (pc := 56) dX0_workedOn_56 rfl ?_
          refine AW.istore_n (pc := 58) dX0_workedOn_58 (by decide) rfl ?_
          refine AW.iinc (pc := 59) dX0_workedOn_59 rfl (by decide) rfl (H_7.1) ?_
          refine AW.goto (tgt := 5) (pc := 62) dX0_workedOn_62 rfl ?_
          exact H_7.2
        · skip
          have H_8 := H_6.2 q
          refine AW.aload_n (pc := 40) dX0_workedOn_40 rfl ?_
          refine AW.getr (k := 7) (pc := 41) dX0_workedOn_41 ac_5 sh_3 rfl (by decide) fl_0_59 ?_
          refine AW.iload (pc := 44) dX0_workedOn_44 rfl ?_
          refine AW.iald (pc := 46) dX0_workedOn_46 sh_9 (H_2.1) (v := (h 9 l4)) rfl ?_
          refine AW.aload_n (pc := 47) dX0_workedOn_47 rfl ?_
          refine AW.getr (k := 7) (pc := 48) dX0_workedOn_48 ac_5 sh_3 rfl (by decide) fl_0_59 ?_
          refine AW.iload_n (pc := 51) dX0_workedOn_51 rfl ?_
          refine AW.iald (pc := 52) dX0_workedOn_52 sh_9 (H_8.1) (v := (h 9 l3)) rfl ?_
          refine AW.icmp_le (tgt := 59) (pc := 53) dX0_workedOn_53 rfl (fun q => ?_) (fun q => ?_)
          · skip
            have H_9 := H_8.2.1 q
            refine AW.iinc (pc := 59) dX0_workedOn_59 rfl (by decide) rfl (H_9.1) ?_
            refine AW.goto (tgt := 5) (pc := 62) dX0_workedOn_62 rfl ?_
            exact H_9.2
          · skip
            have H_10 := H_8.2.2 q
            refine AW.iload (pc := 56) dX0_workedOn_56 rfl ?_
            refine AW.istore_n (pc := 58) dX0_workedOn_58 (by decide) rfl ?_
            refine AW.iinc (pc := 59) dX0_workedOn_59 rfl (by decide) rfl (H_10.1) ?_
            refine AW.goto (tgt := 5) (pc := 62) dX0_workedOn_62 rfl ?_
            exact H_10.2
set_option maxRecDepth 100000 in
set_option maxHeartbeats 4000000 in
theorem e_X0_preempted {a2 : Int} {h : aH} {Q : aQ} (H : AW mX0_preempted 1 2 [some (aR 69), some (aR 3), some (aI a2), some (aI 0), none, none, none, none, none] [] h Q) : aRun mX0_preempted 1 [aR 69, aR 3, aI a2] h Q := by
  refine aRun.of pn_0 rfl (Nat.le_of_ble_eq_true rfl) ?_
  show AW mX0_preempted 1 0 [some (aR 69), some (aR 3), some (aI a2), none, none, none, none, none, none] [] h Q
  refine AW.iconst (pc := 0) dX0_preempted_0 ⟨by decide, by decide⟩ ?_
  refine AW.istore_n (pc := 1) dX0_preempted_1 (by decide) rfl ?_
  exact H
set_option maxRecDepth 100000 in
set_option maxHeartbeats 4000000 in
theorem s_X0_preempted_2  {l2 l3 : Int} {h : aH} {Q : aQ} (H : (((h 3 1) ≤ l3 → AW mX0_preempted 1 50 [some (aR 69), some (aR 3), none, some (aI 0), some (aI 0), some (aI 0), none, none, none] [] h Q) ∧ (¬ ((h 3 1) ≤ l3) → (0 ≤ l3 ∧ l3 < 24) ∧ inR (l3 + 1) ∧ AW mX0_preempted 1 2 [some (aR 69), some (aR 3), some (aI l2), some (aI (l3 + 1)), none, none, none, none, none] [] (a_up h 71 l3 (if (h 6 l3) = l2 then (h 7 l3) else (0 : Int))) Q))) : AW mX0_preempted 1 2 [some (aR 69), some (aR 3), some (aI l2), some (aI l3), none, none, none, none, none] [] h Q := by
  refine AW.iload_n (pc := 2) dX0_preempted_2 rfl ?_
  refine AW.aload_n (pc := 3) dX0_preempted_3 rfl ?_
  refine AW.geti' (k := 1) (j := 1) (pc := 4) dX0_preempted_4 ac_5 sh_3 rfl (by decide) fl_0_31 rfl (v := (h 3 1)) rfl ?_
  refine AW.icmp_ge (tgt := 42) (pc := 7) dX0_preempted_7 rfl (fun q => ?_) (fun q => ?_)
  · skip
    have H_1 := H.1 q
    refine AW.iconst (pc := 42) dX0_preempted_42 ⟨by decide, by decide⟩ ?_
    refine AW.istore_n (pc := 43) dX0_preempted_43 (by decide) rfl ?_
    refine AW.iconst (pc := 44) dX0_preempted_44 ⟨by decide, by decide⟩ ?_
    refine AW.istore (pc := 45) dX0_preempted_45 (by decide) rfl ?_
    refine AW.iconst (pc := 47) dX0_preempted_47 ⟨by decide, by decide⟩ ?_
    refine AW.istore (pc := 48) dX0_preempted_48 (by decide) rfl ?_
    refine AW.mask [true, true, false, true, true, true, true, true, true] ?_
    exact H_1
  · skip
    have H_2 := H.2 q
    refine AW.aload_n (pc := 10) dX0_preempted_10 rfl ?_
    refine AW.getr (k := 1) (pc := 11) dX0_preempted_11 ac_0 sh_69 rfl (by decide) fl_0_15 ?_
    refine AW.iload_n (pc := 14) dX0_preempted_14 rfl ?_
    refine AW.aload_n (pc := 15) dX0_preempted_15 rfl ?_
    refine AW.getr (k := 4) (pc := 16) dX0_preempted_16 ac_5 sh_3 rfl (by decide) fl_0_34 ?_
    refine AW.iload_n (pc := 19) dX0_preempted_19 rfl ?_
    refine AW.iald (pc := 20) dX0_preempted_20 sh_6 (H_2.1) (v := (h 6 l3)) rfl ?_
    refine AW.iload_n (pc := 21) dX0_preempted_21 rfl ?_
    have K_3 : AW mX0_preempted 1 35 [some (aR 69), some (aR 3), some (aI l2), some (aI l3), none, none, none, none, none] [aI (if (h 6 l3) = l2 then (h 7 l3) else (0 : Int)), aI l3, aR 71] h Q := by
      have H_4 := H_2.2
      refine AW.iast (pc := 35) dX0_preempted_35 sh_71 (H_2.1) ?_
      refine AW.iinc (pc := 36) dX0_preempted_36 rfl (by decide) rfl (H_4.1) ?_
      refine AW.goto (tgt := 2) (pc := 39) dX0_preempted_39 rfl ?_
      exact H_4.2
    refine AW.icmp_ne (tgt := 34) (pc := 22) dX0_preempted_22 rfl (fun q => ?_) (fun q => ?_)
    · skip
      rw [if_neg q] at K_3
      refine AW.iconst (pc := 34) dX0_preempted_34 ⟨by decide, by decide⟩ ?_
      exact K_3
    · have q := Decidable.not_not.mp q
      rw [if_pos q] at K_3
      refine AW.aload_n (pc := 25) dX0_preempted_25 rfl ?_
      refine AW.getr (k := 5) (pc := 26) dX0_preempted_26 ac_5 sh_3 rfl (by decide) fl_0_56 ?_
      refine AW.iload_n (pc := 29) dX0_preempted_29 rfl ?_
      refine AW.iald (pc := 30) dX0_preempted_30 sh_7 (H_2.1) (v := (h 7 l3)) rfl ?_
      refine AW.goto (tgt := 35) (pc := 31) dX0_preempted_31 rfl ?_
      exact K_3
set_option maxRecDepth 100000 in
set_option maxHeartbeats 4000000 in
theorem s_X0_preempted_50  {l3 l4 l5 : Int} {h : aH} {Q : aQ} (H : ((48 < l5 → Q l4 h) ∧ (¬ (48 < l5) → aRun mX0_workedOn 0 [aR 69, aR 3, aI l3] h (fun r1 h2 => aRun mX0_nextHead 0 [aR 69, aR 3, aI l3] h2 (fun r3 h4 => ((r1 = (-1) → ((r3 = (-1) → Q l4 h4) ∧ (¬ (r3 = (-1)) → inR (l5 + 1) ∧ AW mX0_preempted 1 50 [some (aR 69), some (aR 3), none, some (aI r3), some (aI l4), some (aI (l5 + 1)), none, none, none] [] h4 Q))) ∧ (¬ (r1 = (-1)) → (((r3 = (-1) → (0 ≤ r1 ∧ r1 < 24)) ∧ (¬ (r3 = (-1)) → ((0 ≤ r1 ∧ r1 < 24) ∧ inR (r3 - l3)))) ∧ (0 ≤ r1 ∧ r1 < 24) ∧ inR ((h4 71 r1) - (if r3 = (-1) then (h4 71 r1) else (min (h4 71 r1) (r3 - l3)))) ∧ inR (l3 + (if r3 = (-1) then (h4 71 r1) else (min (h4 71 r1) (r3 - l3)))) ∧ ((((h4 71 r1) - (if r3 = (-1) then (h4 71 r1) else (min (h4 71 r1) (r3 - l3)))) = 0 → inR ((l3 + (if r3 = (-1) then (h4 71 r1) else (min (h4 71 r1) (r3 - l3)))) + (h4 9 r1))) ∧ inR (l5 + 1) ∧ AW mX0_preempted 1 50 [some (aR 69), some (aR 3), none, some (aI (l3 + (if r3 = (-1) then (h4 71 r1) else (min (h4 71 r1) (r3 - l3))))), some (aI (if ((h4 71 r1) - (if r3 = (-1) then (h4 71 r1) else (min (h4 71 r1) (r3 - l3)))) = 0 then (max l4 ((l3 + (if r3 = (-1) then (h4 71 r1) else (min (h4 71 r1) (r3 - l3)))) + (h4 9 r1))) else l4)), some (aI (l5 + 1)), none, none, none] [] (a_up h4 71 r1 ((h4 71 r1) - (if r3 = (-1) then (h4 71 r1) else (min (h4 71 r1) (r3 - l3))))) Q))))))))) : AW mX0_preempted 1 50 [some (aR 69), some (aR 3), none, some (aI l3), some (aI l4), some (aI l5), none, none, none] [] h Q := by
  refine AW.iload (pc := 50) dX0_preempted_50 rfl ?_
  refine AW.bipush (pc := 52) dX0_preempted_52 rfl ⟨by decide, by decide⟩ ?_
  refine AW.icmp_gt (tgt := 183) (pc := 54) dX0_preempted_54 rfl (fun q => ?_) (fun q => ?_)
  · skip
    have H_1 := H.1 q
    refine AW.iload (pc := 183) dX0_preempted_183 rfl ?_
    refine AW.iret (pc := 185) dX0_preempted_185 rfl ?_
    exact H_1
  · skip
    have H_2 := H.2 q
    refine AW.aload_n (pc := 57) dX0_preempted_57 rfl ?_
    refine AW.aload_n (pc := 58) dX0_preempted_58 rfl ?_
    refine AW.iload_n (pc := 59) dX0_preempted_59 rfl ?_
    refine AW.callVi (M' := mX0_workedOn) (F' := 0) (as := [aR 3, aI l3]) (pc := 60) dX0_preempted_60 (by decide) kX0_workedOn ml_0_62 ob_69 rfl npX0_workedOn (Nat.le_of_ble_eq_true rfl) (aRun.mono (fun r1 h2 H_3 => ?_) H_2)
    refine AW.istore (pc := 63) dX0_preempted_63 (by decide) rfl ?_
    refine AW.aload_n (pc := 65) dX0_preempted_65 rfl ?_
    refine AW.aload_n (pc := 66) dX0_preempted_66 rfl ?_
    refine AW.iload_n (pc := 67) dX0_preempted_67 rfl ?_
    refine AW.callVi (M' := mX0_nextHead) (F' := 0) (as := [aR 3, aI l3]) (pc := 68) dX0_preempted_68 (by decide) kX0_nextHead ml_0_65 ob_69 rfl npX0_nextHead (Nat.le_of_ble_eq_true rfl) (aRun.mono (fun r3 h4 H_4 => ?_) H_3)
    refine AW.istore (pc := 71) dX0_preempted_71 (by decide) rfl ?_
    refine AW.iload (pc := 73) dX0_preempted_73 rfl ?_
    refine AW.iconst (pc := 75) dX0_preempted_75 ⟨by decide, by decide⟩ ?_
    refine AW.icmp_eq (tgt := 162) (pc := 76) dX0_preempted_76 rfl (fun q => ?_) (fun q => ?_)
    · skip
      have H_5 := H_4.1 q
      refine AW.iload (pc := 162) dX0_preempted_162 rfl ?_
      refine AW.iconst (pc := 164) dX0_preempted_164 ⟨by decide, by decide⟩ ?_
      refine AW.icmp_eq (tgt := 174) (pc := 165) dX0_preempted_165 rfl (fun q => ?_) (fun q => ?_)
      · skip
        have H_6 := H_5.1 q
        refine AW.iload (pc := 174) dX0_preempted_174 rfl ?_
        refine AW.iret (pc := 176) dX0_preempted_176 rfl ?_
        exact H_6
      · skip
        have H_7 := H_5.2 q
        refine AW.iload (pc := 168) dX0_preempted_168 rfl ?_
        refine AW.istore_n (pc := 170) dX0_preempted_170 (by decide) rfl ?_
        refine AW.goto (tgt := 177) (pc := 171) dX0_preempted_171 rfl ?_
        refine AW.iinc (pc := 177) dX0_preempted_177 rfl (by decide) rfl (H_7.1) ?_
        refine AW.goto (tgt := 50) (pc := 180) dX0_preempted_180 rfl ?_
        refine AW.mask [true, true, true, true, true, true, false, false, true] ?_
        exact H_7.2
    · skip
      have H_8 := H_4.2 q
      refine AW.iload (pc := 79) dX0_preempted_79 rfl ?_
      refine AW.iconst (pc := 81) dX0_preempted_81 ⟨by decide, by decide⟩ ?_
      have K_9 : AW mX0_preempted 1 109 [some (aR 69), some (aR 3), none, some (aI l3), some (aI l4), some (aI l5), some (aI r1), some (aI r3), none] [aI (if r3 = (-1) then (h4 71 r1) else (min (h4 71 r1) (r3 - l3)))] h4 Q := by
        have H_10 := H_8.2
        refine AW.istore (pc := 109) dX0_preempted_109 (by decide) rfl ?_
        refine AW.aload_n (pc := 111) dX0_preempted_111 rfl ?_
        refine AW.getr (k := 1) (pc := 112) dX0_preempted_112 ac_0 sh_69 rfl (by decide) fl_0_15 ?_
        refine AW.iload (pc := 115) dX0_preempted_115 rfl ?_
        refine AW.dup2 (pc := 117) dX0_preempted_117 rfl rfl ?_
        refine AW.iald (pc := 118) dX0_preempted_118 sh_71 (H_10.1) (v := (h4 71 r1)) rfl ?_
        refine AW.iload (pc := 119) dX0_preempted_119 rfl ?_
        refine AW.isub (pc := 121) dX0_preempted_121 (H_10.2.1) ?_
        refine AW.iast (pc := 122) dX0_preempted_122 sh_71 (H_10.1) ?_
        refine AW.iload_n (pc := 123) dX0_preempted_123 rfl ?_
        refine AW.iload (pc := 124) dX0_preempted_124 rfl ?_
        refine AW.iadd (pc := 126) dX0_preempted_126 (H_10.2.2.1) ?_
        refine AW.istore_n (pc := 127) dX0_preempted_127 (by decide) rfl ?_
        refine AW.aload_n (pc := 128) dX0_preempted_128 rfl ?_
        refine AW.getr (k := 1) (pc := 129) dX0_preempted_129 ac_0 sh_69 rfl (by decide) fl_0_15 ?_
        refine AW.iload (pc := 132) dX0_preempted_132 rfl ?_
        refine AW.iald (pc := 134) dX0_preempted_134 sh_71 (H_10.1) (v := ((h4 71 r1) - (if r3 = (-1) then (h4 71 r1) else (min (h4 71 r1) (r3 - l3))))) (by rw [a_up_eq]) ?_
        have K_12 : AW mX0_preempted 1 157 [some (aR 69), some (aR 3), none, some (aI (l3 + (if r3 = (-1) then (h4 71 r1) else (min (h4 71 r1) (r3 - l3))))), some (aI l4), some (aI l5), some (aI r1), some (aI r3), some (aI (if r3 = (-1) then (h4 71 r1) else (min (h4 71 r1) (r3 - l3))))] [aI (if ((h4 71 r1) - (if r3 = (-1) then (h4 71 r1) else (min (h4 71 r1) (r3 - l3)))) = 0 then (max l4 ((l3 + (if r3 = (-1) then (h4 71 r1) else (min (h4 71 r1) (r3 - l3)))) + (h4 9 r1))) else l4)] (a_up h4 71 r1 ((h4 71 r1) - (if r3 = (-1) then (h4 71 r1) else (min (h4 71 r1) (r3 - l3))))) Q := by
          have H_13 := H_10.2.2.2.2
          refine AW.istore (pc := 157) dX0_preempted_157 (by decide) rfl ?_
          refine AW.goto (tgt := 177) (pc := 159) dX0_preempted_159 rfl ?_
          refine AW.iinc (pc := 177) dX0_preempted_177 rfl (by decide) rfl (H_13.1) ?_
          refine AW.goto (tgt := 50) (pc := 180) dX0_preempted_180 rfl ?_
          refine AW.mask [true, true, true, true, true, true, false, false, false] ?_
          exact H_13.2
        have H_14 := H_10.2.2.2.1
        refine AW.if_ne (tgt := 155) (pc := 135) dX0_preempted_135 rfl (fun q => ?_) (fun q => ?_)
        · skip
          rw [if_neg q] at K_12
          refine AW.iload (pc := 155) dX0_preempted_155 rfl ?_
          exact K_12
        · have q := Decidable.not_not.mp q
          have H_16 := H_14 q
          rw [if_pos q] at K_12
          refine AW.iload (pc := 138) dX0_preempted_138 rfl ?_
          refine AW.iload_n (pc := 140) dX0_preempted_140 rfl ?_
          refine AW.aload_n (pc := 141) dX0_preempted_141 rfl ?_
          refine AW.getr (k := 7) (pc := 142) dX0_preempted_142 ac_5 sh_3 rfl (by decide) fl_0_59 ?_
          refine AW.iload (pc := 145) dX0_preempted_145 rfl ?_
          refine AW.iald (pc := 147) dX0_preempted_147 sh_9 (H_10.1) (v := (h4 9 r1)) (by rw [a_up_ne (by decide)]) ?_
          refine AW.iadd (pc := 148) dX0_preempted_148 H_16 ?_
          refine AW.mmax (pc := 149) dX0_preempted_149 (by decide) ml_0_53 (Nat.le_of_ble_eq_true rfl) ?_
          refine AW.goto (tgt := 157) (pc := 152) dX0_preempted_152 rfl ?_
          exact K_12
      have H_11 := H_8.1
      refine AW.icmp_ne (tgt := 95) (pc := 82) dX0_preempted_82 rfl (fun q => ?_) (fun q => ?_)
      · skip
        have H_17 := H_11.2 q
        rw [if_neg q] at K_9
        refine AW.aload_n (pc := 95) dX0_preempted_95 rfl ?_
        refine AW.getr (k := 1) (pc := 96) dX0_preempted_96 ac_0 sh_69 rfl (by decide) fl_0_15 ?_
        refine AW.iload (pc := 99) dX0_preempted_99 rfl ?_
        refine AW.iald (pc := 101) dX0_preempted_101 sh_71 (H_17.1) (v := (h4 71 r1)) rfl ?_
        refine AW.iload (pc := 102) dX0_preempted_102 rfl ?_
        refine AW.iload_n (pc := 104) dX0_preempted_104 rfl ?_
        refine AW.isub (pc := 105) dX0_preempted_105 (H_17.2) ?_
        refine AW.mmin (pc := 106) dX0_preempted_106 (by decide) ml_0_44 (Nat.le_of_ble_eq_true rfl) ?_
        exact K_9
      · have q := Decidable.not_not.mp q
        have H_18 := H_11.1 q
        rw [if_pos q] at K_9
        refine AW.aload_n (pc := 85) dX0_preempted_85 rfl ?_
        refine AW.getr (k := 1) (pc := 86) dX0_preempted_86 ac_0 sh_69 rfl (by decide) fl_0_15 ?_
        refine AW.iload (pc := 89) dX0_preempted_89 rfl ?_
        refine AW.iald (pc := 91) dX0_preempted_91 sh_71 H_18 (v := (h4 71 r1)) rfl ?_
        refine AW.goto (tgt := 109) (pc := 92) dX0_preempted_92 rfl ?_
        exact K_9
