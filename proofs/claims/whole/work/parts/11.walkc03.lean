set_option maxRecDepth 100000 in
set_option maxHeartbeats 4000000 in
theorem e_X5_add {a1 a2 a3 a4 : Int} {h : aH} {Q : aQ} (H : (((h 11 1) < 24 → (0 ≤ (h 11 1) ∧ (h 11 1) < 24) ∧ inR ((h 11 1) + 1) ∧ inR (a1 + 1) ∧ Q 0 (a_up (a_up (a_up (a_up (a_up (a_up h 12 (h 11 1) a1) 13 (h 11 1) a2) 14 (h 11 1) a3) 15 (h 11 1) a4) 11 1 ((h 11 1) + 1)) 11 0 (a1 + 1))) ∧ (¬ ((h 11 1) < 24) → Q 0 h))) : aRun mX5_add 0 [aR 11, aI a1, aI a2, aI a3, aI a4] h Q := by
  refine aRun.of pn_5 rfl (Nat.le_of_ble_eq_true rfl) ?_
  show AW mX5_add 0 0 [some (aR 11), some (aI a1), some (aI a2), some (aI a3), some (aI a4)] [] h Q
  refine AW.aload_n (pc := 0) dX5_add_0 rfl ?_
  refine AW.geti' (k := 1) (j := 1) (pc := 1) dX5_add_1 ac_5 sh_11 rfl (by decide) fl_5_15 rfl (v := (h 11 1)) rfl ?_
  refine AW.bipush (pc := 4) dX5_add_4 rfl ⟨by decide, by decide⟩ ?_
  refine AW.icmp_lt (tgt := 10) (pc := 6) dX5_add_6 rfl (fun q => ?_) (fun q => ?_)
  · skip
    have H_1 := H.1 q
    refine AW.aload_n (pc := 10) dX5_add_10 rfl ?_
    refine AW.getr (k := 2) (pc := 11) dX5_add_11 ac_5 sh_11 rfl (by decide) fl_5_18 ?_
    refine AW.aload_n (pc := 14) dX5_add_14 rfl ?_
    refine AW.geti' (k := 1) (j := 1) (pc := 15) dX5_add_15 ac_5 sh_11 rfl (by decide) fl_5_15 rfl (v := (h 11 1)) rfl ?_
    refine AW.iload_n (pc := 18) dX5_add_18 rfl ?_
    refine AW.iast (pc := 19) dX5_add_19 sh_12 (H_1.1) ?_
    refine AW.aload_n (pc := 20) dX5_add_20 rfl ?_
    refine AW.getr (k := 3) (pc := 21) dX5_add_21 ac_5 sh_11 rfl (by decide) fl_5_22 ?_
    refine AW.aload_n (pc := 24) dX5_add_24 rfl ?_
    refine AW.geti' (k := 1) (j := 1) (pc := 25) dX5_add_25 ac_5 sh_11 rfl (by decide) fl_5_15 rfl (v := (h 11 1)) (by rw [a_up_ne (by decide)]) ?_
    refine AW.iload_n (pc := 28) dX5_add_28 rfl ?_
    refine AW.iast (pc := 29) dX5_add_29 sh_13 (H_1.1) ?_
    refine AW.aload_n (pc := 30) dX5_add_30 rfl ?_
    refine AW.getr (k := 4) (pc := 31) dX5_add_31 ac_5 sh_11 rfl (by decide) fl_5_25 ?_
    refine AW.aload_n (pc := 34) dX5_add_34 rfl ?_
    refine AW.geti' (k := 1) (j := 1) (pc := 35) dX5_add_35 ac_5 sh_11 rfl (by decide) fl_5_15 rfl (v := (h 11 1)) (by rw [a_up_ne (by decide), a_up_ne (by decide)]) ?_
    refine AW.iload_n (pc := 38) dX5_add_38 rfl ?_
    refine AW.iast (pc := 39) dX5_add_39 sh_14 (H_1.1) ?_
    refine AW.aload_n (pc := 40) dX5_add_40 rfl ?_
    refine AW.getr (k := 5) (pc := 41) dX5_add_41 ac_5 sh_11 rfl (by decide) fl_5_28 ?_
    refine AW.aload_n (pc := 44) dX5_add_44 rfl ?_
    refine AW.geti' (k := 1) (j := 1) (pc := 45) dX5_add_45 ac_5 sh_11 rfl (by decide) fl_5_15 rfl (v := (h 11 1)) (by rw [a_up_ne (by decide), a_up_ne (by decide), a_up_ne (by decide)]) ?_
    refine AW.iload (pc := 48) dX5_add_48 rfl ?_
    refine AW.iast (pc := 50) dX5_add_50 sh_15 (H_1.1) ?_
    refine AW.aload_n (pc := 51) dX5_add_51 rfl ?_
    refine AW.dup (pc := 52) dX5_add_52 rfl ?_
    refine AW.geti' (k := 1) (j := 1) (pc := 53) dX5_add_53 ac_5 sh_11 rfl (by decide) fl_5_15 rfl (v := (h 11 1)) (by rw [a_up_ne (by decide), a_up_ne (by decide), a_up_ne (by decide), a_up_ne (by decide)]) ?_
    refine AW.iconst (pc := 56) dX5_add_56 ⟨by decide, by decide⟩ ?_
    refine AW.iadd (pc := 57) dX5_add_57 (H_1.2.1) ?_
    refine AW.puti' (k := 1) (j := 1) (pc := 58) dX5_add_58 ac_5 sh_11 rfl (by decide) fl_5_15 rfl rfl (tyX5_ok 1 (by decide)) (Or.inl rfl) ?_
    refine AW.aload_n (pc := 61) dX5_add_61 rfl ?_
    refine AW.iload_n (pc := 62) dX5_add_62 rfl ?_
    refine AW.iconst (pc := 63) dX5_add_63 ⟨by decide, by decide⟩ ?_
    refine AW.iadd (pc := 64) dX5_add_64 (H_1.2.2.1) ?_
    refine AW.puti' (k := 0) (j := 0) (pc := 65) dX5_add_65 ac_5 sh_11 rfl (by decide) fl_5_9 rfl rfl (tyX5_ok 0 (by decide)) (Or.inl rfl) ?_
    refine AW.vret (pc := 68) dX5_add_68 rfl ?_
    exact H_1.2.2.2
  · skip
    have H_2 := H.2 q
    refine AW.vret (pc := 9) dX5_add_9 rfl ?_
    exact H_2
set_option maxRecDepth 100000 in
set_option maxHeartbeats 4000000 in
theorem p_X5_clear  {h : aH} {Q : aQ} (k : Q 0 (a_up (a_up h 11 0 0) 11 1 0)) : aRun mX5_clear 0 [aR 11] h Q := by
  refine aRun.of pn_5 rfl (Nat.le_of_ble_eq_true rfl) ?_
  show AW mX5_clear 0 0 [some (aR 11)] [] h Q
  refine AW.aload_n (pc := 0) dX5_clear_0 rfl ?_
  refine AW.iconst (pc := 1) dX5_clear_1 ⟨by decide, by decide⟩ ?_
  refine AW.puti' (k := 0) (j := 0) (pc := 2) dX5_clear_2 ac_5 sh_11 rfl (by decide) fl_5_9 rfl rfl (tyX5_ok 0 (by decide)) (Or.inl rfl) ?_
  refine AW.aload_n (pc := 5) dX5_clear_5 rfl ?_
  refine AW.iconst (pc := 6) dX5_clear_6 ⟨by decide, by decide⟩ ?_
  refine AW.puti' (k := 1) (j := 1) (pc := 7) dX5_clear_7 ac_5 sh_11 rfl (by decide) fl_5_15 rfl rfl (tyX5_ok 1 (by decide)) (Or.inl rfl) ?_
  refine AW.vret (pc := 10) dX5_clear_10 rfl ?_
  exact k
set_option maxRecDepth 100000 in
set_option maxHeartbeats 4000000 in
theorem p_X5_copyOf {x : Nat} (hx : isJ x) {y : Nat} (hy : isJ y) {h : aH} {Q : aQ} (k : Q 0 (a_cp (a_cp (a_cp (a_cp (a_cp (a_cp (a_cp (a_up (a_up h x 0 (h y 0)) x 1 ((a_up h x 0 (h y 0)) y 1)) (y + 1) 0 (x + 1) 0 24) (y + 2) 0 (x + 2) 0 24) (y + 3) 0 (x + 3) 0 24) (y + 4) 0 (x + 4) 0 24) (y + 5) 0 (x + 5) 0 24) (y + 6) 0 (x + 6) 0 24) (y + 7) 0 (x + 7) 0 6)) : aRun mX5_copyOf 2 [aR x, aR y] h Q := by
  refine aRun.of pn_5 rfl (Nat.le_of_ble_eq_true rfl) ?_
  show AW mX5_copyOf 2 0 [some (aR x), some (aR y)] [] h Q
  refine AW.aload_n (pc := 0) dX5_copyOf_0 rfl ?_
  refine AW.aload_n (pc := 1) dX5_copyOf_1 rfl ?_
  refine AW.geti' (k := 0) (j := 0) (pc := 2) dX5_copyOf_2 ac_5 (sh_isJ hy) rfl (by decide) fl_5_9 rfl (v := (h y 0)) rfl ?_
  refine AW.puti' (k := 0) (j := 0) (pc := 5) dX5_copyOf_5 ac_5 (sh_isJ hx) rfl (by decide) fl_5_9 rfl rfl (tyX5_ok 0 (by decide)) (Or.inl rfl) ?_
  refine AW.aload_n (pc := 8) dX5_copyOf_8 rfl ?_
  refine AW.aload_n (pc := 9) dX5_copyOf_9 rfl ?_
  refine AW.geti' (k := 1) (j := 1) (pc := 10) dX5_copyOf_10 ac_5 (sh_isJ hy) rfl (by decide) fl_5_15 rfl (v := ((a_up h x 0 (h y 0)) y 1)) rfl ?_
  refine AW.puti' (k := 1) (j := 1) (pc := 13) dX5_copyOf_13 ac_5 (sh_isJ hx) rfl (by decide) fl_5_15 rfl rfl (tyX5_ok 1 (by decide)) (Or.inl rfl) ?_
  refine AW.aload_n (pc := 16) dX5_copyOf_16 rfl ?_
  refine AW.getr (k := 2) (pc := 17) dX5_copyOf_17 ac_5 (sh_isJ hy) rfl (by decide) fl_5_18 ?_
  refine AW.aload_n (pc := 20) dX5_copyOf_20 rfl ?_
  refine AW.getr (k := 2) (pc := 21) dX5_copyOf_21 ac_5 (sh_isJ hx) rfl (by decide) fl_5_18 ?_
  refine AW.callNv (M' := mX9_copyRow) (F' := 1) (as := [aR (y + 1), aR (x + 1)]) (pc := 24) dX5_copyOf_24 (by decide) kX9_copyRow nl_5_47 rfl npX9_copyRow (Nat.le_of_ble_eq_true rfl) (p_X9_copyRow (sh_isJ_1 hy) (sh_isJ_1 hx)  ?_)
  refine AW.aload_n (pc := 27) dX5_copyOf_27 rfl ?_
  refine AW.getr (k := 3) (pc := 28) dX5_copyOf_28 ac_5 (sh_isJ hy) rfl (by decide) fl_5_22 ?_
  refine AW.aload_n (pc := 31) dX5_copyOf_31 rfl ?_
  refine AW.getr (k := 3) (pc := 32) dX5_copyOf_32 ac_5 (sh_isJ hx) rfl (by decide) fl_5_22 ?_
  refine AW.callNv (M' := mX9_copyRow) (F' := 1) (as := [aR (y + 2), aR (x + 2)]) (pc := 35) dX5_copyOf_35 (by decide) kX9_copyRow nl_5_47 rfl npX9_copyRow (Nat.le_of_ble_eq_true rfl) (p_X9_copyRow (sh_isJ_2 hy) (sh_isJ_2 hx)  ?_)
  refine AW.aload_n (pc := 38) dX5_copyOf_38 rfl ?_
  refine AW.getr (k := 4) (pc := 39) dX5_copyOf_39 ac_5 (sh_isJ hy) rfl (by decide) fl_5_25 ?_
  refine AW.aload_n (pc := 42) dX5_copyOf_42 rfl ?_
  refine AW.getr (k := 4) (pc := 43) dX5_copyOf_43 ac_5 (sh_isJ hx) rfl (by decide) fl_5_25 ?_
  refine AW.callNv (M' := mX9_copyRow) (F' := 1) (as := [aR (y + 3), aR (x + 3)]) (pc := 46) dX5_copyOf_46 (by decide) kX9_copyRow nl_5_47 rfl npX9_copyRow (Nat.le_of_ble_eq_true rfl) (p_X9_copyRow (sh_isJ_3 hy) (sh_isJ_3 hx)  ?_)
  refine AW.aload_n (pc := 49) dX5_copyOf_49 rfl ?_
  refine AW.getr (k := 5) (pc := 50) dX5_copyOf_50 ac_5 (sh_isJ hy) rfl (by decide) fl_5_28 ?_
  refine AW.aload_n (pc := 53) dX5_copyOf_53 rfl ?_
  refine AW.getr (k := 5) (pc := 54) dX5_copyOf_54 ac_5 (sh_isJ hx) rfl (by decide) fl_5_28 ?_
  refine AW.callNv (M' := mX9_copyRow) (F' := 1) (as := [aR (y + 4), aR (x + 4)]) (pc := 57) dX5_copyOf_57 (by decide) kX9_copyRow nl_5_47 rfl npX9_copyRow (Nat.le_of_ble_eq_true rfl) (p_X9_copyRow (sh_isJ_4 hy) (sh_isJ_4 hx)  ?_)
  refine AW.aload_n (pc := 60) dX5_copyOf_60 rfl ?_
  refine AW.getr (k := 6) (pc := 61) dX5_copyOf_61 ac_5 (sh_isJ hy) rfl (by decide) fl_5_31 ?_
  refine AW.aload_n (pc := 64) dX5_copyOf_64 rfl ?_
  refine AW.getr (k := 6) (pc := 65) dX5_copyOf_65 ac_5 (sh_isJ hx) rfl (by decide) fl_5_31 ?_
  refine AW.callNv (M' := mX9_copyRow) (F' := 1) (as := [aR (y + 5), aR (x + 5)]) (pc := 68) dX5_copyOf_68 (by decide) kX9_copyRow nl_5_47 rfl npX9_copyRow (Nat.le_of_ble_eq_true rfl) (p_X9_copyRow (sh_isJ_5 hy) (sh_isJ_5 hx)  ?_)
  refine AW.aload_n (pc := 71) dX5_copyOf_71 rfl ?_
  refine AW.getr (k := 7) (pc := 72) dX5_copyOf_72 ac_5 (sh_isJ hy) rfl (by decide) fl_5_34 ?_
  refine AW.aload_n (pc := 75) dX5_copyOf_75 rfl ?_
  refine AW.getr (k := 7) (pc := 76) dX5_copyOf_76 ac_5 (sh_isJ hx) rfl (by decide) fl_5_34 ?_
  refine AW.callNv (M' := mX9_copyRow) (F' := 1) (as := [aR (y + 6), aR (x + 6)]) (pc := 79) dX5_copyOf_79 (by decide) kX9_copyRow nl_5_47 rfl npX9_copyRow (Nat.le_of_ble_eq_true rfl) (p_X9_copyRow (sh_isJ_6 hy) (sh_isJ_6 hx)  ?_)
  refine AW.aload_n (pc := 82) dX5_copyOf_82 rfl ?_
  refine AW.getr (k := 8) (pc := 83) dX5_copyOf_83 ac_5 (sh_isJ hy) rfl (by decide) fl_5_37 ?_
  refine AW.iconst (pc := 86) dX5_copyOf_86 ⟨by decide, by decide⟩ ?_
  refine AW.aload_n (pc := 87) dX5_copyOf_87 rfl ?_
  refine AW.getr (k := 8) (pc := 88) dX5_copyOf_88 ac_5 (sh_isJ hx) rfl (by decide) fl_5_37 ?_
  refine AW.iconst (pc := 91) dX5_copyOf_91 ⟨by decide, by decide⟩ ?_
  refine AW.bipush (pc := 92) dX5_copyOf_92 rfl ⟨by decide, by decide⟩ ?_
  refine AW.copy (pc := 94) dX5_copyOf_94 (by decide) ml_5_51 (Nat.le_of_ble_eq_true rfl) (sh_isJ_7 hy) (sh_isJ_7 hx) (by decide) ?_
  refine AW.vret (pc := 97) dX5_copyOf_97 rfl ?_
  exact k
set_option maxRecDepth 100000 in
set_option maxHeartbeats 4000000 in
theorem e_X5_finish  {h : aH} {Q : aQ} (H : AW mX5_finish 1 2 [some (aR 11), some (aI 0), none, none] [] h Q) : aRun mX5_finish 1 [aR 11] h Q := by
  refine aRun.of pn_5 rfl (Nat.le_of_ble_eq_true rfl) ?_
  show AW mX5_finish 1 0 [some (aR 11), none, none, none] [] h Q
  refine AW.iconst (pc := 0) dX5_finish_0 ⟨by decide, by decide⟩ ?_
  refine AW.istore_n (pc := 1) dX5_finish_1 (by decide) rfl ?_
  exact H
set_option maxRecDepth 100000 in
set_option maxHeartbeats 4000000 in
theorem s_X5_finish_2  {l1 : Int} {h : aH} {Q : aQ} (H : (((h 11 1) ≤ l1 → inR ((h 11 1) - 1) ∧ AW mX5_finish 1 57 [some (aR 11), some (aI ((h 11 1) - 1)), none, none] [] h Q) ∧ (¬ ((h 11 1) ≤ l1) → o_X5_jobAhead h 11 l1 ∧ ((¬ ((f_X5_jobAhead h 11 l1) = (-1)) → ((0 ≤ (f_X5_jobAhead h 11 l1) ∧ (f_X5_jobAhead h 11 l1) < 24) ∧ inR ((h 16 (f_X5_jobAhead h 11 l1)) + (h 15 (f_X5_jobAhead h 11 l1))))) ∧ (0 ≤ l1 ∧ l1 < 24) ∧ inR (l1 + 1) ∧ AW mX5_finish 1 2 [some (aR 11), some (aI (l1 + 1)), none, none] [] (a_up h 16 l1 (if (f_X5_jobAhead h 11 l1) = (-1) then (0 : Int) else ((h 16 (f_X5_jobAhead h 11 l1)) + (h 15 (f_X5_jobAhead h 11 l1))))) Q)))) : AW mX5_finish 1 2 [some (aR 11), some (aI l1), none, none] [] h Q := by
  refine AW.iload_n (pc := 2) dX5_finish_2 rfl ?_
  refine AW.aload_n (pc := 3) dX5_finish_3 rfl ?_
  refine AW.geti' (k := 1) (j := 1) (pc := 4) dX5_finish_4 ac_5 sh_11 rfl (by decide) fl_5_15 rfl (v := (h 11 1)) rfl ?_
  refine AW.icmp_ge (tgt := 50) (pc := 7) dX5_finish_7 rfl (fun q => ?_) (fun q => ?_)
  · skip
    have H_1 := H.1 q
    refine AW.aload_n (pc := 50) dX5_finish_50 rfl ?_
    refine AW.geti' (k := 1) (j := 1) (pc := 51) dX5_finish_51 ac_5 sh_11 rfl (by decide) fl_5_15 rfl (v := (h 11 1)) rfl ?_
    refine AW.iconst (pc := 54) dX5_finish_54 ⟨by decide, by decide⟩ ?_
    refine AW.isub (pc := 55) dX5_finish_55 (H_1.1) ?_
    refine AW.istore_n (pc := 56) dX5_finish_56 (by decide) rfl ?_
    exact H_1.2
  · skip
    have H_2 := H.2 q
    refine AW.aload_n (pc := 10) dX5_finish_10 rfl ?_
    refine AW.iload_n (pc := 11) dX5_finish_11 rfl ?_
    refine AW.callVi (M' := mX5_jobAhead) (F' := 0) (as := [aI l1]) (pc := 12) dX5_finish_12 (by decide) kX5_jobAhead ml_5_40 ob_11 rfl npX5_jobAhead (Nat.le_of_ble_eq_true rfl) (p_X5_jobAhead (Or.inr (Or.inl rfl)) (H_2.1) ?_)
    refine AW.istore_n (pc := 15) dX5_finish_15 (by decide) rfl ?_
    refine AW.aload_n (pc := 16) dX5_finish_16 rfl ?_
    refine AW.getr (k := 6) (pc := 17) dX5_finish_17 ac_5 sh_11 rfl (by decide) fl_5_31 ?_
    refine AW.iload_n (pc := 20) dX5_finish_20 rfl ?_
    refine AW.iload_n (pc := 21) dX5_finish_21 rfl ?_
    refine AW.iconst (pc := 22) dX5_finish_22 ⟨by decide, by decide⟩ ?_
    have K_3 : AW mX5_finish 1 43 [some (aR 11), some (aI l1), some (aI (f_X5_jobAhead h 11 l1)), none] [aI (if (f_X5_jobAhead h 11 l1) = (-1) then (0 : Int) else ((h 16 (f_X5_jobAhead h 11 l1)) + (h 15 (f_X5_jobAhead h 11 l1)))), aI l1, aR 16] h Q := by
      have H_4 := H_2.2.2
      refine AW.iast (pc := 43) dX5_finish_43 sh_16 (H_4.1) ?_
      refine AW.iinc (pc := 44) dX5_finish_44 rfl (by decide) rfl (H_4.2.1) ?_
      refine AW.goto (tgt := 2) (pc := 47) dX5_finish_47 rfl ?_
      refine AW.mask [true, true, false, true] ?_
      exact H_4.2.2
    have H_5 := H_2.2.1
    refine AW.icmp_ne (tgt := 30) (pc := 23) dX5_finish_23 rfl (fun q => ?_) (fun q => ?_)
    · skip
      have H_6 := H_5 q
      rw [if_neg q] at K_3
      refine AW.aload_n (pc := 30) dX5_finish_30 rfl ?_
      refine AW.getr (k := 6) (pc := 31) dX5_finish_31 ac_5 sh_11 rfl (by decide) fl_5_31 ?_
      refine AW.iload_n (pc := 34) dX5_finish_34 rfl ?_
      refine AW.iald (pc := 35) dX5_finish_35 sh_16 (H_6.1) (v := (h 16 (f_X5_jobAhead h 11 l1))) rfl ?_
      refine AW.aload_n (pc := 36) dX5_finish_36 rfl ?_
      refine AW.getr (k := 5) (pc := 37) dX5_finish_37 ac_5 sh_11 rfl (by decide) fl_5_28 ?_
      refine AW.iload_n (pc := 40) dX5_finish_40 rfl ?_
      refine AW.iald (pc := 41) dX5_finish_41 sh_15 (H_6.1) (v := (h 15 (f_X5_jobAhead h 11 l1))) rfl ?_
      refine AW.iadd (pc := 42) dX5_finish_42 (H_6.2) ?_
      exact K_3
    · have q := Decidable.not_not.mp q
      rw [if_pos q] at K_3
      refine AW.iconst (pc := 26) dX5_finish_26 ⟨by decide, by decide⟩ ?_
      refine AW.goto (tgt := 43) (pc := 27) dX5_finish_27 rfl ?_
      exact K_3
set_option maxRecDepth 100000 in
set_option maxHeartbeats 4000000 in
theorem s_X5_finish_57  {l1 : Int} {h : aH} {Q : aQ} (H : ((l1 < 0 → AW mX5_finish 1 110 [some (aR 11), some (aI 0), none, none] [] (a_up h 18 0 0) Q) ∧ (¬ (l1 < 0) → o_X5_jobNext h 11 l1 ∧ ((¬ ((f_X5_jobNext h 11 l1) = (-1)) → ((0 ≤ (f_X5_jobNext h 11 l1) ∧ (f_X5_jobNext h 11 l1) < 24) ∧ inR ((h 17 (f_X5_jobNext h 11 l1)) + (h 15 (f_X5_jobNext h 11 l1))))) ∧ (0 ≤ l1 ∧ l1 < 24) ∧ inR (l1 + (-1)) ∧ AW mX5_finish 1 57 [some (aR 11), some (aI (l1 + (-1))), none, none] [] (a_up h 17 l1 (if (f_X5_jobNext h 11 l1) = (-1) then (0 : Int) else ((h 17 (f_X5_jobNext h 11 l1)) + (h 15 (f_X5_jobNext h 11 l1))))) Q)))) : AW mX5_finish 1 57 [some (aR 11), some (aI l1), none, none] [] h Q := by
  refine AW.iload_n (pc := 57) dX5_finish_57 rfl ?_
  refine AW.if_lt (tgt := 101) (pc := 58) dX5_finish_58 rfl (fun q => ?_) (fun q => ?_)
  · skip
    have H_1 := H.1 q
    refine AW.aload_n (pc := 101) dX5_finish_101 rfl ?_
    refine AW.getr (k := 8) (pc := 102) dX5_finish_102 ac_5 sh_11 rfl (by decide) fl_5_37 ?_
    refine AW.iconst (pc := 105) dX5_finish_105 ⟨by decide, by decide⟩ ?_
    refine AW.iconst (pc := 106) dX5_finish_106 ⟨by decide, by decide⟩ ?_
    refine AW.iast (pc := 107) dX5_finish_107 sh_18 ⟨by decide, by decide⟩ ?_
    refine AW.iconst (pc := 108) dX5_finish_108 ⟨by decide, by decide⟩ ?_
    refine AW.istore_n (pc := 109) dX5_finish_109 (by decide) rfl ?_
    exact H_1
  · skip
    have H_2 := H.2 q
    refine AW.aload_n (pc := 61) dX5_finish_61 rfl ?_
    refine AW.iload_n (pc := 62) dX5_finish_62 rfl ?_
    refine AW.callVi (M' := mX5_jobNext) (F' := 0) (as := [aI l1]) (pc := 63) dX5_finish_63 (by decide) kX5_jobNext ml_5_44 ob_11 rfl npX5_jobNext (Nat.le_of_ble_eq_true rfl) (p_X5_jobNext (Or.inr (Or.inl rfl)) (H_2.1) ?_)
    refine AW.istore_n (pc := 66) dX5_finish_66 (by decide) rfl ?_
    refine AW.aload_n (pc := 67) dX5_finish_67 rfl ?_
    refine AW.getr (k := 7) (pc := 68) dX5_finish_68 ac_5 sh_11 rfl (by decide) fl_5_34 ?_
    refine AW.iload_n (pc := 71) dX5_finish_71 rfl ?_
    refine AW.iload_n (pc := 72) dX5_finish_72 rfl ?_
    refine AW.iconst (pc := 73) dX5_finish_73 ⟨by decide, by decide⟩ ?_
    have K_3 : AW mX5_finish 1 94 [some (aR 11), some (aI l1), some (aI (f_X5_jobNext h 11 l1)), none] [aI (if (f_X5_jobNext h 11 l1) = (-1) then (0 : Int) else ((h 17 (f_X5_jobNext h 11 l1)) + (h 15 (f_X5_jobNext h 11 l1)))), aI l1, aR 17] h Q := by
      have H_4 := H_2.2.2
      refine AW.iast (pc := 94) dX5_finish_94 sh_17 (H_4.1) ?_
      refine AW.iinc (pc := 95) dX5_finish_95 rfl (by decide) rfl (H_4.2.1) ?_
      refine AW.goto (tgt := 57) (pc := 98) dX5_finish_98 rfl ?_
      refine AW.mask [true, true, false, true] ?_
      exact H_4.2.2
    have H_5 := H_2.2.1
    refine AW.icmp_ne (tgt := 81) (pc := 74) dX5_finish_74 rfl (fun q => ?_) (fun q => ?_)
    · skip
      have H_6 := H_5 q
      rw [if_neg q] at K_3
      refine AW.aload_n (pc := 81) dX5_finish_81 rfl ?_
      refine AW.getr (k := 7) (pc := 82) dX5_finish_82 ac_5 sh_11 rfl (by decide) fl_5_34 ?_
      refine AW.iload_n (pc := 85) dX5_finish_85 rfl ?_
      refine AW.iald (pc := 86) dX5_finish_86 sh_17 (H_6.1) (v := (h 17 (f_X5_jobNext h 11 l1))) rfl ?_
      refine AW.aload_n (pc := 87) dX5_finish_87 rfl ?_
      refine AW.getr (k := 5) (pc := 88) dX5_finish_88 ac_5 sh_11 rfl (by decide) fl_5_28 ?_
      refine AW.iload_n (pc := 91) dX5_finish_91 rfl ?_
      refine AW.iald (pc := 92) dX5_finish_92 sh_15 (H_6.1) (v := (h 15 (f_X5_jobNext h 11 l1))) rfl ?_
      refine AW.iadd (pc := 93) dX5_finish_93 (H_6.2) ?_
      exact K_3
    · have q := Decidable.not_not.mp q
      rw [if_pos q] at K_3
      refine AW.iconst (pc := 77) dX5_finish_77 ⟨by decide, by decide⟩ ?_
      refine AW.goto (tgt := 94) (pc := 78) dX5_finish_78 rfl ?_
      exact K_3
set_option maxRecDepth 100000 in
set_option maxHeartbeats 4000000 in
theorem s_X5_finish_110  {l1 : Int} {h : aH} {Q : aQ} (H : ((5 ≤ l1 → Q 0 h) ∧ (¬ (5 ≤ l1) → AW mX5_finish 1 119 [some (aR 11), some (aI l1), some (aI 0), some (aI 0)] [] h Q))) : AW mX5_finish 1 110 [some (aR 11), some (aI l1), none, none] [] h Q := by
  refine AW.iload_n (pc := 110) dX5_finish_110 rfl ?_
  refine AW.iconst (pc := 111) dX5_finish_111 ⟨by decide, by decide⟩ ?_
  refine AW.icmp_ge (tgt := 173) (pc := 112) dX5_finish_112 rfl (fun q => ?_) (fun q => ?_)
  · skip
    have H_1 := H.1 q
    refine AW.vret (pc := 173) dX5_finish_173 rfl ?_
    exact H_1
  · skip
    have H_2 := H.2 q
    refine AW.iconst (pc := 115) dX5_finish_115 ⟨by decide, by decide⟩ ?_
    refine AW.istore_n (pc := 116) dX5_finish_116 (by decide) rfl ?_
    refine AW.iconst (pc := 117) dX5_finish_117 ⟨by decide, by decide⟩ ?_
    refine AW.istore_n (pc := 118) dX5_finish_118 (by decide) rfl ?_
    exact H_2
set_option maxRecDepth 100000 in
set_option maxHeartbeats 4000000 in
theorem s_X5_finish_119  {l1 l2 l3 : Int} {h : aH} {Q : aQ} (H : (((h 11 1) ≤ l3 → inR (l1 + 1) ∧ (0 ≤ l1 ∧ l1 < 6) ∧ inR ((h 18 l1) + l2) ∧ (0 ≤ (l1 + 1) ∧ (l1 + 1) < 6) ∧ AW mX5_finish 1 110 [some (aR 11), some (aI (l1 + 1)), none, none] [] (a_up h 18 (l1 + 1) ((h 18 l1) + l2)) Q) ∧ (¬ ((h 11 1) ≤ l3) → (0 ≤ l3 ∧ l3 < 24) ∧ inR (l2 + (if (h 14 l3) = l1 then (1 : Int) else (0 : Int))) ∧ inR (l3 + 1) ∧ AW mX5_finish 1 119 [some (aR 11), some (aI l1), some (aI (l2 + (if (h 14 l3) = l1 then (1 : Int) else (0 : Int)))), some (aI (l3 + 1))] [] h Q))) : AW mX5_finish 1 119 [some (aR 11), some (aI l1), some (aI l2), some (aI l3)] [] h Q := by
  refine AW.iload_n (pc := 119) dX5_finish_119 rfl ?_
  refine AW.aload_n (pc := 120) dX5_finish_120 rfl ?_
  refine AW.geti' (k := 1) (j := 1) (pc := 121) dX5_finish_121 ac_5 sh_11 rfl (by decide) fl_5_15 rfl (v := (h 11 1)) rfl ?_
  refine AW.icmp_ge (tgt := 151) (pc := 124) dX5_finish_124 rfl (fun q => ?_) (fun q => ?_)
  · skip
    have H_1 := H.1 q
    refine AW.aload_n (pc := 151) dX5_finish_151 rfl ?_
    refine AW.getr (k := 8) (pc := 152) dX5_finish_152 ac_5 sh_11 rfl (by decide) fl_5_37 ?_
    refine AW.iload_n (pc := 155) dX5_finish_155 rfl ?_
    refine AW.iconst (pc := 156) dX5_finish_156 ⟨by decide, by decide⟩ ?_
    refine AW.iadd (pc := 157) dX5_finish_157 (H_1.1) ?_
    refine AW.aload_n (pc := 158) dX5_finish_158 rfl ?_
    refine AW.getr (k := 8) (pc := 159) dX5_finish_159 ac_5 sh_11 rfl (by decide) fl_5_37 ?_
    refine AW.iload_n (pc := 162) dX5_finish_162 rfl ?_
    refine AW.iald (pc := 163) dX5_finish_163 sh_18 (H_1.2.1) (v := (h 18 l1)) rfl ?_
    refine AW.iload_n (pc := 164) dX5_finish_164 rfl ?_
    refine AW.iadd (pc := 165) dX5_finish_165 (H_1.2.2.1) ?_
    refine AW.iast (pc := 166) dX5_finish_166 sh_18 (H_1.2.2.2.1) ?_
    refine AW.iinc (pc := 167) dX5_finish_167 rfl (by decide) rfl (H_1.1) ?_
    refine AW.goto (tgt := 110) (pc := 170) dX5_finish_170 rfl ?_
    refine AW.mask [true, true, false, false] ?_
    exact H_1.2.2.2.2
  · skip
    have H_2 := H.2 q
    refine AW.iload_n (pc := 127) dX5_finish_127 rfl ?_
    refine AW.aload_n (pc := 128) dX5_finish_128 rfl ?_
    refine AW.getr (k := 4) (pc := 129) dX5_finish_129 ac_5 sh_11 rfl (by decide) fl_5_25 ?_
    refine AW.iload_n (pc := 132) dX5_finish_132 rfl ?_
    refine AW.iald (pc := 133) dX5_finish_133 sh_14 (H_2.1) (v := (h 14 l3)) rfl ?_
    refine AW.iload_n (pc := 134) dX5_finish_134 rfl ?_
    have K_3 : AW mX5_finish 1 143 [some (aR 11), some (aI l1), some (aI l2), some (aI l3)] [aI (if (h 14 l3) = l1 then (1 : Int) else (0 : Int)), aI l2] h Q := by
      have H_4 := H_2.2
      refine AW.iadd (pc := 143) dX5_finish_143 (H_4.1) ?_
      refine AW.istore_n (pc := 144) dX5_finish_144 (by decide) rfl ?_
      refine AW.iinc (pc := 145) dX5_finish_145 rfl (by decide) rfl (H_4.2.1) ?_
      refine AW.goto (tgt := 119) (pc := 148) dX5_finish_148 rfl ?_
      exact H_4.2.2
    refine AW.icmp_ne (tgt := 142) (pc := 135) dX5_finish_135 rfl (fun q => ?_) (fun q => ?_)
    · skip
      rw [if_neg q] at K_3
      refine AW.iconst (pc := 142) dX5_finish_142 ⟨by decide, by decide⟩ ?_
      exact K_3
    · have q := Decidable.not_not.mp q
      rw [if_pos q] at K_3
      refine AW.iconst (pc := 138) dX5_finish_138 ⟨by decide, by decide⟩ ?_
      refine AW.goto (tgt := 143) (pc := 139) dX5_finish_139 rfl ?_
      exact K_3
set_option maxRecDepth 100000 in
set_option maxHeartbeats 4000000 in
theorem e_X5_longestJob  {h : aH} {Q : aQ} (H : AW mX5_longestJob 1 4 [some (aR 3), some (aI 0), some (aI 0)] [] h Q) : aRun mX5_longestJob 1 [aR 3] h Q := by
  refine aRun.of pn_5 rfl (Nat.le_of_ble_eq_true rfl) ?_
  show AW mX5_longestJob 1 0 [some (aR 3), none, none] [] h Q
  refine AW.iconst (pc := 0) dX5_longestJob_0 ⟨by decide, by decide⟩ ?_
  refine AW.istore_n (pc := 1) dX5_longestJob_1 (by decide) rfl ?_
  refine AW.iconst (pc := 2) dX5_longestJob_2 ⟨by decide, by decide⟩ ?_
  refine AW.istore_n (pc := 3) dX5_longestJob_3 (by decide) rfl ?_
  exact H
set_option maxRecDepth 100000 in
set_option maxHeartbeats 4000000 in
theorem s_X5_longestJob_4  {l1 l2 : Int} {h : aH} {Q : aQ} (H : (((h 3 1) ≤ l2 → Q l1 h) ∧ (¬ ((h 3 1) ≤ l2) → (0 ≤ l2 ∧ l2 < 24) ∧ inR ((h 8 l2) + (h 7 l2)) ∧ inR (l2 + 1) ∧ AW mX5_longestJob 1 4 [some (aR 3), some (aI (max l1 ((h 8 l2) + (h 7 l2)))), some (aI (l2 + 1))] [] h Q))) : AW mX5_longestJob 1 4 [some (aR 3), some (aI l1), some (aI l2)] [] h Q := by
  refine AW.iload_n (pc := 4) dX5_longestJob_4 rfl ?_
  refine AW.aload_n (pc := 5) dX5_longestJob_5 rfl ?_
  refine AW.geti' (k := 1) (j := 1) (pc := 6) dX5_longestJob_6 ac_5 sh_3 rfl (by decide) fl_5_15 rfl (v := (h 3 1)) rfl ?_
  refine AW.icmp_ge (tgt := 36) (pc := 9) dX5_longestJob_9 rfl (fun q => ?_) (fun q => ?_)
  · skip
    have H_1 := H.1 q
    refine AW.iload_n (pc := 36) dX5_longestJob_36 rfl ?_
    refine AW.iret (pc := 37) dX5_longestJob_37 rfl ?_
    exact H_1
  · skip
    have H_2 := H.2 q
    refine AW.iload_n (pc := 12) dX5_longestJob_12 rfl ?_
    refine AW.aload_n (pc := 13) dX5_longestJob_13 rfl ?_
    refine AW.getr (k := 6) (pc := 14) dX5_longestJob_14 ac_5 sh_3 rfl (by decide) fl_5_31 ?_
    refine AW.iload_n (pc := 17) dX5_longestJob_17 rfl ?_
    refine AW.iald (pc := 18) dX5_longestJob_18 sh_8 (H_2.1) (v := (h 8 l2)) rfl ?_
    refine AW.aload_n (pc := 19) dX5_longestJob_19 rfl ?_
    refine AW.getr (k := 5) (pc := 20) dX5_longestJob_20 ac_5 sh_3 rfl (by decide) fl_5_28 ?_
    refine AW.iload_n (pc := 23) dX5_longestJob_23 rfl ?_
    refine AW.iald (pc := 24) dX5_longestJob_24 sh_7 (H_2.1) (v := (h 7 l2)) rfl ?_
    refine AW.iadd (pc := 25) dX5_longestJob_25 (H_2.2.1) ?_
    refine AW.mmax (pc := 26) dX5_longestJob_26 (by decide) ml_5_57 (Nat.le_of_ble_eq_true rfl) ?_
    refine AW.istore_n (pc := 29) dX5_longestJob_29 (by decide) rfl ?_
    refine AW.iinc (pc := 30) dX5_longestJob_30 rfl (by decide) rfl (H_2.2.2.1) ?_
    refine AW.goto (tgt := 4) (pc := 33) dX5_longestJob_33 rfl ?_
    exact H_2.2.2.2
set_option maxRecDepth 100000 in
set_option maxHeartbeats 4000000 in
theorem e_X6_addMove {a2 a3 : Int} {h : aH} {Q : aQ} (H : inR (a2 + 1) ∧ ((a3 ≤ (a2 + 1) → Q 0 h) ∧ (¬ (a3 ≤ (a2 + 1)) → (0 ≤ a2 ∧ a2 < 24) ∧ (0 ≤ (h 39 a2) ∧ (h 39 a2) < 24) ∧ (0 ≤ (a2 + 1) ∧ (a2 + 1) < 24) ∧ (0 ≤ (h 39 (a2 + 1)) ∧ (h 39 (a2 + 1)) < 24) ∧ (((h 4 (h 39 a2)) = (h 4 (h 39 (a2 + 1))) → Q 0 h) ∧ (¬ ((h 4 (h 39 a2)) = (h 4 (h 39 (a2 + 1)))) → (0 ≤ (h 38 5) ∧ (h 38 5) < 24) ∧ inR ((h 38 5) + 1) ∧ Q 0 (a_up (a_up h 41 (h 38 5) a2) 38 5 ((h 38 5) + 1))))))) : aRun mX6_addMove 0 [aR 38, aR 3, aI a2, aI a3] h Q := by
  refine aRun.of pn_6 rfl (Nat.le_of_ble_eq_true rfl) ?_
  show AW mX6_addMove 0 0 [some (aR 38), some (aR 3), some (aI a2), some (aI a3)] [] h Q
  refine AW.iload_n (pc := 0) dX6_addMove_0 rfl ?_
  refine AW.iconst (pc := 1) dX6_addMove_1 ⟨by decide, by decide⟩ ?_
  refine AW.iadd (pc := 2) dX6_addMove_2 (H.1) ?_
  refine AW.iload_n (pc := 3) dX6_addMove_3 rfl ?_
  refine AW.icmp_ge (tgt := 54) (pc := 4) dX6_addMove_4 rfl (fun q => ?_) (fun q => ?_)
  · skip
    have H_1 := H.2.1 q
    refine AW.vret (pc := 54) dX6_addMove_54 rfl ?_
    exact H_1
  · skip
    have H_2 := H.2.2 q
    refine AW.aload_n (pc := 7) dX6_addMove_7 rfl ?_
    refine AW.getr (k := 2) (pc := 8) dX6_addMove_8 ac_5 sh_3 rfl (by decide) fl_6_88 ?_
    refine AW.aload_n (pc := 11) dX6_addMove_11 rfl ?_
    refine AW.getr (k := 0) (pc := 12) dX6_addMove_12 ac_6 sh_38 rfl (by decide) fl_6_9 ?_
    refine AW.iload_n (pc := 15) dX6_addMove_15 rfl ?_
    refine AW.iald (pc := 16) dX6_addMove_16 sh_39 (H_2.1) (v := (h 39 a2)) rfl ?_
    refine AW.iald (pc := 17) dX6_addMove_17 sh_4 (H_2.2.1) (v := (h 4 (h 39 a2))) rfl ?_
    refine AW.aload_n (pc := 18) dX6_addMove_18 rfl ?_
    refine AW.getr (k := 2) (pc := 19) dX6_addMove_19 ac_5 sh_3 rfl (by decide) fl_6_88 ?_
    refine AW.aload_n (pc := 22) dX6_addMove_22 rfl ?_
    refine AW.getr (k := 0) (pc := 23) dX6_addMove_23 ac_6 sh_38 rfl (by decide) fl_6_9 ?_
    refine AW.iload_n (pc := 26) dX6_addMove_26 rfl ?_
    refine AW.iconst (pc := 27) dX6_addMove_27 ⟨by decide, by decide⟩ ?_
    refine AW.iadd (pc := 28) dX6_addMove_28 (H.1) ?_
    refine AW.iald (pc := 29) dX6_addMove_29 sh_39 (H_2.2.2.1) (v := (h 39 (a2 + 1))) rfl ?_
    refine AW.iald (pc := 30) dX6_addMove_30 sh_4 (H_2.2.2.2.1) (v := (h 4 (h 39 (a2 + 1)))) rfl ?_
    refine AW.icmp_eq (tgt := 54) (pc := 31) dX6_addMove_31 rfl (fun q => ?_) (fun q => ?_)
    · skip
      have H_3 := H_2.2.2.2.2.1 q
      refine AW.vret (pc := 54) dX6_addMove_54 rfl ?_
      exact H_3
    · skip
      have H_4 := H_2.2.2.2.2.2 q
      refine AW.aload_n (pc := 34) dX6_addMove_34 rfl ?_
      refine AW.getr (k := 4) (pc := 35) dX6_addMove_35 ac_6 sh_38 rfl (by decide) fl_6_25 ?_
      refine AW.aload_n (pc := 38) dX6_addMove_38 rfl ?_
      refine AW.geti' (k := 5) (j := 5) (pc := 39) dX6_addMove_39 ac_6 sh_38 rfl (by decide) fl_6_28 rfl (v := (h 38 5)) rfl ?_
      refine AW.iload_n (pc := 42) dX6_addMove_42 rfl ?_
      refine AW.iast (pc := 43) dX6_addMove_43 sh_41 (H_4.1) ?_
      refine AW.aload_n (pc := 44) dX6_addMove_44 rfl ?_
      refine AW.dup (pc := 45) dX6_addMove_45 rfl ?_
      refine AW.geti' (k := 5) (j := 5) (pc := 46) dX6_addMove_46 ac_6 sh_38 rfl (by decide) fl_6_28 rfl (v := (h 38 5)) (by rw [a_up_ne (by decide)]) ?_
      refine AW.iconst (pc := 49) dX6_addMove_49 ⟨by decide, by decide⟩ ?_
      refine AW.iadd (pc := 50) dX6_addMove_50 (H_4.2.1) ?_
      refine AW.puti' (k := 5) (j := 5) (pc := 51) dX6_addMove_51 ac_6 sh_38 rfl (by decide) fl_6_28 rfl rfl (tyX6_ok 5 (by decide)) (Or.inl rfl) ?_
      refine AW.vret (pc := 54) dX6_addMove_54 rfl ?_
      exact H_4.2.2
set_option maxRecDepth 100000 in
set_option maxHeartbeats 4000000 in
theorem e_X6_beginning  {h : aH} {Q : aQ} (H : AW mX6_beginning 0 2 [some (aR 3), some (aR 20), some (aI 0)] [] h Q) : aRun mX6_beginning 0 [aR 3, aR 20] h Q := by
  refine aRun.of pn_6 rfl (Nat.le_of_ble_eq_true rfl) ?_
  show AW mX6_beginning 0 0 [some (aR 3), some (aR 20), none] [] h Q
  refine AW.iconst (pc := 0) dX6_beginning_0 ⟨by decide, by decide⟩ ?_
  refine AW.istore_n (pc := 1) dX6_beginning_1 (by decide) rfl ?_
  exact H
set_option maxRecDepth 100000 in
set_option maxHeartbeats 4000000 in
theorem s_X6_beginning_2  {l2 : Int} {h : aH} {Q : aQ} (H : (((h 3 1) ≤ l2 → Q (-1) h) ∧ (¬ ((h 3 1) ≤ l2) → (0 ≤ l2 ∧ l2 < 24) ∧ (((h 24 l2) = 0 → (((h 26 l2) = 0 → Q l2 h) ∧ (¬ ((h 26 l2) = 0) → inR (l2 + 1) ∧ AW mX6_beginning 0 2 [some (aR 3), some (aR 20), some (aI (l2 + 1))] [] h Q))) ∧ (¬ ((h 24 l2) = 0) → inR (l2 + 1) ∧ AW mX6_beginning 0 2 [some (aR 3), some (aR 20), some (aI (l2 + 1))] [] h Q))))) : AW mX6_beginning 0 2 [some (aR 3), some (aR 20), some (aI l2)] [] h Q := by
  refine AW.iload_n (pc := 2) dX6_beginning_2 rfl ?_
  refine AW.aload_n (pc := 3) dX6_beginning_3 rfl ?_
  refine AW.geti' (k := 1) (j := 1) (pc := 4) dX6_beginning_4 ac_5 sh_3 rfl (by decide) fl_6_76 rfl (v := (h 3 1)) rfl ?_
  refine AW.icmp_ge (tgt := 36) (pc := 7) dX6_beginning_7 rfl (fun q => ?_) (fun q => ?_)
  · skip
    have H_1 := H.1 q
    refine AW.iconst (pc := 36) dX6_beginning_36 ⟨by decide, by decide⟩ ?_
    refine AW.iret (pc := 37) dX6_beginning_37 rfl ?_
    exact H_1
  · skip
    have H_2 := H.2 q
    refine AW.aload_n (pc := 10) dX6_beginning_10 rfl ?_
    refine AW.getr (k := 3) (pc := 11) dX6_beginning_11 ac_8 sh_20 rfl (by decide) fl_6_46 ?_
    refine AW.iload_n (pc := 14) dX6_beginning_14 rfl ?_
    refine AW.iald (pc := 15) dX6_beginning_15 sh_24 (H_2.1) (v := (h 24 l2)) rfl ?_
    refine AW.if_ne (tgt := 30) (pc := 16) dX6_beginning_16 rfl (fun q => ?_) (fun q => ?_)
    · skip
      have H_3 := H_2.2.2 q
      refine AW.iinc (pc := 30) dX6_beginning_30 rfl (by decide) rfl (H_3.1) ?_
      refine AW.goto (tgt := 2) (pc := 33) dX6_beginning_33 rfl ?_
      exact H_3.2
    · have q := Decidable.not_not.mp q
      have H_4 := H_2.2.1 q
      refine AW.aload_n (pc := 19) dX6_beginning_19 rfl ?_
      refine AW.getr (k := 5) (pc := 20) dX6_beginning_20 ac_8 sh_20 rfl (by decide) fl_6_78 ?_
      refine AW.iload_n (pc := 23) dX6_beginning_23 rfl ?_
      refine AW.iald (pc := 24) dX6_beginning_24 sh_26 (H_2.1) (v := (h 26 l2)) rfl ?_
      refine AW.if_ne (tgt := 30) (pc := 25) dX6_beginning_25 rfl (fun q => ?_) (fun q => ?_)
      · skip
        have H_5 := H_4.2 q
        refine AW.iinc (pc := 30) dX6_beginning_30 rfl (by decide) rfl (H_5.1) ?_
        refine AW.goto (tgt := 2) (pc := 33) dX6_beginning_33 rfl ?_
        exact H_5.2
      · have q := Decidable.not_not.mp q
        have H_6 := H_4.1 q
        refine AW.iload_n (pc := 28) dX6_beginning_28 rfl ?_
        refine AW.iret (pc := 29) dX6_beginning_29 rfl ?_
        exact H_6
set_option maxRecDepth 100000 in
set_option maxHeartbeats 4000000 in
theorem e_X6_cutBlocks  {h : aH} {Q : aQ} (H : AW mX6_cutBlocks 0 7 [some (aR 38), some (aR 3), some (aI 0)] [] (a_up h 38 3 0) Q) : aRun mX6_cutBlocks 0 [aR 38, aR 3] h Q := by
  refine aRun.of pn_6 rfl (Nat.le_of_ble_eq_true rfl) ?_
  show AW mX6_cutBlocks 0 0 [some (aR 38), some (aR 3), none] [] h Q
  refine AW.aload_n (pc := 0) dX6_cutBlocks_0 rfl ?_
  refine AW.iconst (pc := 1) dX6_cutBlocks_1 ⟨by decide, by decide⟩ ?_
  refine AW.puti' (k := 3) (j := 3) (pc := 2) dX6_cutBlocks_2 ac_6 sh_38 rfl (by decide) fl_6_22 rfl rfl (tyX6_ok 3 (by decide)) (Or.inl rfl) ?_
  refine AW.iconst (pc := 5) dX6_cutBlocks_5 ⟨by decide, by decide⟩ ?_
  refine AW.istore_n (pc := 6) dX6_cutBlocks_6 (by decide) rfl ?_
  exact H
set_option maxRecDepth 100000 in
set_option maxHeartbeats 4000000 in
theorem s_X6_cutBlocks_7  {l2 : Int} {h : aH} {Q : aQ} (H : (((h 38 1) ≤ l2 → (0 ≤ (h 38 3) ∧ (h 38 3) < 25) ∧ Q 0 (a_up h 40 (h 38 3) (h 38 1))) ∧ (¬ ((h 38 1) ≤ l2) → ((l2 = 0 → (0 ≤ (h 38 3) ∧ (h 38 3) < 25) ∧ inR ((h 38 3) + 1) ∧ inR (l2 + 1) ∧ AW mX6_cutBlocks 0 7 [some (aR 38), some (aR 3), some (aI (l2 + 1))] [] (a_up (a_up h 40 (h 38 3) l2) 38 3 ((h 38 3) + 1)) Q) ∧ (¬ (l2 = 0) → (0 ≤ l2 ∧ l2 < 24) ∧ (0 ≤ (h 39 l2) ∧ (h 39 l2) < 24) ∧ inR (l2 - 1) ∧ (0 ≤ (l2 - 1) ∧ (l2 - 1) < 24) ∧ (0 ≤ (h 39 (l2 - 1)) ∧ (h 39 (l2 - 1)) < 24) ∧ (((h 6 (h 39 l2)) = (h 6 (h 39 (l2 - 1))) → inR (l2 + 1) ∧ AW mX6_cutBlocks 0 7 [some (aR 38), some (aR 3), some (aI (l2 + 1))] [] h Q) ∧ (¬ ((h 6 (h 39 l2)) = (h 6 (h 39 (l2 - 1)))) → (0 ≤ (h 38 3) ∧ (h 38 3) < 25) ∧ inR ((h 38 3) + 1) ∧ inR (l2 + 1) ∧ AW mX6_cutBlocks 0 7 [some (aR 38), some (aR 3), some (aI (l2 + 1))] [] (a_up (a_up h 40 (h 38 3) l2) 38 3 ((h 38 3) + 1)) Q))))))) : AW mX6_cutBlocks 0 7 [some (aR 38), some (aR 3), some (aI l2)] [] h Q := by
  refine AW.iload_n (pc := 7) dX6_cutBlocks_7 rfl ?_
  refine AW.aload_n (pc := 8) dX6_cutBlocks_8 rfl ?_
  refine AW.geti' (k := 1) (j := 1) (pc := 9) dX6_cutBlocks_9 ac_6 sh_38 rfl (by decide) fl_6_15 rfl (v := (h 38 1)) rfl ?_
  refine AW.icmp_ge (tgt := 72) (pc := 12) dX6_cutBlocks_12 rfl (fun q => ?_) (fun q => ?_)
  · skip
    have H_1 := H.1 q
    refine AW.aload_n (pc := 72) dX6_cutBlocks_72 rfl ?_
    refine AW.getr (k := 2) (pc := 73) dX6_cutBlocks_73 ac_6 sh_38 rfl (by decide) fl_6_19 ?_
    refine AW.aload_n (pc := 76) dX6_cutBlocks_76 rfl ?_
    refine AW.geti' (k := 3) (j := 3) (pc := 77) dX6_cutBlocks_77 ac_6 sh_38 rfl (by decide) fl_6_22 rfl (v := (h 38 3)) rfl ?_
    refine AW.aload_n (pc := 80) dX6_cutBlocks_80 rfl ?_
    refine AW.geti' (k := 1) (j := 1) (pc := 81) dX6_cutBlocks_81 ac_6 sh_38 rfl (by decide) fl_6_15 rfl (v := (h 38 1)) rfl ?_
    refine AW.iast (pc := 84) dX6_cutBlocks_84 sh_40 (H_1.1) ?_
    refine AW.vret (pc := 85) dX6_cutBlocks_85 rfl ?_
    exact H_1.2
  · skip
    have H_2 := H.2 q
    refine AW.iload_n (pc := 15) dX6_cutBlocks_15 rfl ?_
    refine AW.if_eq (tgt := 46) (pc := 16) dX6_cutBlocks_16 rfl (fun q => ?_) (fun q => ?_)
    · skip
      have H_3 := H_2.1 q
      refine AW.aload_n (pc := 46) dX6_cutBlocks_46 rfl ?_
      refine AW.getr (k := 2) (pc := 47) dX6_cutBlocks_47 ac_6 sh_38 rfl (by decide) fl_6_19 ?_
      refine AW.aload_n (pc := 50) dX6_cutBlocks_50 rfl ?_
      refine AW.geti' (k := 3) (j := 3) (pc := 51) dX6_cutBlocks_51 ac_6 sh_38 rfl (by decide) fl_6_22 rfl (v := (h 38 3)) rfl ?_
      refine AW.iload_n (pc := 54) dX6_cutBlocks_54 rfl ?_
      refine AW.iast (pc := 55) dX6_cutBlocks_55 sh_40 (H_3.1) ?_
      refine AW.aload_n (pc := 56) dX6_cutBlocks_56 rfl ?_
      refine AW.dup (pc := 57) dX6_cutBlocks_57 rfl ?_
      refine AW.geti' (k := 3) (j := 3) (pc := 58) dX6_cutBlocks_58 ac_6 sh_38 rfl (by decide) fl_6_22 rfl (v := (h 38 3)) (by rw [a_up_ne (by decide)]) ?_
      refine AW.iconst (pc := 61) dX6_cutBlocks_61 ⟨by decide, by decide⟩ ?_
      refine AW.iadd (pc := 62) dX6_cutBlocks_62 (H_3.2.1) ?_
      refine AW.puti' (k := 3) (j := 3) (pc := 63) dX6_cutBlocks_63 ac_6 sh_38 rfl (by decide) fl_6_22 rfl rfl (tyX6_ok 3 (by decide)) (Or.inl rfl) ?_
      refine AW.iinc (pc := 66) dX6_cutBlocks_66 rfl (by decide) rfl (H_3.2.2.1) ?_
      refine AW.goto (tgt := 7) (pc := 69) dX6_cutBlocks_69 rfl ?_
      exact H_3.2.2.2
    · skip
      have H_4 := H_2.2 q
      refine AW.aload_n (pc := 19) dX6_cutBlocks_19 rfl ?_
      refine AW.getr (k := 4) (pc := 20) dX6_cutBlocks_20 ac_5 sh_3 rfl (by decide) fl_6_81 ?_
      refine AW.aload_n (pc := 23) dX6_cutBlocks_23 rfl ?_
      refine AW.getr (k := 0) (pc := 24) dX6_cutBlocks_24 ac_6 sh_38 rfl (by decide) fl_6_9 ?_
      refine AW.iload_n (pc := 27) dX6_cutBlocks_27 rfl ?_
      refine AW.iald (pc := 28) dX6_cutBlocks_28 sh_39 (H_4.1) (v := (h 39 l2)) rfl ?_
      refine AW.iald (pc := 29) dX6_cutBlocks_29 sh_6 (H_4.2.1) (v := (h 6 (h 39 l2))) rfl ?_
      refine AW.aload_n (pc := 30) dX6_cutBlocks_30 rfl ?_
      refine AW.getr (k := 4) (pc := 31) dX6_cutBlocks_31 ac_5 sh_3 rfl (by decide) fl_6_81 ?_
      refine AW.aload_n (pc := 34) dX6_cutBlocks_34 rfl ?_
      refine AW.getr (k := 0) (pc := 35) dX6_cutBlocks_35 ac_6 sh_38 rfl (by decide) fl_6_9 ?_
      refine AW.iload_n (pc := 38) dX6_cutBlocks_38 rfl ?_
      refine AW.iconst (pc := 39) dX6_cutBlocks_39 ⟨by decide, by decide⟩ ?_
      refine AW.isub (pc := 40) dX6_cutBlocks_40 (H_4.2.2.1) ?_
      refine AW.iald (pc := 41) dX6_cutBlocks_41 sh_39 (H_4.2.2.2.1) (v := (h 39 (l2 - 1))) rfl ?_
      refine AW.iald (pc := 42) dX6_cutBlocks_42 sh_6 (H_4.2.2.2.2.1) (v := (h 6 (h 39 (l2 - 1)))) rfl ?_
      refine AW.icmp_eq (tgt := 66) (pc := 43) dX6_cutBlocks_43 rfl (fun q => ?_) (fun q => ?_)
      · skip
        have H_5 := H_4.2.2.2.2.2.1 q
        refine AW.iinc (pc := 66) dX6_cutBlocks_66 rfl (by decide) rfl (H_5.1) ?_
        refine AW.goto (tgt := 7) (pc := 69) dX6_cutBlocks_69 rfl ?_
        exact H_5.2
      · skip
        have H_6 := H_4.2.2.2.2.2.2 q
        refine AW.aload_n (pc := 46) dX6_cutBlocks_46 rfl ?_
        refine AW.getr (k := 2) (pc := 47) dX6_cutBlocks_47 ac_6 sh_38 rfl (by decide) fl_6_19 ?_
        refine AW.aload_n (pc := 50) dX6_cutBlocks_50 rfl ?_
        refine AW.geti' (k := 3) (j := 3) (pc := 51) dX6_cutBlocks_51 ac_6 sh_38 rfl (by decide) fl_6_22 rfl (v := (h 38 3)) rfl ?_
        refine AW.iload_n (pc := 54) dX6_cutBlocks_54 rfl ?_
        refine AW.iast (pc := 55) dX6_cutBlocks_55 sh_40 (H_6.1) ?_
        refine AW.aload_n (pc := 56) dX6_cutBlocks_56 rfl ?_
        refine AW.dup (pc := 57) dX6_cutBlocks_57 rfl ?_
        refine AW.geti' (k := 3) (j := 3) (pc := 58) dX6_cutBlocks_58 ac_6 sh_38 rfl (by decide) fl_6_22 rfl (v := (h 38 3)) (by rw [a_up_ne (by decide)]) ?_
        refine AW.iconst (pc := 61) dX6_cutBlocks_61 ⟨by decide, by decide⟩ ?_
        refine AW.iadd (pc := 62) dX6_cutBlocks_62 (H_6.2.1) ?_
        refine AW.puti' (k := 3) (j := 3) (pc := 63) dX6_cutBlocks_63 ac_6 sh_38 rfl (by decide) fl_6_22 rfl rfl (tyX6_ok 3 (by decide)) (Or.inl rfl) ?_
        refine AW.iinc (pc := 66) dX6_cutBlocks_66 rfl (by decide) rfl (H_6.2.2.1) ?_
        refine AW.goto (tgt := 7) (pc := 69) dX6_cutBlocks_69 rfl ?_
        exact H_6.2.2.2
set_option maxRecDepth 100000 in
set_option maxHeartbeats 4000000 in
theorem e_X6_findMoves  {h : aH} {Q : aQ} (H : ((2 ≤ (h 38 3) → AW mX6_findMoves 1 16 [some (aR 38), some (aR 3), some (aI 0), none, none, none] [] (a_up h 38 5 0) Q) ∧ (¬ (2 ≤ (h 38 3)) → Q 0 (a_up h 38 5 0)))) : aRun mX6_findMoves 1 [aR 38, aR 3] h Q := by
  refine aRun.of pn_6 rfl (Nat.le_of_ble_eq_true rfl) ?_
  show AW mX6_findMoves 1 0 [some (aR 38), some (aR 3), none, none, none, none] [] h Q
  refine AW.aload_n (pc := 0) dX6_findMoves_0 rfl ?_
  refine AW.iconst (pc := 1) dX6_findMoves_1 ⟨by decide, by decide⟩ ?_
  refine AW.puti' (k := 5) (j := 5) (pc := 2) dX6_findMoves_2 ac_6 sh_38 rfl (by decide) fl_6_28 rfl rfl (tyX6_ok 5 (by decide)) (Or.inl rfl) ?_
  refine AW.aload_n (pc := 5) dX6_findMoves_5 rfl ?_
  refine AW.geti' (k := 3) (j := 3) (pc := 6) dX6_findMoves_6 ac_6 sh_38 rfl (by decide) fl_6_22 rfl (v := (h 38 3)) (by rw [a_up_off (by decide)]) ?_
  refine AW.iconst (pc := 9) dX6_findMoves_9 ⟨by decide, by decide⟩ ?_
  refine AW.icmp_ge (tgt := 14) (pc := 10) dX6_findMoves_10 rfl (fun q => ?_) (fun q => ?_)
  · skip
    have H_1 := H.1 q
    refine AW.iconst (pc := 14) dX6_findMoves_14 ⟨by decide, by decide⟩ ?_
    refine AW.istore_n (pc := 15) dX6_findMoves_15 (by decide) rfl ?_
    exact H_1
  · skip
    have H_2 := H.2 q
    refine AW.vret (pc := 13) dX6_findMoves_13 rfl ?_
    exact H_2
set_option maxRecDepth 100000 in
set_option maxHeartbeats 4000000 in
theorem s_X6_findMoves_16  {l2 : Int} {h : aH} {Q : aQ} (H : (((h 38 3) ≤ l2 → Q 0 h) ∧ (¬ ((h 38 3) ≤ l2) → (0 ≤ l2 ∧ l2 < 25) ∧ inR (l2 + 1) ∧ (0 ≤ (l2 + 1) ∧ (l2 + 1) < 25) ∧ ((l2 ≤ 0 → ((¬ (l2 ≤ 0) → inR ((h 40 (l2 + 1)) - (h 40 l2))) ∧ inR ((h 38 3) - 1) ∧ ((((h 38 3) - 1) ≤ l2 → AW mX6_findMoves 1 16 [some (aR 38), some (aR 3), some (aI (l2 + 1)), none, none, none] [] h Q) ∧ (¬ (((h 38 3) - 1) ≤ l2) → inR ((h 40 (l2 + 1)) - 2) ∧ ((((h 40 (l2 + 1)) - 2) < (h 40 l2) → AW mX6_findMoves 1 16 [some (aR 38), some (aR 3), some (aI (l2 + 1)), none, none, none] [] h Q) ∧ (¬ (((h 40 (l2 + 1)) - 2) < (h 40 l2)) → (((if l2 ≤ 0 then (0 : Int) else (if ((h 40 (l2 + 1)) - (h 40 l2)) = 2 then (1 : Int) else (0 : Int))) = 0 → aRun mX6_addMove 0 [aR 38, aR 3, aI ((h 40 (l2 + 1)) - 2), aI (h 40 (l2 + 1))] h (fun r1 h2 => AW mX6_findMoves 1 16 [some (aR 38), some (aR 3), some (aI (l2 + 1)), none, none, none] [] h2 Q)) ∧ (¬ ((if l2 ≤ 0 then (0 : Int) else (if ((h 40 (l2 + 1)) - (h 40 l2)) = 2 then (1 : Int) else (0 : Int))) = 0) → AW mX6_findMoves 1 16 [some (aR 38), some (aR 3), some (aI (l2 + 1)), none, none, none] [] h Q)))))))) ∧ (¬ (l2 ≤ 0) → aRun mX6_addMove 0 [aR 38, aR 3, aI (h 40 l2), aI (h 40 (l2 + 1))] h (fun r3 h4 => ((¬ (l2 ≤ 0) → inR ((h 40 (l2 + 1)) - (h 40 l2))) ∧ inR ((h4 38 3) - 1) ∧ ((((h4 38 3) - 1) ≤ l2 → AW mX6_findMoves 1 16 [some (aR 38), some (aR 3), some (aI (l2 + 1)), none, none, none] [] h4 Q) ∧ (¬ (((h4 38 3) - 1) ≤ l2) → inR ((h 40 (l2 + 1)) - 2) ∧ ((((h 40 (l2 + 1)) - 2) < (h 40 l2) → AW mX6_findMoves 1 16 [some (aR 38), some (aR 3), some (aI (l2 + 1)), none, none, none] [] h4 Q) ∧ (¬ (((h 40 (l2 + 1)) - 2) < (h 40 l2)) → (((if l2 ≤ 0 then (0 : Int) else (if ((h 40 (l2 + 1)) - (h 40 l2)) = 2 then (1 : Int) else (0 : Int))) = 0 → aRun mX6_addMove 0 [aR 38, aR 3, aI ((h 40 (l2 + 1)) - 2), aI (h 40 (l2 + 1))] h4 (fun r5 h6 => AW mX6_findMoves 1 16 [some (aR 38), some (aR 3), some (aI (l2 + 1)), none, none, none] [] h6 Q)) ∧ (¬ ((if l2 ≤ 0 then (0 : Int) else (if ((h 40 (l2 + 1)) - (h 40 l2)) = 2 then (1 : Int) else (0 : Int))) = 0) → AW mX6_findMoves 1 16 [some (aR 38), some (aR 3), some (aI (l2 + 1)), none, none, none] [] h4 Q))))))))))))) : AW mX6_findMoves 1 16 [some (aR 38), some (aR 3), some (aI l2), none, none, none] [] h Q := by
  refine AW.iload_n (pc := 16) dX6_findMoves_16 rfl ?_
  refine AW.aload_n (pc := 17) dX6_findMoves_17 rfl ?_
  refine AW.geti' (k := 3) (j := 3) (pc := 18) dX6_findMoves_18 ac_6 sh_38 rfl (by decide) fl_6_22 rfl (v := (h 38 3)) rfl ?_
  refine AW.icmp_ge (tgt := 112) (pc := 21) dX6_findMoves_21 rfl (fun q => ?_) (fun q => ?_)
  · skip
    have H_1 := H.1 q
    refine AW.vret (pc := 112) dX6_findMoves_112 rfl ?_
    exact H_1
  · skip
    have H_2 := H.2 q
    refine AW.aload_n (pc := 24) dX6_findMoves_24 rfl ?_
    refine AW.getr (k := 2) (pc := 25) dX6_findMoves_25 ac_6 sh_38 rfl (by decide) fl_6_19 ?_
    refine AW.iload_n (pc := 28) dX6_findMoves_28 rfl ?_
    refine AW.iald (pc := 29) dX6_findMoves_29 sh_40 (H_2.1) (v := (h 40 l2)) rfl ?_
    refine AW.istore_n (pc := 30) dX6_findMoves_30 (by decide) rfl ?_
    refine AW.aload_n (pc := 31) dX6_findMoves_31 rfl ?_
    refine AW.getr (k := 2) (pc := 32) dX6_findMoves_32 ac_6 sh_38 rfl (by decide) fl_6_19 ?_
    refine AW.iload_n (pc := 35) dX6_findMoves_35 rfl ?_
    refine AW.iconst (pc := 36) dX6_findMoves_36 ⟨by decide, by decide⟩ ?_
    refine AW.iadd (pc := 37) dX6_findMoves_37 (H_2.2.1) ?_
    refine AW.iald (pc := 38) dX6_findMoves_38 sh_40 (H_2.2.2.1) (v := (h 40 (l2 + 1))) rfl ?_
    refine AW.istore (pc := 39) dX6_findMoves_39 (by decide) rfl ?_
    refine AW.iload_n (pc := 41) dX6_findMoves_41 rfl ?_
    refine AW.if_le (tgt := 53) (pc := 42) dX6_findMoves_42 rfl (fun q => ?_) (fun q => ?_)
    · skip
      have H_3 := H_2.2.2.2.1 q
      refine AW.iload_n (pc := 53) dX6_findMoves_53 rfl ?_
      have K_4 : AW mX6_findMoves 1 70 [some (aR 38), some (aR 3), some (aI l2), some (aI (h 40 l2)), some (aI (h 40 (l2 + 1))), none] [aI (if l2 ≤ 0 then (0 : Int) else (if ((h 40 (l2 + 1)) - (h 40 l2)) = 2 then (1 : Int) else (0 : Int)))] h Q := by
        have H_5 := H_3.2
        refine AW.istore (pc := 70) dX6_findMoves_70 (by decide) rfl ?_
        refine AW.iload_n (pc := 72) dX6_findMoves_72 rfl ?_
        refine AW.aload_n (pc := 73) dX6_findMoves_73 rfl ?_
        refine AW.geti' (k := 3) (j := 3) (pc := 74) dX6_findMoves_74 ac_6 sh_38 rfl (by decide) fl_6_22 rfl (v := (h 38 3)) rfl ?_
        refine AW.iconst (pc := 77) dX6_findMoves_77 ⟨by decide, by decide⟩ ?_
        refine AW.isub (pc := 78) dX6_findMoves_78 (H_5.1) ?_
        refine AW.icmp_ge (tgt := 106) (pc := 79) dX6_findMoves_79 rfl (fun q => ?_) (fun q => ?_)
        · skip
          have H_7 := H_5.2.1 q
          refine AW.iinc (pc := 106) dX6_findMoves_106 rfl (by decide) rfl (H_2.2.1) ?_
          refine AW.goto (tgt := 16) (pc := 109) dX6_findMoves_109 rfl ?_
          refine AW.mask [true, true, true, false, false, false] ?_
          exact H_7
        · skip
          have H_8 := H_5.2.2 q
          refine AW.iload (pc := 82) dX6_findMoves_82 rfl ?_
          refine AW.iconst (pc := 84) dX6_findMoves_84 ⟨by decide, by decide⟩ ?_
          refine AW.isub (pc := 85) dX6_findMoves_85 (H_8.1) ?_
          refine AW.iload_n (pc := 86) dX6_findMoves_86 rfl ?_
          refine AW.icmp_lt (tgt := 106) (pc := 87) dX6_findMoves_87 rfl (fun q => ?_) (fun q => ?_)
          · skip
            have H_9 := H_8.2.1 q
            refine AW.iinc (pc := 106) dX6_findMoves_106 rfl (by decide) rfl (H_2.2.1) ?_
            refine AW.goto (tgt := 16) (pc := 109) dX6_findMoves_109 rfl ?_
            refine AW.mask [true, true, true, false, false, false] ?_
            exact H_9
          · skip
            have H_10 := H_8.2.2 q
            refine AW.iload (pc := 90) dX6_findMoves_90 rfl ?_
            refine AW.if_ne (tgt := 106) (pc := 92) dX6_findMoves_92 rfl (fun q => ?_) (fun q => ?_)
            · skip
              have H_11 := H_10.2 q
              refine AW.iinc (pc := 106) dX6_findMoves_106 rfl (by decide) rfl (H_2.2.1) ?_
              refine AW.goto (tgt := 16) (pc := 109) dX6_findMoves_109 rfl ?_
              refine AW.mask [true, true, true, false, false, false] ?_
              exact H_11
            · have q := Decidable.not_not.mp q
              have H_12 := H_10.1 q
              refine AW.aload_n (pc := 95) dX6_findMoves_95 rfl ?_
              refine AW.aload_n (pc := 96) dX6_findMoves_96 rfl ?_
              refine AW.iload (pc := 97) dX6_findMoves_97 rfl ?_
              refine AW.iconst (pc := 99) dX6_findMoves_99 ⟨by decide, by decide⟩ ?_
              refine AW.isub (pc := 100) dX6_findMoves_100 (H_8.1) ?_
              refine AW.iload (pc := 101) dX6_findMoves_101 rfl ?_
              refine AW.callVv (M' := mX6_addMove) (F' := 0) (as := [aR 3, aI ((h 40 (l2 + 1)) - 2), aI (h 40 (l2 + 1))]) (pc := 103) dX6_findMoves_103 (by decide) kX6_addMove ml_6_84 ob_38 rfl npX6_addMove (Nat.le_of_ble_eq_true rfl) (aRun.mono (fun r1 h2 H_13 => ?_) H_12)
              refine AW.iinc (pc := 106) dX6_findMoves_106 rfl (by decide) rfl (H_2.2.1) ?_
              refine AW.goto (tgt := 16) (pc := 109) dX6_findMoves_109 rfl ?_
              refine AW.mask [true, true, true, false, false, false] ?_
              exact H_13
      have H_6 := H_3.1
      refine AW.if_le (tgt := 69) (pc := 54) dX6_findMoves_54 rfl (fun q => ?_) (fun q => ?_)
      · skip
        rw [if_pos q] at K_4
        refine AW.iconst (pc := 69) dX6_findMoves_69 ⟨by decide, by decide⟩ ?_
        exact K_4
      · skip
        have H_15 := H_6 q
        rw [if_neg q] at K_4
        refine AW.iload (pc := 57) dX6_findMoves_57 rfl ?_
        refine AW.iload_n (pc := 59) dX6_findMoves_59 rfl ?_
        refine AW.isub (pc := 60) dX6_findMoves_60 H_15 ?_
        refine AW.iconst (pc := 61) dX6_findMoves_61 ⟨by decide, by decide⟩ ?_
        refine AW.icmp_ne (tgt := 69) (pc := 62) dX6_findMoves_62 rfl (fun q => ?_) (fun q => ?_)
        · skip
          rw [if_neg q] at K_4
          refine AW.iconst (pc := 69) dX6_findMoves_69 ⟨by decide, by decide⟩ ?_
          exact K_4
        · have q := Decidable.not_not.mp q
          rw [if_pos q] at K_4
          refine AW.iconst (pc := 65) dX6_findMoves_65 ⟨by decide, by decide⟩ ?_
          refine AW.goto (tgt := 70) (pc := 66) dX6_findMoves_66 rfl ?_
          exact K_4
    · skip
      have H_18 := H_2.2.2.2.2 q
      refine AW.aload_n (pc := 45) dX6_findMoves_45 rfl ?_
      refine AW.aload_n (pc := 46) dX6_findMoves_46 rfl ?_
      refine AW.iload_n (pc := 47) dX6_findMoves_47 rfl ?_
      refine AW.iload (pc := 48) dX6_findMoves_48 rfl ?_
      refine AW.callVv (M' := mX6_addMove) (F' := 0) (as := [aR 3, aI (h 40 l2), aI (h 40 (l2 + 1))]) (pc := 50) dX6_findMoves_50 (by decide) kX6_addMove ml_6_84 ob_38 rfl npX6_addMove (Nat.le_of_ble_eq_true rfl) (aRun.mono (fun r3 h4 H_19 => ?_) H_18)
      refine AW.iload_n (pc := 53) dX6_findMoves_53 rfl ?_
      have K_20 : AW mX6_findMoves 1 70 [some (aR 38), some (aR 3), some (aI l2), some (aI (h 40 l2)), some (aI (h 40 (l2 + 1))), none] [aI (if l2 ≤ 0 then (0 : Int) else (if ((h 40 (l2 + 1)) - (h 40 l2)) = 2 then (1 : Int) else (0 : Int)))] h4 Q := by
        have H_21 := H_19.2
        refine AW.istore (pc := 70) dX6_findMoves_70 (by decide) rfl ?_
        refine AW.iload_n (pc := 72) dX6_findMoves_72 rfl ?_
        refine AW.aload_n (pc := 73) dX6_findMoves_73 rfl ?_
        refine AW.geti' (k := 3) (j := 3) (pc := 74) dX6_findMoves_74 ac_6 sh_38 rfl (by decide) fl_6_22 rfl (v := (h4 38 3)) rfl ?_
        refine AW.iconst (pc := 77) dX6_findMoves_77 ⟨by decide, by decide⟩ ?_
        refine AW.isub (pc := 78) dX6_findMoves_78 (H_21.1) ?_
        refine AW.icmp_ge (tgt := 106) (pc := 79) dX6_findMoves_79 rfl (fun q => ?_) (fun q => ?_)
        · skip
          have H_23 := H_21.2.1 q
          refine AW.iinc (pc := 106) dX6_findMoves_106 rfl (by decide) rfl (H_2.2.1) ?_
          refine AW.goto (tgt := 16) (pc := 109) dX6_findMoves_109 rfl ?_
          refine AW.mask [true, true, true, false, false, false] ?_
          exact H_23
        · skip
          have H_24 := H_21.2.2 q
          refine AW.iload (pc := 82) dX6_findMoves_82 rfl ?_
          refine AW.iconst (pc := 84) dX6_findMoves_84 ⟨by decide, by decide⟩ ?_
          refine AW.isub (pc := 85) dX6_findMoves_85 (H_24.1) ?_
          refine AW.iload_n (pc := 86) dX6_findMoves_86 rfl ?_
          refine AW.icmp_lt (tgt := 106) (pc := 87) dX6_findMoves_87 rfl (fun q => ?_) (fun q => ?_)
          · skip
            have H_25 := H_24.2.1 q
            refine AW.iinc (pc := 106) dX6_findMoves_106 rfl (by decide) rfl (H_2.2.1) ?_
            refine AW.goto (tgt := 16) (pc := 109) dX6_findMoves_109 rfl ?_
            refine AW.mask [true, true, true, false, false, false] ?_
            exact H_25
          · skip
            have H_26 := H_24.2.2 q
            refine AW.iload (pc := 90) dX6_findMoves_90 rfl ?_
            refine AW.if_ne (tgt := 106) (pc := 92) dX6_findMoves_92 rfl (fun q => ?_) (fun q => ?_)
            · skip
              have H_27 := H_26.2 q
              refine AW.iinc (pc := 106) dX6_findMoves_106 rfl (by decide) rfl (H_2.2.1) ?_
              refine AW.goto (tgt := 16) (pc := 109) dX6_findMoves_109 rfl ?_
              refine AW.mask [true, true, true, false, false, false] ?_
              exact H_27
            · have q := Decidable.not_not.mp q
              have H_28 := H_26.1 q
              refine AW.aload_n (pc := 95) dX6_findMoves_95 rfl ?_
              refine AW.aload_n (pc := 96) dX6_findMoves_96 rfl ?_
              refine AW.iload (pc := 97) dX6_findMoves_97 rfl ?_
              refine AW.iconst (pc := 99) dX6_findMoves_99 ⟨by decide, by decide⟩ ?_
              refine AW.isub (pc := 100) dX6_findMoves_100 (H_24.1) ?_
              refine AW.iload (pc := 101) dX6_findMoves_101 rfl ?_
              refine AW.callVv (M' := mX6_addMove) (F' := 0) (as := [aR 3, aI ((h 40 (l2 + 1)) - 2), aI (h 40 (l2 + 1))]) (pc := 103) dX6_findMoves_103 (by decide) kX6_addMove ml_6_84 ob_38 rfl npX6_addMove (Nat.le_of_ble_eq_true rfl) (aRun.mono (fun r5 h6 H_29 => ?_) H_28)
              refine AW.iinc (pc := 106) dX6_findMoves_106 rfl (by decide) rfl (H_2.2.1) ?_
              refine AW.goto (tgt := 16) (pc := 109) dX6_findMoves_109 rfl ?_
              refine AW.mask [true, true, true, false, false, false] ?_
              exact H_29
      have H_22 := H_19.1
      refine AW.if_le (tgt := 69) (pc := 54) dX6_findMoves_54 rfl (fun q => ?_) (fun q => ?_)
      · skip
        rw [if_pos q] at K_20
        refine AW.iconst (pc := 69) dX6_findMoves_69 ⟨by decide, by decide⟩ ?_
        exact K_20
      · skip
        have H_31 := H_22 q
        rw [if_neg q] at K_20
        refine AW.iload (pc := 57) dX6_findMoves_57 rfl ?_
        refine AW.iload_n (pc := 59) dX6_findMoves_59 rfl ?_
        refine AW.isub (pc := 60) dX6_findMoves_60 H_31 ?_
        refine AW.iconst (pc := 61) dX6_findMoves_61 ⟨by decide, by decide⟩ ?_
        refine AW.icmp_ne (tgt := 69) (pc := 62) dX6_findMoves_62 rfl (fun q => ?_) (fun q => ?_)
        · skip
          rw [if_neg q] at K_20
          refine AW.iconst (pc := 69) dX6_findMoves_69 ⟨by decide, by decide⟩ ?_
          exact K_20
        · have q := Decidable.not_not.mp q
          rw [if_pos q] at K_20
          refine AW.iconst (pc := 65) dX6_findMoves_65 ⟨by decide, by decide⟩ ?_
          refine AW.goto (tgt := 70) (pc := 66) dX6_findMoves_66 rfl ?_
          exact K_20
