set_option maxRecDepth 100000 in
set_option maxHeartbeats 4000000 in
theorem e_X8_queueFree {x : Nat} (hx : isT x) {h : aH} {Q : aQ} (H : AW mX8_queueFree 1 7 [some (aR x), some (aR 3), some (aI 0)] [] (a_up h x 8 0) Q) : aRun mX8_queueFree 1 [aR x, aR 3] h Q := by
  refine aRun.of pn_8 rfl (Nat.le_of_ble_eq_true rfl) ?_
  show AW mX8_queueFree 1 0 [some (aR x), some (aR 3), none] [] h Q
  refine AW.aload_n (pc := 0) dX8_queueFree_0 rfl ?_
  refine AW.iconst (pc := 1) dX8_queueFree_1 ⟨by decide, by decide⟩ ?_
  refine AW.puti' (k := 8) (j := 8) (pc := 2) dX8_queueFree_2 ac_8 (sh_isT hx) rfl (by decide) fl_8_36 rfl rfl (tyX8_ok 8 (by decide)) (Or.inl rfl) ?_
  refine AW.iconst (pc := 5) dX8_queueFree_5 ⟨by decide, by decide⟩ ?_
  refine AW.istore_n (pc := 6) dX8_queueFree_6 (by decide) rfl ?_
  exact H
set_option maxRecDepth 100000 in
set_option maxHeartbeats 4000000 in
theorem s_X8_queueFree_7 {x : Nat} (hx : isT x) {l2 : Int} {h : aH} {Q : aQ} (H : (((h 3 1) ≤ l2 → Q 0 h) ∧ (¬ ((h 3 1) ≤ l2) → (0 ≤ l2 ∧ l2 < 24) ∧ o_X5_jobAhead (a_up h (x + 4) l2 0) 3 l2 ∧ inR ((if (f_X5_jobAhead (a_up h (x + 4) l2 0) 3 l2) = (-1) then (0 : Int) else (1 : Int)) + (if (h (x + 2) l2) = (-1) then (0 : Int) else (1 : Int))) ∧ ((((if (f_X5_jobAhead (a_up h (x + 4) l2 0) 3 l2) = (-1) then (0 : Int) else (1 : Int)) + (if (h (x + 2) l2) = (-1) then (0 : Int) else (1 : Int))) = 0 → (0 ≤ (h x 8) ∧ (h x 8) < 24) ∧ inR ((h x 8) + 1) ∧ inR (l2 + 1) ∧ AW mX8_queueFree 1 7 [some (aR x), some (aR 3), some (aI (l2 + 1))] [] (a_up (a_up (a_up (a_up h (x + 4) l2 0) (x + 7) l2 ((if (f_X5_jobAhead (a_up h (x + 4) l2 0) 3 l2) = (-1) then (0 : Int) else (1 : Int)) + (if (h (x + 2) l2) = (-1) then (0 : Int) else (1 : Int)))) (x + 8) (h x 8) l2) x 8 ((h x 8) + 1)) Q) ∧ (¬ (((if (f_X5_jobAhead (a_up h (x + 4) l2 0) 3 l2) = (-1) then (0 : Int) else (1 : Int)) + (if (h (x + 2) l2) = (-1) then (0 : Int) else (1 : Int))) = 0) → inR (l2 + 1) ∧ AW mX8_queueFree 1 7 [some (aR x), some (aR 3), some (aI (l2 + 1))] [] (a_up (a_up h (x + 4) l2 0) (x + 7) l2 ((if (f_X5_jobAhead (a_up h (x + 4) l2 0) 3 l2) = (-1) then (0 : Int) else (1 : Int)) + (if (h (x + 2) l2) = (-1) then (0 : Int) else (1 : Int)))) Q))))) : AW mX8_queueFree 1 7 [some (aR x), some (aR 3), some (aI l2)] [] h Q := by
  refine AW.iload_n (pc := 7) dX8_queueFree_7 rfl ?_
  refine AW.aload_n (pc := 8) dX8_queueFree_8 rfl ?_
  refine AW.geti' (k := 1) (j := 1) (pc := 9) dX8_queueFree_9 ac_5 sh_3 rfl (by decide) fl_8_55 rfl (v := (h 3 1)) rfl ?_
  refine AW.icmp_ge (tgt := 93) (pc := 12) dX8_queueFree_12 rfl (fun q => ?_) (fun q => ?_)
  · skip
    have H_1 := H.1 q
    refine AW.vret (pc := 93) dX8_queueFree_93 rfl ?_
    exact H_1
  · skip
    have H_2 := H.2 q
    refine AW.aload_n (pc := 15) dX8_queueFree_15 rfl ?_
    refine AW.getr (k := 3) (pc := 16) dX8_queueFree_16 ac_8 (sh_isT hx) rfl (by decide) fl_8_21 ?_
    refine AW.iload_n (pc := 19) dX8_queueFree_19 rfl ?_
    refine AW.iconst (pc := 20) dX8_queueFree_20 ⟨by decide, by decide⟩ ?_
    refine AW.iast (pc := 21) dX8_queueFree_21 (sh_isT_4 hx) (H_2.1) ?_
    refine AW.aload_n (pc := 22) dX8_queueFree_22 rfl ?_
    refine AW.getr (k := 6) (pc := 23) dX8_queueFree_23 ac_8 (sh_isT hx) rfl (by decide) fl_8_30 ?_
    refine AW.iload_n (pc := 26) dX8_queueFree_26 rfl ?_
    refine AW.aload_n (pc := 27) dX8_queueFree_27 rfl ?_
    refine AW.iload_n (pc := 28) dX8_queueFree_28 rfl ?_
    refine AW.callVi (M' := mX5_jobAhead) (F' := 0) (as := [aI l2]) (pc := 29) dX8_queueFree_29 (by decide) kX5_jobAhead ml_8_80 ob_3 rfl npX5_jobAhead (Nat.le_of_ble_eq_true rfl) (p_X5_jobAhead (Or.inl rfl) (H_2.2.1) ?_)
    refine AW.iconst (pc := 32) dX8_queueFree_32 ⟨by decide, by decide⟩ ?_
    have K_3 : AW mX8_queueFree 1 41 [some (aR x), some (aR 3), some (aI l2)] [aI (if (f_X5_jobAhead (a_up h (x + 4) l2 0) 3 l2) = (-1) then (0 : Int) else (1 : Int)), aI l2, aR (x + 7)] (a_up h (x + 4) l2 0) Q := by
      have H_4 := H_2.2.2
      refine AW.aload_n (pc := 41) dX8_queueFree_41 rfl ?_
      refine AW.getr (k := 1) (pc := 42) dX8_queueFree_42 ac_8 (sh_isT hx) rfl (by decide) fl_8_15 ?_
      refine AW.iload_n (pc := 45) dX8_queueFree_45 rfl ?_
      refine AW.iald (pc := 46) dX8_queueFree_46 (sh_isT_2 hx) (H_2.1) (v := (h (x + 2) l2)) (by rw [a_up_ne (by omega)]) ?_
      refine AW.iconst (pc := 47) dX8_queueFree_47 ⟨by decide, by decide⟩ ?_
      have K_6 : AW mX8_queueFree 1 56 [some (aR x), some (aR 3), some (aI l2)] [aI (if (h (x + 2) l2) = (-1) then (0 : Int) else (1 : Int)), aI (if (f_X5_jobAhead (a_up h (x + 4) l2 0) 3 l2) = (-1) then (0 : Int) else (1 : Int)), aI l2, aR (x + 7)] (a_up h (x + 4) l2 0) Q := by
        have H_7 := H_4
        refine AW.iadd (pc := 56) dX8_queueFree_56 (H_7.1) ?_
        refine AW.iast (pc := 57) dX8_queueFree_57 (sh_isT_7 hx) (H_2.1) ?_
        refine AW.aload_n (pc := 58) dX8_queueFree_58 rfl ?_
        refine AW.getr (k := 6) (pc := 59) dX8_queueFree_59 ac_8 (sh_isT hx) rfl (by decide) fl_8_30 ?_
        refine AW.iload_n (pc := 62) dX8_queueFree_62 rfl ?_
        refine AW.iald (pc := 63) dX8_queueFree_63 (sh_isT_7 hx) (H_2.1) (v := ((if (f_X5_jobAhead (a_up h (x + 4) l2 0) 3 l2) = (-1) then (0 : Int) else (1 : Int)) + (if (h (x + 2) l2) = (-1) then (0 : Int) else (1 : Int)))) (by rw [a_up_eq]) ?_
        refine AW.if_ne (tgt := 87) (pc := 64) dX8_queueFree_64 rfl (fun q => ?_) (fun q => ?_)
        · skip
          have H_9 := H_7.2.2 q
          refine AW.iinc (pc := 87) dX8_queueFree_87 rfl (by decide) rfl (H_9.1) ?_
          refine AW.goto (tgt := 7) (pc := 90) dX8_queueFree_90 rfl ?_
          exact H_9.2
        · have q := Decidable.not_not.mp q
          have H_10 := H_7.2.1 q
          refine AW.aload_n (pc := 67) dX8_queueFree_67 rfl ?_
          refine AW.getr (k := 7) (pc := 68) dX8_queueFree_68 ac_8 (sh_isT hx) rfl (by decide) fl_8_33 ?_
          refine AW.aload_n (pc := 71) dX8_queueFree_71 rfl ?_
          refine AW.geti' (k := 8) (j := 8) (pc := 72) dX8_queueFree_72 ac_8 (sh_isT hx) rfl (by decide) fl_8_36 rfl (v := (h x 8)) (by rw [a_up_ne (by omega), a_up_ne (by omega)]) ?_
          refine AW.iload_n (pc := 75) dX8_queueFree_75 rfl ?_
          refine AW.iast (pc := 76) dX8_queueFree_76 (sh_isT_8 hx) (H_10.1) ?_
          refine AW.aload_n (pc := 77) dX8_queueFree_77 rfl ?_
          refine AW.dup (pc := 78) dX8_queueFree_78 rfl ?_
          refine AW.geti' (k := 8) (j := 8) (pc := 79) dX8_queueFree_79 ac_8 (sh_isT hx) rfl (by decide) fl_8_36 rfl (v := (h x 8)) (by rw [a_up_ne (by omega), a_up_ne (by omega), a_up_ne (by omega)]) ?_
          refine AW.iconst (pc := 82) dX8_queueFree_82 ⟨by decide, by decide⟩ ?_
          refine AW.iadd (pc := 83) dX8_queueFree_83 (H_10.2.1) ?_
          refine AW.puti' (k := 8) (j := 8) (pc := 84) dX8_queueFree_84 ac_8 (sh_isT hx) rfl (by decide) fl_8_36 rfl rfl (tyX8_ok 8 (by decide)) (Or.inl rfl) ?_
          refine AW.iinc (pc := 87) dX8_queueFree_87 rfl (by decide) rfl (H_10.2.2.1) ?_
          refine AW.goto (tgt := 7) (pc := 90) dX8_queueFree_90 rfl ?_
          exact H_10.2.2.2
      refine AW.icmp_eq (tgt := 55) (pc := 48) dX8_queueFree_48 rfl (fun q => ?_) (fun q => ?_)
      · skip
        rw [if_pos q] at K_6
        refine AW.iconst (pc := 55) dX8_queueFree_55 ⟨by decide, by decide⟩ ?_
        exact K_6
      · skip
        rw [if_neg q] at K_6
        refine AW.iconst (pc := 51) dX8_queueFree_51 ⟨by decide, by decide⟩ ?_
        refine AW.goto (tgt := 56) (pc := 52) dX8_queueFree_52 rfl ?_
        exact K_6
    refine AW.icmp_eq (tgt := 40) (pc := 33) dX8_queueFree_33 rfl (fun q => ?_) (fun q => ?_)
    · skip
      rw [if_pos q] at K_3
      refine AW.iconst (pc := 40) dX8_queueFree_40 ⟨by decide, by decide⟩ ?_
      exact K_3
    · skip
      rw [if_neg q] at K_3
      refine AW.iconst (pc := 36) dX8_queueFree_36 ⟨by decide, by decide⟩ ?_
      refine AW.goto (tgt := 41) (pc := 37) dX8_queueFree_37 rfl ?_
      exact K_3
set_option maxRecDepth 100000 in
set_option maxHeartbeats 4000000 in
theorem e_X8_release {x : Nat} (hx : isT x) {a1 a2 : Int} {h : aH} {Q : aQ} (H : ((a1 = (-1) → Q 0 h) ∧ (¬ (a1 = (-1)) → (0 ≤ a1 ∧ a1 < 24) ∧ inR ((h (x + 7) a1) - 1) ∧ ((((h (x + 7) a1) - 1) = 0 → ((24 ≤ (h x 8) → Q 0 (a_up (a_up h (x + 4) a1 (max (h (x + 4) a1) a2)) (x + 7) a1 ((h (x + 7) a1) - 1))) ∧ (¬ (24 ≤ (h x 8)) → (0 ≤ (h x 8) ∧ (h x 8) < 24) ∧ inR ((h x 8) + 1) ∧ Q 0 (a_up (a_up (a_up (a_up h (x + 4) a1 (max (h (x + 4) a1) a2)) (x + 7) a1 ((h (x + 7) a1) - 1)) (x + 8) (h x 8) a1) x 8 ((h x 8) + 1))))) ∧ (¬ (((h (x + 7) a1) - 1) = 0) → Q 0 (a_up (a_up h (x + 4) a1 (max (h (x + 4) a1) a2)) (x + 7) a1 ((h (x + 7) a1) - 1))))))) : aRun mX8_release 1 [aR x, aI a1, aI a2] h Q := by
  refine aRun.of pn_8 rfl (Nat.le_of_ble_eq_true rfl) ?_
  show AW mX8_release 1 0 [some (aR x), some (aI a1), some (aI a2)] [] h Q
  refine AW.iload_n (pc := 0) dX8_release_0 rfl ?_
  refine AW.iconst (pc := 1) dX8_release_1 ⟨by decide, by decide⟩ ?_
  refine AW.icmp_ne (tgt := 6) (pc := 2) dX8_release_2 rfl (fun q => ?_) (fun q => ?_)
  · skip
    have H_1 := H.2 q
    refine AW.aload_n (pc := 6) dX8_release_6 rfl ?_
    refine AW.getr (k := 3) (pc := 7) dX8_release_7 ac_8 (sh_isT hx) rfl (by decide) fl_8_21 ?_
    refine AW.iload_n (pc := 10) dX8_release_10 rfl ?_
    refine AW.aload_n (pc := 11) dX8_release_11 rfl ?_
    refine AW.getr (k := 3) (pc := 12) dX8_release_12 ac_8 (sh_isT hx) rfl (by decide) fl_8_21 ?_
    refine AW.iload_n (pc := 15) dX8_release_15 rfl ?_
    refine AW.iald (pc := 16) dX8_release_16 (sh_isT_4 hx) (H_1.1) (v := (h (x + 4) a1)) rfl ?_
    refine AW.iload_n (pc := 17) dX8_release_17 rfl ?_
    refine AW.mmax (pc := 18) dX8_release_18 (by decide) ml_8_63 (Nat.le_of_ble_eq_true rfl) ?_
    refine AW.iast (pc := 21) dX8_release_21 (sh_isT_4 hx) (H_1.1) ?_
    refine AW.aload_n (pc := 22) dX8_release_22 rfl ?_
    refine AW.getr (k := 6) (pc := 23) dX8_release_23 ac_8 (sh_isT hx) rfl (by decide) fl_8_30 ?_
    refine AW.iload_n (pc := 26) dX8_release_26 rfl ?_
    refine AW.dup2 (pc := 27) dX8_release_27 rfl rfl ?_
    refine AW.iald (pc := 28) dX8_release_28 (sh_isT_7 hx) (H_1.1) (v := (h (x + 7) a1)) (by rw [a_up_ne (by omega)]) ?_
    refine AW.iconst (pc := 29) dX8_release_29 ⟨by decide, by decide⟩ ?_
    refine AW.isub (pc := 30) dX8_release_30 (H_1.2.1) ?_
    refine AW.iast (pc := 31) dX8_release_31 (sh_isT_7 hx) (H_1.1) ?_
    refine AW.aload_n (pc := 32) dX8_release_32 rfl ?_
    refine AW.getr (k := 6) (pc := 33) dX8_release_33 ac_8 (sh_isT hx) rfl (by decide) fl_8_30 ?_
    refine AW.iload_n (pc := 36) dX8_release_36 rfl ?_
    refine AW.iald (pc := 37) dX8_release_37 (sh_isT_7 hx) (H_1.1) (v := ((h (x + 7) a1) - 1)) (by rw [a_up_eq]) ?_
    refine AW.if_ne (tgt := 70) (pc := 38) dX8_release_38 rfl (fun q => ?_) (fun q => ?_)
    · skip
      have H_2 := H_1.2.2.2 q
      refine AW.vret (pc := 70) dX8_release_70 rfl ?_
      exact H_2
    · have q := Decidable.not_not.mp q
      have H_3 := H_1.2.2.1 q
      refine AW.aload_n (pc := 41) dX8_release_41 rfl ?_
      refine AW.geti' (k := 8) (j := 8) (pc := 42) dX8_release_42 ac_8 (sh_isT hx) rfl (by decide) fl_8_36 rfl (v := (h x 8)) (by rw [a_up_ne (by omega), a_up_ne (by omega)]) ?_
      refine AW.bipush (pc := 45) dX8_release_45 rfl ⟨by decide, by decide⟩ ?_
      refine AW.icmp_ge (tgt := 70) (pc := 47) dX8_release_47 rfl (fun q => ?_) (fun q => ?_)
      · skip
        have H_4 := H_3.1 q
        refine AW.vret (pc := 70) dX8_release_70 rfl ?_
        exact H_4
      · skip
        have H_5 := H_3.2 q
        refine AW.aload_n (pc := 50) dX8_release_50 rfl ?_
        refine AW.getr (k := 7) (pc := 51) dX8_release_51 ac_8 (sh_isT hx) rfl (by decide) fl_8_33 ?_
        refine AW.aload_n (pc := 54) dX8_release_54 rfl ?_
        refine AW.geti' (k := 8) (j := 8) (pc := 55) dX8_release_55 ac_8 (sh_isT hx) rfl (by decide) fl_8_36 rfl (v := (h x 8)) (by rw [a_up_ne (by omega), a_up_ne (by omega)]) ?_
        refine AW.iload_n (pc := 58) dX8_release_58 rfl ?_
        refine AW.iast (pc := 59) dX8_release_59 (sh_isT_8 hx) (H_5.1) ?_
        refine AW.aload_n (pc := 60) dX8_release_60 rfl ?_
        refine AW.dup (pc := 61) dX8_release_61 rfl ?_
        refine AW.geti' (k := 8) (j := 8) (pc := 62) dX8_release_62 ac_8 (sh_isT hx) rfl (by decide) fl_8_36 rfl (v := (h x 8)) (by rw [a_up_ne (by omega), a_up_ne (by omega), a_up_ne (by omega)]) ?_
        refine AW.iconst (pc := 65) dX8_release_65 ⟨by decide, by decide⟩ ?_
        refine AW.iadd (pc := 66) dX8_release_66 (H_5.2.1) ?_
        refine AW.puti' (k := 8) (j := 8) (pc := 67) dX8_release_67 ac_8 (sh_isT hx) rfl (by decide) fl_8_36 rfl rfl (tyX8_ok 8 (by decide)) (Or.inl rfl) ?_
        refine AW.vret (pc := 70) dX8_release_70 rfl ?_
        exact H_5.2.2
  · have q := Decidable.not_not.mp q
    have H_6 := H.1 q
    refine AW.vret (pc := 5) dX8_release_5 rfl ?_
    exact H_6
set_option maxRecDepth 100000 in
set_option maxHeartbeats 4000000 in
theorem e_X8_lay {x : Nat} (hx : isT x) {r : Nat} (hr : isRow r) {h : aH} {Q : aQ} (H : aRun mX8_link 0 [aR x, aR 3, aR r] h (fun r1 h2 => aRun mX8_queueFree 1 [aR x, aR 3] h2 (fun r3 h4 => AW mX8_lay 2 23 [some (aR x), some (aR 3), none, some (aI 0), none, none] [] (a_up (a_up h4 x 9 0) x 10 0) Q))) : aRun mX8_lay 2 [aR x, aR 3, aR r] h Q := by
  refine aRun.of pn_8 rfl (Nat.le_of_ble_eq_true rfl) ?_
  show AW mX8_lay 2 0 [some (aR x), some (aR 3), some (aR r), none, none, none] [] h Q
  refine AW.aload_n (pc := 0) dX8_lay_0 rfl ?_
  refine AW.aload_n (pc := 1) dX8_lay_1 rfl ?_
  refine AW.aload_n (pc := 2) dX8_lay_2 rfl ?_
  refine AW.callVv (M' := mX8_link) (F' := 0) (as := [aR 3, aR r]) (pc := 3) dX8_lay_3 (by decide) kX8_link ml_8_47 (ob_isT hx) rfl npX8_link (Nat.le_of_ble_eq_true rfl) (aRun.mono (fun r1 h2 H_1 => ?_) H)
  refine AW.aload_n (pc := 6) dX8_lay_6 rfl ?_
  refine AW.aload_n (pc := 7) dX8_lay_7 rfl ?_
  refine AW.callVv (M' := mX8_queueFree) (F' := 1) (as := [aR 3]) (pc := 8) dX8_lay_8 (by decide) kX8_queueFree ml_8_51 (ob_isT hx) rfl npX8_queueFree (Nat.le_of_ble_eq_true rfl) (aRun.mono (fun r3 h4 H_2 => ?_) H_1)
  refine AW.aload_n (pc := 11) dX8_lay_11 rfl ?_
  refine AW.iconst (pc := 12) dX8_lay_12 ⟨by decide, by decide⟩ ?_
  refine AW.puti' (k := 9) (j := 9) (pc := 13) dX8_lay_13 ac_8 (sh_isT hx) rfl (by decide) fl_8_40 rfl rfl (tyX8_ok 9 (by decide)) (Or.inl rfl) ?_
  refine AW.aload_n (pc := 16) dX8_lay_16 rfl ?_
  refine AW.iconst (pc := 17) dX8_lay_17 ⟨by decide, by decide⟩ ?_
  refine AW.puti' (k := 10) (j := 10) (pc := 18) dX8_lay_18 ac_8 (sh_isT hx) rfl (by decide) fl_8_43 rfl rfl (tyX8_ok 10 (by decide)) (Or.inr ⟨rfl, (Or.inl rfl)⟩) ?_
  refine AW.iconst (pc := 21) dX8_lay_21 ⟨by decide, by decide⟩ ?_
  refine AW.istore_n (pc := 22) dX8_lay_22 (by decide) rfl ?_
  refine AW.mask [true, true, false, true, true, true] ?_
  exact H_2
set_option maxRecDepth 100000 in
set_option maxHeartbeats 4000000 in
theorem s_X8_lay_23 {x : Nat} (hx : isT x) {r : Nat} (hr : isRow r) {l3 : Int} {h : aH} {Q : aQ} (H : (((h 3 1) ≤ l3 → Q 0 h) ∧ (¬ ((h 3 1) ≤ l3) → ((l3 < (h x 8) → (0 ≤ l3 ∧ l3 < 24) ∧ (0 ≤ (h (x + 8) l3) ∧ (h (x + 8) l3) < 24) ∧ inR ((h (x + 4) (h (x + 8) l3)) + (h 7 (h (x + 8) l3))) ∧ o_X5_jobNext (a_up h x 9 (max (h x 9) ((h (x + 4) (h (x + 8) l3)) + (h 7 (h (x + 8) l3))))) 3 (h (x + 8) l3) ∧ aRun mX8_release 1 [aR x, aI (f_X5_jobNext (a_up h x 9 (max (h x 9) ((h (x + 4) (h (x + 8) l3)) + (h 7 (h (x + 8) l3))))) 3 (h (x + 8) l3)), aI ((h (x + 4) (h (x + 8) l3)) + (h 7 (h (x + 8) l3)))] (a_up h x 9 (max (h x 9) ((h (x + 4) (h (x + 8) l3)) + (h 7 (h (x + 8) l3))))) (fun r1 h2 => aRun mX8_release 1 [aR x, aI (h2 (x + 3) (h (x + 8) l3)), aI ((h (x + 4) (h (x + 8) l3)) + (h 7 (h (x + 8) l3)))] h2 (fun r3 h4 => inR (l3 + 1) ∧ AW mX8_lay 2 23 [some (aR x), some (aR 3), none, some (aI (l3 + 1)), none, none] [] h4 Q))) ∧ (¬ (l3 < (h x 8)) → Q 0 (a_up h x 10 1)))))) : AW mX8_lay 2 23 [some (aR x), some (aR 3), none, some (aI l3), none, none] [] h Q := by
  refine AW.iload_n (pc := 23) dX8_lay_23 rfl ?_
  refine AW.aload_n (pc := 24) dX8_lay_24 rfl ?_
  refine AW.geti' (k := 1) (j := 1) (pc := 25) dX8_lay_25 ac_5 sh_3 rfl (by decide) fl_8_55 rfl (v := (h 3 1)) rfl ?_
  refine AW.icmp_ge (tgt := 114) (pc := 28) dX8_lay_28 rfl (fun q => ?_) (fun q => ?_)
  · skip
    have H_1 := H.1 q
    refine AW.vret (pc := 114) dX8_lay_114 rfl ?_
    exact H_1
  · skip
    have H_2 := H.2 q
    refine AW.iload_n (pc := 31) dX8_lay_31 rfl ?_
    refine AW.aload_n (pc := 32) dX8_lay_32 rfl ?_
    refine AW.geti' (k := 8) (j := 8) (pc := 33) dX8_lay_33 ac_8 (sh_isT hx) rfl (by decide) fl_8_36 rfl (v := (h x 8)) rfl ?_
    refine AW.icmp_lt (tgt := 45) (pc := 36) dX8_lay_36 rfl (fun q => ?_) (fun q => ?_)
    · skip
      have H_3 := H_2.1 q
      refine AW.aload_n (pc := 45) dX8_lay_45 rfl ?_
      refine AW.getr (k := 7) (pc := 46) dX8_lay_46 ac_8 (sh_isT hx) rfl (by decide) fl_8_33 ?_
      refine AW.iload_n (pc := 49) dX8_lay_49 rfl ?_
      refine AW.iald (pc := 50) dX8_lay_50 (sh_isT_8 hx) (H_3.1) (v := (h (x + 8) l3)) rfl ?_
      refine AW.istore (pc := 51) dX8_lay_51 (by decide) rfl ?_
      refine AW.aload_n (pc := 53) dX8_lay_53 rfl ?_
      refine AW.getr (k := 3) (pc := 54) dX8_lay_54 ac_8 (sh_isT hx) rfl (by decide) fl_8_21 ?_
      refine AW.iload (pc := 57) dX8_lay_57 rfl ?_
      refine AW.iald (pc := 59) dX8_lay_59 (sh_isT_4 hx) (H_3.2.1) (v := (h (x + 4) (h (x + 8) l3))) rfl ?_
      refine AW.aload_n (pc := 60) dX8_lay_60 rfl ?_
      refine AW.getr (k := 5) (pc := 61) dX8_lay_61 ac_5 sh_3 rfl (by decide) fl_8_60 ?_
      refine AW.iload (pc := 64) dX8_lay_64 rfl ?_
      refine AW.iald (pc := 66) dX8_lay_66 sh_7 (H_3.2.1) (v := (h 7 (h (x + 8) l3))) rfl ?_
      refine AW.iadd (pc := 67) dX8_lay_67 (H_3.2.2.1) ?_
      refine AW.istore (pc := 68) dX8_lay_68 (by decide) rfl ?_
      refine AW.aload_n (pc := 70) dX8_lay_70 rfl ?_
      refine AW.aload_n (pc := 71) dX8_lay_71 rfl ?_
      refine AW.geti' (k := 9) (j := 9) (pc := 72) dX8_lay_72 ac_8 (sh_isT hx) rfl (by decide) fl_8_40 rfl (v := (h x 9)) rfl ?_
      refine AW.iload (pc := 75) dX8_lay_75 rfl ?_
      refine AW.mmax (pc := 77) dX8_lay_77 (by decide) ml_8_63 (Nat.le_of_ble_eq_true rfl) ?_
      refine AW.puti' (k := 9) (j := 9) (pc := 80) dX8_lay_80 ac_8 (sh_isT hx) rfl (by decide) fl_8_40 rfl rfl (tyX8_ok 9 (by decide)) (Or.inl rfl) ?_
      refine AW.aload_n (pc := 83) dX8_lay_83 rfl ?_
      refine AW.aload_n (pc := 84) dX8_lay_84 rfl ?_
      refine AW.iload (pc := 85) dX8_lay_85 rfl ?_
      refine AW.callVi (M' := mX5_jobNext) (F' := 0) (as := [aI (h (x + 8) l3)]) (pc := 87) dX8_lay_87 (by decide) kX5_jobNext ml_8_69 ob_3 rfl npX5_jobNext (Nat.le_of_ble_eq_true rfl) (p_X5_jobNext (Or.inl rfl) (H_3.2.2.2.1) ?_)
      refine AW.iload (pc := 90) dX8_lay_90 rfl ?_
      refine AW.callVv (M' := mX8_release) (F' := 1) (as := [aI (f_X5_jobNext (a_up h x 9 (max (h x 9) ((h (x + 4) (h (x + 8) l3)) + (h 7 (h (x + 8) l3))))) 3 (h (x + 8) l3)), aI ((h (x + 4) (h (x + 8) l3)) + (h 7 (h (x + 8) l3)))]) (pc := 92) dX8_lay_92 (by decide) kX8_release ml_8_73 (ob_isT hx) rfl npX8_release (Nat.le_of_ble_eq_true rfl) (aRun.mono (fun r1 h2 H_4 => ?_) H_3.2.2.2.2)
      refine AW.aload_n (pc := 95) dX8_lay_95 rfl ?_
      refine AW.aload_n (pc := 96) dX8_lay_96 rfl ?_
      refine AW.getr (k := 2) (pc := 97) dX8_lay_97 ac_8 (sh_isT hx) rfl (by decide) fl_8_18 ?_
      refine AW.iload (pc := 100) dX8_lay_100 rfl ?_
      refine AW.iald (pc := 102) dX8_lay_102 (sh_isT_3 hx) (H_3.2.1) (v := (h2 (x + 3) (h (x + 8) l3))) rfl ?_
      refine AW.iload (pc := 103) dX8_lay_103 rfl ?_
      refine AW.callVv (M' := mX8_release) (F' := 1) (as := [aI (h2 (x + 3) (h (x + 8) l3)), aI ((h (x + 4) (h (x + 8) l3)) + (h 7 (h (x + 8) l3)))]) (pc := 105) dX8_lay_105 (by decide) kX8_release ml_8_73 (ob_isT hx) rfl npX8_release (Nat.le_of_ble_eq_true rfl) (aRun.mono (fun r3 h4 H_5 => ?_) H_4)
      refine AW.iinc (pc := 108) dX8_lay_108 rfl (by decide) rfl (H_5.1) ?_
      refine AW.goto (tgt := 23) (pc := 111) dX8_lay_111 rfl ?_
      refine AW.mask [true, true, true, true, false, false] ?_
      exact H_5.2
    · skip
      have H_6 := H_2.2 q
      refine AW.aload_n (pc := 39) dX8_lay_39 rfl ?_
      refine AW.iconst (pc := 40) dX8_lay_40 ⟨by decide, by decide⟩ ?_
      refine AW.puti' (k := 10) (j := 10) (pc := 41) dX8_lay_41 ac_8 (sh_isT hx) rfl (by decide) fl_8_43 rfl rfl (tyX8_ok 10 (by decide)) (Or.inr ⟨rfl, (Or.inr rfl)⟩) ?_
      refine AW.vret (pc := 44) dX8_lay_44 rfl ?_
      exact H_6
set_option maxRecDepth 100000 in
set_option maxHeartbeats 4000000 in
theorem e_X2_lookAtAll {a3 : Int} {h : aH} {Q : aQ} (H : aRun mX5_orderByNumbers 0 [aR 3, aR 74] (a_up (a_up h 73 2 0) 73 3 0) (fun r1 h2 => AW mX2_lookAtAll 3 21 [some (aR 73), some (aR 3), some (aR 29), some (aI a3), some (aI 0)] [] h2 Q)) : aRun mX2_lookAtAll 3 [aR 73, aR 3, aR 29, aI a3] h Q := by
  refine aRun.of pn_2 rfl (Nat.le_of_ble_eq_true rfl) ?_
  show AW mX2_lookAtAll 3 0 [some (aR 73), some (aR 3), some (aR 29), some (aI a3), none] [] h Q
  refine AW.aload_n (pc := 0) dX2_lookAtAll_0 rfl ?_
  refine AW.iconst (pc := 1) dX2_lookAtAll_1 ⟨by decide, by decide⟩ ?_
  refine AW.puti' (k := 2) (j := 2) (pc := 2) dX2_lookAtAll_2 ac_2 sh_73 rfl (by decide) fl_2_19 rfl rfl (tyX2_ok 2 (by decide)) (Or.inl rfl) ?_
  refine AW.aload_n (pc := 5) dX2_lookAtAll_5 rfl ?_
  refine AW.iconst (pc := 6) dX2_lookAtAll_6 ⟨by decide, by decide⟩ ?_
  refine AW.puti' (k := 3) (j := 3) (pc := 7) dX2_lookAtAll_7 ac_2 sh_73 rfl (by decide) fl_2_23 rfl rfl (tyX2_ok 3 (by decide)) (Or.inl rfl) ?_
  refine AW.aload_n (pc := 10) dX2_lookAtAll_10 rfl ?_
  refine AW.aload_n (pc := 11) dX2_lookAtAll_11 rfl ?_
  refine AW.getr (k := 0) (pc := 12) dX2_lookAtAll_12 ac_2 sh_73 rfl (by decide) fl_2_9 ?_
  refine AW.callVv (M' := mX5_orderByNumbers) (F' := 0) (as := [aR 74]) (pc := 15) dX2_lookAtAll_15 (by decide) kX5_orderByNumbers ml_2_40 ob_3 rfl npX5_orderByNumbers (Nat.le_of_ble_eq_true rfl) (aRun.mono (fun r1 h2 H_1 => ?_) H)
  refine AW.iconst (pc := 18) dX2_lookAtAll_18 ⟨by decide, by decide⟩ ?_
  refine AW.istore (pc := 19) dX2_lookAtAll_19 (by decide) rfl ?_
  exact H_1
set_option maxRecDepth 100000 in
set_option maxHeartbeats 4000000 in
theorem s_X2_lookAtAll_21  {l3 l4 : Int} {h : aH} {Q : aQ} (H : ((l3 ≤ l4 → Q 0 h) ∧ (¬ (l3 ≤ l4) → aRun mX8_lay 2 [aR 29, aR 3, aR 74] h (fun r1 h2 => (((h2 29 10) = 0 → inR ((h2 73 2) + 1) ∧ aRun mX2_nextOfAll 2 [aR 73, aR 3] (a_up (a_up h2 73 3 (if (h2 73 2) = 0 then (h2 29 9) else (min (h2 73 3) (h2 29 9)))) 73 2 ((h2 73 2) + 1)) (fun r5 h6 => inR (l4 + 1) ∧ AW mX2_lookAtAll 3 21 [some (aR 73), some (aR 3), some (aR 29), some (aI l3), some (aI (l4 + 1))] [] h6 Q)) ∧ (¬ ((h2 29 10) = 0) → aRun mX2_nextOfAll 2 [aR 73, aR 3] h2 (fun r3 h4 => inR (l4 + 1) ∧ AW mX2_lookAtAll 3 21 [some (aR 73), some (aR 3), some (aR 29), some (aI l3), some (aI (l4 + 1))] [] h4 Q))))))) : AW mX2_lookAtAll 3 21 [some (aR 73), some (aR 3), some (aR 29), some (aI l3), some (aI l4)] [] h Q := by
  refine AW.iload (pc := 21) dX2_lookAtAll_21 rfl ?_
  refine AW.iload_n (pc := 23) dX2_lookAtAll_23 rfl ?_
  refine AW.icmp_ge (tgt := 93) (pc := 24) dX2_lookAtAll_24 rfl (fun q => ?_) (fun q => ?_)
  · skip
    have H_1 := H.1 q
    refine AW.vret (pc := 93) dX2_lookAtAll_93 rfl ?_
    exact H_1
  · skip
    have H_2 := H.2 q
    refine AW.aload_n (pc := 27) dX2_lookAtAll_27 rfl ?_
    refine AW.aload_n (pc := 28) dX2_lookAtAll_28 rfl ?_
    refine AW.aload_n (pc := 29) dX2_lookAtAll_29 rfl ?_
    refine AW.getr (k := 0) (pc := 30) dX2_lookAtAll_30 ac_2 sh_73 rfl (by decide) fl_2_9 ?_
    refine AW.callVv (M' := mX8_lay) (F' := 2) (as := [aR 3, aR 74]) (pc := 33) dX2_lookAtAll_33 (by decide) kX8_lay ml_2_44 ob_29 rfl npX8_lay (Nat.le_of_ble_eq_true rfl) (aRun.mono (fun r1 h2 H_3 => ?_) H_2)
    refine AW.aload_n (pc := 36) dX2_lookAtAll_36 rfl ?_
    refine AW.geti' (k := 10) (j := 10) (pc := 37) dX2_lookAtAll_37 ac_8 sh_29 rfl (by decide) fl_2_50 rfl (v := (h2 29 10)) rfl ?_
    refine AW.if_ne (tgt := 82) (pc := 40) dX2_lookAtAll_40 rfl (fun q => ?_) (fun q => ?_)
    · skip
      have H_4 := H_3.2 q
      refine AW.aload_n (pc := 82) dX2_lookAtAll_82 rfl ?_
      refine AW.aload_n (pc := 83) dX2_lookAtAll_83 rfl ?_
      refine AW.callVv (M' := mX2_nextOfAll) (F' := 2) (as := [aR 3]) (pc := 84) dX2_lookAtAll_84 (by decide) kX2_nextOfAll ml_2_62 ob_73 rfl npX2_nextOfAll (Nat.le_of_ble_eq_true rfl) (aRun.mono (fun r3 h4 H_5 => ?_) H_4)
      refine AW.iinc (pc := 87) dX2_lookAtAll_87 rfl (by decide) rfl (H_5.1) ?_
      refine AW.goto (tgt := 21) (pc := 90) dX2_lookAtAll_90 rfl ?_
      exact H_5.2
    · have q := Decidable.not_not.mp q
      have H_6 := H_3.1 q
      refine AW.aload_n (pc := 43) dX2_lookAtAll_43 rfl ?_
      refine AW.aload_n (pc := 44) dX2_lookAtAll_44 rfl ?_
      refine AW.geti' (k := 2) (j := 2) (pc := 45) dX2_lookAtAll_45 ac_2 sh_73 rfl (by decide) fl_2_19 rfl (v := (h2 73 2)) rfl ?_
      have K_7 : AW mX2_lookAtAll 3 69 [some (aR 73), some (aR 3), some (aR 29), some (aI l3), some (aI l4)] [aI (if (h2 73 2) = 0 then (h2 29 9) else (min (h2 73 3) (h2 29 9))), aR 73] h2 Q := by
        have H_8 := H_6
        refine AW.puti' (k := 3) (j := 3) (pc := 69) dX2_lookAtAll_69 ac_2 sh_73 rfl (by decide) fl_2_23 rfl rfl (tyX2_ok 3 (by decide)) (Or.inl rfl) ?_
        refine AW.aload_n (pc := 72) dX2_lookAtAll_72 rfl ?_
        refine AW.dup (pc := 73) dX2_lookAtAll_73 rfl ?_
        refine AW.geti' (k := 2) (j := 2) (pc := 74) dX2_lookAtAll_74 ac_2 sh_73 rfl (by decide) fl_2_19 rfl (v := (h2 73 2)) (by rw [a_up_off (by decide)]) ?_
        refine AW.iconst (pc := 77) dX2_lookAtAll_77 ⟨by decide, by decide⟩ ?_
        refine AW.iadd (pc := 78) dX2_lookAtAll_78 (H_8.1) ?_
        refine AW.puti' (k := 2) (j := 2) (pc := 79) dX2_lookAtAll_79 ac_2 sh_73 rfl (by decide) fl_2_19 rfl rfl (tyX2_ok 2 (by decide)) (Or.inl rfl) ?_
        refine AW.aload_n (pc := 82) dX2_lookAtAll_82 rfl ?_
        refine AW.aload_n (pc := 83) dX2_lookAtAll_83 rfl ?_
        refine AW.callVv (M' := mX2_nextOfAll) (F' := 2) (as := [aR 3]) (pc := 84) dX2_lookAtAll_84 (by decide) kX2_nextOfAll ml_2_62 ob_73 rfl npX2_nextOfAll (Nat.le_of_ble_eq_true rfl) (aRun.mono (fun r5 h6 H_10 => ?_) H_8.2)
        refine AW.iinc (pc := 87) dX2_lookAtAll_87 rfl (by decide) rfl (H_10.1) ?_
        refine AW.goto (tgt := 21) (pc := 90) dX2_lookAtAll_90 rfl ?_
        exact H_10.2
      refine AW.if_ne (tgt := 58) (pc := 48) dX2_lookAtAll_48 rfl (fun q => ?_) (fun q => ?_)
      · skip
        rw [if_neg q] at K_7
        refine AW.aload_n (pc := 58) dX2_lookAtAll_58 rfl ?_
        refine AW.geti' (k := 3) (j := 3) (pc := 59) dX2_lookAtAll_59 ac_2 sh_73 rfl (by decide) fl_2_23 rfl (v := (h2 73 3)) rfl ?_
        refine AW.aload_n (pc := 62) dX2_lookAtAll_62 rfl ?_
        refine AW.geti' (k := 9) (j := 9) (pc := 63) dX2_lookAtAll_63 ac_8 sh_29 rfl (by decide) fl_2_53 rfl (v := (h2 29 9)) rfl ?_
        refine AW.mmin (pc := 66) dX2_lookAtAll_66 (by decide) ml_2_56 (Nat.le_of_ble_eq_true rfl) ?_
        exact K_7
      · have q := Decidable.not_not.mp q
        rw [if_pos q] at K_7
        refine AW.aload_n (pc := 51) dX2_lookAtAll_51 rfl ?_
        refine AW.geti' (k := 9) (j := 9) (pc := 52) dX2_lookAtAll_52 ac_8 sh_29 rfl (by decide) fl_2_53 rfl (v := (h2 29 9)) rfl ?_
        refine AW.goto (tgt := 69) (pc := 55) dX2_lookAtAll_55 rfl ?_
        exact K_7
set_option maxRecDepth 100000 in
set_option maxHeartbeats 4000000 in
theorem e_X2_waysOf  {h : aH} {Q : aQ} (H : AW mX2_waysOf 1 4 [some (aR 3), some (aI 1), some (aI 0), none] [] h Q) : aRun mX2_waysOf 1 [aR 3] h Q := by
  refine aRun.of pn_2 rfl (Nat.le_of_ble_eq_true rfl) ?_
  show AW mX2_waysOf 1 0 [some (aR 3), none, none, none] [] h Q
  refine AW.iconst (pc := 0) dX2_waysOf_0 ⟨by decide, by decide⟩ ?_
  refine AW.istore_n (pc := 1) dX2_waysOf_1 (by decide) rfl ?_
  refine AW.iconst (pc := 2) dX2_waysOf_2 ⟨by decide, by decide⟩ ?_
  refine AW.istore_n (pc := 3) dX2_waysOf_3 (by decide) rfl ?_
  exact H
set_option maxRecDepth 100000 in
set_option maxHeartbeats 4000000 in
theorem s_X2_waysOf_4  {l1 l2 : Int} {h : aH} {Q : aQ} (H : ((5 ≤ l2 → Q l1 h) ∧ (¬ (5 ≤ l2) → AW mX2_waysOf 1 11 [some (aR 3), some (aI l1), some (aI l2), some (aI 2)] [] h Q))) : AW mX2_waysOf 1 4 [some (aR 3), some (aI l1), some (aI l2), none] [] h Q := by
  refine AW.iload_n (pc := 4) dX2_waysOf_4 rfl ?_
  refine AW.iconst (pc := 5) dX2_waysOf_5 ⟨by decide, by decide⟩ ?_
  refine AW.icmp_ge (tgt := 45) (pc := 6) dX2_waysOf_6 rfl (fun q => ?_) (fun q => ?_)
  · skip
    have H_1 := H.1 q
    refine AW.iload_n (pc := 45) dX2_waysOf_45 rfl ?_
    refine AW.iret (pc := 46) dX2_waysOf_46 rfl ?_
    exact H_1
  · skip
    have H_2 := H.2 q
    refine AW.iconst (pc := 9) dX2_waysOf_9 ⟨by decide, by decide⟩ ?_
    refine AW.istore_n (pc := 10) dX2_waysOf_10 (by decide) rfl ?_
    exact H_2
set_option maxRecDepth 100000 in
set_option maxHeartbeats 4000000 in
theorem s_X2_waysOf_11  {l1 l2 l3 : Int} {h : aH} {Q : aQ} (H : o_X5_tasksOn h l2 ∧ (((f_X5_tasksOn h l2) < l3 → inR (l2 + 1) ∧ AW mX2_waysOf 1 4 [some (aR 3), some (aI l1), some (aI (l2 + 1)), none] [] h Q) ∧ (¬ ((f_X5_tasksOn h l2) < l3) → inR (l1 * l3) ∧ (((l1 * l3) ≤ 720 → inR (l3 + 1) ∧ AW mX2_waysOf 1 11 [some (aR 3), some (aI (l1 * l3)), some (aI l2), some (aI (l3 + 1))] [] h Q) ∧ (¬ ((l1 * l3) ≤ 720) → Q (l1 * l3) h))))) : AW mX2_waysOf 1 11 [some (aR 3), some (aI l1), some (aI l2), some (aI l3)] [] h Q := by
  refine AW.iload_n (pc := 11) dX2_waysOf_11 rfl ?_
  refine AW.aload_n (pc := 12) dX2_waysOf_12 rfl ?_
  refine AW.iload_n (pc := 13) dX2_waysOf_13 rfl ?_
  refine AW.callVi (M' := mX5_tasksOn) (F' := 0) (as := [aI l2]) (pc := 14) dX2_waysOf_14 (by decide) kX5_tasksOn ml_2_34 ob_3 rfl npX5_tasksOn (Nat.le_of_ble_eq_true rfl) (p_X5_tasksOn (H.1) ?_)
  refine AW.icmp_gt (tgt := 39) (pc := 17) dX2_waysOf_17 rfl (fun q => ?_) (fun q => ?_)
  · skip
    have H_1 := H.2.1 q
    refine AW.iinc (pc := 39) dX2_waysOf_39 rfl (by decide) rfl (H_1.1) ?_
    refine AW.goto (tgt := 4) (pc := 42) dX2_waysOf_42 rfl ?_
    refine AW.mask [true, true, true, false] ?_
    exact H_1.2
  · skip
    have H_2 := H.2.2 q
    refine AW.iload_n (pc := 20) dX2_waysOf_20 rfl ?_
    refine AW.iload_n (pc := 21) dX2_waysOf_21 rfl ?_
    refine AW.imul (pc := 22) dX2_waysOf_22 (H_2.1) ?_
    refine AW.istore_n (pc := 23) dX2_waysOf_23 (by decide) rfl ?_
    refine AW.iload_n (pc := 24) dX2_waysOf_24 rfl ?_
    refine AW.sipush (pc := 25) dX2_waysOf_25 rfl ⟨by decide, by decide⟩ ?_
    refine AW.icmp_le (tgt := 33) (pc := 28) dX2_waysOf_28 rfl (fun q => ?_) (fun q => ?_)
    · skip
      have H_3 := H_2.2.1 q
      refine AW.iinc (pc := 33) dX2_waysOf_33 rfl (by decide) rfl (H_3.1) ?_
      refine AW.goto (tgt := 11) (pc := 36) dX2_waysOf_36 rfl ?_
      exact H_3.2
    · skip
      have H_4 := H_2.2.2 q
      refine AW.iload_n (pc := 31) dX2_waysOf_31 rfl ?_
      refine AW.iret (pc := 32) dX2_waysOf_32 rfl ?_
      exact H_4
set_option maxRecDepth 100000 in
set_option maxHeartbeats 4000000 in
theorem e_X2_look  {h : aH} {Q : aQ} (H : aRun mX2_waysOf 1 [aR 3] h (fun r1 h2 => ((r1 ≤ 720 → (((h2 73 1) = 0 → aRun mX2_lookAtAll 3 [aR 73, aR 3, aR 29, aI r1] h2 (fun r3 h4 => Q 1 (a_up h4 73 1 1))) ∧ (¬ ((h2 73 1) = 0) → Q 1 h2))) ∧ (¬ (r1 ≤ 720) → Q 0 h2)))) : aRun mX2_look 4 [aR 73, aR 3, aR 29] h Q := by
  refine aRun.of pn_2 rfl (Nat.le_of_ble_eq_true rfl) ?_
  show AW mX2_look 4 0 [some (aR 73), some (aR 3), some (aR 29), none] [] h Q
  refine AW.aload_n (pc := 0) dX2_look_0 rfl ?_
  refine AW.callSi (M' := mX2_waysOf) (F' := 1) (as := [aR 3]) (pc := 1) dX2_look_1 (by decide) kX2_waysOf ml_2_26 rfl npX2_waysOf (Nat.le_of_ble_eq_true rfl) (aRun.mono (fun r1 h2 H_1 => ?_) H)
  refine AW.istore_n (pc := 4) dX2_look_4 (by decide) rfl ?_
  refine AW.iload_n (pc := 5) dX2_look_5 rfl ?_
  refine AW.sipush (pc := 6) dX2_look_6 rfl ⟨by decide, by decide⟩ ?_
  refine AW.icmp_le (tgt := 14) (pc := 9) dX2_look_9 rfl (fun q => ?_) (fun q => ?_)
  · skip
    have H_2 := H_1.1 q
    refine AW.aload_n (pc := 14) dX2_look_14 rfl ?_
    refine AW.geti' (k := 1) (j := 1) (pc := 15) dX2_look_15 ac_2 sh_73 rfl (by decide) fl_2_15 rfl (v := (h2 73 1)) rfl ?_
    refine AW.if_ne (tgt := 33) (pc := 18) dX2_look_18 rfl (fun q => ?_) (fun q => ?_)
    · skip
      have H_3 := H_2.2 q
      refine AW.iconst (pc := 33) dX2_look_33 ⟨by decide, by decide⟩ ?_
      refine AW.zret (pc := 34) dX2_look_34 rfl (Or.inr rfl) ?_
      exact H_3
    · have q := Decidable.not_not.mp q
      have H_4 := H_2.1 q
      refine AW.aload_n (pc := 21) dX2_look_21 rfl ?_
      refine AW.aload_n (pc := 22) dX2_look_22 rfl ?_
      refine AW.aload_n (pc := 23) dX2_look_23 rfl ?_
      refine AW.iload_n (pc := 24) dX2_look_24 rfl ?_
      refine AW.callVv (M' := mX2_lookAtAll) (F' := 3) (as := [aR 3, aR 29, aI r1]) (pc := 25) dX2_look_25 (by decide) kX2_lookAtAll ml_2_30 ob_73 rfl npX2_lookAtAll (Nat.le_of_ble_eq_true rfl) (aRun.mono (fun r3 h4 H_5 => ?_) H_4)
      refine AW.aload_n (pc := 28) dX2_look_28 rfl ?_
      refine AW.iconst (pc := 29) dX2_look_29 ⟨by decide, by decide⟩ ?_
      refine AW.puti' (k := 1) (j := 1) (pc := 30) dX2_look_30 ac_2 sh_73 rfl (by decide) fl_2_15 rfl rfl (tyX2_ok 1 (by decide)) (Or.inr ⟨rfl, (Or.inr rfl)⟩) ?_
      refine AW.iconst (pc := 33) dX2_look_33 ⟨by decide, by decide⟩ ?_
      refine AW.zret (pc := 34) dX2_look_34 rfl (Or.inr rfl) ?_
      exact H_5
  · skip
    have H_6 := H_1.2 q
    refine AW.iconst (pc := 12) dX2_look_12 ⟨by decide, by decide⟩ ?_
    refine AW.zret (pc := 13) dX2_look_13 rfl (Or.inl rfl) ?_
    exact H_6
set_option maxRecDepth 100000 in
set_option maxHeartbeats 4000000 in
theorem e_X3_find {a1 : Int} {h : aH} {Q : aQ} (H : AW mX3_find 0 2 [some (aR 42), some (aI a1), some (aI 0)] [] h Q) : aRun mX3_find 0 [aR 42, aI a1] h Q := by
  refine aRun.of pn_3 rfl (Nat.le_of_ble_eq_true rfl) ?_
  show AW mX3_find 0 0 [some (aR 42), some (aI a1), none] [] h Q
  refine AW.iconst (pc := 0) dX3_find_0 ⟨by decide, by decide⟩ ?_
  refine AW.istore_n (pc := 1) dX3_find_1 (by decide) rfl ?_
  exact H
set_option maxRecDepth 100000 in
set_option maxHeartbeats 4000000 in
theorem s_X3_find_2  {l1 l2 : Int} {h : aH} {Q : aQ} (H : (((h 42 1) ≤ l2 → Q (-1) h) ∧ (¬ ((h 42 1) ≤ l2) → (0 ≤ l2 ∧ l2 < 9) ∧ (((h 43 l2) = l1 → Q l2 h) ∧ (¬ ((h 43 l2) = l1) → inR (l2 + 1) ∧ AW mX3_find 0 2 [some (aR 42), some (aI l1), some (aI (l2 + 1))] [] h Q))))) : AW mX3_find 0 2 [some (aR 42), some (aI l1), some (aI l2)] [] h Q := by
  refine AW.iload_n (pc := 2) dX3_find_2 rfl ?_
  refine AW.aload_n (pc := 3) dX3_find_3 rfl ?_
  refine AW.geti' (k := 1) (j := 1) (pc := 4) dX3_find_4 ac_3 sh_42 rfl (by decide) fl_3_15 rfl (v := (h 42 1)) rfl ?_
  refine AW.icmp_ge (tgt := 28) (pc := 7) dX3_find_7 rfl (fun q => ?_) (fun q => ?_)
  · skip
    have H_1 := H.1 q
    refine AW.iconst (pc := 28) dX3_find_28 ⟨by decide, by decide⟩ ?_
    refine AW.iret (pc := 29) dX3_find_29 rfl ?_
    exact H_1
  · skip
    have H_2 := H.2 q
    refine AW.aload_n (pc := 10) dX3_find_10 rfl ?_
    refine AW.getr (k := 0) (pc := 11) dX3_find_11 ac_3 sh_42 rfl (by decide) fl_3_9 ?_
    refine AW.iload_n (pc := 14) dX3_find_14 rfl ?_
    refine AW.iald (pc := 15) dX3_find_15 sh_43 (H_2.1) (v := (h 43 l2)) rfl ?_
    refine AW.iload_n (pc := 16) dX3_find_16 rfl ?_
    refine AW.icmp_ne (tgt := 22) (pc := 17) dX3_find_17 rfl (fun q => ?_) (fun q => ?_)
    · skip
      have H_3 := H_2.2.2 q
      refine AW.iinc (pc := 22) dX3_find_22 rfl (by decide) rfl (H_3.1) ?_
      refine AW.goto (tgt := 2) (pc := 25) dX3_find_25 rfl ?_
      exact H_3.2
    · have q := Decidable.not_not.mp q
      have H_4 := H_2.2.1 q
      refine AW.iload_n (pc := 20) dX3_find_20 rfl ?_
      refine AW.iret (pc := 21) dX3_find_21 rfl ?_
      exact H_4
set_option maxRecDepth 100000 in
set_option maxHeartbeats 4000000 in
theorem e_X3_takeOff {a1 : Int} {h : aH} {Q : aQ} (H : AW mX3_takeOff 0 2 [some (aR 42), none, some (aI a1)] [] h Q) : aRun mX3_takeOff 0 [aR 42, aI a1] h Q := by
  refine aRun.of pn_3 rfl (Nat.le_of_ble_eq_true rfl) ?_
  show AW mX3_takeOff 0 0 [some (aR 42), some (aI a1), none] [] h Q
  refine AW.iload_n (pc := 0) dX3_takeOff_0 rfl ?_
  refine AW.istore_n (pc := 1) dX3_takeOff_1 (by decide) rfl ?_
  refine AW.mask [true, false, true] ?_
  exact H
set_option maxRecDepth 100000 in
set_option maxHeartbeats 4000000 in
theorem s_X3_takeOff_2  {l2 : Int} {h : aH} {Q : aQ} (H : inR (l2 + 1) ∧ (((h 42 1) ≤ (l2 + 1) → inR ((h 42 1) - 1) ∧ Q 0 (a_up h 42 1 ((h 42 1) - 1))) ∧ (¬ ((h 42 1) ≤ (l2 + 1)) → (0 ≤ (l2 + 1) ∧ (l2 + 1) < 9) ∧ (0 ≤ l2 ∧ l2 < 9) ∧ AW mX3_takeOff 0 2 [some (aR 42), none, some (aI (l2 + 1))] [] (a_up h 43 l2 (h 43 (l2 + 1))) Q))) : AW mX3_takeOff 0 2 [some (aR 42), none, some (aI l2)] [] h Q := by
  refine AW.iload_n (pc := 2) dX3_takeOff_2 rfl ?_
  refine AW.iconst (pc := 3) dX3_takeOff_3 ⟨by decide, by decide⟩ ?_
  refine AW.iadd (pc := 4) dX3_takeOff_4 (H.1) ?_
  refine AW.aload_n (pc := 5) dX3_takeOff_5 rfl ?_
  refine AW.geti' (k := 1) (j := 1) (pc := 6) dX3_takeOff_6 ac_3 sh_42 rfl (by decide) fl_3_15 rfl (v := (h 42 1)) rfl ?_
  refine AW.icmp_ge (tgt := 32) (pc := 9) dX3_takeOff_9 rfl (fun q => ?_) (fun q => ?_)
  · skip
    have H_1 := H.2.1 q
    refine AW.aload_n (pc := 32) dX3_takeOff_32 rfl ?_
    refine AW.dup (pc := 33) dX3_takeOff_33 rfl ?_
    refine AW.geti' (k := 1) (j := 1) (pc := 34) dX3_takeOff_34 ac_3 sh_42 rfl (by decide) fl_3_15 rfl (v := (h 42 1)) rfl ?_
    refine AW.iconst (pc := 37) dX3_takeOff_37 ⟨by decide, by decide⟩ ?_
    refine AW.isub (pc := 38) dX3_takeOff_38 (H_1.1) ?_
    refine AW.puti' (k := 1) (j := 1) (pc := 39) dX3_takeOff_39 ac_3 sh_42 rfl (by decide) fl_3_15 rfl rfl (tyX3_ok 1 (by decide)) (Or.inl rfl) ?_
    refine AW.vret (pc := 42) dX3_takeOff_42 rfl ?_
    exact H_1.2
  · skip
    have H_2 := H.2.2 q
    refine AW.aload_n (pc := 12) dX3_takeOff_12 rfl ?_
    refine AW.getr (k := 0) (pc := 13) dX3_takeOff_13 ac_3 sh_42 rfl (by decide) fl_3_9 ?_
    refine AW.iload_n (pc := 16) dX3_takeOff_16 rfl ?_
    refine AW.aload_n (pc := 17) dX3_takeOff_17 rfl ?_
    refine AW.getr (k := 0) (pc := 18) dX3_takeOff_18 ac_3 sh_42 rfl (by decide) fl_3_9 ?_
    refine AW.iload_n (pc := 21) dX3_takeOff_21 rfl ?_
    refine AW.iconst (pc := 22) dX3_takeOff_22 ⟨by decide, by decide⟩ ?_
    refine AW.iadd (pc := 23) dX3_takeOff_23 (H.1) ?_
    refine AW.iald (pc := 24) dX3_takeOff_24 sh_43 (H_2.1) (v := (h 43 (l2 + 1))) rfl ?_
    refine AW.iast (pc := 25) dX3_takeOff_25 sh_43 (H_2.2.1) ?_
    refine AW.iinc (pc := 26) dX3_takeOff_26 rfl (by decide) rfl (H.1) ?_
    refine AW.goto (tgt := 2) (pc := 29) dX3_takeOff_29 rfl ?_
    exact H_2.2.2
set_option maxRecDepth 100000 in
set_option maxHeartbeats 4000000 in
theorem e_X3_keep {a1 : Int} {h : aH} {Q : aQ} (H : (((h 42 2) = 0 → Q 0 h) ∧ (¬ ((h 42 2) = 0) → aRun mX3_find 0 [aR 42, aI a1] h (fun r1 h2 => ((r1 = (-1) → (((h2 42 1) < (h2 42 2) → (0 ≤ (h2 42 1) ∧ (h2 42 1) < 9) ∧ inR ((h2 42 1) + 1) ∧ Q 0 (a_up (a_up h2 43 (h2 42 1) a1) 42 1 ((h2 42 1) + 1))) ∧ (¬ ((h2 42 1) < (h2 42 2)) → aRun mX3_takeOff 0 [aR 42, aI 0] h2 (fun r3 h4 => (0 ≤ (h4 42 1) ∧ (h4 42 1) < 9) ∧ inR ((h4 42 1) + 1) ∧ Q 0 (a_up (a_up h4 43 (h4 42 1) a1) 42 1 ((h4 42 1) + 1)))))) ∧ (¬ (r1 = (-1)) → aRun mX3_takeOff 0 [aR 42, aI r1] h2 (fun r5 h6 => (0 ≤ (h6 42 1) ∧ (h6 42 1) < 9) ∧ inR ((h6 42 1) + 1) ∧ Q 0 (a_up (a_up h6 43 (h6 42 1) a1) 42 1 ((h6 42 1) + 1))))))))) : aRun mX3_keep 1 [aR 42, aI a1] h Q := by
  refine aRun.of pn_3 rfl (Nat.le_of_ble_eq_true rfl) ?_
  show AW mX3_keep 1 0 [some (aR 42), some (aI a1), none] [] h Q
  refine AW.aload_n (pc := 0) dX3_keep_0 rfl ?_
  refine AW.geti' (k := 2) (j := 2) (pc := 1) dX3_keep_1 ac_3 sh_42 rfl (by decide) fl_3_19 rfl (v := (h 42 2)) rfl ?_
  refine AW.if_ne (tgt := 8) (pc := 4) dX3_keep_4 rfl (fun q => ?_) (fun q => ?_)
  · skip
    have H_1 := H.2 q
    refine AW.aload_n (pc := 8) dX3_keep_8 rfl ?_
    refine AW.iload_n (pc := 9) dX3_keep_9 rfl ?_
    refine AW.callVi (M' := mX3_find) (F' := 0) (as := [aI a1]) (pc := 10) dX3_keep_10 (by decide) kX3_find ml_3_22 ob_42 rfl npX3_find (Nat.le_of_ble_eq_true rfl) (aRun.mono (fun r1 h2 H_2 => ?_) H_1)
    refine AW.istore_n (pc := 13) dX3_keep_13 (by decide) rfl ?_
    refine AW.iload_n (pc := 14) dX3_keep_14 rfl ?_
    refine AW.iconst (pc := 15) dX3_keep_15 ⟨by decide, by decide⟩ ?_
    refine AW.icmp_eq (tgt := 27) (pc := 16) dX3_keep_16 rfl (fun q => ?_) (fun q => ?_)
    · skip
      have H_3 := H_2.1 q
      refine AW.aload_n (pc := 27) dX3_keep_27 rfl ?_
      refine AW.geti' (k := 1) (j := 1) (pc := 28) dX3_keep_28 ac_3 sh_42 rfl (by decide) fl_3_15 rfl (v := (h2 42 1)) rfl ?_
      refine AW.aload_n (pc := 31) dX3_keep_31 rfl ?_
      refine AW.geti' (k := 2) (j := 2) (pc := 32) dX3_keep_32 ac_3 sh_42 rfl (by decide) fl_3_19 rfl (v := (h2 42 2)) rfl ?_
      refine AW.icmp_lt (tgt := 43) (pc := 35) dX3_keep_35 rfl (fun q => ?_) (fun q => ?_)
      · skip
        have H_4 := H_3.1 q
        refine AW.aload_n (pc := 43) dX3_keep_43 rfl ?_
        refine AW.getr (k := 0) (pc := 44) dX3_keep_44 ac_3 sh_42 rfl (by decide) fl_3_9 ?_
        refine AW.aload_n (pc := 47) dX3_keep_47 rfl ?_
        refine AW.geti' (k := 1) (j := 1) (pc := 48) dX3_keep_48 ac_3 sh_42 rfl (by decide) fl_3_15 rfl (v := (h2 42 1)) rfl ?_
        refine AW.iload_n (pc := 51) dX3_keep_51 rfl ?_
        refine AW.iast (pc := 52) dX3_keep_52 sh_43 (H_4.1) ?_
        refine AW.aload_n (pc := 53) dX3_keep_53 rfl ?_
        refine AW.dup (pc := 54) dX3_keep_54 rfl ?_
        refine AW.geti' (k := 1) (j := 1) (pc := 55) dX3_keep_55 ac_3 sh_42 rfl (by decide) fl_3_15 rfl (v := (h2 42 1)) (by rw [a_up_ne (by decide)]) ?_
        refine AW.iconst (pc := 58) dX3_keep_58 ⟨by decide, by decide⟩ ?_
        refine AW.iadd (pc := 59) dX3_keep_59 (H_4.2.1) ?_
        refine AW.puti' (k := 1) (j := 1) (pc := 60) dX3_keep_60 ac_3 sh_42 rfl (by decide) fl_3_15 rfl rfl (tyX3_ok 1 (by decide)) (Or.inl rfl) ?_
        refine AW.vret (pc := 63) dX3_keep_63 rfl ?_
        exact H_4.2.2
      · skip
        have H_5 := H_3.2 q
        refine AW.aload_n (pc := 38) dX3_keep_38 rfl ?_
        refine AW.iconst (pc := 39) dX3_keep_39 ⟨by decide, by decide⟩ ?_
        refine AW.callVv (M' := mX3_takeOff) (F' := 0) (as := [aI 0]) (pc := 40) dX3_keep_40 (by decide) kX3_takeOff ml_3_26 ob_42 rfl npX3_takeOff (Nat.le_of_ble_eq_true rfl) (aRun.mono (fun r3 h4 H_6 => ?_) H_5)
        refine AW.aload_n (pc := 43) dX3_keep_43 rfl ?_
        refine AW.getr (k := 0) (pc := 44) dX3_keep_44 ac_3 sh_42 rfl (by decide) fl_3_9 ?_
        refine AW.aload_n (pc := 47) dX3_keep_47 rfl ?_
        refine AW.geti' (k := 1) (j := 1) (pc := 48) dX3_keep_48 ac_3 sh_42 rfl (by decide) fl_3_15 rfl (v := (h4 42 1)) rfl ?_
        refine AW.iload_n (pc := 51) dX3_keep_51 rfl ?_
        refine AW.iast (pc := 52) dX3_keep_52 sh_43 (H_6.1) ?_
        refine AW.aload_n (pc := 53) dX3_keep_53 rfl ?_
        refine AW.dup (pc := 54) dX3_keep_54 rfl ?_
        refine AW.geti' (k := 1) (j := 1) (pc := 55) dX3_keep_55 ac_3 sh_42 rfl (by decide) fl_3_15 rfl (v := (h4 42 1)) (by rw [a_up_ne (by decide)]) ?_
        refine AW.iconst (pc := 58) dX3_keep_58 ⟨by decide, by decide⟩ ?_
        refine AW.iadd (pc := 59) dX3_keep_59 (H_6.2.1) ?_
        refine AW.puti' (k := 1) (j := 1) (pc := 60) dX3_keep_60 ac_3 sh_42 rfl (by decide) fl_3_15 rfl rfl (tyX3_ok 1 (by decide)) (Or.inl rfl) ?_
        refine AW.vret (pc := 63) dX3_keep_63 rfl ?_
        exact H_6.2.2
    · skip
      have H_7 := H_2.2 q
      refine AW.aload_n (pc := 19) dX3_keep_19 rfl ?_
      refine AW.iload_n (pc := 20) dX3_keep_20 rfl ?_
      refine AW.callVv (M' := mX3_takeOff) (F' := 0) (as := [aI r1]) (pc := 21) dX3_keep_21 (by decide) kX3_takeOff ml_3_26 ob_42 rfl npX3_takeOff (Nat.le_of_ble_eq_true rfl) (aRun.mono (fun r5 h6 H_8 => ?_) H_7)
      refine AW.goto (tgt := 43) (pc := 24) dX3_keep_24 rfl ?_
      refine AW.aload_n (pc := 43) dX3_keep_43 rfl ?_
      refine AW.getr (k := 0) (pc := 44) dX3_keep_44 ac_3 sh_42 rfl (by decide) fl_3_9 ?_
      refine AW.aload_n (pc := 47) dX3_keep_47 rfl ?_
      refine AW.geti' (k := 1) (j := 1) (pc := 48) dX3_keep_48 ac_3 sh_42 rfl (by decide) fl_3_15 rfl (v := (h6 42 1)) rfl ?_
      refine AW.iload_n (pc := 51) dX3_keep_51 rfl ?_
      refine AW.iast (pc := 52) dX3_keep_52 sh_43 (H_8.1) ?_
      refine AW.aload_n (pc := 53) dX3_keep_53 rfl ?_
      refine AW.dup (pc := 54) dX3_keep_54 rfl ?_
      refine AW.geti' (k := 1) (j := 1) (pc := 55) dX3_keep_55 ac_3 sh_42 rfl (by decide) fl_3_15 rfl (v := (h6 42 1)) (by rw [a_up_ne (by decide)]) ?_
      refine AW.iconst (pc := 58) dX3_keep_58 ⟨by decide, by decide⟩ ?_
      refine AW.iadd (pc := 59) dX3_keep_59 (H_8.2.1) ?_
      refine AW.puti' (k := 1) (j := 1) (pc := 60) dX3_keep_60 ac_3 sh_42 rfl (by decide) fl_3_15 rfl rfl (tyX3_ok 1 (by decide)) (Or.inl rfl) ?_
      refine AW.vret (pc := 63) dX3_keep_63 rfl ?_
      exact H_8.2.2
  · have q := Decidable.not_not.mp q
    have H_9 := H.1 q
    refine AW.vret (pc := 7) dX3_keep_7 rfl ?_
    exact H_9
set_option maxRecDepth 100000 in
set_option maxHeartbeats 4000000 in
theorem p_X9_copyRow {s : Nat} {bs : Nat} (hs : a_T[s]? = some (.inl (0, 24, bs))) {t : Nat} {bt : Nat} (ht : a_T[t]? = some (.inl (0, 24, bt))) {h : aH} {Q : aQ} (k : Q 0 (a_cp h s 0 t 0 24)) : aRun mX9_copyRow 1 [aR s, aR t] h Q := by
  refine aRun.of pn_9 rfl (Nat.le_of_ble_eq_true rfl) ?_
  show AW mX9_copyRow 1 0 [some (aR s), some (aR t)] [] h Q
  refine AW.aload_n (pc := 0) dX9_copyRow_0 rfl ?_
  refine AW.iconst (pc := 1) dX9_copyRow_1 ⟨by decide, by decide⟩ ?_
  refine AW.aload_n (pc := 2) dX9_copyRow_2 rfl ?_
  refine AW.iconst (pc := 3) dX9_copyRow_3 ⟨by decide, by decide⟩ ?_
  refine AW.bipush (pc := 4) dX9_copyRow_4 rfl ⟨by decide, by decide⟩ ?_
  refine AW.copy (pc := 6) dX9_copyRow_6 (by decide) ml_9_292 (Nat.le_of_ble_eq_true rfl) hs ht (by decide) ?_
  refine AW.vret (pc := 9) dX9_copyRow_9 rfl ?_
  exact k
set_option maxRecDepth 100000 in
set_option maxHeartbeats 4000000 in
theorem p_X4_begin  {h : aH} {Q : aQ} (k : Q 0 (a_cp (a_up (a_up h 44 1 0) 44 2 0) 19 0 46 0 24)) : aRun mX4_begin 2 [aR 44, aR 19] h Q := by
  refine aRun.of pn_4 rfl (Nat.le_of_ble_eq_true rfl) ?_
  show AW mX4_begin 2 0 [some (aR 44), some (aR 19)] [] h Q
  refine AW.aload_n (pc := 0) dX4_begin_0 rfl ?_
  refine AW.iconst (pc := 1) dX4_begin_1 ⟨by decide, by decide⟩ ?_
  refine AW.puti' (k := 1) (j := 1) (pc := 2) dX4_begin_2 ac_4 sh_44 rfl (by decide) fl_4_16 rfl rfl (tyX4_ok 1 (by decide)) (Or.inl rfl) ?_
  refine AW.aload_n (pc := 5) dX4_begin_5 rfl ?_
  refine AW.iconst (pc := 6) dX4_begin_6 ⟨by decide, by decide⟩ ?_
  refine AW.puti' (k := 2) (j := 2) (pc := 7) dX4_begin_7 ac_4 sh_44 rfl (by decide) fl_4_20 rfl rfl (tyX4_ok 2 (by decide)) (Or.inl rfl) ?_
  refine AW.aload_n (pc := 10) dX4_begin_10 rfl ?_
  refine AW.aload_n (pc := 11) dX4_begin_11 rfl ?_
  refine AW.getr (k := 0) (pc := 12) dX4_begin_12 ac_4 sh_44 rfl (by decide) fl_4_11 ?_
  refine AW.iconst (pc := 15) dX4_begin_15 ⟨by decide, by decide⟩ ?_
  refine AW.aald (pc := 16) dX4_begin_16 sh_45 ⟨by decide, by decide⟩ ?_
  refine AW.callNv (M' := mX9_copyRow) (F' := 1) (as := [aR 19, aR 46]) (pc := 17) dX4_begin_17 (by decide) kX9_copyRow nl_4_23 rfl npX9_copyRow (Nat.le_of_ble_eq_true rfl) (p_X9_copyRow sh_19 sh_46  ?_)
  refine AW.vret (pc := 20) dX4_begin_20 rfl ?_
  exact k
set_option maxRecDepth 100000 in
set_option maxHeartbeats 4000000 in
theorem e_X4_goAhead  {h : aH} {Q : aQ} (H : (((h 44 1) < (h 44 2) → inR ((h 44 1) + 1) ∧ (0 ≤ ((h 44 1) + 1) ∧ ((h 44 1) + 1) < 17) ∧ Q 1 (a_cp (a_up h 44 1 ((h 44 1) + 1)) (46 + (((h 44 1) + 1) : Int).toNat) 0 19 0 24)) ∧ (¬ ((h 44 1) < (h 44 2)) → Q 0 h))) : aRun mX4_goAhead 2 [aR 44, aR 19] h Q := by
  refine aRun.of pn_4 rfl (Nat.le_of_ble_eq_true rfl) ?_
  show AW mX4_goAhead 2 0 [some (aR 44), some (aR 19)] [] h Q
  refine AW.aload_n (pc := 0) dX4_goAhead_0 rfl ?_
  refine AW.geti' (k := 1) (j := 1) (pc := 1) dX4_goAhead_1 ac_4 sh_44 rfl (by decide) fl_4_16 rfl (v := (h 44 1)) rfl ?_
  refine AW.aload_n (pc := 4) dX4_goAhead_4 rfl ?_
  refine AW.geti' (k := 2) (j := 2) (pc := 5) dX4_goAhead_5 ac_4 sh_44 rfl (by decide) fl_4_20 rfl (v := (h 44 2)) rfl ?_
  refine AW.icmp_lt (tgt := 13) (pc := 8) dX4_goAhead_8 rfl (fun q => ?_) (fun q => ?_)
  · skip
    have H_1 := H.1 q
    refine AW.aload_n (pc := 13) dX4_goAhead_13 rfl ?_
    refine AW.dup (pc := 14) dX4_goAhead_14 rfl ?_
    refine AW.geti' (k := 1) (j := 1) (pc := 15) dX4_goAhead_15 ac_4 sh_44 rfl (by decide) fl_4_16 rfl (v := (h 44 1)) rfl ?_
    refine AW.iconst (pc := 18) dX4_goAhead_18 ⟨by decide, by decide⟩ ?_
    refine AW.iadd (pc := 19) dX4_goAhead_19 (H_1.1) ?_
    refine AW.puti' (k := 1) (j := 1) (pc := 20) dX4_goAhead_20 ac_4 sh_44 rfl (by decide) fl_4_16 rfl rfl (tyX4_ok 1 (by decide)) (Or.inl rfl) ?_
    refine AW.aload_n (pc := 23) dX4_goAhead_23 rfl ?_
    refine AW.getr (k := 0) (pc := 24) dX4_goAhead_24 ac_4 sh_44 rfl (by decide) fl_4_11 ?_
    refine AW.aload_n (pc := 27) dX4_goAhead_27 rfl ?_
    refine AW.geti' (k := 1) (j := 1) (pc := 28) dX4_goAhead_28 ac_4 sh_44 rfl (by decide) fl_4_16 rfl (v := ((h 44 1) + 1)) (by rw [a_up_eq]) ?_
    refine AW.aald (pc := 31) dX4_goAhead_31 sh_45 (H_1.2.1) ?_
    refine AW.aload_n (pc := 32) dX4_goAhead_32 rfl ?_
    refine AW.callNv (M' := mX9_copyRow) (F' := 1) (as := [aR (46 + (((h 44 1) + 1) : Int).toNat), aR 19]) (pc := 33) dX4_goAhead_33 (by decide) kX9_copyRow nl_4_23 rfl npX9_copyRow (Nat.le_of_ble_eq_true rfl) (p_X9_copyRow (sh_isHist (by have q9 := (H_1.2.1); omega)) sh_19  ?_)
    refine AW.iconst (pc := 36) dX4_goAhead_36 ⟨by decide, by decide⟩ ?_
    refine AW.zret (pc := 37) dX4_goAhead_37 rfl (Or.inr rfl) ?_
    exact H_1.2.2
  · skip
    have H_2 := H.2 q
    refine AW.iconst (pc := 11) dX4_goAhead_11 ⟨by decide, by decide⟩ ?_
    refine AW.zret (pc := 12) dX4_goAhead_12 rfl (Or.inl rfl) ?_
    exact H_2
set_option maxRecDepth 100000 in
set_option maxHeartbeats 4000000 in
theorem e_X4_goBack  {h : aH} {Q : aQ} (H : ((0 < (h 44 1) → inR ((h 44 1) - 1) ∧ (0 ≤ ((h 44 1) - 1) ∧ ((h 44 1) - 1) < 17) ∧ Q 1 (a_cp (a_up h 44 1 ((h 44 1) - 1)) (46 + (((h 44 1) - 1) : Int).toNat) 0 19 0 24)) ∧ (¬ (0 < (h 44 1)) → Q 0 h))) : aRun mX4_goBack 2 [aR 44, aR 19] h Q := by
  refine aRun.of pn_4 rfl (Nat.le_of_ble_eq_true rfl) ?_
  show AW mX4_goBack 2 0 [some (aR 44), some (aR 19)] [] h Q
  refine AW.aload_n (pc := 0) dX4_goBack_0 rfl ?_
  refine AW.geti' (k := 1) (j := 1) (pc := 1) dX4_goBack_1 ac_4 sh_44 rfl (by decide) fl_4_16 rfl (v := (h 44 1)) rfl ?_
  refine AW.if_gt (tgt := 9) (pc := 4) dX4_goBack_4 rfl (fun q => ?_) (fun q => ?_)
  · skip
    have H_1 := H.1 q
    refine AW.aload_n (pc := 9) dX4_goBack_9 rfl ?_
    refine AW.dup (pc := 10) dX4_goBack_10 rfl ?_
    refine AW.geti' (k := 1) (j := 1) (pc := 11) dX4_goBack_11 ac_4 sh_44 rfl (by decide) fl_4_16 rfl (v := (h 44 1)) rfl ?_
    refine AW.iconst (pc := 14) dX4_goBack_14 ⟨by decide, by decide⟩ ?_
    refine AW.isub (pc := 15) dX4_goBack_15 (H_1.1) ?_
    refine AW.puti' (k := 1) (j := 1) (pc := 16) dX4_goBack_16 ac_4 sh_44 rfl (by decide) fl_4_16 rfl rfl (tyX4_ok 1 (by decide)) (Or.inl rfl) ?_
    refine AW.aload_n (pc := 19) dX4_goBack_19 rfl ?_
    refine AW.getr (k := 0) (pc := 20) dX4_goBack_20 ac_4 sh_44 rfl (by decide) fl_4_11 ?_
    refine AW.aload_n (pc := 23) dX4_goBack_23 rfl ?_
    refine AW.geti' (k := 1) (j := 1) (pc := 24) dX4_goBack_24 ac_4 sh_44 rfl (by decide) fl_4_16 rfl (v := ((h 44 1) - 1)) (by rw [a_up_eq]) ?_
    refine AW.aald (pc := 27) dX4_goBack_27 sh_45 (H_1.2.1) ?_
    refine AW.aload_n (pc := 28) dX4_goBack_28 rfl ?_
    refine AW.callNv (M' := mX9_copyRow) (F' := 1) (as := [aR (46 + (((h 44 1) - 1) : Int).toNat), aR 19]) (pc := 29) dX4_goBack_29 (by decide) kX9_copyRow nl_4_23 rfl npX9_copyRow (Nat.le_of_ble_eq_true rfl) (p_X9_copyRow (sh_isHist (by have q9 := (H_1.2.1); omega)) sh_19  ?_)
    refine AW.iconst (pc := 32) dX4_goBack_32 ⟨by decide, by decide⟩ ?_
    refine AW.zret (pc := 33) dX4_goBack_33 rfl (Or.inr rfl) ?_
    exact H_1.2.2
  · skip
    have H_2 := H.2 q
    refine AW.iconst (pc := 7) dX4_goBack_7 ⟨by decide, by decide⟩ ?_
    refine AW.zret (pc := 8) dX4_goBack_8 rfl (Or.inl rfl) ?_
    exact H_2
set_option maxRecDepth 100000 in
set_option maxHeartbeats 4000000 in
theorem e_X4_note  {h : aH} {Q : aQ} (H : (((h 44 1) < 16 → inR ((h 44 1) + 1) ∧ (0 ≤ ((h 44 1) + 1) ∧ ((h 44 1) + 1) < 17) ∧ Q 0 (a_cp (a_up (a_up h 44 1 ((h 44 1) + 1)) 44 2 ((h 44 1) + 1)) 19 0 (46 + (((h 44 1) + 1) : Int).toNat) 0 24)) ∧ (¬ ((h 44 1) < 16) → AW mX4_note 2 11 [some (aR 44), some (aR 19), some (aI 0)] [] h Q))) : aRun mX4_note 2 [aR 44, aR 19] h Q := by
  refine aRun.of pn_4 rfl (Nat.le_of_ble_eq_true rfl) ?_
  show AW mX4_note 2 0 [some (aR 44), some (aR 19), none] [] h Q
  refine AW.aload_n (pc := 0) dX4_note_0 rfl ?_
  refine AW.geti' (k := 1) (j := 1) (pc := 1) dX4_note_1 ac_4 sh_44 rfl (by decide) fl_4_16 rfl (v := (h 44 1)) rfl ?_
  refine AW.bipush (pc := 4) dX4_note_4 rfl ⟨by decide, by decide⟩ ?_
  refine AW.icmp_lt (tgt := 46) (pc := 6) dX4_note_6 rfl (fun q => ?_) (fun q => ?_)
  · skip
    have H_1 := H.1 q
    refine AW.aload_n (pc := 46) dX4_note_46 rfl ?_
    refine AW.dup (pc := 47) dX4_note_47 rfl ?_
    refine AW.geti' (k := 1) (j := 1) (pc := 48) dX4_note_48 ac_4 sh_44 rfl (by decide) fl_4_16 rfl (v := (h 44 1)) rfl ?_
    refine AW.iconst (pc := 51) dX4_note_51 ⟨by decide, by decide⟩ ?_
    refine AW.iadd (pc := 52) dX4_note_52 (H_1.1) ?_
    refine AW.puti' (k := 1) (j := 1) (pc := 53) dX4_note_53 ac_4 sh_44 rfl (by decide) fl_4_16 rfl rfl (tyX4_ok 1 (by decide)) (Or.inl rfl) ?_
    refine AW.aload_n (pc := 56) dX4_note_56 rfl ?_
    refine AW.aload_n (pc := 57) dX4_note_57 rfl ?_
    refine AW.geti' (k := 1) (j := 1) (pc := 58) dX4_note_58 ac_4 sh_44 rfl (by decide) fl_4_16 rfl (v := ((h 44 1) + 1)) (by rw [a_up_eq]) ?_
    refine AW.puti' (k := 2) (j := 2) (pc := 61) dX4_note_61 ac_4 sh_44 rfl (by decide) fl_4_20 rfl rfl (tyX4_ok 2 (by decide)) (Or.inl rfl) ?_
    refine AW.aload_n (pc := 64) dX4_note_64 rfl ?_
    refine AW.aload_n (pc := 65) dX4_note_65 rfl ?_
    refine AW.getr (k := 0) (pc := 66) dX4_note_66 ac_4 sh_44 rfl (by decide) fl_4_11 ?_
    refine AW.aload_n (pc := 69) dX4_note_69 rfl ?_
    refine AW.geti' (k := 1) (j := 1) (pc := 70) dX4_note_70 ac_4 sh_44 rfl (by decide) fl_4_16 rfl (v := ((h 44 1) + 1)) (by rw [a_up_off (by decide), a_up_eq]) ?_
    refine AW.aald (pc := 73) dX4_note_73 sh_45 (H_1.2.1) ?_
    refine AW.callNv (M' := mX9_copyRow) (F' := 1) (as := [aR 19, aR (46 + (((h 44 1) + 1) : Int).toNat)]) (pc := 74) dX4_note_74 (by decide) kX9_copyRow nl_4_23 rfl npX9_copyRow (Nat.le_of_ble_eq_true rfl) (p_X9_copyRow sh_19 (sh_isHist (by have q9 := (H_1.2.1); omega))  ?_)
    refine AW.vret (pc := 77) dX4_note_77 rfl ?_
    exact H_1.2.2
  · skip
    have H_2 := H.2 q
    refine AW.iconst (pc := 9) dX4_note_9 ⟨by decide, by decide⟩ ?_
    refine AW.istore_n (pc := 10) dX4_note_10 (by decide) rfl ?_
    exact H_2
set_option maxRecDepth 100000 in
set_option maxHeartbeats 4000000 in
theorem s_X4_note_11  {l2 : Int} {h : aH} {Q : aQ} (H : ((16 ≤ l2 → (0 ≤ ((15 + 1) : Int) ∧ ((15 + 1) : Int) < 17) ∧ Q 0 (a_cp (a_up (a_up (a_up h 44 1 15) 44 1 (15 + 1)) 44 2 (15 + 1)) 19 0 (46 + ((15 + 1) : Int).toNat) 0 24)) ∧ (¬ (16 ≤ l2) → inR (l2 + 1) ∧ (0 ≤ (l2 + 1) ∧ (l2 + 1) < 17) ∧ (0 ≤ l2 ∧ l2 < 17) ∧ AW mX4_note 2 11 [some (aR 44), some (aR 19), some (aI (l2 + 1))] [] (a_cp h (46 + ((l2 + 1) : Int).toNat) 0 (46 + (l2 : Int).toNat) 0 24) Q))) : AW mX4_note 2 11 [some (aR 44), some (aR 19), some (aI l2)] [] h Q := by
  refine AW.iload_n (pc := 11) dX4_note_11 rfl ?_
  refine AW.bipush (pc := 12) dX4_note_12 rfl ⟨by decide, by decide⟩ ?_
  refine AW.icmp_ge (tgt := 40) (pc := 14) dX4_note_14 rfl (fun q => ?_) (fun q => ?_)
  · skip
    have H_1 := H.1 q
    refine AW.aload_n (pc := 40) dX4_note_40 rfl ?_
    refine AW.bipush (pc := 41) dX4_note_41 rfl ⟨by decide, by decide⟩ ?_
    refine AW.puti' (k := 1) (j := 1) (pc := 43) dX4_note_43 ac_4 sh_44 rfl (by decide) fl_4_16 rfl rfl (tyX4_ok 1 (by decide)) (Or.inl rfl) ?_
    refine AW.aload_n (pc := 46) dX4_note_46 rfl ?_
    refine AW.dup (pc := 47) dX4_note_47 rfl ?_
    refine AW.geti' (k := 1) (j := 1) (pc := 48) dX4_note_48 ac_4 sh_44 rfl (by decide) fl_4_16 rfl (v := 15) (by rw [a_up_eq]) ?_
    refine AW.iconst (pc := 51) dX4_note_51 ⟨by decide, by decide⟩ ?_
    refine AW.iadd (pc := 52) dX4_note_52 (by decide) ?_
    refine AW.puti' (k := 1) (j := 1) (pc := 53) dX4_note_53 ac_4 sh_44 rfl (by decide) fl_4_16 rfl rfl (tyX4_ok 1 (by decide)) (Or.inl rfl) ?_
    refine AW.aload_n (pc := 56) dX4_note_56 rfl ?_
    refine AW.aload_n (pc := 57) dX4_note_57 rfl ?_
    refine AW.geti' (k := 1) (j := 1) (pc := 58) dX4_note_58 ac_4 sh_44 rfl (by decide) fl_4_16 rfl (v := (15 + 1)) (by rw [a_up_eq]) ?_
    refine AW.puti' (k := 2) (j := 2) (pc := 61) dX4_note_61 ac_4 sh_44 rfl (by decide) fl_4_20 rfl rfl (tyX4_ok 2 (by decide)) (Or.inl rfl) ?_
    refine AW.aload_n (pc := 64) dX4_note_64 rfl ?_
    refine AW.aload_n (pc := 65) dX4_note_65 rfl ?_
    refine AW.getr (k := 0) (pc := 66) dX4_note_66 ac_4 sh_44 rfl (by decide) fl_4_11 ?_
    refine AW.aload_n (pc := 69) dX4_note_69 rfl ?_
    refine AW.geti' (k := 1) (j := 1) (pc := 70) dX4_note_70 ac_4 sh_44 rfl (by decide) fl_4_16 rfl (v := (15 + 1)) (by rw [a_up_off (by decide), a_up_eq]) ?_
    refine AW.aald (pc := 73) dX4_note_73 sh_45 (H_1.1) ?_
    refine AW.callNv (M' := mX9_copyRow) (F' := 1) (as := [aR 19, aR (46 + ((15 + 1) : Int).toNat)]) (pc := 74) dX4_note_74 (by decide) kX9_copyRow nl_4_23 rfl npX9_copyRow (Nat.le_of_ble_eq_true rfl) (p_X9_copyRow sh_19 (sh_isHist (by have q9 := (H_1.1); omega))  ?_)
    refine AW.vret (pc := 77) dX4_note_77 rfl ?_
    exact H_1.2
  · skip
    have H_2 := H.2 q
    refine AW.aload_n (pc := 17) dX4_note_17 rfl ?_
    refine AW.getr (k := 0) (pc := 18) dX4_note_18 ac_4 sh_44 rfl (by decide) fl_4_11 ?_
    refine AW.iload_n (pc := 21) dX4_note_21 rfl ?_
    refine AW.iconst (pc := 22) dX4_note_22 ⟨by decide, by decide⟩ ?_
    refine AW.iadd (pc := 23) dX4_note_23 (H_2.1) ?_
    refine AW.aald (pc := 24) dX4_note_24 sh_45 (H_2.2.1) ?_
    refine AW.aload_n (pc := 25) dX4_note_25 rfl ?_
    refine AW.getr (k := 0) (pc := 26) dX4_note_26 ac_4 sh_44 rfl (by decide) fl_4_11 ?_
    refine AW.iload_n (pc := 29) dX4_note_29 rfl ?_
    refine AW.aald (pc := 30) dX4_note_30 sh_45 (H_2.2.2.1) ?_
    refine AW.callNv (M' := mX9_copyRow) (F' := 1) (as := [aR (46 + ((l2 + 1) : Int).toNat), aR (46 + (l2 : Int).toNat)]) (pc := 31) dX4_note_31 (by decide) kX9_copyRow nl_4_23 rfl npX9_copyRow (Nat.le_of_ble_eq_true rfl) (p_X9_copyRow (sh_isHist (by have q9 := (H_2.2.1); omega)) (sh_isHist (by have q9 := (H_2.2.2.1); omega))  ?_)
    refine AW.iinc (pc := 34) dX4_note_34 rfl (by decide) rfl (H_2.1) ?_
    refine AW.goto (tgt := 11) (pc := 37) dX4_note_37 rfl ?_
    exact H_2.2.2.2
