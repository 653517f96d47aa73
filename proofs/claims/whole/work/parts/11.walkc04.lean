def f_X6_goesOn (h : aH) (a1 : Int) (a2 : Int) : Int := (if a1 = (-1) then ((-1) : Int) else (if (h 24 a1) = a2 then (if (h 26 a1) = 0 then a1 else ((-1) : Int)) else ((-1) : Int)))
def o_X6_goesOn (h : aH) (a1 : Int) (a2 : Int) : Prop := (¬ (a1 = (-1)) → (0 ≤ a1 ∧ a1 < 24))
set_option maxRecDepth 100000 in
set_option maxHeartbeats 4000000 in
theorem p_X6_goesOn {a1 a2 : Int} {h : aH} {Q : aQ} (o : o_X6_goesOn h a1 a2) (k : Q (f_X6_goesOn h a1 a2) h) : aRun mX6_goesOn 0 [aR 20, aI a1, aI a2] h Q := by
  unfold f_X6_goesOn at k
  unfold o_X6_goesOn at o
  refine aRun.of pn_6 rfl (Nat.le_of_ble_eq_true rfl) ?_
  show AW mX6_goesOn 0 0 [some (aR 20), some (aI a1), some (aI a2)] [] h Q
  refine AW.iload_n (pc := 0) dX6_goesOn_0 rfl ?_
  refine AW.iconst (pc := 1) dX6_goesOn_1 ⟨by decide, by decide⟩ ?_
  refine AW.icmp_eq (tgt := 24) (pc := 2) dX6_goesOn_2 rfl (fun q => ?_) (fun q => ?_)
  · skip
    rw [if_pos q] at k
    refine AW.iconst (pc := 24) dX6_goesOn_24 ⟨by decide, by decide⟩ ?_
    refine AW.iret (pc := 25) dX6_goesOn_25 rfl ?_
    exact k
  · skip
    have H_2 := o q
    rw [if_neg q] at k
    refine AW.aload_n (pc := 5) dX6_goesOn_5 rfl ?_
    refine AW.getr (k := 3) (pc := 6) dX6_goesOn_6 ac_8 sh_20 rfl (by decide) fl_6_46 ?_
    refine AW.iload_n (pc := 9) dX6_goesOn_9 rfl ?_
    refine AW.iald (pc := 10) dX6_goesOn_10 sh_24 H_2 (v := (h 24 a1)) rfl ?_
    refine AW.iload_n (pc := 11) dX6_goesOn_11 rfl ?_
    refine AW.icmp_ne (tgt := 24) (pc := 12) dX6_goesOn_12 rfl (fun q => ?_) (fun q => ?_)
    · skip
      rw [if_neg q] at k
      refine AW.iconst (pc := 24) dX6_goesOn_24 ⟨by decide, by decide⟩ ?_
      refine AW.iret (pc := 25) dX6_goesOn_25 rfl ?_
      exact k
    · have q := Decidable.not_not.mp q
      rw [if_pos q] at k
      refine AW.aload_n (pc := 15) dX6_goesOn_15 rfl ?_
      refine AW.getr (k := 5) (pc := 16) dX6_goesOn_16 ac_8 sh_20 rfl (by decide) fl_6_78 ?_
      refine AW.iload_n (pc := 19) dX6_goesOn_19 rfl ?_
      refine AW.iald (pc := 20) dX6_goesOn_20 sh_26 H_2 (v := (h 26 a1)) rfl ?_
      refine AW.if_eq (tgt := 26) (pc := 21) dX6_goesOn_21 rfl (fun q => ?_) (fun q => ?_)
      · skip
        rw [if_pos q] at k
        refine AW.iload_n (pc := 26) dX6_goesOn_26 rfl ?_
        refine AW.iret (pc := 27) dX6_goesOn_27 rfl ?_
        exact k
      · skip
        rw [if_neg q] at k
        refine AW.iconst (pc := 24) dX6_goesOn_24 ⟨by decide, by decide⟩ ?_
        refine AW.iret (pc := 25) dX6_goesOn_25 rfl ?_
        exact k
set_option maxRecDepth 100000 in
set_option maxHeartbeats 4000000 in
theorem e_X6_walk  {h : aH} {Q : aQ} (H : aRun mX6_beginning 0 [aR 3, aR 20] (a_up h 38 1 0) (fun r1 h2 => AW mX6_walk 1 11 [some (aR 38), some (aR 3), some (aR 20), some (aI r1), none, none, none] [] h2 Q)) : aRun mX6_walk 1 [aR 38, aR 3, aR 20] h Q := by
  refine aRun.of pn_6 rfl (Nat.le_of_ble_eq_true rfl) ?_
  show AW mX6_walk 1 0 [some (aR 38), some (aR 3), some (aR 20), none, none, none, none] [] h Q
  refine AW.aload_n (pc := 0) dX6_walk_0 rfl ?_
  refine AW.iconst (pc := 1) dX6_walk_1 ⟨by decide, by decide⟩ ?_
  refine AW.puti' (k := 1) (j := 1) (pc := 2) dX6_walk_2 ac_6 sh_38 rfl (by decide) fl_6_15 rfl rfl (tyX6_ok 1 (by decide)) (Or.inl rfl) ?_
  refine AW.aload_n (pc := 5) dX6_walk_5 rfl ?_
  refine AW.aload_n (pc := 6) dX6_walk_6 rfl ?_
  refine AW.callSi (M' := mX6_beginning) (F' := 0) (as := [aR 3, aR 20]) (pc := 7) dX6_walk_7 (by decide) kX6_beginning ml_6_42 rfl npX6_beginning (Nat.le_of_ble_eq_true rfl) (aRun.mono (fun r1 h2 H_1 => ?_) H)
  refine AW.istore_n (pc := 10) dX6_walk_10 (by decide) rfl ?_
  exact H_1
set_option maxRecDepth 100000 in
set_option maxHeartbeats 4000000 in
theorem s_X6_walk_11  {l3 : Int} {h : aH} {Q : aQ} (H : ((l3 = (-1) → Q 0 h) ∧ (¬ (l3 = (-1)) → ((24 ≤ (h 38 1) → Q 0 h) ∧ (¬ (24 ≤ (h 38 1)) → (0 ≤ (h 38 1) ∧ (h 38 1) < 24) ∧ inR ((h 38 1) + 1) ∧ (0 ≤ l3 ∧ l3 < 24) ∧ inR ((h 24 l3) + (h 7 l3)) ∧ o_X5_jobNext (a_up (a_up h 39 (h 38 1) l3) 38 1 ((h 38 1) + 1)) 3 l3 ∧ o_X6_goesOn (a_up (a_up h 39 (h 38 1) l3) 38 1 ((h 38 1) + 1)) (f_X5_jobNext (a_up (a_up h 39 (h 38 1) l3) 38 1 ((h 38 1) + 1)) 3 l3) ((h 24 l3) + (h 7 l3)) ∧ o_X6_goesOn (a_up (a_up h 39 (h 38 1) l3) 38 1 ((h 38 1) + 1)) (h 23 l3) ((h 24 l3) + (h 7 l3)) ∧ AW mX6_walk 1 11 [some (aR 38), some (aR 3), some (aR 20), some (aI (if (f_X6_goesOn (a_up (a_up h 39 (h 38 1) l3) 38 1 ((h 38 1) + 1)) (f_X5_jobNext (a_up (a_up h 39 (h 38 1) l3) 38 1 ((h 38 1) + 1)) 3 l3) ((h 24 l3) + (h 7 l3))) = (-1) then (max (f_X6_goesOn (a_up (a_up h 39 (h 38 1) l3) 38 1 ((h 38 1) + 1)) (f_X5_jobNext (a_up (a_up h 39 (h 38 1) l3) 38 1 ((h 38 1) + 1)) 3 l3) ((h 24 l3) + (h 7 l3))) (f_X6_goesOn (a_up (a_up h 39 (h 38 1) l3) 38 1 ((h 38 1) + 1)) (h 23 l3) ((h 24 l3) + (h 7 l3)))) else (if (f_X6_goesOn (a_up (a_up h 39 (h 38 1) l3) 38 1 ((h 38 1) + 1)) (h 23 l3) ((h 24 l3) + (h 7 l3))) = (-1) then (max (f_X6_goesOn (a_up (a_up h 39 (h 38 1) l3) 38 1 ((h 38 1) + 1)) (f_X5_jobNext (a_up (a_up h 39 (h 38 1) l3) 38 1 ((h 38 1) + 1)) 3 l3) ((h 24 l3) + (h 7 l3))) (f_X6_goesOn (a_up (a_up h 39 (h 38 1) l3) 38 1 ((h 38 1) + 1)) (h 23 l3) ((h 24 l3) + (h 7 l3)))) else (min (f_X6_goesOn (a_up (a_up h 39 (h 38 1) l3) 38 1 ((h 38 1) + 1)) (f_X5_jobNext (a_up (a_up h 39 (h 38 1) l3) 38 1 ((h 38 1) + 1)) 3 l3) ((h 24 l3) + (h 7 l3))) (f_X6_goesOn (a_up (a_up h 39 (h 38 1) l3) 38 1 ((h 38 1) + 1)) (h 23 l3) ((h 24 l3) + (h 7 l3))))))), none, none, none] [] (a_up (a_up h 39 (h 38 1) l3) 38 1 ((h 38 1) + 1)) Q))))) : AW mX6_walk 1 11 [some (aR 38), some (aR 3), some (aR 20), some (aI l3), none, none, none] [] h Q := by
  refine AW.iload_n (pc := 11) dX6_walk_11 rfl ?_
  refine AW.iconst (pc := 12) dX6_walk_12 ⟨by decide, by decide⟩ ?_
  refine AW.icmp_eq (tgt := 120) (pc := 13) dX6_walk_13 rfl (fun q => ?_) (fun q => ?_)
  · skip
    have H_1 := H.1 q
    refine AW.vret (pc := 120) dX6_walk_120 rfl ?_
    exact H_1
  · skip
    have H_2 := H.2 q
    refine AW.aload_n (pc := 16) dX6_walk_16 rfl ?_
    refine AW.geti' (k := 1) (j := 1) (pc := 17) dX6_walk_17 ac_6 sh_38 rfl (by decide) fl_6_15 rfl (v := (h 38 1)) rfl ?_
    refine AW.bipush (pc := 20) dX6_walk_20 rfl ⟨by decide, by decide⟩ ?_
    refine AW.icmp_ge (tgt := 120) (pc := 22) dX6_walk_22 rfl (fun q => ?_) (fun q => ?_)
    · skip
      have H_3 := H_2.1 q
      refine AW.vret (pc := 120) dX6_walk_120 rfl ?_
      exact H_3
    · skip
      have H_4 := H_2.2 q
      refine AW.aload_n (pc := 25) dX6_walk_25 rfl ?_
      refine AW.getr (k := 0) (pc := 26) dX6_walk_26 ac_6 sh_38 rfl (by decide) fl_6_9 ?_
      refine AW.aload_n (pc := 29) dX6_walk_29 rfl ?_
      refine AW.geti' (k := 1) (j := 1) (pc := 30) dX6_walk_30 ac_6 sh_38 rfl (by decide) fl_6_15 rfl (v := (h 38 1)) rfl ?_
      refine AW.iload_n (pc := 33) dX6_walk_33 rfl ?_
      refine AW.iast (pc := 34) dX6_walk_34 sh_39 (H_4.1) ?_
      refine AW.aload_n (pc := 35) dX6_walk_35 rfl ?_
      refine AW.dup (pc := 36) dX6_walk_36 rfl ?_
      refine AW.geti' (k := 1) (j := 1) (pc := 37) dX6_walk_37 ac_6 sh_38 rfl (by decide) fl_6_15 rfl (v := (h 38 1)) (by rw [a_up_ne (by decide)]) ?_
      refine AW.iconst (pc := 40) dX6_walk_40 ⟨by decide, by decide⟩ ?_
      refine AW.iadd (pc := 41) dX6_walk_41 (H_4.2.1) ?_
      refine AW.puti' (k := 1) (j := 1) (pc := 42) dX6_walk_42 ac_6 sh_38 rfl (by decide) fl_6_15 rfl rfl (tyX6_ok 1 (by decide)) (Or.inl rfl) ?_
      refine AW.aload_n (pc := 45) dX6_walk_45 rfl ?_
      refine AW.getr (k := 3) (pc := 46) dX6_walk_46 ac_8 sh_20 rfl (by decide) fl_6_46 ?_
      refine AW.iload_n (pc := 49) dX6_walk_49 rfl ?_
      refine AW.iald (pc := 50) dX6_walk_50 sh_24 (H_4.2.2.1) (v := (h 24 l3)) (by rw [a_up_ne (by decide), a_up_ne (by decide)]) ?_
      refine AW.aload_n (pc := 51) dX6_walk_51 rfl ?_
      refine AW.getr (k := 5) (pc := 52) dX6_walk_52 ac_5 sh_3 rfl (by decide) fl_6_51 ?_
      refine AW.iload_n (pc := 55) dX6_walk_55 rfl ?_
      refine AW.iald (pc := 56) dX6_walk_56 sh_7 (H_4.2.2.1) (v := (h 7 l3)) (by rw [a_up_ne (by decide), a_up_ne (by decide)]) ?_
      refine AW.iadd (pc := 57) dX6_walk_57 (H_4.2.2.2.1) ?_
      refine AW.istore (pc := 58) dX6_walk_58 (by decide) rfl ?_
      refine AW.aload_n (pc := 60) dX6_walk_60 rfl ?_
      refine AW.aload_n (pc := 61) dX6_walk_61 rfl ?_
      refine AW.iload_n (pc := 62) dX6_walk_62 rfl ?_
      refine AW.callVi (M' := mX5_jobNext) (F' := 0) (as := [aI l3]) (pc := 63) dX6_walk_63 (by decide) kX5_jobNext ml_6_56 ob_3 rfl npX5_jobNext (Nat.le_of_ble_eq_true rfl) (p_X5_jobNext (Or.inl rfl) (H_4.2.2.2.2.1) ?_)
      refine AW.iload (pc := 66) dX6_walk_66 rfl ?_
      refine AW.callSi (M' := mX6_goesOn) (F' := 0) (as := [aR 20, aI (f_X5_jobNext (a_up (a_up h 39 (h 38 1) l3) 38 1 ((h 38 1) + 1)) 3 l3), aI ((h 24 l3) + (h 7 l3))]) (pc := 68) dX6_walk_68 (by decide) kX6_goesOn ml_6_60 rfl npX6_goesOn (Nat.le_of_ble_eq_true rfl) (p_X6_goesOn (H_4.2.2.2.2.2.1) ?_)
      refine AW.istore (pc := 71) dX6_walk_71 (by decide) rfl ?_
      refine AW.aload_n (pc := 73) dX6_walk_73 rfl ?_
      refine AW.aload_n (pc := 74) dX6_walk_74 rfl ?_
      refine AW.getr (k := 2) (pc := 75) dX6_walk_75 ac_8 sh_20 rfl (by decide) fl_6_64 ?_
      refine AW.iload_n (pc := 78) dX6_walk_78 rfl ?_
      refine AW.iald (pc := 79) dX6_walk_79 sh_23 (H_4.2.2.1) (v := (h 23 l3)) (by rw [a_up_ne (by decide), a_up_ne (by decide)]) ?_
      refine AW.iload (pc := 80) dX6_walk_80 rfl ?_
      refine AW.callSi (M' := mX6_goesOn) (F' := 0) (as := [aR 20, aI (h 23 l3), aI ((h 24 l3) + (h 7 l3))]) (pc := 82) dX6_walk_82 (by decide) kX6_goesOn ml_6_60 rfl npX6_goesOn (Nat.le_of_ble_eq_true rfl) (p_X6_goesOn (H_4.2.2.2.2.2.2.1) ?_)
      refine AW.istore (pc := 85) dX6_walk_85 (by decide) rfl ?_
      refine AW.iload (pc := 87) dX6_walk_87 rfl ?_
      refine AW.iconst (pc := 89) dX6_walk_89 ⟨by decide, by decide⟩ ?_
      have K_5 : AW mX6_walk 1 116 [some (aR 38), some (aR 3), some (aR 20), some (aI l3), some (aI ((h 24 l3) + (h 7 l3))), some (aI (f_X6_goesOn (a_up (a_up h 39 (h 38 1) l3) 38 1 ((h 38 1) + 1)) (f_X5_jobNext (a_up (a_up h 39 (h 38 1) l3) 38 1 ((h 38 1) + 1)) 3 l3) ((h 24 l3) + (h 7 l3)))), some (aI (f_X6_goesOn (a_up (a_up h 39 (h 38 1) l3) 38 1 ((h 38 1) + 1)) (h 23 l3) ((h 24 l3) + (h 7 l3))))] [aI (if (f_X6_goesOn (a_up (a_up h 39 (h 38 1) l3) 38 1 ((h 38 1) + 1)) (f_X5_jobNext (a_up (a_up h 39 (h 38 1) l3) 38 1 ((h 38 1) + 1)) 3 l3) ((h 24 l3) + (h 7 l3))) = (-1) then (max (f_X6_goesOn (a_up (a_up h 39 (h 38 1) l3) 38 1 ((h 38 1) + 1)) (f_X5_jobNext (a_up (a_up h 39 (h 38 1) l3) 38 1 ((h 38 1) + 1)) 3 l3) ((h 24 l3) + (h 7 l3))) (f_X6_goesOn (a_up (a_up h 39 (h 38 1) l3) 38 1 ((h 38 1) + 1)) (h 23 l3) ((h 24 l3) + (h 7 l3)))) else (if (f_X6_goesOn (a_up (a_up h 39 (h 38 1) l3) 38 1 ((h 38 1) + 1)) (h 23 l3) ((h 24 l3) + (h 7 l3))) = (-1) then (max (f_X6_goesOn (a_up (a_up h 39 (h 38 1) l3) 38 1 ((h 38 1) + 1)) (f_X5_jobNext (a_up (a_up h 39 (h 38 1) l3) 38 1 ((h 38 1) + 1)) 3 l3) ((h 24 l3) + (h 7 l3))) (f_X6_goesOn (a_up (a_up h 39 (h 38 1) l3) 38 1 ((h 38 1) + 1)) (h 23 l3) ((h 24 l3) + (h 7 l3)))) else (min (f_X6_goesOn (a_up (a_up h 39 (h 38 1) l3) 38 1 ((h 38 1) + 1)) (f_X5_jobNext (a_up (a_up h 39 (h 38 1) l3) 38 1 ((h 38 1) + 1)) 3 l3) ((h 24 l3) + (h 7 l3))) (f_X6_goesOn (a_up (a_up h 39 (h 38 1) l3) 38 1 ((h 38 1) + 1)) (h 23 l3) ((h 24 l3) + (h 7 l3))))))] (a_up (a_up h 39 (h 38 1) l3) 38 1 ((h 38 1) + 1)) Q := by
        have H_6 := H_4.2.2.2.2.2.2.2
        refine AW.istore_n (pc := 116) dX6_walk_116 (by decide) rfl ?_
        refine AW.goto (tgt := 11) (pc := 117) dX6_walk_117 rfl ?_
        refine AW.mask [true, true, true, true, false, false, false] ?_
        exact H_6
      refine AW.icmp_eq (tgt := 99) (pc := 90) dX6_walk_90 rfl (fun q => ?_) (fun q => ?_)
      · skip
        rw [if_pos q] at K_5
        refine AW.iload (pc := 99) dX6_walk_99 rfl ?_
        refine AW.iload (pc := 101) dX6_walk_101 rfl ?_
        refine AW.mmax (pc := 103) dX6_walk_103 (by decide) ml_6_67 (Nat.le_of_ble_eq_true rfl) ?_
        refine AW.goto (tgt := 116) (pc := 106) dX6_walk_106 rfl ?_
        exact K_5
      · skip
        rw [if_neg q] at K_5
        refine AW.iload (pc := 93) dX6_walk_93 rfl ?_
        refine AW.iconst (pc := 95) dX6_walk_95 ⟨by decide, by decide⟩ ?_
        refine AW.icmp_ne (tgt := 109) (pc := 96) dX6_walk_96 rfl (fun q => ?_) (fun q => ?_)
        · skip
          rw [if_neg q] at K_5
          refine AW.iload (pc := 109) dX6_walk_109 rfl ?_
          refine AW.iload (pc := 111) dX6_walk_111 rfl ?_
          refine AW.mmin (pc := 113) dX6_walk_113 (by decide) ml_6_73 (Nat.le_of_ble_eq_true rfl) ?_
          exact K_5
        · have q := Decidable.not_not.mp q
          rw [if_pos q] at K_5
          refine AW.iload (pc := 99) dX6_walk_99 rfl ?_
          refine AW.iload (pc := 101) dX6_walk_101 rfl ?_
          refine AW.mmax (pc := 103) dX6_walk_103 (by decide) ml_6_67 (Nat.le_of_ble_eq_true rfl) ?_
          refine AW.goto (tgt := 116) (pc := 106) dX6_walk_106 rfl ?_
          exact K_5
set_option maxRecDepth 100000 in
set_option maxHeartbeats 4000000 in
theorem e_X6_find  {h : aH} {Q : aQ} (H : aRun mX6_walk 1 [aR 38, aR 3, aR 20] h (fun r1 h2 => aRun mX6_cutBlocks 0 [aR 38, aR 3] h2 (fun r3 h4 => aRun mX6_findMoves 1 [aR 38, aR 3] h4 (fun r5 h6 => Q 0 h6)))) : aRun mX6_find 2 [aR 38, aR 3, aR 20] h Q := by
  refine aRun.of pn_6 rfl (Nat.le_of_ble_eq_true rfl) ?_
  show AW mX6_find 2 0 [some (aR 38), some (aR 3), some (aR 20)] [] h Q
  refine AW.aload_n (pc := 0) dX6_find_0 rfl ?_
  refine AW.aload_n (pc := 1) dX6_find_1 rfl ?_
  refine AW.aload_n (pc := 2) dX6_find_2 rfl ?_
  refine AW.callVv (M' := mX6_walk) (F' := 1) (as := [aR 3, aR 20]) (pc := 3) dX6_find_3 (by decide) kX6_walk ml_6_31 ob_38 rfl npX6_walk (Nat.le_of_ble_eq_true rfl) (aRun.mono (fun r1 h2 H_1 => ?_) H)
  refine AW.aload_n (pc := 6) dX6_find_6 rfl ?_
  refine AW.aload_n (pc := 7) dX6_find_7 rfl ?_
  refine AW.callVv (M' := mX6_cutBlocks) (F' := 0) (as := [aR 3]) (pc := 8) dX6_find_8 (by decide) kX6_cutBlocks ml_6_35 ob_38 rfl npX6_cutBlocks (Nat.le_of_ble_eq_true rfl) (aRun.mono (fun r3 h4 H_2 => ?_) H_1)
  refine AW.aload_n (pc := 11) dX6_find_11 rfl ?_
  refine AW.aload_n (pc := 12) dX6_find_12 rfl ?_
  refine AW.callVv (M' := mX6_findMoves) (F' := 1) (as := [aR 3]) (pc := 13) dX6_find_13 (by decide) kX6_findMoves ml_6_39 ob_38 rfl npX6_findMoves (Nat.le_of_ble_eq_true rfl) (aRun.mono (fun r5 h6 H_3 => ?_) H_2)
  refine AW.vret (pc := 16) dX6_find_16 rfl ?_
  exact H_3
def f_X6_first (h : aH) (a1 : Int) : Int := (h 39 (h 41 a1))
def o_X6_first (h : aH) (a1 : Int) : Prop := (0 ≤ a1 ∧ a1 < 24) ∧ (0 ≤ (h 41 a1) ∧ (h 41 a1) < 24)
set_option maxRecDepth 100000 in
set_option maxHeartbeats 4000000 in
theorem p_X6_first {a1 : Int} {h : aH} {Q : aQ} (o : o_X6_first h a1) (k : Q (f_X6_first h a1) h) : aRun mX6_first 0 [aR 38, aI a1] h Q := by
  unfold f_X6_first at k
  unfold o_X6_first at o
  refine aRun.of pn_6 rfl (Nat.le_of_ble_eq_true rfl) ?_
  show AW mX6_first 0 0 [some (aR 38), some (aI a1)] [] h Q
  refine AW.aload_n (pc := 0) dX6_first_0 rfl ?_
  refine AW.getr (k := 0) (pc := 1) dX6_first_1 ac_6 sh_38 rfl (by decide) fl_6_9 ?_
  refine AW.aload_n (pc := 4) dX6_first_4 rfl ?_
  refine AW.getr (k := 4) (pc := 5) dX6_first_5 ac_6 sh_38 rfl (by decide) fl_6_25 ?_
  refine AW.iload_n (pc := 8) dX6_first_8 rfl ?_
  refine AW.iald (pc := 9) dX6_first_9 sh_41 (o.1) (v := (h 41 a1)) rfl ?_
  refine AW.iald (pc := 10) dX6_first_10 sh_39 (o.2) (v := (h 39 (h 41 a1))) rfl ?_
  refine AW.iret (pc := 11) dX6_first_11 rfl ?_
  exact k
def f_X6_second (h : aH) (a1 : Int) : Int := (h 39 ((h 41 a1) + 1))
def o_X6_second (h : aH) (a1 : Int) : Prop := (0 ≤ a1 ∧ a1 < 24) ∧ inR ((h 41 a1) + 1) ∧ (0 ≤ ((h 41 a1) + 1) ∧ ((h 41 a1) + 1) < 24)
set_option maxRecDepth 100000 in
set_option maxHeartbeats 4000000 in
theorem p_X6_second {a1 : Int} {h : aH} {Q : aQ} (o : o_X6_second h a1) (k : Q (f_X6_second h a1) h) : aRun mX6_second 0 [aR 38, aI a1] h Q := by
  unfold f_X6_second at k
  unfold o_X6_second at o
  refine aRun.of pn_6 rfl (Nat.le_of_ble_eq_true rfl) ?_
  show AW mX6_second 0 0 [some (aR 38), some (aI a1)] [] h Q
  refine AW.aload_n (pc := 0) dX6_second_0 rfl ?_
  refine AW.getr (k := 0) (pc := 1) dX6_second_1 ac_6 sh_38 rfl (by decide) fl_6_9 ?_
  refine AW.aload_n (pc := 4) dX6_second_4 rfl ?_
  refine AW.getr (k := 4) (pc := 5) dX6_second_5 ac_6 sh_38 rfl (by decide) fl_6_25 ?_
  refine AW.iload_n (pc := 8) dX6_second_8 rfl ?_
  refine AW.iald (pc := 9) dX6_second_9 sh_41 (o.1) (v := (h 41 a1)) rfl ?_
  refine AW.iconst (pc := 10) dX6_second_10 ⟨by decide, by decide⟩ ?_
  refine AW.iadd (pc := 11) dX6_second_11 (o.2.1) ?_
  refine AW.iald (pc := 12) dX6_second_12 sh_39 (o.2.2) (v := (h 39 ((h 41 a1) + 1))) rfl ?_
  refine AW.iret (pc := 13) dX6_second_13 rfl ?_
  exact k
def f_X7_letterAt (h : aH) (a1 : Int) : Int := (if a1 < 0 then ((-1) : Int) else (if (h 1 1) ≤ a1 then ((-1) : Int) else (h 2 a1)))
def o_X7_letterAt (h : aH) (a1 : Int) : Prop := ((¬ (a1 < 0) → (¬ ((h 1 1) ≤ a1) → (0 ≤ a1 ∧ a1 < 140))))
set_option maxRecDepth 100000 in
set_option maxHeartbeats 4000000 in
theorem p_X7_letterAt {a1 : Int} {h : aH} {Q : aQ} (o : o_X7_letterAt h a1) (k : Q (f_X7_letterAt h a1) h) : aRun mX7_letterAt 0 [aR 1, aI a1] h Q := by
  unfold f_X7_letterAt at k
  unfold o_X7_letterAt at o
  refine aRun.of pn_7 rfl (Nat.le_of_ble_eq_true rfl) ?_
  show AW mX7_letterAt 0 0 [some (aR 1), some (aI a1)] [] h Q
  refine AW.iload_n (pc := 0) dX7_letterAt_0 rfl ?_
  have K_1 : AW mX7_letterAt 0 22 [some (aR 1), some (aI a1)] [aI (if a1 < 0 then ((-1) : Int) else (if (h 1 1) ≤ a1 then ((-1) : Int) else (h 2 a1)))] h Q := by
    refine AW.iret (pc := 22) dX7_letterAt_22 rfl ?_
    exact k
  have H_3 := o
  refine AW.if_lt (tgt := 21) (pc := 1) dX7_letterAt_1 rfl (fun q => ?_) (fun q => ?_)
  · skip
    rw [if_pos q] at K_1
    refine AW.iconst (pc := 21) dX7_letterAt_21 ⟨by decide, by decide⟩ ?_
    exact K_1
  · skip
    have H_5 := H_3 q
    rw [if_neg q] at K_1
    refine AW.iload_n (pc := 4) dX7_letterAt_4 rfl ?_
    refine AW.aload_n (pc := 5) dX7_letterAt_5 rfl ?_
    refine AW.geti' (k := 1) (j := 1) (pc := 6) dX7_letterAt_6 ac_7 sh_1 rfl (by decide) fl_7_15 rfl (v := (h 1 1)) rfl ?_
    refine AW.icmp_ge (tgt := 21) (pc := 9) dX7_letterAt_9 rfl (fun q => ?_) (fun q => ?_)
    · skip
      rw [if_pos q] at K_1
      refine AW.iconst (pc := 21) dX7_letterAt_21 ⟨by decide, by decide⟩ ?_
      exact K_1
    · skip
      have H_7 := H_5 q
      rw [if_neg q] at K_1
      refine AW.aload_n (pc := 12) dX7_letterAt_12 rfl ?_
      refine AW.getr (k := 0) (pc := 13) dX7_letterAt_13 ac_7 sh_1 rfl (by decide) fl_7_9 ?_
      refine AW.iload_n (pc := 16) dX7_letterAt_16 rfl ?_
      refine AW.iald (pc := 17) dX7_letterAt_17 sh_2 H_7 (v := (h 2 a1)) rfl ?_
      refine AW.goto (tgt := 22) (pc := 18) dX7_letterAt_18 rfl ?_
      exact K_1
def f_X7_isFigure (h : aH) (a1 : Int) (a2 : Int) (a3 : Int) : Int := (if (f_X7_letterAt h a1) < a2 then (0 : Int) else (if a3 < (f_X7_letterAt h a1) then (0 : Int) else (1 : Int)))
def o_X7_isFigure (h : aH) (a1 : Int) (a2 : Int) (a3 : Int) : Prop := o_X7_letterAt h a1
theorem b_X7_isFigure {h : aH} {a1 a2 a3 : Int} : f_X7_isFigure h a1 a2 a3 = 0 ∨ f_X7_isFigure h a1 a2 a3 = 1 := by
  unfold f_X7_isFigure
  exact (a_ite01 (Or.inl rfl) (a_ite01 (Or.inl rfl) (Or.inr rfl)))
set_option maxRecDepth 100000 in
set_option maxHeartbeats 4000000 in
theorem p_X7_isFigure {a1 a2 a3 : Int} {h : aH} {Q : aQ} (o : o_X7_isFigure h a1 a2 a3) (k : Q (f_X7_isFigure h a1 a2 a3) h) : aRun mX7_isFigure 1 [aR 1, aI a1, aI a2, aI a3] h Q := by
  unfold f_X7_isFigure at k
  unfold o_X7_isFigure at o
  refine aRun.of pn_7 rfl (Nat.le_of_ble_eq_true rfl) ?_
  show AW mX7_isFigure 1 0 [some (aR 1), some (aI a1), some (aI a2), some (aI a3), none] [] h Q
  refine AW.aload_n (pc := 0) dX7_isFigure_0 rfl ?_
  refine AW.iload_n (pc := 1) dX7_isFigure_1 rfl ?_
  refine AW.callVi (M' := mX7_letterAt) (F' := 0) (as := [aI a1]) (pc := 2) dX7_isFigure_2 (by decide) kX7_letterAt ml_7_43 ob_1 rfl npX7_letterAt (Nat.le_of_ble_eq_true rfl) (p_X7_letterAt o ?_)
  refine AW.istore (pc := 5) dX7_isFigure_5 (by decide) rfl ?_
  refine AW.iload (pc := 7) dX7_isFigure_7 rfl ?_
  refine AW.iload_n (pc := 9) dX7_isFigure_9 rfl ?_
  have K_1 : AW mX7_isFigure 1 24 [some (aR 1), some (aI a1), some (aI a2), some (aI a3), some (aI (f_X7_letterAt h a1))] [aI (if (f_X7_letterAt h a1) < a2 then (0 : Int) else (if a3 < (f_X7_letterAt h a1) then (0 : Int) else (1 : Int)))] h Q := by
    refine AW.zret (pc := 24) dX7_isFigure_24 rfl (a_ite01 (Or.inl rfl) (a_ite01 (Or.inl rfl) (Or.inr rfl))) ?_
    exact k
  refine AW.icmp_lt (tgt := 23) (pc := 10) dX7_isFigure_10 rfl (fun q => ?_) (fun q => ?_)
  · skip
    rw [if_pos q] at K_1
    refine AW.iconst (pc := 23) dX7_isFigure_23 ⟨by decide, by decide⟩ ?_
    exact K_1
  · skip
    rw [if_neg q] at K_1
    refine AW.iload (pc := 13) dX7_isFigure_13 rfl ?_
    refine AW.iload_n (pc := 15) dX7_isFigure_15 rfl ?_
    refine AW.icmp_gt (tgt := 23) (pc := 16) dX7_isFigure_16 rfl (fun q => ?_) (fun q => ?_)
    · skip
      rw [if_pos q] at K_1
      refine AW.iconst (pc := 23) dX7_isFigure_23 ⟨by decide, by decide⟩ ?_
      exact K_1
    · skip
      rw [if_neg q] at K_1
      refine AW.iconst (pc := 19) dX7_isFigure_19 ⟨by decide, by decide⟩ ?_
      refine AW.goto (tgt := 24) (pc := 20) dX7_isFigure_20 rfl ?_
      exact K_1
def f_X7_isTask (h : aH) (a0 : Int) (a1 : Int) : Int := (if (a1 - a0) < 3 then (0 : Int) else (1 : Int))
def o_X7_isTask (h : aH) (a0 : Int) (a1 : Int) : Prop := inR (a1 - a0)
theorem b_X7_isTask {h : aH} {a0 a1 : Int} : f_X7_isTask h a0 a1 = 0 ∨ f_X7_isTask h a0 a1 = 1 := by
  unfold f_X7_isTask
  exact (a_ite01 (Or.inl rfl) (Or.inr rfl))
set_option maxRecDepth 100000 in
set_option maxHeartbeats 4000000 in
theorem p_X7_isTask {a0 a1 : Int} {h : aH} {Q : aQ} (o : o_X7_isTask h a0 a1) (k : Q (f_X7_isTask h a0 a1) h) : aRun mX7_isTask 0 [aI a0, aI a1] h Q := by
  unfold f_X7_isTask at k
  unfold o_X7_isTask at o
  refine aRun.of pn_7 rfl (Nat.le_of_ble_eq_true rfl) ?_
  show AW mX7_isTask 0 0 [some (aI a0), some (aI a1)] [] h Q
  refine AW.iload_n (pc := 0) dX7_isTask_0 rfl ?_
  refine AW.iload_n (pc := 1) dX7_isTask_1 rfl ?_
  refine AW.isub (pc := 2) dX7_isTask_2 o ?_
  refine AW.iconst (pc := 3) dX7_isTask_3 ⟨by decide, by decide⟩ ?_
  have K_1 : AW mX7_isTask 0 12 [some (aI a0), some (aI a1)] [aI (if (a1 - a0) < 3 then (0 : Int) else (1 : Int))] h Q := by
    refine AW.zret (pc := 12) dX7_isTask_12 rfl (a_ite01 (Or.inl rfl) (Or.inr rfl)) ?_
    exact k
  refine AW.icmp_lt (tgt := 11) (pc := 4) dX7_isTask_4 rfl (fun q => ?_) (fun q => ?_)
  · skip
    rw [if_pos q] at K_1
    refine AW.iconst (pc := 11) dX7_isTask_11 ⟨by decide, by decide⟩ ?_
    exact K_1
  · skip
    rw [if_neg q] at K_1
    refine AW.iconst (pc := 7) dX7_isTask_7 ⟨by decide, by decide⟩ ?_
    refine AW.goto (tgt := 12) (pc := 8) dX7_isTask_8 rfl ?_
    exact K_1
set_option maxRecDepth 100000 in
set_option maxHeartbeats 4000000 in
theorem e_X7_number {a1 a2 : Int} {h : aH} {Q : aQ} (H : AW mX7_number 1 5 [some (aR 1), none, some (aI a2), some (aI 0), some (aI a1)] [] h Q) : aRun mX7_number 1 [aR 1, aI a1, aI a2] h Q := by
  refine aRun.of pn_7 rfl (Nat.le_of_ble_eq_true rfl) ?_
  show AW mX7_number 1 0 [some (aR 1), some (aI a1), some (aI a2), none, none] [] h Q
  refine AW.iconst (pc := 0) dX7_number_0 ⟨by decide, by decide⟩ ?_
  refine AW.istore_n (pc := 1) dX7_number_1 (by decide) rfl ?_
  refine AW.iload_n (pc := 2) dX7_number_2 rfl ?_
  refine AW.istore (pc := 3) dX7_number_3 (by decide) rfl ?_
  refine AW.mask [true, false, true, true, true] ?_
  exact H
set_option maxRecDepth 100000 in
set_option maxHeartbeats 4000000 in
theorem s_X7_number_5  {l2 l3 l4 : Int} {h : aH} {Q : aQ} (H : ((l2 ≤ l4 → Q l3 h) ∧ (¬ (l2 ≤ l4) → inR (10 * l3) ∧ o_X7_letterAt h l4 ∧ inR ((10 * l3) + (f_X7_letterAt h l4)) ∧ inR (((10 * l3) + (f_X7_letterAt h l4)) - 48) ∧ inR (l4 + 1) ∧ AW mX7_number 1 5 [some (aR 1), none, some (aI l2), some (aI (((10 * l3) + (f_X7_letterAt h l4)) - 48)), some (aI (l4 + 1))] [] h Q))) : AW mX7_number 1 5 [some (aR 1), none, some (aI l2), some (aI l3), some (aI l4)] [] h Q := by
  refine AW.iload (pc := 5) dX7_number_5 rfl ?_
  refine AW.iload_n (pc := 7) dX7_number_7 rfl ?_
  refine AW.icmp_ge (tgt := 32) (pc := 8) dX7_number_8 rfl (fun q => ?_) (fun q => ?_)
  · skip
    have H_1 := H.1 q
    refine AW.iload_n (pc := 32) dX7_number_32 rfl ?_
    refine AW.iret (pc := 33) dX7_number_33 rfl ?_
    exact H_1
  · skip
    have H_2 := H.2 q
    refine AW.bipush (pc := 11) dX7_number_11 rfl ⟨by decide, by decide⟩ ?_
    refine AW.iload_n (pc := 13) dX7_number_13 rfl ?_
    refine AW.imul (pc := 14) dX7_number_14 (H_2.1) ?_
    refine AW.aload_n (pc := 15) dX7_number_15 rfl ?_
    refine AW.iload (pc := 16) dX7_number_16 rfl ?_
    refine AW.callVi (M' := mX7_letterAt) (F' := 0) (as := [aI l4]) (pc := 18) dX7_number_18 (by decide) kX7_letterAt ml_7_43 ob_1 rfl npX7_letterAt (Nat.le_of_ble_eq_true rfl) (p_X7_letterAt (H_2.2.1) ?_)
    refine AW.iadd (pc := 21) dX7_number_21 (H_2.2.2.1) ?_
    refine AW.bipush (pc := 22) dX7_number_22 rfl ⟨by decide, by decide⟩ ?_
    refine AW.isub (pc := 24) dX7_number_24 (H_2.2.2.2.1) ?_
    refine AW.istore_n (pc := 25) dX7_number_25 (by decide) rfl ?_
    refine AW.iinc (pc := 26) dX7_number_26 rfl (by decide) rfl (H_2.2.2.2.2.1) ?_
    refine AW.goto (tgt := 5) (pc := 29) dX7_number_29 rfl ?_
    exact H_2.2.2.2.2.2
set_option maxRecDepth 100000 in
set_option maxHeartbeats 4000000 in
theorem e_X7_put {a1 : Int} {h : aH} {Q : aQ} (H : ((140 ≤ (h 1 1) → Q 0 h) ∧ (¬ (140 ≤ (h 1 1)) → (0 ≤ (h 1 1) ∧ (h 1 1) < 140) ∧ inR ((h 1 1) + 1) ∧ Q 0 (a_up (a_up h 2 (h 1 1) a1) 1 1 ((h 1 1) + 1))))) : aRun mX7_put 0 [aR 1, aI a1] h Q := by
  refine aRun.of pn_7 rfl (Nat.le_of_ble_eq_true rfl) ?_
  show AW mX7_put 0 0 [some (aR 1), some (aI a1)] [] h Q
  refine AW.aload_n (pc := 0) dX7_put_0 rfl ?_
  refine AW.geti' (k := 1) (j := 1) (pc := 1) dX7_put_1 ac_7 sh_1 rfl (by decide) fl_7_15 rfl (v := (h 1 1)) rfl ?_
  refine AW.sipush (pc := 4) dX7_put_4 rfl ⟨by decide, by decide⟩ ?_
  refine AW.icmp_ge (tgt := 30) (pc := 7) dX7_put_7 rfl (fun q => ?_) (fun q => ?_)
  · skip
    have H_1 := H.1 q
    refine AW.vret (pc := 30) dX7_put_30 rfl ?_
    exact H_1
  · skip
    have H_2 := H.2 q
    refine AW.aload_n (pc := 10) dX7_put_10 rfl ?_
    refine AW.getr (k := 0) (pc := 11) dX7_put_11 ac_7 sh_1 rfl (by decide) fl_7_9 ?_
    refine AW.aload_n (pc := 14) dX7_put_14 rfl ?_
    refine AW.geti' (k := 1) (j := 1) (pc := 15) dX7_put_15 ac_7 sh_1 rfl (by decide) fl_7_15 rfl (v := (h 1 1)) rfl ?_
    refine AW.iload_n (pc := 18) dX7_put_18 rfl ?_
    refine AW.iast (pc := 19) dX7_put_19 sh_2 (H_2.1) ?_
    refine AW.aload_n (pc := 20) dX7_put_20 rfl ?_
    refine AW.dup (pc := 21) dX7_put_21 rfl ?_
    refine AW.geti' (k := 1) (j := 1) (pc := 22) dX7_put_22 ac_7 sh_1 rfl (by decide) fl_7_15 rfl (v := (h 1 1)) (by rw [a_up_ne (by decide)]) ?_
    refine AW.iconst (pc := 25) dX7_put_25 ⟨by decide, by decide⟩ ?_
    refine AW.iadd (pc := 26) dX7_put_26 (H_2.2.1) ?_
    refine AW.puti' (k := 1) (j := 1) (pc := 27) dX7_put_27 ac_7 sh_1 rfl (by decide) fl_7_15 rfl rfl (tyX7_ok 1 (by decide)) (Or.inl rfl) ?_
    refine AW.vret (pc := 30) dX7_put_30 rfl ?_
    exact H_2.2.2
def f_X7_taskEnd (h : aH) (a1 : Int) : Int := (if (f_X7_isFigure h a1 48 52) = 0 then a1 else (if (f_X7_letterAt h (a1 + 1)) = 32 then (if (f_X7_isFigure h (a1 + 2) 49 57) = 0 then (a1 + 2) else (if (f_X7_isFigure h (a1 + 3) 48 57) = 0 then (a1 + 3) else (a1 + 4))) else (a1 + 1)))
def o_X7_taskEnd (h : aH) (a1 : Int) : Prop := o_X7_isFigure h a1 48 52 ∧ (¬ ((f_X7_isFigure h a1 48 52) = 0) → (inR (a1 + 1) ∧ o_X7_letterAt h (a1 + 1) ∧ ((f_X7_letterAt h (a1 + 1)) = 32 → (inR (a1 + 2) ∧ o_X7_isFigure h (a1 + 2) 49 57 ∧ (¬ ((f_X7_isFigure h (a1 + 2) 49 57) = 0) → (inR (a1 + 3) ∧ o_X7_isFigure h (a1 + 3) 48 57 ∧ ((¬ ((f_X7_isFigure h (a1 + 3) 48 57) = 0) → inR (a1 + 4)))))))))
set_option maxRecDepth 100000 in
set_option maxHeartbeats 4000000 in
theorem p_X7_taskEnd {a1 : Int} {h : aH} {Q : aQ} (o : o_X7_taskEnd h a1) (k : Q (f_X7_taskEnd h a1) h) : aRun mX7_taskEnd 2 [aR 1, aI a1] h Q := by
  unfold f_X7_taskEnd at k
  unfold o_X7_taskEnd at o
  refine aRun.of pn_7 rfl (Nat.le_of_ble_eq_true rfl) ?_
  show AW mX7_taskEnd 2 0 [some (aR 1), some (aI a1)] [] h Q
  refine AW.aload_n (pc := 0) dX7_taskEnd_0 rfl ?_
  refine AW.iload_n (pc := 1) dX7_taskEnd_1 rfl ?_
  refine AW.bipush (pc := 2) dX7_taskEnd_2 rfl ⟨by decide, by decide⟩ ?_
  refine AW.bipush (pc := 4) dX7_taskEnd_4 rfl ⟨by decide, by decide⟩ ?_
  refine AW.callVi (M' := mX7_isFigure) (F' := 1) (as := [aI a1, aI 48, aI 52]) (pc := 6) dX7_taskEnd_6 (by decide) kX7_isFigure ml_7_46 ob_1 rfl npX7_isFigure (Nat.le_of_ble_eq_true rfl) (p_X7_isFigure (o.1) ?_)
  refine AW.if_ne (tgt := 14) (pc := 9) dX7_taskEnd_9 rfl (fun q => ?_) (fun q => ?_)
  · skip
    have H_1 := o.2 q
    rw [if_neg q] at k
    refine AW.aload_n (pc := 14) dX7_taskEnd_14 rfl ?_
    refine AW.iload_n (pc := 15) dX7_taskEnd_15 rfl ?_
    refine AW.iconst (pc := 16) dX7_taskEnd_16 ⟨by decide, by decide⟩ ?_
    refine AW.iadd (pc := 17) dX7_taskEnd_17 (H_1.1) ?_
    refine AW.callVi (M' := mX7_letterAt) (F' := 0) (as := [aI (a1 + 1)]) (pc := 18) dX7_taskEnd_18 (by decide) kX7_letterAt ml_7_43 ob_1 rfl npX7_letterAt (Nat.le_of_ble_eq_true rfl) (p_X7_letterAt (H_1.2.1) ?_)
    refine AW.bipush (pc := 21) dX7_taskEnd_21 rfl ⟨by decide, by decide⟩ ?_
    refine AW.icmp_eq (tgt := 30) (pc := 23) dX7_taskEnd_23 rfl (fun q => ?_) (fun q => ?_)
    · skip
      have H_2 := H_1.2.2 q
      rw [if_pos q] at k
      refine AW.aload_n (pc := 30) dX7_taskEnd_30 rfl ?_
      refine AW.iload_n (pc := 31) dX7_taskEnd_31 rfl ?_
      refine AW.iconst (pc := 32) dX7_taskEnd_32 ⟨by decide, by decide⟩ ?_
      refine AW.iadd (pc := 33) dX7_taskEnd_33 (H_2.1) ?_
      refine AW.bipush (pc := 34) dX7_taskEnd_34 rfl ⟨by decide, by decide⟩ ?_
      refine AW.bipush (pc := 36) dX7_taskEnd_36 rfl ⟨by decide, by decide⟩ ?_
      refine AW.callVi (M' := mX7_isFigure) (F' := 1) (as := [aI (a1 + 2), aI 49, aI 57]) (pc := 38) dX7_taskEnd_38 (by decide) kX7_isFigure ml_7_46 ob_1 rfl npX7_isFigure (Nat.le_of_ble_eq_true rfl) (p_X7_isFigure (H_2.2.1) ?_)
      refine AW.if_ne (tgt := 48) (pc := 41) dX7_taskEnd_41 rfl (fun q => ?_) (fun q => ?_)
      · skip
        have H_3 := H_2.2.2 q
        rw [if_neg q] at k
        refine AW.aload_n (pc := 48) dX7_taskEnd_48 rfl ?_
        refine AW.iload_n (pc := 49) dX7_taskEnd_49 rfl ?_
        refine AW.iconst (pc := 50) dX7_taskEnd_50 ⟨by decide, by decide⟩ ?_
        refine AW.iadd (pc := 51) dX7_taskEnd_51 (H_3.1) ?_
        refine AW.bipush (pc := 52) dX7_taskEnd_52 rfl ⟨by decide, by decide⟩ ?_
        refine AW.bipush (pc := 54) dX7_taskEnd_54 rfl ⟨by decide, by decide⟩ ?_
        refine AW.callVi (M' := mX7_isFigure) (F' := 1) (as := [aI (a1 + 3), aI 48, aI 57]) (pc := 56) dX7_taskEnd_56 (by decide) kX7_isFigure ml_7_46 ob_1 rfl npX7_isFigure (Nat.le_of_ble_eq_true rfl) (p_X7_isFigure (H_3.2.1) ?_)
        have K_4 : AW mX7_taskEnd 2 71 [some (aR 1), some (aI a1)] [aI (if (f_X7_isFigure h (a1 + 3) 48 57) = 0 then (a1 + 3) else (a1 + 4))] h Q := by
          refine AW.iret (pc := 71) dX7_taskEnd_71 rfl ?_
          exact k
        have H_6 := H_3.2.2
        refine AW.if_eq (tgt := 68) (pc := 59) dX7_taskEnd_59 rfl (fun q => ?_) (fun q => ?_)
        · skip
          rw [if_pos q] at K_4
          refine AW.iload_n (pc := 68) dX7_taskEnd_68 rfl ?_
          refine AW.iconst (pc := 69) dX7_taskEnd_69 ⟨by decide, by decide⟩ ?_
          refine AW.iadd (pc := 70) dX7_taskEnd_70 (H_3.1) ?_
          exact K_4
        · skip
          have H_8 := H_6 q
          rw [if_neg q] at K_4
          refine AW.iload_n (pc := 62) dX7_taskEnd_62 rfl ?_
          refine AW.iconst (pc := 63) dX7_taskEnd_63 ⟨by decide, by decide⟩ ?_
          refine AW.iadd (pc := 64) dX7_taskEnd_64 H_8 ?_
          refine AW.goto (tgt := 71) (pc := 65) dX7_taskEnd_65 rfl ?_
          exact K_4
      · have q := Decidable.not_not.mp q
        rw [if_pos q] at k
        refine AW.iload_n (pc := 44) dX7_taskEnd_44 rfl ?_
        refine AW.iconst (pc := 45) dX7_taskEnd_45 ⟨by decide, by decide⟩ ?_
        refine AW.iadd (pc := 46) dX7_taskEnd_46 (H_2.1) ?_
        refine AW.iret (pc := 47) dX7_taskEnd_47 rfl ?_
        exact k
    · skip
      rw [if_neg q] at k
      refine AW.iload_n (pc := 26) dX7_taskEnd_26 rfl ?_
      refine AW.iconst (pc := 27) dX7_taskEnd_27 ⟨by decide, by decide⟩ ?_
      refine AW.iadd (pc := 28) dX7_taskEnd_28 (H_1.1) ?_
      refine AW.iret (pc := 29) dX7_taskEnd_29 rfl ?_
      exact k
  · have q := Decidable.not_not.mp q
    rw [if_pos q] at k
    refine AW.iload_n (pc := 12) dX7_taskEnd_12 rfl ?_
    refine AW.iret (pc := 13) dX7_taskEnd_13 rfl ?_
    exact k
set_option maxRecDepth 100000 in
set_option maxHeartbeats 4000000 in
theorem e_X7_readInto  {h : aH} {Q : aQ} (H : AW mX7_readInto 3 14 [some (aR 1), some (aR 11), some (aI 0), some (aI 0), some (aI 0), some (aI 0), none] [] (a_up (a_up h 11 0 0) 11 1 0) Q) : aRun mX7_readInto 3 [aR 1, aR 11] h Q := by
  refine aRun.of pn_7 rfl (Nat.le_of_ble_eq_true rfl) ?_
  show AW mX7_readInto 3 0 [some (aR 1), some (aR 11), none, none, none, none, none] [] h Q
  refine AW.aload_n (pc := 0) dX7_readInto_0 rfl ?_
  refine AW.callVv (M' := mX5_clear) (F' := 0) (as := []) (pc := 1) dX7_readInto_1 (by decide) kX5_clear ml_7_19 ob_11 rfl npX5_clear (Nat.le_of_ble_eq_true rfl) (p_X5_clear  ?_)
  refine AW.iconst (pc := 4) dX7_readInto_4 ⟨by decide, by decide⟩ ?_
  refine AW.istore_n (pc := 5) dX7_readInto_5 (by decide) rfl ?_
  refine AW.iconst (pc := 6) dX7_readInto_6 ⟨by decide, by decide⟩ ?_
  refine AW.istore_n (pc := 7) dX7_readInto_7 (by decide) rfl ?_
  refine AW.iconst (pc := 8) dX7_readInto_8 ⟨by decide, by decide⟩ ?_
  refine AW.istore (pc := 9) dX7_readInto_9 (by decide) rfl ?_
  refine AW.iconst (pc := 11) dX7_readInto_11 ⟨by decide, by decide⟩ ?_
  refine AW.istore (pc := 12) dX7_readInto_12 (by decide) rfl ?_
  exact H
set_option maxRecDepth 100000 in
set_option maxHeartbeats 4000000 in
theorem s_X7_readInto_14  {l2 l3 l4 l5 : Int} {h : aH} {Q : aQ} (H : ((24 ≤ l5 → Q l2 h) ∧ (¬ (24 ≤ l5) → ((6 ≤ l3 → Q l2 h) ∧ (¬ (6 ≤ l3) → ((l4 < 6 → o_X7_taskEnd h l2 ∧ o_X7_isTask h l2 (f_X7_taskEnd h l2) ∧ (((f_X7_isTask h l2 (f_X7_taskEnd h l2)) = 0 → Q (f_X7_taskEnd h l2) h) ∧ (¬ ((f_X7_isTask h l2 (f_X7_taskEnd h l2)) = 0) → (0 ≤ l2 ∧ l2 < 140) ∧ inR ((h 2 l2) - 48) ∧ inR (l2 + 2) ∧ aRun mX7_number 1 [aR 1, aI (l2 + 2), aI (f_X7_taskEnd h l2)] h (fun r1 h2 => aRun mX5_add 0 [aR 11, aI l3, aI l4, aI ((h 2 l2) - 48), aI r1] h2 (fun r3 h4 => (((f_X7_taskEnd h l2) = (h4 1 1) → aRun mX5_finish 1 [aR 11] h4 (fun r5 h6 => Q (-1) h6)) ∧ (¬ ((f_X7_taskEnd h l2) = (h4 1 1)) → o_X7_letterAt h4 (f_X7_taskEnd h l2) ∧ (((f_X7_letterAt h4 (f_X7_taskEnd h l2)) = 44 → inR (l4 + 1) ∧ inR ((f_X7_taskEnd h l2) + 1) ∧ inR (l5 + 1) ∧ AW mX7_readInto 3 14 [some (aR 1), some (aR 11), some (aI ((f_X7_taskEnd h l2) + 1)), some (aI l3), some (aI (l4 + 1)), some (aI (l5 + 1)), none] [] h4 Q) ∧ (¬ ((f_X7_letterAt h4 (f_X7_taskEnd h l2)) = 44) → (((f_X7_letterAt h4 (f_X7_taskEnd h l2)) = 59 → inR (l3 + 1) ∧ inR ((f_X7_taskEnd h l2) + 1) ∧ inR (l5 + 1) ∧ AW mX7_readInto 3 14 [some (aR 1), some (aR 11), some (aI ((f_X7_taskEnd h l2) + 1)), some (aI (l3 + 1)), some (aI 0), some (aI (l5 + 1)), none] [] h4 Q) ∧ (¬ ((f_X7_letterAt h4 (f_X7_taskEnd h l2)) = 59) → Q (f_X7_taskEnd h l2) h4))))))))))) ∧ (¬ (l4 < 6) → Q l2 h))))))) : AW mX7_readInto 3 14 [some (aR 1), some (aR 11), some (aI l2), some (aI l3), some (aI l4), some (aI l5), none] [] h Q := by
  refine AW.iload (pc := 14) dX7_readInto_14 rfl ?_
  refine AW.bipush (pc := 16) dX7_readInto_16 rfl ⟨by decide, by decide⟩ ?_
  refine AW.icmp_ge (tgt := 143) (pc := 18) dX7_readInto_18 rfl (fun q => ?_) (fun q => ?_)
  · skip
    have H_1 := H.1 q
    refine AW.iload_n (pc := 143) dX7_readInto_143 rfl ?_
    refine AW.iret (pc := 144) dX7_readInto_144 rfl ?_
    exact H_1
  · skip
    have H_2 := H.2 q
    refine AW.iload_n (pc := 21) dX7_readInto_21 rfl ?_
    refine AW.bipush (pc := 22) dX7_readInto_22 rfl ⟨by decide, by decide⟩ ?_
    refine AW.icmp_ge (tgt := 34) (pc := 24) dX7_readInto_24 rfl (fun q => ?_) (fun q => ?_)
    · skip
      have H_3 := H_2.1 q
      refine AW.iload_n (pc := 34) dX7_readInto_34 rfl ?_
      refine AW.iret (pc := 35) dX7_readInto_35 rfl ?_
      exact H_3
    · skip
      have H_4 := H_2.2 q
      refine AW.iload (pc := 27) dX7_readInto_27 rfl ?_
      refine AW.bipush (pc := 29) dX7_readInto_29 rfl ⟨by decide, by decide⟩ ?_
      refine AW.icmp_lt (tgt := 36) (pc := 31) dX7_readInto_31 rfl (fun q => ?_) (fun q => ?_)
      · skip
        have H_5 := H_4.1 q
        refine AW.iload_n (pc := 36) dX7_readInto_36 rfl ?_
        refine AW.istore (pc := 37) dX7_readInto_37 (by decide) rfl ?_
        refine AW.aload_n (pc := 39) dX7_readInto_39 rfl ?_
        refine AW.iload (pc := 40) dX7_readInto_40 rfl ?_
        refine AW.callVi (M' := mX7_taskEnd) (F' := 2) (as := [aI l2]) (pc := 42) dX7_readInto_42 (by decide) kX7_taskEnd ml_7_24 ob_1 rfl npX7_taskEnd (Nat.le_of_ble_eq_true rfl) (p_X7_taskEnd (H_5.1) ?_)
        refine AW.istore_n (pc := 45) dX7_readInto_45 (by decide) rfl ?_
        refine AW.iload (pc := 46) dX7_readInto_46 rfl ?_
        refine AW.iload_n (pc := 48) dX7_readInto_48 rfl ?_
        refine AW.callSi (M' := mX7_isTask) (F' := 0) (as := [aI l2, aI (f_X7_taskEnd h l2)]) (pc := 49) dX7_readInto_49 (by decide) kX7_isTask ml_7_28 rfl npX7_isTask (Nat.le_of_ble_eq_true rfl) (p_X7_isTask (H_5.2.1) ?_)
        refine AW.if_ne (tgt := 57) (pc := 52) dX7_readInto_52 rfl (fun q => ?_) (fun q => ?_)
        · skip
          have H_6 := H_5.2.2.2 q
          refine AW.aload_n (pc := 57) dX7_readInto_57 rfl ?_
          refine AW.iload_n (pc := 58) dX7_readInto_58 rfl ?_
          refine AW.iload (pc := 59) dX7_readInto_59 rfl ?_
          refine AW.aload_n (pc := 61) dX7_readInto_61 rfl ?_
          refine AW.getr (k := 0) (pc := 62) dX7_readInto_62 ac_7 sh_1 rfl (by decide) fl_7_9 ?_
          refine AW.iload (pc := 65) dX7_readInto_65 rfl ?_
          refine AW.iald (pc := 67) dX7_readInto_67 sh_2 (H_6.1) (v := (h 2 l2)) rfl ?_
          refine AW.bipush (pc := 68) dX7_readInto_68 rfl ⟨by decide, by decide⟩ ?_
          refine AW.isub (pc := 70) dX7_readInto_70 (H_6.2.1) ?_
          refine AW.aload_n (pc := 71) dX7_readInto_71 rfl ?_
          refine AW.iload (pc := 72) dX7_readInto_72 rfl ?_
          refine AW.iconst (pc := 74) dX7_readInto_74 ⟨by decide, by decide⟩ ?_
          refine AW.iadd (pc := 75) dX7_readInto_75 (H_6.2.2.1) ?_
          refine AW.iload_n (pc := 76) dX7_readInto_76 rfl ?_
          refine AW.callVi (M' := mX7_number) (F' := 1) (as := [aI (l2 + 2), aI (f_X7_taskEnd h l2)]) (pc := 77) dX7_readInto_77 (by decide) kX7_number ml_7_32 ob_1 rfl npX7_number (Nat.le_of_ble_eq_true rfl) (aRun.mono (fun r1 h2 H_7 => ?_) H_6.2.2.2)
          refine AW.callVv (M' := mX5_add) (F' := 0) (as := [aI l3, aI l4, aI ((h 2 l2) - 48), aI r1]) (pc := 80) dX7_readInto_80 (by decide) kX5_add ml_7_36 ob_11 rfl npX5_add (Nat.le_of_ble_eq_true rfl) (aRun.mono (fun r3 h4 H_8 => ?_) H_7)
          refine AW.iload_n (pc := 83) dX7_readInto_83 rfl ?_
          refine AW.aload_n (pc := 84) dX7_readInto_84 rfl ?_
          refine AW.geti' (k := 1) (j := 1) (pc := 85) dX7_readInto_85 ac_7 sh_1 rfl (by decide) fl_7_15 rfl (v := (h4 1 1)) rfl ?_
          refine AW.icmp_ne (tgt := 97) (pc := 88) dX7_readInto_88 rfl (fun q => ?_) (fun q => ?_)
          · skip
            have H_9 := H_8.2 q
            refine AW.aload_n (pc := 97) dX7_readInto_97 rfl ?_
            refine AW.iload_n (pc := 98) dX7_readInto_98 rfl ?_
            refine AW.callVi (M' := mX7_letterAt) (F' := 0) (as := [aI (f_X7_taskEnd h l2)]) (pc := 99) dX7_readInto_99 (by decide) kX7_letterAt ml_7_43 ob_1 rfl npX7_letterAt (Nat.le_of_ble_eq_true rfl) (p_X7_letterAt (H_9.1) ?_)
            refine AW.bipush (pc := 102) dX7_readInto_102 rfl ⟨by decide, by decide⟩ ?_
            refine AW.icmp_ne (tgt := 113) (pc := 104) dX7_readInto_104 rfl (fun q => ?_) (fun q => ?_)
            · skip
              have H_10 := H_9.2.2 q
              refine AW.aload_n (pc := 113) dX7_readInto_113 rfl ?_
              refine AW.iload_n (pc := 114) dX7_readInto_114 rfl ?_
              refine AW.callVi (M' := mX7_letterAt) (F' := 0) (as := [aI (f_X7_taskEnd h l2)]) (pc := 115) dX7_readInto_115 (by decide) kX7_letterAt ml_7_43 ob_1 rfl npX7_letterAt (Nat.le_of_ble_eq_true rfl) (p_X7_letterAt (H_9.1) ?_)
              refine AW.bipush (pc := 118) dX7_readInto_118 rfl ⟨by decide, by decide⟩ ?_
              refine AW.icmp_ne (tgt := 132) (pc := 120) dX7_readInto_120 rfl (fun q => ?_) (fun q => ?_)
              · skip
                have H_11 := H_10.2 q
                refine AW.iload_n (pc := 132) dX7_readInto_132 rfl ?_
                refine AW.iret (pc := 133) dX7_readInto_133 rfl ?_
                exact H_11
              · have q := Decidable.not_not.mp q
                have H_12 := H_10.1 q
                refine AW.iinc (pc := 123) dX7_readInto_123 rfl (by decide) rfl (H_12.1) ?_
                refine AW.iconst (pc := 126) dX7_readInto_126 ⟨by decide, by decide⟩ ?_
                refine AW.istore (pc := 127) dX7_readInto_127 (by decide) rfl ?_
                refine AW.goto (tgt := 134) (pc := 129) dX7_readInto_129 rfl ?_
                refine AW.iinc (pc := 134) dX7_readInto_134 rfl (by decide) rfl (H_12.2.1) ?_
                refine AW.iinc (pc := 137) dX7_readInto_137 rfl (by decide) rfl (H_12.2.2.1) ?_
                refine AW.goto (tgt := 14) (pc := 140) dX7_readInto_140 rfl ?_
                refine AW.mask [true, true, true, true, true, true, false] ?_
                exact H_12.2.2.2
            · have q := Decidable.not_not.mp q
              have H_13 := H_9.2.1 q
              refine AW.iinc (pc := 107) dX7_readInto_107 rfl (by decide) rfl (H_13.1) ?_
              refine AW.goto (tgt := 134) (pc := 110) dX7_readInto_110 rfl ?_
              refine AW.iinc (pc := 134) dX7_readInto_134 rfl (by decide) rfl (H_13.2.1) ?_
              refine AW.iinc (pc := 137) dX7_readInto_137 rfl (by decide) rfl (H_13.2.2.1) ?_
              refine AW.goto (tgt := 14) (pc := 140) dX7_readInto_140 rfl ?_
              refine AW.mask [true, true, true, true, true, true, false] ?_
              exact H_13.2.2.2
          · have q := Decidable.not_not.mp q
            have H_14 := H_8.1 q
            refine AW.aload_n (pc := 91) dX7_readInto_91 rfl ?_
            refine AW.callVv (M' := mX5_finish) (F' := 1) (as := []) (pc := 92) dX7_readInto_92 (by decide) kX5_finish ml_7_40 ob_11 rfl npX5_finish (Nat.le_of_ble_eq_true rfl) (aRun.mono (fun r5 h6 H_15 => ?_) H_14)
            refine AW.iconst (pc := 95) dX7_readInto_95 ⟨by decide, by decide⟩ ?_
            refine AW.iret (pc := 96) dX7_readInto_96 rfl ?_
            exact H_15
        · have q := Decidable.not_not.mp q
          have H_16 := H_5.2.2.1 q
          refine AW.iload_n (pc := 55) dX7_readInto_55 rfl ?_
          refine AW.iret (pc := 56) dX7_readInto_56 rfl ?_
          exact H_16
      · skip
        have H_17 := H_4.2 q
        refine AW.iload_n (pc := 34) dX7_readInto_34 rfl ?_
        refine AW.iret (pc := 35) dX7_readInto_35 rfl ?_
        exact H_17
def f_X8_endOf (h : aH) (a2 : Int) : Int := (if a2 = (-1) then (0 : Int) else ((h 24 a2) + (h 7 a2)))
def o_X8_endOf (h : aH) (a2 : Int) : Prop := ((¬ (a2 = (-1)) → ((0 ≤ a2 ∧ a2 < 24) ∧ inR ((h 24 a2) + (h 7 a2)))))
set_option maxRecDepth 100000 in
set_option maxHeartbeats 4000000 in
theorem p_X8_endOf {a2 : Int} {h : aH} {Q : aQ} (o : o_X8_endOf h a2) (k : Q (f_X8_endOf h a2) h) : aRun mX8_endOf 0 [aR 20, aR 3, aI a2] h Q := by
  unfold f_X8_endOf at k
  unfold o_X8_endOf at o
  refine aRun.of pn_8 rfl (Nat.le_of_ble_eq_true rfl) ?_
  show AW mX8_endOf 0 0 [some (aR 20), some (aR 3), some (aI a2)] [] h Q
  refine AW.iload_n (pc := 0) dX8_endOf_0 rfl ?_
  refine AW.iconst (pc := 1) dX8_endOf_1 ⟨by decide, by decide⟩ ?_
  have K_1 : AW mX8_endOf 0 22 [some (aR 20), some (aR 3), some (aI a2)] [aI (if a2 = (-1) then (0 : Int) else ((h 24 a2) + (h 7 a2)))] h Q := by
    refine AW.iret (pc := 22) dX8_endOf_22 rfl ?_
    exact k
  have H_3 := o
  refine AW.icmp_ne (tgt := 9) (pc := 2) dX8_endOf_2 rfl (fun q => ?_) (fun q => ?_)
  · skip
    have H_4 := H_3 q
    rw [if_neg q] at K_1
    refine AW.aload_n (pc := 9) dX8_endOf_9 rfl ?_
    refine AW.getr (k := 3) (pc := 10) dX8_endOf_10 ac_8 sh_20 rfl (by decide) fl_8_21 ?_
    refine AW.iload_n (pc := 13) dX8_endOf_13 rfl ?_
    refine AW.iald (pc := 14) dX8_endOf_14 sh_24 (H_4.1) (v := (h 24 a2)) rfl ?_
    refine AW.aload_n (pc := 15) dX8_endOf_15 rfl ?_
    refine AW.getr (k := 5) (pc := 16) dX8_endOf_16 ac_5 sh_3 rfl (by decide) fl_8_60 ?_
    refine AW.iload_n (pc := 19) dX8_endOf_19 rfl ?_
    refine AW.iald (pc := 20) dX8_endOf_20 sh_7 (H_4.1) (v := (h 7 a2)) rfl ?_
    refine AW.iadd (pc := 21) dX8_endOf_21 (H_4.2) ?_
    exact K_1
  · have q := Decidable.not_not.mp q
    rw [if_pos q] at K_1
    refine AW.iconst (pc := 5) dX8_endOf_5 ⟨by decide, by decide⟩ ?_
    refine AW.goto (tgt := 22) (pc := 6) dX8_endOf_6 rfl ?_
    exact K_1
def f_X8_toCome (h : aH) (a2 : Int) : Int := (if a2 = (-1) then (0 : Int) else ((h 7 a2) + (h 25 a2)))
def o_X8_toCome (h : aH) (a2 : Int) : Prop := ((¬ (a2 = (-1)) → ((0 ≤ a2 ∧ a2 < 24) ∧ inR ((h 7 a2) + (h 25 a2)))))
set_option maxRecDepth 100000 in
set_option maxHeartbeats 4000000 in
theorem p_X8_toCome {a2 : Int} {h : aH} {Q : aQ} (o : o_X8_toCome h a2) (k : Q (f_X8_toCome h a2) h) : aRun mX8_toCome 0 [aR 20, aR 3, aI a2] h Q := by
  unfold f_X8_toCome at k
  unfold o_X8_toCome at o
  refine aRun.of pn_8 rfl (Nat.le_of_ble_eq_true rfl) ?_
  show AW mX8_toCome 0 0 [some (aR 20), some (aR 3), some (aI a2)] [] h Q
  refine AW.iload_n (pc := 0) dX8_toCome_0 rfl ?_
  refine AW.iconst (pc := 1) dX8_toCome_1 ⟨by decide, by decide⟩ ?_
  have K_1 : AW mX8_toCome 0 22 [some (aR 20), some (aR 3), some (aI a2)] [aI (if a2 = (-1) then (0 : Int) else ((h 7 a2) + (h 25 a2)))] h Q := by
    refine AW.iret (pc := 22) dX8_toCome_22 rfl ?_
    exact k
  have H_3 := o
  refine AW.icmp_ne (tgt := 9) (pc := 2) dX8_toCome_2 rfl (fun q => ?_) (fun q => ?_)
  · skip
    have H_4 := H_3 q
    rw [if_neg q] at K_1
    refine AW.aload_n (pc := 9) dX8_toCome_9 rfl ?_
    refine AW.getr (k := 5) (pc := 10) dX8_toCome_10 ac_5 sh_3 rfl (by decide) fl_8_60 ?_
    refine AW.iload_n (pc := 13) dX8_toCome_13 rfl ?_
    refine AW.iald (pc := 14) dX8_toCome_14 sh_7 (H_4.1) (v := (h 7 a2)) rfl ?_
    refine AW.aload_n (pc := 15) dX8_toCome_15 rfl ?_
    refine AW.getr (k := 4) (pc := 16) dX8_toCome_16 ac_8 sh_20 rfl (by decide) fl_8_24 ?_
    refine AW.iload_n (pc := 19) dX8_toCome_19 rfl ?_
    refine AW.iald (pc := 20) dX8_toCome_20 sh_25 (H_4.1) (v := (h 25 a2)) rfl ?_
    refine AW.iadd (pc := 21) dX8_toCome_21 (H_4.2) ?_
    exact K_1
  · have q := Decidable.not_not.mp q
    rw [if_pos q] at K_1
    refine AW.iconst (pc := 5) dX8_toCome_5 ⟨by decide, by decide⟩ ?_
    refine AW.goto (tgt := 22) (pc := 6) dX8_toCome_6 rfl ?_
    exact K_1
def f_X8_atLeast (h : aH) (a2 : Int) (a3 : Int) : Int := (max (((max ((max (f_X8_endOf h (f_X5_jobAhead h 3 a3)) (f_X8_endOf h (h 22 a2))) + (h 7 a3)) (f_X8_endOf h (f_X5_jobAhead h 3 a2))) + (h 7 a2)) + (max (f_X8_toCome h (f_X5_jobNext h 3 a2)) (f_X8_toCome h (h 23 a3)))) (((max (f_X8_endOf h (f_X5_jobAhead h 3 a3)) (f_X8_endOf h (h 22 a2))) + (h 7 a3)) + (max (f_X8_toCome h (f_X5_jobNext h 3 a3)) ((h 7 a2) + (max (f_X8_toCome h (f_X5_jobNext h 3 a2)) (f_X8_toCome h (h 23 a3)))))))
def o_X8_atLeast (h : aH) (a2 : Int) (a3 : Int) : Prop := o_X5_jobAhead h 3 a3 ∧ o_X8_endOf h (f_X5_jobAhead h 3 a3) ∧ (0 ≤ a2 ∧ a2 < 24) ∧ o_X8_endOf h (h 22 a2) ∧ (0 ≤ a3 ∧ a3 < 24) ∧ inR ((max (f_X8_endOf h (f_X5_jobAhead h 3 a3)) (f_X8_endOf h (h 22 a2))) + (h 7 a3)) ∧ o_X5_jobAhead h 3 a2 ∧ o_X8_endOf h (f_X5_jobAhead h 3 a2) ∧ o_X5_jobNext h 3 a2 ∧ o_X8_toCome h (f_X5_jobNext h 3 a2) ∧ o_X8_toCome h (h 23 a3) ∧ o_X5_jobNext h 3 a3 ∧ o_X8_toCome h (f_X5_jobNext h 3 a3) ∧ inR ((h 7 a2) + (max (f_X8_toCome h (f_X5_jobNext h 3 a2)) (f_X8_toCome h (h 23 a3)))) ∧ inR ((max ((max (f_X8_endOf h (f_X5_jobAhead h 3 a3)) (f_X8_endOf h (h 22 a2))) + (h 7 a3)) (f_X8_endOf h (f_X5_jobAhead h 3 a2))) + (h 7 a2)) ∧ inR (((max ((max (f_X8_endOf h (f_X5_jobAhead h 3 a3)) (f_X8_endOf h (h 22 a2))) + (h 7 a3)) (f_X8_endOf h (f_X5_jobAhead h 3 a2))) + (h 7 a2)) + (max (f_X8_toCome h (f_X5_jobNext h 3 a2)) (f_X8_toCome h (h 23 a3)))) ∧ inR (((max (f_X8_endOf h (f_X5_jobAhead h 3 a3)) (f_X8_endOf h (h 22 a2))) + (h 7 a3)) + (max (f_X8_toCome h (f_X5_jobNext h 3 a3)) ((h 7 a2) + (max (f_X8_toCome h (f_X5_jobNext h 3 a2)) (f_X8_toCome h (h 23 a3))))))
set_option maxRecDepth 100000 in
set_option maxHeartbeats 4000000 in
theorem p_X8_atLeast {a2 a3 : Int} {h : aH} {Q : aQ} (o : o_X8_atLeast h a2 a3) (k : Q (f_X8_atLeast h a2 a3) h) : aRun mX8_atLeast 1 [aR 20, aR 3, aI a2, aI a3] h Q := by
  unfold f_X8_atLeast at k
  unfold o_X8_atLeast at o
  refine aRun.of pn_8 rfl (Nat.le_of_ble_eq_true rfl) ?_
  show AW mX8_atLeast 1 0 [some (aR 20), some (aR 3), some (aI a2), some (aI a3), none, none, none, none] [] h Q
  refine AW.aload_n (pc := 0) dX8_atLeast_0 rfl ?_
  refine AW.aload_n (pc := 1) dX8_atLeast_1 rfl ?_
  refine AW.aload_n (pc := 2) dX8_atLeast_2 rfl ?_
  refine AW.iload_n (pc := 3) dX8_atLeast_3 rfl ?_
  refine AW.callVi (M' := mX5_jobAhead) (F' := 0) (as := [aI a3]) (pc := 4) dX8_atLeast_4 (by decide) kX5_jobAhead ml_8_80 ob_3 rfl npX5_jobAhead (Nat.le_of_ble_eq_true rfl) (p_X5_jobAhead (Or.inl rfl) (o.1) ?_)
  refine AW.callVi (M' := mX8_endOf) (F' := 0) (as := [aR 3, aI (f_X5_jobAhead h 3 a3)]) (pc := 7) dX8_atLeast_7 (by decide) kX8_endOf ml_8_87 ob_20 rfl npX8_endOf (Nat.le_of_ble_eq_true rfl) (p_X8_endOf (o.2.1) ?_)
  refine AW.aload_n (pc := 10) dX8_atLeast_10 rfl ?_
  refine AW.aload_n (pc := 11) dX8_atLeast_11 rfl ?_
  refine AW.aload_n (pc := 12) dX8_atLeast_12 rfl ?_
  refine AW.getr (k := 1) (pc := 13) dX8_atLeast_13 ac_8 sh_20 rfl (by decide) fl_8_15 ?_
  refine AW.iload_n (pc := 16) dX8_atLeast_16 rfl ?_
  refine AW.iald (pc := 17) dX8_atLeast_17 sh_22 (o.2.2.1) (v := (h 22 a2)) rfl ?_
  refine AW.callVi (M' := mX8_endOf) (F' := 0) (as := [aR 3, aI (h 22 a2)]) (pc := 18) dX8_atLeast_18 (by decide) kX8_endOf ml_8_87 ob_20 rfl npX8_endOf (Nat.le_of_ble_eq_true rfl) (p_X8_endOf (o.2.2.2.1) ?_)
  refine AW.mmax (pc := 21) dX8_atLeast_21 (by decide) ml_8_63 (Nat.le_of_ble_eq_true rfl) ?_
  refine AW.istore (pc := 24) dX8_atLeast_24 (by decide) rfl ?_
  refine AW.iload (pc := 26) dX8_atLeast_26 rfl ?_
  refine AW.aload_n (pc := 28) dX8_atLeast_28 rfl ?_
  refine AW.getr (k := 5) (pc := 29) dX8_atLeast_29 ac_5 sh_3 rfl (by decide) fl_8_60 ?_
  refine AW.iload_n (pc := 32) dX8_atLeast_32 rfl ?_
  refine AW.iald (pc := 33) dX8_atLeast_33 sh_7 (o.2.2.2.2.1) (v := (h 7 a3)) rfl ?_
  refine AW.iadd (pc := 34) dX8_atLeast_34 (o.2.2.2.2.2.1) ?_
  refine AW.aload_n (pc := 35) dX8_atLeast_35 rfl ?_
  refine AW.aload_n (pc := 36) dX8_atLeast_36 rfl ?_
  refine AW.aload_n (pc := 37) dX8_atLeast_37 rfl ?_
  refine AW.iload_n (pc := 38) dX8_atLeast_38 rfl ?_
  refine AW.callVi (M' := mX5_jobAhead) (F' := 0) (as := [aI a2]) (pc := 39) dX8_atLeast_39 (by decide) kX5_jobAhead ml_8_80 ob_3 rfl npX5_jobAhead (Nat.le_of_ble_eq_true rfl) (p_X5_jobAhead (Or.inl rfl) (o.2.2.2.2.2.2.1) ?_)
  refine AW.callVi (M' := mX8_endOf) (F' := 0) (as := [aR 3, aI (f_X5_jobAhead h 3 a2)]) (pc := 42) dX8_atLeast_42 (by decide) kX8_endOf ml_8_87 ob_20 rfl npX8_endOf (Nat.le_of_ble_eq_true rfl) (p_X8_endOf (o.2.2.2.2.2.2.2.1) ?_)
  refine AW.mmax (pc := 45) dX8_atLeast_45 (by decide) ml_8_63 (Nat.le_of_ble_eq_true rfl) ?_
  refine AW.istore (pc := 48) dX8_atLeast_48 (by decide) rfl ?_
  refine AW.aload_n (pc := 50) dX8_atLeast_50 rfl ?_
  refine AW.aload_n (pc := 51) dX8_atLeast_51 rfl ?_
  refine AW.aload_n (pc := 52) dX8_atLeast_52 rfl ?_
  refine AW.iload_n (pc := 53) dX8_atLeast_53 rfl ?_
  refine AW.callVi (M' := mX5_jobNext) (F' := 0) (as := [aI a2]) (pc := 54) dX8_atLeast_54 (by decide) kX5_jobNext ml_8_69 ob_3 rfl npX5_jobNext (Nat.le_of_ble_eq_true rfl) (p_X5_jobNext (Or.inl rfl) (o.2.2.2.2.2.2.2.2.1) ?_)
  refine AW.callVi (M' := mX8_toCome) (F' := 0) (as := [aR 3, aI (f_X5_jobNext h 3 a2)]) (pc := 57) dX8_atLeast_57 (by decide) kX8_toCome ml_8_83 ob_20 rfl npX8_toCome (Nat.le_of_ble_eq_true rfl) (p_X8_toCome (o.2.2.2.2.2.2.2.2.2.1) ?_)
  refine AW.aload_n (pc := 60) dX8_atLeast_60 rfl ?_
  refine AW.aload_n (pc := 61) dX8_atLeast_61 rfl ?_
  refine AW.aload_n (pc := 62) dX8_atLeast_62 rfl ?_
  refine AW.getr (k := 2) (pc := 63) dX8_atLeast_63 ac_8 sh_20 rfl (by decide) fl_8_18 ?_
  refine AW.iload_n (pc := 66) dX8_atLeast_66 rfl ?_
  refine AW.iald (pc := 67) dX8_atLeast_67 sh_23 (o.2.2.2.2.1) (v := (h 23 a3)) rfl ?_
  refine AW.callVi (M' := mX8_toCome) (F' := 0) (as := [aR 3, aI (h 23 a3)]) (pc := 68) dX8_atLeast_68 (by decide) kX8_toCome ml_8_83 ob_20 rfl npX8_toCome (Nat.le_of_ble_eq_true rfl) (p_X8_toCome (o.2.2.2.2.2.2.2.2.2.2.1) ?_)
  refine AW.mmax (pc := 71) dX8_atLeast_71 (by decide) ml_8_63 (Nat.le_of_ble_eq_true rfl) ?_
  refine AW.istore (pc := 74) dX8_atLeast_74 (by decide) rfl ?_
  refine AW.aload_n (pc := 76) dX8_atLeast_76 rfl ?_
  refine AW.aload_n (pc := 77) dX8_atLeast_77 rfl ?_
  refine AW.aload_n (pc := 78) dX8_atLeast_78 rfl ?_
  refine AW.iload_n (pc := 79) dX8_atLeast_79 rfl ?_
  refine AW.callVi (M' := mX5_jobNext) (F' := 0) (as := [aI a3]) (pc := 80) dX8_atLeast_80 (by decide) kX5_jobNext ml_8_69 ob_3 rfl npX5_jobNext (Nat.le_of_ble_eq_true rfl) (p_X5_jobNext (Or.inl rfl) (o.2.2.2.2.2.2.2.2.2.2.2.1) ?_)
  refine AW.callVi (M' := mX8_toCome) (F' := 0) (as := [aR 3, aI (f_X5_jobNext h 3 a3)]) (pc := 83) dX8_atLeast_83 (by decide) kX8_toCome ml_8_83 ob_20 rfl npX8_toCome (Nat.le_of_ble_eq_true rfl) (p_X8_toCome (o.2.2.2.2.2.2.2.2.2.2.2.2.1) ?_)
  refine AW.aload_n (pc := 86) dX8_atLeast_86 rfl ?_
  refine AW.getr (k := 5) (pc := 87) dX8_atLeast_87 ac_5 sh_3 rfl (by decide) fl_8_60 ?_
  refine AW.iload_n (pc := 90) dX8_atLeast_90 rfl ?_
  refine AW.iald (pc := 91) dX8_atLeast_91 sh_7 (o.2.2.1) (v := (h 7 a2)) rfl ?_
  refine AW.iload (pc := 92) dX8_atLeast_92 rfl ?_
  refine AW.iadd (pc := 94) dX8_atLeast_94 (o.2.2.2.2.2.2.2.2.2.2.2.2.2.1) ?_
  refine AW.mmax (pc := 95) dX8_atLeast_95 (by decide) ml_8_63 (Nat.le_of_ble_eq_true rfl) ?_
  refine AW.istore (pc := 98) dX8_atLeast_98 (by decide) rfl ?_
  refine AW.iload (pc := 100) dX8_atLeast_100 rfl ?_
  refine AW.aload_n (pc := 102) dX8_atLeast_102 rfl ?_
  refine AW.getr (k := 5) (pc := 103) dX8_atLeast_103 ac_5 sh_3 rfl (by decide) fl_8_60 ?_
  refine AW.iload_n (pc := 106) dX8_atLeast_106 rfl ?_
  refine AW.iald (pc := 107) dX8_atLeast_107 sh_7 (o.2.2.1) (v := (h 7 a2)) rfl ?_
  refine AW.iadd (pc := 108) dX8_atLeast_108 (o.2.2.2.2.2.2.2.2.2.2.2.2.2.2.1) ?_
  refine AW.iload (pc := 109) dX8_atLeast_109 rfl ?_
  refine AW.iadd (pc := 111) dX8_atLeast_111 (o.2.2.2.2.2.2.2.2.2.2.2.2.2.2.2.1) ?_
  refine AW.iload (pc := 112) dX8_atLeast_112 rfl ?_
  refine AW.aload_n (pc := 114) dX8_atLeast_114 rfl ?_
  refine AW.getr (k := 5) (pc := 115) dX8_atLeast_115 ac_5 sh_3 rfl (by decide) fl_8_60 ?_
  refine AW.iload_n (pc := 118) dX8_atLeast_118 rfl ?_
  refine AW.iald (pc := 119) dX8_atLeast_119 sh_7 (o.2.2.2.2.1) (v := (h 7 a3)) rfl ?_
  refine AW.iadd (pc := 120) dX8_atLeast_120 (o.2.2.2.2.2.1) ?_
  refine AW.iload (pc := 121) dX8_atLeast_121 rfl ?_
  refine AW.iadd (pc := 123) dX8_atLeast_123 (o.2.2.2.2.2.2.2.2.2.2.2.2.2.2.2.2) ?_
  refine AW.mmax (pc := 124) dX8_atLeast_124 (by decide) ml_8_63 (Nat.le_of_ble_eq_true rfl) ?_
  refine AW.iret (pc := 127) dX8_atLeast_127 rfl ?_
  exact k
