def f_X5_jobAhead (h : aH) (x : Nat) (a1 : Int) : Int := (if (h (x + 2) a1) ≤ 0 then ((-1) : Int) else (a1 - 1))
def o_X5_jobAhead (h : aH) (x : Nat) (a1 : Int) : Prop := (0 ≤ a1 ∧ a1 < 24) ∧ ((¬ ((h (x + 2) a1) ≤ 0) → inR (a1 - 1)))
set_option maxRecDepth 100000 in
set_option maxHeartbeats 4000000 in
theorem p_X5_jobAhead {x : Nat} (hx : isJ x) {a1 : Int} {h : aH} {Q : aQ} (o : o_X5_jobAhead h x a1) (k : Q (f_X5_jobAhead h x a1) h) : aRun mX5_jobAhead 0 [aR x, aI a1] h Q := by
  unfold f_X5_jobAhead at k
  unfold o_X5_jobAhead at o
  refine aRun.of pn_5 rfl (Nat.le_of_ble_eq_true rfl) ?_
  show AW mX5_jobAhead 0 0 [some (aR x), some (aI a1)] [] h Q
  refine AW.aload_n (pc := 0) dX5_jobAhead_0 rfl ?_
  refine AW.getr (k := 3) (pc := 1) dX5_jobAhead_1 ac_5 (sh_isJ hx) rfl (by decide) fl_5_22 ?_
  refine AW.iload_n (pc := 4) dX5_jobAhead_4 rfl ?_
  refine AW.iald (pc := 5) dX5_jobAhead_5 (sh_isJ_2 hx) (o.1) (v := (h (x + 2) a1)) rfl ?_
  have K_1 : AW mX5_jobAhead 0 16 [some (aR x), some (aI a1)] [aI (if (h (x + 2) a1) ≤ 0 then ((-1) : Int) else (a1 - 1))] h Q := by
    refine AW.iret (pc := 16) dX5_jobAhead_16 rfl ?_
    exact k
  have H_3 := o.2
  refine AW.if_le (tgt := 15) (pc := 6) dX5_jobAhead_6 rfl (fun q => ?_) (fun q => ?_)
  · skip
    rw [if_pos q] at K_1
    refine AW.iconst (pc := 15) dX5_jobAhead_15 ⟨by decide, by decide⟩ ?_
    exact K_1
  · skip
    have H_5 := H_3 q
    rw [if_neg q] at K_1
    refine AW.iload_n (pc := 9) dX5_jobAhead_9 rfl ?_
    refine AW.iconst (pc := 10) dX5_jobAhead_10 ⟨by decide, by decide⟩ ?_
    refine AW.isub (pc := 11) dX5_jobAhead_11 H_5 ?_
    refine AW.goto (tgt := 16) (pc := 12) dX5_jobAhead_12 rfl ?_
    exact K_1
def f_X1_isNext (h : aH) (a2 : Int) : Int := (if (h 68 a2) = 0 then (if (f_X5_jobAhead h 3 a2) = (-1) then (1 : Int) else (if (h 68 (f_X5_jobAhead h 3 a2)) = 0 then (0 : Int) else (1 : Int))) else (0 : Int))
def o_X1_isNext (h : aH) (a2 : Int) : Prop := o_X5_jobAhead h 3 a2 ∧ (0 ≤ a2 ∧ a2 < 24) ∧ (((h 68 a2) = 0 → (¬ ((f_X5_jobAhead h 3 a2) = (-1)) → (0 ≤ (f_X5_jobAhead h 3 a2) ∧ (f_X5_jobAhead h 3 a2) < 24))))
theorem b_X1_isNext {h : aH} {a2 : Int} : f_X1_isNext h a2 = 0 ∨ f_X1_isNext h a2 = 1 := by
  unfold f_X1_isNext
  exact (a_ite01 (a_ite01 (Or.inr rfl) (a_ite01 (Or.inl rfl) (Or.inr rfl))) (Or.inl rfl))
set_option maxRecDepth 100000 in
set_option maxHeartbeats 4000000 in
theorem p_X1_isNext {a2 : Int} {h : aH} {Q : aQ} (o : o_X1_isNext h a2) (k : Q (f_X1_isNext h a2) h) : aRun mX1_isNext 1 [aR 63, aR 3, aI a2] h Q := by
  unfold f_X1_isNext at k
  unfold o_X1_isNext at o
  refine aRun.of pn_1 rfl (Nat.le_of_ble_eq_true rfl) ?_
  show AW mX1_isNext 1 0 [some (aR 63), some (aR 3), some (aI a2), none] [] h Q
  refine AW.aload_n (pc := 0) dX1_isNext_0 rfl ?_
  refine AW.iload_n (pc := 1) dX1_isNext_1 rfl ?_
  refine AW.callVi (M' := mX5_jobAhead) (F' := 0) (as := [aI a2]) (pc := 2) dX1_isNext_2 (by decide) kX5_jobAhead ml_1_59 ob_3 rfl npX5_jobAhead (Nat.le_of_ble_eq_true rfl) (p_X5_jobAhead (Or.inl rfl) (o.1) ?_)
  refine AW.istore_n (pc := 5) dX1_isNext_5 (by decide) rfl ?_
  refine AW.aload_n (pc := 6) dX1_isNext_6 rfl ?_
  refine AW.getr (k := 4) (pc := 7) dX1_isNext_7 ac_1 sh_63 rfl (by decide) fl_1_24 ?_
  refine AW.iload_n (pc := 10) dX1_isNext_10 rfl ?_
  refine AW.zald (pc := 11) dX1_isNext_11 sh_68 (o.2.1) (v := (h 68 a2)) rfl ?_
  have K_1 : AW mX1_isNext 1 34 [some (aR 63), some (aR 3), some (aI a2), some (aI (f_X5_jobAhead h 3 a2))] [aI (if (h 68 a2) = 0 then (if (f_X5_jobAhead h 3 a2) = (-1) then (1 : Int) else (if (h 68 (f_X5_jobAhead h 3 a2)) = 0 then (0 : Int) else (1 : Int))) else (0 : Int))] h Q := by
    refine AW.zret (pc := 34) dX1_isNext_34 rfl (a_ite01 (a_ite01 (Or.inr rfl) (a_ite01 (Or.inl rfl) (Or.inr rfl))) (Or.inl rfl)) ?_
    exact k
  have H_3 := o.2.2
  refine AW.if_ne (tgt := 33) (pc := 12) dX1_isNext_12 rfl (fun q => ?_) (fun q => ?_)
  · skip
    rw [if_neg q] at K_1
    refine AW.iconst (pc := 33) dX1_isNext_33 ⟨by decide, by decide⟩ ?_
    exact K_1
  · have q := Decidable.not_not.mp q
    have H_5 := H_3 q
    rw [if_pos q] at K_1
    refine AW.iload_n (pc := 15) dX1_isNext_15 rfl ?_
    refine AW.iconst (pc := 16) dX1_isNext_16 ⟨by decide, by decide⟩ ?_
    refine AW.icmp_eq (tgt := 29) (pc := 17) dX1_isNext_17 rfl (fun q => ?_) (fun q => ?_)
    · skip
      rw [if_pos q] at K_1
      refine AW.iconst (pc := 29) dX1_isNext_29 ⟨by decide, by decide⟩ ?_
      refine AW.goto (tgt := 34) (pc := 30) dX1_isNext_30 rfl ?_
      exact K_1
    · skip
      have H_7 := H_5 q
      rw [if_neg q] at K_1
      refine AW.aload_n (pc := 20) dX1_isNext_20 rfl ?_
      refine AW.getr (k := 4) (pc := 21) dX1_isNext_21 ac_1 sh_63 rfl (by decide) fl_1_24 ?_
      refine AW.iload_n (pc := 24) dX1_isNext_24 rfl ?_
      refine AW.zald (pc := 25) dX1_isNext_25 sh_68 H_7 (v := (h 68 (f_X5_jobAhead h 3 a2))) rfl ?_
      refine AW.if_eq (tgt := 33) (pc := 26) dX1_isNext_26 rfl (fun q => ?_) (fun q => ?_)
      · skip
        rw [if_pos q] at K_1
        refine AW.iconst (pc := 33) dX1_isNext_33 ⟨by decide, by decide⟩ ?_
        exact K_1
      · skip
        rw [if_neg q] at K_1
        refine AW.iconst (pc := 29) dX1_isNext_29 ⟨by decide, by decide⟩ ?_
        refine AW.goto (tgt := 34) (pc := 30) dX1_isNext_30 rfl ?_
        exact K_1
def f_X1_key (h : aH) (a1 : Int) (a2 : Int) : Int := (if a1 = 0 then (h 7 a2) else (if a1 = 1 then (-(h 7 a2)) else (if a1 = 2 then (-((h 7 a2) + (h 9 a2))) else ((h 7 a2) + (h 9 a2)))))
def o_X1_key (h : aH) (a1 : Int) (a2 : Int) : Prop := ((a1 = 0 → (0 ≤ a2 ∧ a2 < 24)) ∧ (a1 = 1 → ((0 ≤ a2 ∧ a2 < 24) ∧ inR (-(h 7 a2)))) ∧ (a1 = 2 → ((0 ≤ a2 ∧ a2 < 24) ∧ inR ((h 7 a2) + (h 9 a2)) ∧ inR (-((h 7 a2) + (h 9 a2))))) ∧ ((a1 < 0 ∨ 2 < a1) → ((0 ≤ a2 ∧ a2 < 24) ∧ inR ((h 7 a2) + (h 9 a2)))))
set_option maxRecDepth 100000 in
set_option maxHeartbeats 4000000 in
theorem p_X1_key {a1 a2 : Int} {h : aH} {Q : aQ} (o : o_X1_key h a1 a2) (k : Q (f_X1_key h a1 a2) h) : aRun mX1_key 0 [aR 3, aI a1, aI a2] h Q := by
  unfold f_X1_key at k
  unfold o_X1_key at o
  refine aRun.of pn_1 rfl (Nat.le_of_ble_eq_true rfl) ?_
  show AW mX1_key 0 0 [some (aR 3), some (aI a1), some (aI a2)] [] h Q
  refine AW.iload_n (pc := 0) dX1_key_0 rfl ?_
  refine AW.tsw (pc := 1) dX1_key_1 (fun q1 q2 => ?_) (fun q => ?_)
  · have q : a1 = 0 ∨ a1 = 1 ∨ a1 = 2 := by omega
    rcases q with q | q | q
    · refine ⟨28, _, by rw [q]; rfl, rfl, ?_⟩
      have H_1 := o.1 q
      rw [if_pos q] at k
      refine AW.aload_n (pc := 28) dX1_key_28 rfl ?_
      refine AW.getr (k := 5) (pc := 29) dX1_key_29 ac_5 sh_3 rfl (by decide) fl_1_75 ?_
      refine AW.iload_n (pc := 32) dX1_key_32 rfl ?_
      refine AW.iald (pc := 33) dX1_key_33 sh_7 H_1 (v := (h 7 a2)) rfl ?_
      refine AW.iret (pc := 34) dX1_key_34 rfl ?_
      exact k
    · refine ⟨35, _, by rw [q]; rfl, rfl, ?_⟩
      have H_2 := o.2.1 q
      rw [if_neg (show ¬ (a1 = 0) by omega), if_pos q] at k
      refine AW.aload_n (pc := 35) dX1_key_35 rfl ?_
      refine AW.getr (k := 5) (pc := 36) dX1_key_36 ac_5 sh_3 rfl (by decide) fl_1_75 ?_
      refine AW.iload_n (pc := 39) dX1_key_39 rfl ?_
      refine AW.iald (pc := 40) dX1_key_40 sh_7 (H_2.1) (v := (h 7 a2)) rfl ?_
      refine AW.ineg (pc := 41) dX1_key_41 (H_2.2) ?_
      refine AW.iret (pc := 42) dX1_key_42 rfl ?_
      exact k
    · refine ⟨43, _, by rw [q]; rfl, rfl, ?_⟩
      have H_3 := o.2.2.1 q
      rw [if_neg (show ¬ (a1 = 0) by omega), if_neg (show ¬ (a1 = 1) by omega), if_pos q] at k
      refine AW.aload_n (pc := 43) dX1_key_43 rfl ?_
      refine AW.getr (k := 5) (pc := 44) dX1_key_44 ac_5 sh_3 rfl (by decide) fl_1_75 ?_
      refine AW.iload_n (pc := 47) dX1_key_47 rfl ?_
      refine AW.iald (pc := 48) dX1_key_48 sh_7 (H_3.1) (v := (h 7 a2)) rfl ?_
      refine AW.aload_n (pc := 49) dX1_key_49 rfl ?_
      refine AW.getr (k := 7) (pc := 50) dX1_key_50 ac_5 sh_3 rfl (by decide) fl_1_78 ?_
      refine AW.iload_n (pc := 53) dX1_key_53 rfl ?_
      refine AW.iald (pc := 54) dX1_key_54 sh_9 (H_3.1) (v := (h 9 a2)) rfl ?_
      refine AW.iadd (pc := 55) dX1_key_55 (H_3.2.1) ?_
      refine AW.ineg (pc := 56) dX1_key_56 (H_3.2.2) ?_
      refine AW.iret (pc := 57) dX1_key_57 rfl ?_
      exact k
  · refine ⟨58, rfl, ?_⟩
    have H_4 := o.2.2.2 q
    rw [if_neg (show ¬ (a1 = 0) by omega), if_neg (show ¬ (a1 = 1) by omega), if_neg (show ¬ (a1 = 2) by omega)] at k
    refine AW.aload_n (pc := 58) dX1_key_58 rfl ?_
    refine AW.getr (k := 5) (pc := 59) dX1_key_59 ac_5 sh_3 rfl (by decide) fl_1_75 ?_
    refine AW.iload_n (pc := 62) dX1_key_62 rfl ?_
    refine AW.iald (pc := 63) dX1_key_63 sh_7 (H_4.1) (v := (h 7 a2)) rfl ?_
    refine AW.aload_n (pc := 64) dX1_key_64 rfl ?_
    refine AW.getr (k := 7) (pc := 65) dX1_key_65 ac_5 sh_3 rfl (by decide) fl_1_78 ?_
    refine AW.iload_n (pc := 68) dX1_key_68 rfl ?_
    refine AW.iald (pc := 69) dX1_key_69 sh_9 (H_4.1) (v := (h 9 a2)) rfl ?_
    refine AW.iadd (pc := 70) dX1_key_70 (H_4.2) ?_
    refine AW.iret (pc := 71) dX1_key_71 rfl ?_
    exact k
def f_X1_startOf (h : aH) (a2 : Int) : Int := (max (h 66 (h 6 a2)) (h 67 (h 4 a2)))
def o_X1_startOf (h : aH) (a2 : Int) : Prop := (0 ≤ a2 ∧ a2 < 24) ∧ (0 ≤ (h 6 a2) ∧ (h 6 a2) < 5) ∧ (0 ≤ (h 4 a2) ∧ (h 4 a2) < 6)
set_option maxRecDepth 100000 in
set_option maxHeartbeats 4000000 in
theorem p_X1_startOf {a2 : Int} {h : aH} {Q : aQ} (o : o_X1_startOf h a2) (k : Q (f_X1_startOf h a2) h) : aRun mX1_startOf 1 [aR 63, aR 3, aI a2] h Q := by
  unfold f_X1_startOf at k
  unfold o_X1_startOf at o
  refine aRun.of pn_1 rfl (Nat.le_of_ble_eq_true rfl) ?_
  show AW mX1_startOf 1 0 [some (aR 63), some (aR 3), some (aI a2)] [] h Q
  refine AW.aload_n (pc := 0) dX1_startOf_0 rfl ?_
  refine AW.getr (k := 2) (pc := 1) dX1_startOf_1 ac_1 sh_63 rfl (by decide) fl_1_18 ?_
  refine AW.aload_n (pc := 4) dX1_startOf_4 rfl ?_
  refine AW.getr (k := 4) (pc := 5) dX1_startOf_5 ac_5 sh_3 rfl (by decide) fl_1_63 ?_
  refine AW.iload_n (pc := 8) dX1_startOf_8 rfl ?_
  refine AW.iald (pc := 9) dX1_startOf_9 sh_6 (o.1) (v := (h 6 a2)) rfl ?_
  refine AW.iald (pc := 10) dX1_startOf_10 sh_66 (o.2.1) (v := (h 66 (h 6 a2))) rfl ?_
  refine AW.aload_n (pc := 11) dX1_startOf_11 rfl ?_
  refine AW.getr (k := 3) (pc := 12) dX1_startOf_12 ac_1 sh_63 rfl (by decide) fl_1_21 ?_
  refine AW.aload_n (pc := 15) dX1_startOf_15 rfl ?_
  refine AW.getr (k := 2) (pc := 16) dX1_startOf_16 ac_5 sh_3 rfl (by decide) fl_1_66 ?_
  refine AW.iload_n (pc := 19) dX1_startOf_19 rfl ?_
  refine AW.iald (pc := 20) dX1_startOf_20 sh_4 (o.1) (v := (h 4 a2)) rfl ?_
  refine AW.iald (pc := 21) dX1_startOf_21 sh_67 (o.2.2) (v := (h 67 (h 4 a2))) rfl ?_
  refine AW.mmax (pc := 22) dX1_startOf_22 (by decide) ml_1_69 (Nat.le_of_ble_eq_true rfl) ?_
  refine AW.iret (pc := 25) dX1_startOf_25 rfl ?_
  exact k
set_option maxRecDepth 100000 in
set_option maxHeartbeats 4000000 in
theorem e_X1_choose {a2 : Int} {h : aH} {Q : aQ} (H : AW mX1_choose 2 11 [some (aR 63), some (aR 3), some (aI a2), some (aI (-1)), some (aI 0), some (aI 0), some (aI 0), none, none] [] h Q) : aRun mX1_choose 2 [aR 63, aR 3, aI a2] h Q := by
  refine aRun.of pn_1 rfl (Nat.le_of_ble_eq_true rfl) ?_
  show AW mX1_choose 2 0 [some (aR 63), some (aR 3), some (aI a2), none, none, none, none, none, none] [] h Q
  refine AW.iconst (pc := 0) dX1_choose_0 ⟨by decide, by decide⟩ ?_
  refine AW.istore_n (pc := 1) dX1_choose_1 (by decide) rfl ?_
  refine AW.iconst (pc := 2) dX1_choose_2 ⟨by decide, by decide⟩ ?_
  refine AW.istore (pc := 3) dX1_choose_3 (by decide) rfl ?_
  refine AW.iconst (pc := 5) dX1_choose_5 ⟨by decide, by decide⟩ ?_
  refine AW.istore (pc := 6) dX1_choose_6 (by decide) rfl ?_
  refine AW.iconst (pc := 8) dX1_choose_8 ⟨by decide, by decide⟩ ?_
  refine AW.istore (pc := 9) dX1_choose_9 (by decide) rfl ?_
  exact H
set_option maxRecDepth 100000 in
set_option maxHeartbeats 4000000 in
theorem s_X1_choose_11  {l2 l3 l4 l5 l6 : Int} {h : aH} {Q : aQ} (H : (((h 3 1) ≤ l6 → Q l3 h) ∧ (¬ ((h 3 1) ≤ l6) → o_X1_isNext h l6 ∧ (((f_X1_isNext h l6) = 0 → inR (l6 + 1) ∧ AW mX1_choose 2 11 [some (aR 63), some (aR 3), some (aI l2), some (aI l3), some (aI l4), some (aI l5), some (aI (l6 + 1)), none, none] [] h Q) ∧ (¬ ((f_X1_isNext h l6) = 0) → o_X1_startOf h l6 ∧ o_X1_key h l2 l6 ∧ ((l3 = (-1) → inR (l6 + 1) ∧ AW mX1_choose 2 11 [some (aR 63), some (aR 3), some (aI l2), some (aI l6), some (aI (f_X1_startOf h l6)), some (aI (f_X1_key h l2 l6)), some (aI (l6 + 1)), none, none] [] h Q) ∧ (¬ (l3 = (-1)) → (((f_X1_startOf h l6) < l4 → inR (l6 + 1) ∧ AW mX1_choose 2 11 [some (aR 63), some (aR 3), some (aI l2), some (aI l6), some (aI (f_X1_startOf h l6)), some (aI (f_X1_key h l2 l6)), some (aI (l6 + 1)), none, none] [] h Q) ∧ (¬ ((f_X1_startOf h l6) < l4) → (((f_X1_startOf h l6) = l4 → ((l5 ≤ (f_X1_key h l2 l6) → inR (l6 + 1) ∧ AW mX1_choose 2 11 [some (aR 63), some (aR 3), some (aI l2), some (aI l3), some (aI l4), some (aI l5), some (aI (l6 + 1)), none, none] [] h Q) ∧ (¬ (l5 ≤ (f_X1_key h l2 l6)) → inR (l6 + 1) ∧ AW mX1_choose 2 11 [some (aR 63), some (aR 3), some (aI l2), some (aI l6), some (aI (f_X1_startOf h l6)), some (aI (f_X1_key h l2 l6)), some (aI (l6 + 1)), none, none] [] h Q))) ∧ (¬ ((f_X1_startOf h l6) = l4) → inR (l6 + 1) ∧ AW mX1_choose 2 11 [some (aR 63), some (aR 3), some (aI l2), some (aI l3), some (aI l4), some (aI l5), some (aI (l6 + 1)), none, none] [] h Q))))))))))) : AW mX1_choose 2 11 [some (aR 63), some (aR 3), some (aI l2), some (aI l3), some (aI l4), some (aI l5), some (aI l6), none, none] [] h Q := by
  refine AW.iload (pc := 11) dX1_choose_11 rfl ?_
  refine AW.aload_n (pc := 13) dX1_choose_13 rfl ?_
  refine AW.geti' (k := 1) (j := 1) (pc := 14) dX1_choose_14 ac_5 sh_3 rfl (by decide) fl_1_35 rfl (v := (h 3 1)) rfl ?_
  refine AW.icmp_ge (tgt := 94) (pc := 17) dX1_choose_17 rfl (fun q => ?_) (fun q => ?_)
  · skip
    have H_1 := H.1 q
    refine AW.iload_n (pc := 94) dX1_choose_94 rfl ?_
    refine AW.iret (pc := 95) dX1_choose_95 rfl ?_
    exact H_1
  · skip
    have H_2 := H.2 q
    refine AW.aload_n (pc := 20) dX1_choose_20 rfl ?_
    refine AW.aload_n (pc := 21) dX1_choose_21 rfl ?_
    refine AW.iload (pc := 22) dX1_choose_22 rfl ?_
    refine AW.callVi (M' := mX1_isNext) (F' := 1) (as := [aR 3, aI l6]) (pc := 24) dX1_choose_24 (by decide) kX1_isNext ml_1_48 ob_63 rfl npX1_isNext (Nat.le_of_ble_eq_true rfl) (p_X1_isNext (H_2.1) ?_)
    refine AW.if_ne (tgt := 33) (pc := 27) dX1_choose_27 rfl (fun q => ?_) (fun q => ?_)
    · skip
      have H_3 := H_2.2.2 q
      refine AW.aload_n (pc := 33) dX1_choose_33 rfl ?_
      refine AW.aload_n (pc := 34) dX1_choose_34 rfl ?_
      refine AW.iload (pc := 35) dX1_choose_35 rfl ?_
      refine AW.callVi (M' := mX1_startOf) (F' := 1) (as := [aR 3, aI l6]) (pc := 37) dX1_choose_37 (by decide) kX1_startOf ml_1_52 ob_63 rfl npX1_startOf (Nat.le_of_ble_eq_true rfl) (p_X1_startOf (H_3.1) ?_)
      refine AW.istore (pc := 40) dX1_choose_40 (by decide) rfl ?_
      refine AW.aload_n (pc := 42) dX1_choose_42 rfl ?_
      refine AW.iload_n (pc := 43) dX1_choose_43 rfl ?_
      refine AW.iload (pc := 44) dX1_choose_44 rfl ?_
      refine AW.callSi (M' := mX1_key) (F' := 0) (as := [aR 3, aI l2, aI l6]) (pc := 46) dX1_choose_46 (by decide) kX1_key ml_1_55 rfl npX1_key (Nat.le_of_ble_eq_true rfl) (p_X1_key (H_3.2.1) ?_)
      refine AW.istore (pc := 49) dX1_choose_49 (by decide) rfl ?_
      refine AW.iload_n (pc := 51) dX1_choose_51 rfl ?_
      refine AW.iconst (pc := 52) dX1_choose_52 ⟨by decide, by decide⟩ ?_
      refine AW.icmp_eq (tgt := 77) (pc := 53) dX1_choose_53 rfl (fun q => ?_) (fun q => ?_)
      · skip
        have H_4 := H_3.2.2.1 q
        refine AW.iload (pc := 77) dX1_choose_77 rfl ?_
        refine AW.istore_n (pc := 79) dX1_choose_79 (by decide) rfl ?_
        refine AW.iload (pc := 80) dX1_choose_80 rfl ?_
        refine AW.istore (pc := 82) dX1_choose_82 (by decide) rfl ?_
        refine AW.iload (pc := 84) dX1_choose_84 rfl ?_
        refine AW.istore (pc := 86) dX1_choose_86 (by decide) rfl ?_
        refine AW.iinc (pc := 88) dX1_choose_88 rfl (by decide) rfl (H_4.1) ?_
        refine AW.goto (tgt := 11) (pc := 91) dX1_choose_91 rfl ?_
        refine AW.mask [true, true, true, true, true, true, true, false, false] ?_
        exact H_4.2
      · skip
        have H_5 := H_3.2.2.2 q
        refine AW.iload (pc := 56) dX1_choose_56 rfl ?_
        refine AW.iload (pc := 58) dX1_choose_58 rfl ?_
        refine AW.icmp_lt (tgt := 77) (pc := 60) dX1_choose_60 rfl (fun q => ?_) (fun q => ?_)
        · skip
          have H_6 := H_5.1 q
          refine AW.iload (pc := 77) dX1_choose_77 rfl ?_
          refine AW.istore_n (pc := 79) dX1_choose_79 (by decide) rfl ?_
          refine AW.iload (pc := 80) dX1_choose_80 rfl ?_
          refine AW.istore (pc := 82) dX1_choose_82 (by decide) rfl ?_
          refine AW.iload (pc := 84) dX1_choose_84 rfl ?_
          refine AW.istore (pc := 86) dX1_choose_86 (by decide) rfl ?_
          refine AW.iinc (pc := 88) dX1_choose_88 rfl (by decide) rfl (H_6.1) ?_
          refine AW.goto (tgt := 11) (pc := 91) dX1_choose_91 rfl ?_
          refine AW.mask [true, true, true, true, true, true, true, false, false] ?_
          exact H_6.2
        · skip
          have H_7 := H_5.2 q
          refine AW.iload (pc := 63) dX1_choose_63 rfl ?_
          refine AW.iload (pc := 65) dX1_choose_65 rfl ?_
          refine AW.icmp_ne (tgt := 88) (pc := 67) dX1_choose_67 rfl (fun q => ?_) (fun q => ?_)
          · skip
            have H_8 := H_7.2 q
            refine AW.iinc (pc := 88) dX1_choose_88 rfl (by decide) rfl (H_8.1) ?_
            refine AW.goto (tgt := 11) (pc := 91) dX1_choose_91 rfl ?_
            refine AW.mask [true, true, true, true, true, true, true, false, false] ?_
            exact H_8.2
          · have q := Decidable.not_not.mp q
            have H_9 := H_7.1 q
            refine AW.iload (pc := 70) dX1_choose_70 rfl ?_
            refine AW.iload (pc := 72) dX1_choose_72 rfl ?_
            refine AW.icmp_ge (tgt := 88) (pc := 74) dX1_choose_74 rfl (fun q => ?_) (fun q => ?_)
            · skip
              have H_10 := H_9.1 q
              refine AW.iinc (pc := 88) dX1_choose_88 rfl (by decide) rfl (H_10.1) ?_
              refine AW.goto (tgt := 11) (pc := 91) dX1_choose_91 rfl ?_
              refine AW.mask [true, true, true, true, true, true, true, false, false] ?_
              exact H_10.2
            · skip
              have H_11 := H_9.2 q
              refine AW.iload (pc := 77) dX1_choose_77 rfl ?_
              refine AW.istore_n (pc := 79) dX1_choose_79 (by decide) rfl ?_
              refine AW.iload (pc := 80) dX1_choose_80 rfl ?_
              refine AW.istore (pc := 82) dX1_choose_82 (by decide) rfl ?_
              refine AW.iload (pc := 84) dX1_choose_84 rfl ?_
              refine AW.istore (pc := 86) dX1_choose_86 (by decide) rfl ?_
              refine AW.iinc (pc := 88) dX1_choose_88 rfl (by decide) rfl (H_11.1) ?_
              refine AW.goto (tgt := 11) (pc := 91) dX1_choose_91 rfl ?_
              refine AW.mask [true, true, true, true, true, true, true, false, false] ?_
              exact H_11.2
    · have q := Decidable.not_not.mp q
      have H_12 := H_2.2.1 q
      refine AW.goto (tgt := 88) (pc := 30) dX1_choose_30 rfl ?_
      refine AW.iinc (pc := 88) dX1_choose_88 rfl (by decide) rfl (H_12.1) ?_
      refine AW.goto (tgt := 11) (pc := 91) dX1_choose_91 rfl ?_
      exact H_12.2
set_option maxRecDepth 100000 in
set_option maxHeartbeats 4000000 in
theorem e_X1_clear  {h : aH} {Q : aQ} (H : AW mX1_clear 0 7 [some (aR 63), some (aI 0)] [] (a_up h 63 5 0) Q) : aRun mX1_clear 0 [aR 63] h Q := by
  refine aRun.of pn_1 rfl (Nat.le_of_ble_eq_true rfl) ?_
  show AW mX1_clear 0 0 [some (aR 63), none] [] h Q
  refine AW.aload_n (pc := 0) dX1_clear_0 rfl ?_
  refine AW.iconst (pc := 1) dX1_clear_1 ⟨by decide, by decide⟩ ?_
  refine AW.puti' (k := 5) (j := 5) (pc := 2) dX1_clear_2 ac_1 sh_63 rfl (by decide) fl_1_28 rfl rfl (tyX1_ok 5 (by decide)) (Or.inl rfl) ?_
  refine AW.iconst (pc := 5) dX1_clear_5 ⟨by decide, by decide⟩ ?_
  refine AW.istore_n (pc := 6) dX1_clear_6 (by decide) rfl ?_
  exact H
set_option maxRecDepth 100000 in
set_option maxHeartbeats 4000000 in
theorem s_X1_clear_7  {l1 : Int} {h : aH} {Q : aQ} (H : ((5 ≤ l1 → AW mX1_clear 0 34 [some (aR 63), some (aI 0)] [] h Q) ∧ (¬ (5 ≤ l1) → (0 ≤ l1 ∧ l1 < 5) ∧ inR (l1 + 1) ∧ AW mX1_clear 0 7 [some (aR 63), some (aI (l1 + 1))] [] (a_up (a_up h 65 l1 0) 66 l1 0) Q))) : AW mX1_clear 0 7 [some (aR 63), some (aI l1)] [] h Q := by
  refine AW.iload_n (pc := 7) dX1_clear_7 rfl ?_
  refine AW.iconst (pc := 8) dX1_clear_8 ⟨by decide, by decide⟩ ?_
  refine AW.icmp_ge (tgt := 32) (pc := 9) dX1_clear_9 rfl (fun q => ?_) (fun q => ?_)
  · skip
    have H_1 := H.1 q
    refine AW.iconst (pc := 32) dX1_clear_32 ⟨by decide, by decide⟩ ?_
    refine AW.istore_n (pc := 33) dX1_clear_33 (by decide) rfl ?_
    exact H_1
  · skip
    have H_2 := H.2 q
    refine AW.aload_n (pc := 12) dX1_clear_12 rfl ?_
    refine AW.getr (k := 1) (pc := 13) dX1_clear_13 ac_1 sh_63 rfl (by decide) fl_1_15 ?_
    refine AW.iload_n (pc := 16) dX1_clear_16 rfl ?_
    refine AW.iconst (pc := 17) dX1_clear_17 ⟨by decide, by decide⟩ ?_
    refine AW.iast (pc := 18) dX1_clear_18 sh_65 (H_2.1) ?_
    refine AW.aload_n (pc := 19) dX1_clear_19 rfl ?_
    refine AW.getr (k := 2) (pc := 20) dX1_clear_20 ac_1 sh_63 rfl (by decide) fl_1_18 ?_
    refine AW.iload_n (pc := 23) dX1_clear_23 rfl ?_
    refine AW.iconst (pc := 24) dX1_clear_24 ⟨by decide, by decide⟩ ?_
    refine AW.iast (pc := 25) dX1_clear_25 sh_66 (H_2.1) ?_
    refine AW.iinc (pc := 26) dX1_clear_26 rfl (by decide) rfl (H_2.2.1) ?_
    refine AW.goto (tgt := 7) (pc := 29) dX1_clear_29 rfl ?_
    exact H_2.2.2
set_option maxRecDepth 100000 in
set_option maxHeartbeats 4000000 in
theorem s_X1_clear_34  {l1 : Int} {h : aH} {Q : aQ} (H : ((6 ≤ l1 → AW mX1_clear 0 55 [some (aR 63), some (aI 0)] [] h Q) ∧ (¬ (6 ≤ l1) → (0 ≤ l1 ∧ l1 < 6) ∧ inR (l1 + 1) ∧ AW mX1_clear 0 34 [some (aR 63), some (aI (l1 + 1))] [] (a_up h 67 l1 0) Q))) : AW mX1_clear 0 34 [some (aR 63), some (aI l1)] [] h Q := by
  refine AW.iload_n (pc := 34) dX1_clear_34 rfl ?_
  refine AW.bipush (pc := 35) dX1_clear_35 rfl ⟨by decide, by decide⟩ ?_
  refine AW.icmp_ge (tgt := 53) (pc := 37) dX1_clear_37 rfl (fun q => ?_) (fun q => ?_)
  · skip
    have H_1 := H.1 q
    refine AW.iconst (pc := 53) dX1_clear_53 ⟨by decide, by decide⟩ ?_
    refine AW.istore_n (pc := 54) dX1_clear_54 (by decide) rfl ?_
    exact H_1
  · skip
    have H_2 := H.2 q
    refine AW.aload_n (pc := 40) dX1_clear_40 rfl ?_
    refine AW.getr (k := 3) (pc := 41) dX1_clear_41 ac_1 sh_63 rfl (by decide) fl_1_21 ?_
    refine AW.iload_n (pc := 44) dX1_clear_44 rfl ?_
    refine AW.iconst (pc := 45) dX1_clear_45 ⟨by decide, by decide⟩ ?_
    refine AW.iast (pc := 46) dX1_clear_46 sh_67 (H_2.1) ?_
    refine AW.iinc (pc := 47) dX1_clear_47 rfl (by decide) rfl (H_2.2.1) ?_
    refine AW.goto (tgt := 34) (pc := 50) dX1_clear_50 rfl ?_
    exact H_2.2.2
set_option maxRecDepth 100000 in
set_option maxHeartbeats 4000000 in
theorem s_X1_clear_55  {l1 : Int} {h : aH} {Q : aQ} (H : ((24 ≤ l1 → Q 0 h) ∧ (¬ (24 ≤ l1) → (0 ≤ l1 ∧ l1 < 24) ∧ inR (l1 + 1) ∧ AW mX1_clear 0 55 [some (aR 63), some (aI (l1 + 1))] [] (a_up h 68 l1 0) Q))) : AW mX1_clear 0 55 [some (aR 63), some (aI l1)] [] h Q := by
  refine AW.iload_n (pc := 55) dX1_clear_55 rfl ?_
  refine AW.bipush (pc := 56) dX1_clear_56 rfl ⟨by decide, by decide⟩ ?_
  refine AW.icmp_ge (tgt := 74) (pc := 58) dX1_clear_58 rfl (fun q => ?_) (fun q => ?_)
  · skip
    have H_1 := H.1 q
    refine AW.vret (pc := 74) dX1_clear_74 rfl ?_
    exact H_1
  · skip
    have H_2 := H.2 q
    refine AW.aload_n (pc := 61) dX1_clear_61 rfl ?_
    refine AW.getr (k := 4) (pc := 62) dX1_clear_62 ac_1 sh_63 rfl (by decide) fl_1_24 ?_
    refine AW.iload_n (pc := 65) dX1_clear_65 rfl ?_
    refine AW.iconst (pc := 66) dX1_clear_66 ⟨by decide, by decide⟩ ?_
    refine AW.zast (pc := 67) dX1_clear_67 sh_68 (H_2.1) (Or.inl rfl) ?_
    refine AW.iinc (pc := 68) dX1_clear_68 rfl (by decide) rfl (H_2.2.1) ?_
    refine AW.goto (tgt := 55) (pc := 71) dX1_clear_71 rfl ?_
    exact H_2.2.2
set_option maxRecDepth 100000 in
set_option maxHeartbeats 4000000 in
theorem p_X1_putLast {a2 : Int} {h : aH} {Q : aQ} (o : (0 ≤ a2 ∧ a2 < 24) ∧ o_X1_startOf h a2 ∧ (0 ≤ a2 ∧ a2 < 24) ∧ inR ((f_X1_startOf h a2) + (h 7 a2)) ∧ (0 ≤ (h 6 a2) ∧ (h 6 a2) < 6) ∧ (0 ≤ (h 6 a2) ∧ (h 6 a2) < 5) ∧ inR ((h 10 (h 6 a2)) + (h 65 (h 6 a2))) ∧ (0 ≤ ((h 10 (h 6 a2)) + (h 65 (h 6 a2))) ∧ ((h 10 (h 6 a2)) + (h 65 (h 6 a2))) < 24) ∧ (0 ≤ (h 6 a2) ∧ (h 6 a2) < 5) ∧ inR ((h 65 (h 6 a2)) + 1) ∧ (0 ≤ (h 6 a2) ∧ (h 6 a2) < 5) ∧ (0 ≤ a2 ∧ a2 < 24) ∧ (0 ≤ (h 6 a2) ∧ (h 6 a2) < 5) ∧ (0 ≤ a2 ∧ a2 < 24) ∧ (0 ≤ (h 4 a2) ∧ (h 4 a2) < 6)) (k : Q 0 (a_up (a_up (a_up (a_up (a_up (a_up h 64 ((h 10 (h 6 a2)) + (h 65 (h 6 a2))) a2) 65 (h 6 a2) ((h 65 (h 6 a2)) + 1)) 68 a2 1) 66 (h 6 a2) ((f_X1_startOf h a2) + (h 7 a2))) 67 (h 4 a2) ((f_X1_startOf h a2) + (h 7 a2))) 63 5 (max (h 63 5) ((f_X1_startOf h a2) + (h 7 a2))))) : aRun mX1_putLast 2 [aR 63, aR 3, aI a2] h Q := by
  refine aRun.of pn_1 rfl (Nat.le_of_ble_eq_true rfl) ?_
  show AW mX1_putLast 2 0 [some (aR 63), some (aR 3), some (aI a2), none, none] [] h Q
  refine AW.aload_n (pc := 0) dX1_putLast_0 rfl ?_
  refine AW.getr (k := 4) (pc := 1) dX1_putLast_1 ac_5 sh_3 rfl (by decide) fl_1_63 ?_
  refine AW.iload_n (pc := 4) dX1_putLast_4 rfl ?_
  refine AW.iald (pc := 5) dX1_putLast_5 sh_6 (o.1) (v := (h 6 a2)) rfl ?_
  refine AW.istore_n (pc := 6) dX1_putLast_6 (by decide) rfl ?_
  refine AW.aload_n (pc := 7) dX1_putLast_7 rfl ?_
  refine AW.aload_n (pc := 8) dX1_putLast_8 rfl ?_
  refine AW.iload_n (pc := 9) dX1_putLast_9 rfl ?_
  refine AW.callVi (M' := mX1_startOf) (F' := 1) (as := [aR 3, aI a2]) (pc := 10) dX1_putLast_10 (by decide) kX1_startOf ml_1_52 ob_63 rfl npX1_startOf (Nat.le_of_ble_eq_true rfl) (p_X1_startOf (o.2.1) ?_)
  refine AW.aload_n (pc := 13) dX1_putLast_13 rfl ?_
  refine AW.getr (k := 5) (pc := 14) dX1_putLast_14 ac_5 sh_3 rfl (by decide) fl_1_75 ?_
  refine AW.iload_n (pc := 17) dX1_putLast_17 rfl ?_
  refine AW.iald (pc := 18) dX1_putLast_18 sh_7 (o.2.2.1) (v := (h 7 a2)) rfl ?_
  refine AW.iadd (pc := 19) dX1_putLast_19 (o.2.2.2.1) ?_
  refine AW.istore (pc := 20) dX1_putLast_20 (by decide) rfl ?_
  refine AW.aload_n (pc := 22) dX1_putLast_22 rfl ?_
  refine AW.getr (k := 0) (pc := 23) dX1_putLast_23 ac_1 sh_63 rfl (by decide) fl_1_9 ?_
  refine AW.aload_n (pc := 26) dX1_putLast_26 rfl ?_
  refine AW.getr (k := 8) (pc := 27) dX1_putLast_27 ac_5 sh_3 rfl (by decide) fl_1_81 ?_
  refine AW.iload_n (pc := 30) dX1_putLast_30 rfl ?_
  refine AW.iald (pc := 31) dX1_putLast_31 sh_10 (o.2.2.2.2.1) (v := (h 10 (h 6 a2))) rfl ?_
  refine AW.aload_n (pc := 32) dX1_putLast_32 rfl ?_
  refine AW.getr (k := 1) (pc := 33) dX1_putLast_33 ac_1 sh_63 rfl (by decide) fl_1_15 ?_
  refine AW.iload_n (pc := 36) dX1_putLast_36 rfl ?_
  refine AW.iald (pc := 37) dX1_putLast_37 sh_65 (o.2.2.2.2.2.1) (v := (h 65 (h 6 a2))) rfl ?_
  refine AW.iadd (pc := 38) dX1_putLast_38 (o.2.2.2.2.2.2.1) ?_
  refine AW.iload_n (pc := 39) dX1_putLast_39 rfl ?_
  refine AW.iast (pc := 40) dX1_putLast_40 sh_64 (o.2.2.2.2.2.2.2.1) ?_
  refine AW.aload_n (pc := 41) dX1_putLast_41 rfl ?_
  refine AW.getr (k := 1) (pc := 42) dX1_putLast_42 ac_1 sh_63 rfl (by decide) fl_1_15 ?_
  refine AW.iload_n (pc := 45) dX1_putLast_45 rfl ?_
  refine AW.dup2 (pc := 46) dX1_putLast_46 rfl rfl ?_
  refine AW.iald (pc := 47) dX1_putLast_47 sh_65 (o.2.2.2.2.2.2.2.2.1) (v := (h 65 (h 6 a2))) (by rw [a_up_ne (by decide)]) ?_
  refine AW.iconst (pc := 48) dX1_putLast_48 ⟨by decide, by decide⟩ ?_
  refine AW.iadd (pc := 49) dX1_putLast_49 (o.2.2.2.2.2.2.2.2.2.1) ?_
  refine AW.iast (pc := 50) dX1_putLast_50 sh_65 (o.2.2.2.2.2.2.2.2.2.2.1) ?_
  refine AW.aload_n (pc := 51) dX1_putLast_51 rfl ?_
  refine AW.getr (k := 4) (pc := 52) dX1_putLast_52 ac_1 sh_63 rfl (by decide) fl_1_24 ?_
  refine AW.iload_n (pc := 55) dX1_putLast_55 rfl ?_
  refine AW.iconst (pc := 56) dX1_putLast_56 ⟨by decide, by decide⟩ ?_
  refine AW.zast (pc := 57) dX1_putLast_57 sh_68 (o.2.2.2.2.2.2.2.2.2.2.2.1) (Or.inr rfl) ?_
  refine AW.aload_n (pc := 58) dX1_putLast_58 rfl ?_
  refine AW.getr (k := 2) (pc := 59) dX1_putLast_59 ac_1 sh_63 rfl (by decide) fl_1_18 ?_
  refine AW.iload_n (pc := 62) dX1_putLast_62 rfl ?_
  refine AW.iload (pc := 63) dX1_putLast_63 rfl ?_
  refine AW.iast (pc := 65) dX1_putLast_65 sh_66 (o.2.2.2.2.2.2.2.2.2.2.2.2.1) ?_
  refine AW.aload_n (pc := 66) dX1_putLast_66 rfl ?_
  refine AW.getr (k := 3) (pc := 67) dX1_putLast_67 ac_1 sh_63 rfl (by decide) fl_1_21 ?_
  refine AW.aload_n (pc := 70) dX1_putLast_70 rfl ?_
  refine AW.getr (k := 2) (pc := 71) dX1_putLast_71 ac_5 sh_3 rfl (by decide) fl_1_66 ?_
  refine AW.iload_n (pc := 74) dX1_putLast_74 rfl ?_
  refine AW.iald (pc := 75) dX1_putLast_75 sh_4 (o.2.2.2.2.2.2.2.2.2.2.2.2.2.1) (v := (h 4 a2)) (by rw [a_up_ne (by decide), a_up_ne (by decide), a_up_ne (by decide), a_up_ne (by decide)]) ?_
  refine AW.iload (pc := 76) dX1_putLast_76 rfl ?_
  refine AW.iast (pc := 78) dX1_putLast_78 sh_67 (o.2.2.2.2.2.2.2.2.2.2.2.2.2.2) ?_
  refine AW.aload_n (pc := 79) dX1_putLast_79 rfl ?_
  refine AW.aload_n (pc := 80) dX1_putLast_80 rfl ?_
  refine AW.geti' (k := 5) (j := 5) (pc := 81) dX1_putLast_81 ac_1 sh_63 rfl (by decide) fl_1_28 rfl (v := (h 63 5)) (by rw [a_up_ne (by decide), a_up_ne (by decide), a_up_ne (by decide), a_up_ne (by decide), a_up_ne (by decide)]) ?_
  refine AW.iload (pc := 84) dX1_putLast_84 rfl ?_
  refine AW.mmax (pc := 86) dX1_putLast_86 (by decide) ml_1_69 (Nat.le_of_ble_eq_true rfl) ?_
  refine AW.puti' (k := 5) (j := 5) (pc := 89) dX1_putLast_89 ac_1 sh_63 rfl (by decide) fl_1_28 rfl rfl (tyX1_ok 5 (by decide)) (Or.inl rfl) ?_
  refine AW.vret (pc := 92) dX1_putLast_92 rfl ?_
  exact k
set_option maxRecDepth 100000 in
set_option maxHeartbeats 4000000 in
theorem e_X1_lay {a2 : Int} {h : aH} {Q : aQ} (H : aRun mX1_clear 0 [aR 63] h (fun r1 h2 => AW mX1_lay 3 6 [some (aR 63), some (aR 3), some (aI a2), some (aI 0), none] [] h2 Q)) : aRun mX1_lay 3 [aR 63, aR 3, aI a2] h Q := by
  refine aRun.of pn_1 rfl (Nat.le_of_ble_eq_true rfl) ?_
  show AW mX1_lay 3 0 [some (aR 63), some (aR 3), some (aI a2), none, none] [] h Q
  refine AW.aload_n (pc := 0) dX1_lay_0 rfl ?_
  refine AW.callVv (M' := mX1_clear) (F' := 0) (as := []) (pc := 1) dX1_lay_1 (by decide) kX1_clear ml_1_32 ob_63 rfl npX1_clear (Nat.le_of_ble_eq_true rfl) (aRun.mono (fun r1 h2 H_1 => ?_) H)
  refine AW.iconst (pc := 4) dX1_lay_4 ⟨by decide, by decide⟩ ?_
  refine AW.istore_n (pc := 5) dX1_lay_5 (by decide) rfl ?_
  exact H_1
set_option maxRecDepth 100000 in
set_option maxHeartbeats 4000000 in
theorem s_X1_lay_6  {l2 l3 : Int} {h : aH} {Q : aQ} (H : (((h 3 1) ≤ l3 → Q 0 h) ∧ (¬ ((h 3 1) ≤ l3) → aRun mX1_choose 2 [aR 63, aR 3, aI l2] h (fun r1 h2 => ((r1 = (-1) → Q 0 h2) ∧ (¬ (r1 = (-1)) → ((0 ≤ r1 ∧ r1 < 24) ∧ o_X1_startOf h2 r1 ∧ (0 ≤ r1 ∧ r1 < 24) ∧ inR ((f_X1_startOf h2 r1) + (h2 7 r1)) ∧ (0 ≤ (h2 6 r1) ∧ (h2 6 r1) < 6) ∧ (0 ≤ (h2 6 r1) ∧ (h2 6 r1) < 5) ∧ inR ((h2 10 (h2 6 r1)) + (h2 65 (h2 6 r1))) ∧ (0 ≤ ((h2 10 (h2 6 r1)) + (h2 65 (h2 6 r1))) ∧ ((h2 10 (h2 6 r1)) + (h2 65 (h2 6 r1))) < 24) ∧ (0 ≤ (h2 6 r1) ∧ (h2 6 r1) < 5) ∧ inR ((h2 65 (h2 6 r1)) + 1) ∧ (0 ≤ (h2 6 r1) ∧ (h2 6 r1) < 5) ∧ (0 ≤ r1 ∧ r1 < 24) ∧ (0 ≤ (h2 6 r1) ∧ (h2 6 r1) < 5) ∧ (0 ≤ r1 ∧ r1 < 24) ∧ (0 ≤ (h2 4 r1) ∧ (h2 4 r1) < 6)) ∧ inR (l3 + 1) ∧ AW mX1_lay 3 6 [some (aR 63), some (aR 3), some (aI l2), some (aI (l3 + 1)), none] [] (a_up (a_up (a_up (a_up (a_up (a_up h2 64 ((h2 10 (h2 6 r1)) + (h2 65 (h2 6 r1))) r1) 65 (h2 6 r1) ((h2 65 (h2 6 r1)) + 1)) 68 r1 1) 66 (h2 6 r1) ((f_X1_startOf h2 r1) + (h2 7 r1))) 67 (h2 4 r1) ((f_X1_startOf h2 r1) + (h2 7 r1))) 63 5 (max (h2 63 5) ((f_X1_startOf h2 r1) + (h2 7 r1)))) Q)))))) : AW mX1_lay 3 6 [some (aR 63), some (aR 3), some (aI l2), some (aI l3), none] [] h Q := by
  refine AW.iload_n (pc := 6) dX1_lay_6 rfl ?_
  refine AW.aload_n (pc := 7) dX1_lay_7 rfl ?_
  refine AW.geti' (k := 1) (j := 1) (pc := 8) dX1_lay_8 ac_5 sh_3 rfl (by decide) fl_1_35 rfl (v := (h 3 1)) rfl ?_
  refine AW.icmp_ge (tgt := 42) (pc := 11) dX1_lay_11 rfl (fun q => ?_) (fun q => ?_)
  · skip
    have H_1 := H.1 q
    refine AW.vret (pc := 42) dX1_lay_42 rfl ?_
    exact H_1
  · skip
    have H_2 := H.2 q
    refine AW.aload_n (pc := 14) dX1_lay_14 rfl ?_
    refine AW.aload_n (pc := 15) dX1_lay_15 rfl ?_
    refine AW.iload_n (pc := 16) dX1_lay_16 rfl ?_
    refine AW.callVi (M' := mX1_choose) (F' := 2) (as := [aR 3, aI l2]) (pc := 17) dX1_lay_17 (by decide) kX1_choose ml_1_40 ob_63 rfl npX1_choose (Nat.le_of_ble_eq_true rfl) (aRun.mono (fun r1 h2 H_3 => ?_) H_2)
    refine AW.istore (pc := 20) dX1_lay_20 (by decide) rfl ?_
    refine AW.iload (pc := 22) dX1_lay_22 rfl ?_
    refine AW.iconst (pc := 24) dX1_lay_24 ⟨by decide, by decide⟩ ?_
    refine AW.icmp_ne (tgt := 29) (pc := 25) dX1_lay_25 rfl (fun q => ?_) (fun q => ?_)
    · skip
      have H_4 := H_3.2 q
      refine AW.aload_n (pc := 29) dX1_lay_29 rfl ?_
      refine AW.aload_n (pc := 30) dX1_lay_30 rfl ?_
      refine AW.iload (pc := 31) dX1_lay_31 rfl ?_
      refine AW.callVv (M' := mX1_putLast) (F' := 2) (as := [aR 3, aI r1]) (pc := 33) dX1_lay_33 (by decide) kX1_putLast ml_1_44 ob_63 rfl npX1_putLast (Nat.le_of_ble_eq_true rfl) (p_X1_putLast (H_4.1) ?_)
      refine AW.iinc (pc := 36) dX1_lay_36 rfl (by decide) rfl (H_4.2.1) ?_
      refine AW.goto (tgt := 6) (pc := 39) dX1_lay_39 rfl ?_
      refine AW.mask [true, true, true, true, false] ?_
      exact H_4.2.2
    · have q := Decidable.not_not.mp q
      have H_5 := H_3.1 q
      refine AW.vret (pc := 28) dX1_lay_28 rfl ?_
      exact H_5
set_option maxRecDepth 100000 in
set_option maxHeartbeats 4000000 in
theorem p_X2_forget  {h : aH} {Q : aQ} (k : Q 0 (a_up h 73 1 0)) : aRun mX2_forget 0 [aR 73] h Q := by
  refine aRun.of pn_2 rfl (Nat.le_of_ble_eq_true rfl) ?_
  show AW mX2_forget 0 0 [some (aR 73)] [] h Q
  refine AW.aload_n (pc := 0) dX2_forget_0 rfl ?_
  refine AW.iconst (pc := 1) dX2_forget_1 ⟨by decide, by decide⟩ ?_
  refine AW.puti' (k := 1) (j := 1) (pc := 2) dX2_forget_2 ac_2 sh_73 rfl (by decide) fl_2_15 rfl rfl (tyX2_ok 1 (by decide)) (Or.inr ⟨rfl, (Or.inl rfl)⟩) ?_
  refine AW.vret (pc := 5) dX2_forget_5 rfl ?_
  exact k
set_option maxRecDepth 100000 in
set_option maxHeartbeats 4000000 in
theorem e_X2_nextOfAll  {h : aH} {Q : aQ} (H : AW mX2_nextOfAll 2 2 [some (aR 73), some (aR 3), some (aI 0)] [] h Q) : aRun mX2_nextOfAll 2 [aR 73, aR 3] h Q := by
  refine aRun.of pn_2 rfl (Nat.le_of_ble_eq_true rfl) ?_
  show AW mX2_nextOfAll 2 0 [some (aR 73), some (aR 3), none] [] h Q
  refine AW.iconst (pc := 0) dX2_nextOfAll_0 ⟨by decide, by decide⟩ ?_
  refine AW.istore_n (pc := 1) dX2_nextOfAll_1 (by decide) rfl ?_
  exact H
set_option maxRecDepth 100000 in
set_option maxHeartbeats 4000000 in
theorem s_X2_nextOfAll_2  {l2 : Int} {h : aH} {Q : aQ} (H : ((5 ≤ l2 → Q 0 h) ∧ (¬ (5 ≤ l2) → (0 ≤ l2 ∧ l2 < 6) ∧ inR (l2 + 1) ∧ (0 ≤ (l2 + 1) ∧ (l2 + 1) < 6) ∧ aRun mX9_nextOrder 1 [aR 74, aI (h 10 l2), aI (h 10 (l2 + 1))] h (fun r1 h2 => ((r1 = 0 → AW mX2_nextOfAll 2 2 [some (aR 73), some (aR 3), some (aI (l2 + 1))] [] h2 Q) ∧ (¬ (r1 = 0) → Q 0 h2)))))) : AW mX2_nextOfAll 2 2 [some (aR 73), some (aR 3), some (aI l2)] [] h Q := by
  refine AW.iload_n (pc := 2) dX2_nextOfAll_2 rfl ?_
  refine AW.iconst (pc := 3) dX2_nextOfAll_3 ⟨by decide, by decide⟩ ?_
  refine AW.icmp_ge (tgt := 38) (pc := 4) dX2_nextOfAll_4 rfl (fun q => ?_) (fun q => ?_)
  · skip
    have H_1 := H.1 q
    refine AW.vret (pc := 38) dX2_nextOfAll_38 rfl ?_
    exact H_1
  · skip
    have H_2 := H.2 q
    refine AW.aload_n (pc := 7) dX2_nextOfAll_7 rfl ?_
    refine AW.getr (k := 0) (pc := 8) dX2_nextOfAll_8 ac_2 sh_73 rfl (by decide) fl_2_9 ?_
    refine AW.aload_n (pc := 11) dX2_nextOfAll_11 rfl ?_
    refine AW.getr (k := 8) (pc := 12) dX2_nextOfAll_12 ac_5 sh_3 rfl (by decide) fl_2_66 ?_
    refine AW.iload_n (pc := 15) dX2_nextOfAll_15 rfl ?_
    refine AW.iald (pc := 16) dX2_nextOfAll_16 sh_10 (H_2.1) (v := (h 10 l2)) rfl ?_
    refine AW.aload_n (pc := 17) dX2_nextOfAll_17 rfl ?_
    refine AW.getr (k := 8) (pc := 18) dX2_nextOfAll_18 ac_5 sh_3 rfl (by decide) fl_2_66 ?_
    refine AW.iload_n (pc := 21) dX2_nextOfAll_21 rfl ?_
    refine AW.iconst (pc := 22) dX2_nextOfAll_22 ⟨by decide, by decide⟩ ?_
    refine AW.iadd (pc := 23) dX2_nextOfAll_23 (H_2.2.1) ?_
    refine AW.iald (pc := 24) dX2_nextOfAll_24 sh_10 (H_2.2.2.1) (v := (h 10 (l2 + 1))) rfl ?_
    refine AW.callNi (M' := mX9_nextOrder) (F' := 1) (as := [aR 74, aI (h 10 l2), aI (h 10 (l2 + 1))]) (pc := 25) dX2_nextOfAll_25 (by decide) kX9_nextOrder nl_2_69 rfl npX9_nextOrder (Nat.le_of_ble_eq_true rfl) (aRun.mono (fun r1 h2 H_3 => ?_) H_2.2.2.2)
    refine AW.if_eq (tgt := 32) (pc := 28) dX2_nextOfAll_28 rfl (fun q => ?_) (fun q => ?_)
    · skip
      have H_4 := H_3.1 q
      refine AW.iinc (pc := 32) dX2_nextOfAll_32 rfl (by decide) rfl (H_2.2.1) ?_
      refine AW.goto (tgt := 2) (pc := 35) dX2_nextOfAll_35 rfl ?_
      exact H_4
    · skip
      have H_5 := H_3.2 q
      refine AW.vret (pc := 31) dX2_nextOfAll_31 rfl ?_
      exact H_5
set_option maxRecDepth 100000 in
set_option maxHeartbeats 4000000 in
theorem e_X5_orderByNumbers {r : Nat} (hr : isRow r) {h : aH} {Q : aQ} (H : AW mX5_orderByNumbers 0 4 [some (aR 3), some (aR r), some (aI 0), some (aI 0), none] [] h Q) : aRun mX5_orderByNumbers 0 [aR 3, aR r] h Q := by
  refine aRun.of pn_5 rfl (Nat.le_of_ble_eq_true rfl) ?_
  show AW mX5_orderByNumbers 0 0 [some (aR 3), some (aR r), none, none, none] [] h Q
  refine AW.iconst (pc := 0) dX5_orderByNumbers_0 ⟨by decide, by decide⟩ ?_
  refine AW.istore_n (pc := 1) dX5_orderByNumbers_1 (by decide) rfl ?_
  refine AW.iconst (pc := 2) dX5_orderByNumbers_2 ⟨by decide, by decide⟩ ?_
  refine AW.istore_n (pc := 3) dX5_orderByNumbers_3 (by decide) rfl ?_
  exact H
set_option maxRecDepth 100000 in
set_option maxHeartbeats 4000000 in
theorem s_X5_orderByNumbers_4 {r : Nat} (hr : isRow r) {l2 l3 : Int} {h : aH} {Q : aQ} (H : ((5 ≤ l3 → Q 0 h) ∧ (¬ (5 ≤ l3) → AW mX5_orderByNumbers 0 12 [some (aR 3), some (aR r), some (aI l2), some (aI l3), some (aI 0)] [] h Q))) : AW mX5_orderByNumbers 0 4 [some (aR 3), some (aR r), some (aI l2), some (aI l3), none] [] h Q := by
  refine AW.iload_n (pc := 4) dX5_orderByNumbers_4 rfl ?_
  refine AW.iconst (pc := 5) dX5_orderByNumbers_5 ⟨by decide, by decide⟩ ?_
  refine AW.icmp_ge (tgt := 52) (pc := 6) dX5_orderByNumbers_6 rfl (fun q => ?_) (fun q => ?_)
  · skip
    have H_1 := H.1 q
    refine AW.vret (pc := 52) dX5_orderByNumbers_52 rfl ?_
    exact H_1
  · skip
    have H_2 := H.2 q
    refine AW.iconst (pc := 9) dX5_orderByNumbers_9 ⟨by decide, by decide⟩ ?_
    refine AW.istore (pc := 10) dX5_orderByNumbers_10 (by decide) rfl ?_
    exact H_2
set_option maxRecDepth 100000 in
set_option maxHeartbeats 4000000 in
theorem s_X5_orderByNumbers_12 {r : Nat} (hr : isRow r) {l2 l3 l4 : Int} {h : aH} {Q : aQ} (H : (((h 3 1) ≤ l4 → inR (l3 + 1) ∧ AW mX5_orderByNumbers 0 4 [some (aR 3), some (aR r), some (aI l2), some (aI (l3 + 1)), none] [] h Q) ∧ (¬ ((h 3 1) ≤ l4) → (0 ≤ l4 ∧ l4 < 24) ∧ (((h 6 l4) = l3 → (0 ≤ l2 ∧ l2 < 24) ∧ inR (l2 + 1) ∧ inR (l4 + 1) ∧ AW mX5_orderByNumbers 0 12 [some (aR 3), some (aR r), some (aI (l2 + 1)), some (aI l3), some (aI (l4 + 1))] [] (a_up h r l2 l4) Q) ∧ (¬ ((h 6 l4) = l3) → inR (l4 + 1) ∧ AW mX5_orderByNumbers 0 12 [some (aR 3), some (aR r), some (aI l2), some (aI l3), some (aI (l4 + 1))] [] h Q))))) : AW mX5_orderByNumbers 0 12 [some (aR 3), some (aR r), some (aI l2), some (aI l3), some (aI l4)] [] h Q := by
  refine AW.iload (pc := 12) dX5_orderByNumbers_12 rfl ?_
  refine AW.aload_n (pc := 14) dX5_orderByNumbers_14 rfl ?_
  refine AW.geti' (k := 1) (j := 1) (pc := 15) dX5_orderByNumbers_15 ac_5 sh_3 rfl (by decide) fl_5_15 rfl (v := (h 3 1)) rfl ?_
  refine AW.icmp_ge (tgt := 46) (pc := 18) dX5_orderByNumbers_18 rfl (fun q => ?_) (fun q => ?_)
  · skip
    have H_1 := H.1 q
    refine AW.iinc (pc := 46) dX5_orderByNumbers_46 rfl (by decide) rfl (H_1.1) ?_
    refine AW.goto (tgt := 4) (pc := 49) dX5_orderByNumbers_49 rfl ?_
    refine AW.mask [true, true, true, true, false] ?_
    exact H_1.2
  · skip
    have H_2 := H.2 q
    refine AW.aload_n (pc := 21) dX5_orderByNumbers_21 rfl ?_
    refine AW.getr (k := 4) (pc := 22) dX5_orderByNumbers_22 ac_5 sh_3 rfl (by decide) fl_5_25 ?_
    refine AW.iload (pc := 25) dX5_orderByNumbers_25 rfl ?_
    refine AW.iald (pc := 27) dX5_orderByNumbers_27 sh_6 (H_2.1) (v := (h 6 l4)) rfl ?_
    refine AW.iload_n (pc := 28) dX5_orderByNumbers_28 rfl ?_
    refine AW.icmp_ne (tgt := 40) (pc := 29) dX5_orderByNumbers_29 rfl (fun q => ?_) (fun q => ?_)
    · skip
      have H_3 := H_2.2.2 q
      refine AW.iinc (pc := 40) dX5_orderByNumbers_40 rfl (by decide) rfl (H_3.1) ?_
      refine AW.goto (tgt := 12) (pc := 43) dX5_orderByNumbers_43 rfl ?_
      exact H_3.2
    · have q := Decidable.not_not.mp q
      have H_4 := H_2.2.1 q
      refine AW.aload_n (pc := 32) dX5_orderByNumbers_32 rfl ?_
      refine AW.iload_n (pc := 33) dX5_orderByNumbers_33 rfl ?_
      refine AW.iload (pc := 34) dX5_orderByNumbers_34 rfl ?_
      refine AW.iast (pc := 36) dX5_orderByNumbers_36 (sh_isRow hr) (H_4.1) ?_
      refine AW.iinc (pc := 37) dX5_orderByNumbers_37 rfl (by decide) rfl (H_4.2.1) ?_
      refine AW.iinc (pc := 40) dX5_orderByNumbers_40 rfl (by decide) rfl (H_4.2.2.1) ?_
      refine AW.goto (tgt := 12) (pc := 43) dX5_orderByNumbers_43 rfl ?_
      exact H_4.2.2.2
def f_X5_jobNext (h : aH) (x : Nat) (a1 : Int) : Int := (if (h x 1) ≤ (a1 + 1) then ((-1) : Int) else (if (h (x + 1) (a1 + 1)) = (h (x + 1) a1) then (a1 + 1) else ((-1) : Int)))
def o_X5_jobNext (h : aH) (x : Nat) (a1 : Int) : Prop := inR (a1 + 1) ∧ ((¬ ((h x 1) ≤ (a1 + 1)) → ((0 ≤ (a1 + 1) ∧ (a1 + 1) < 24) ∧ (0 ≤ a1 ∧ a1 < 24))))
set_option maxRecDepth 100000 in
set_option maxHeartbeats 4000000 in
theorem p_X5_jobNext {x : Nat} (hx : isJ x) {a1 : Int} {h : aH} {Q : aQ} (o : o_X5_jobNext h x a1) (k : Q (f_X5_jobNext h x a1) h) : aRun mX5_jobNext 0 [aR x, aI a1] h Q := by
  unfold f_X5_jobNext at k
  unfold o_X5_jobNext at o
  refine aRun.of pn_5 rfl (Nat.le_of_ble_eq_true rfl) ?_
  show AW mX5_jobNext 0 0 [some (aR x), some (aI a1)] [] h Q
  refine AW.iload_n (pc := 0) dX5_jobNext_0 rfl ?_
  refine AW.iconst (pc := 1) dX5_jobNext_1 ⟨by decide, by decide⟩ ?_
  refine AW.iadd (pc := 2) dX5_jobNext_2 (o.1) ?_
  refine AW.aload_n (pc := 3) dX5_jobNext_3 rfl ?_
  refine AW.geti' (k := 1) (j := 1) (pc := 4) dX5_jobNext_4 ac_5 (sh_isJ hx) rfl (by decide) fl_5_15 rfl (v := (h x 1)) rfl ?_
  have K_1 : AW mX5_jobNext 0 34 [some (aR x), some (aI a1)] [aI (if (h x 1) ≤ (a1 + 1) then ((-1) : Int) else (if (h (x + 1) (a1 + 1)) = (h (x + 1) a1) then (a1 + 1) else ((-1) : Int)))] h Q := by
    refine AW.iret (pc := 34) dX5_jobNext_34 rfl ?_
    exact k
  have H_3 := o.2
  refine AW.icmp_ge (tgt := 33) (pc := 7) dX5_jobNext_7 rfl (fun q => ?_) (fun q => ?_)
  · skip
    rw [if_pos q] at K_1
    refine AW.iconst (pc := 33) dX5_jobNext_33 ⟨by decide, by decide⟩ ?_
    exact K_1
  · skip
    have H_5 := H_3 q
    rw [if_neg q] at K_1
    refine AW.aload_n (pc := 10) dX5_jobNext_10 rfl ?_
    refine AW.getr (k := 2) (pc := 11) dX5_jobNext_11 ac_5 (sh_isJ hx) rfl (by decide) fl_5_18 ?_
    refine AW.iload_n (pc := 14) dX5_jobNext_14 rfl ?_
    refine AW.iconst (pc := 15) dX5_jobNext_15 ⟨by decide, by decide⟩ ?_
    refine AW.iadd (pc := 16) dX5_jobNext_16 (o.1) ?_
    refine AW.iald (pc := 17) dX5_jobNext_17 (sh_isJ_1 hx) (H_5.1) (v := (h (x + 1) (a1 + 1))) rfl ?_
    refine AW.aload_n (pc := 18) dX5_jobNext_18 rfl ?_
    refine AW.getr (k := 2) (pc := 19) dX5_jobNext_19 ac_5 (sh_isJ hx) rfl (by decide) fl_5_18 ?_
    refine AW.iload_n (pc := 22) dX5_jobNext_22 rfl ?_
    refine AW.iald (pc := 23) dX5_jobNext_23 (sh_isJ_1 hx) (H_5.2) (v := (h (x + 1) a1)) rfl ?_
    refine AW.icmp_ne (tgt := 33) (pc := 24) dX5_jobNext_24 rfl (fun q => ?_) (fun q => ?_)
    · skip
      rw [if_neg q] at K_1
      refine AW.iconst (pc := 33) dX5_jobNext_33 ⟨by decide, by decide⟩ ?_
      exact K_1
    · have q := Decidable.not_not.mp q
      rw [if_pos q] at K_1
      refine AW.iload_n (pc := 27) dX5_jobNext_27 rfl ?_
      refine AW.iconst (pc := 28) dX5_jobNext_28 ⟨by decide, by decide⟩ ?_
      refine AW.iadd (pc := 29) dX5_jobNext_29 (o.1) ?_
      refine AW.goto (tgt := 34) (pc := 30) dX5_jobNext_30 rfl ?_
      exact K_1
set_option maxRecDepth 100000 in
set_option maxHeartbeats 4000000 in
theorem e_X8_link {x : Nat} (hx : isT x) {r : Nat} (hr : isRow r) {h : aH} {Q : aQ} (H : AW mX8_link 0 2 [some (aR x), some (aR 3), some (aR r), some (aI 0), none, none, none, none] [] h Q) : aRun mX8_link 0 [aR x, aR 3, aR r] h Q := by
  refine aRun.of pn_8 rfl (Nat.le_of_ble_eq_true rfl) ?_
  show AW mX8_link 0 0 [some (aR x), some (aR 3), some (aR r), none, none, none, none, none] [] h Q
  refine AW.iconst (pc := 0) dX8_link_0 ⟨by decide, by decide⟩ ?_
  refine AW.istore_n (pc := 1) dX8_link_1 (by decide) rfl ?_
  exact H
set_option maxRecDepth 100000 in
set_option maxHeartbeats 4000000 in
theorem s_X8_link_2 {x : Nat} (hx : isT x) {r : Nat} (hr : isRow r) {l3 : Int} {h : aH} {Q : aQ} (H : ((5 ≤ l3 → Q 0 h) ∧ (¬ (5 ≤ l3) → (0 ≤ l3 ∧ l3 < 6) ∧ inR (l3 + 1) ∧ (0 ≤ (l3 + 1) ∧ (l3 + 1) < 6) ∧ AW mX8_link 0 29 [some (aR x), some (aR 3), some (aR r), some (aI l3), some (aI (h 10 l3)), some (aI (h 10 (l3 + 1))), some (aI (h 10 l3)), none] [] h Q))) : AW mX8_link 0 2 [some (aR x), some (aR 3), some (aR r), some (aI l3), none, none, none, none] [] h Q := by
  refine AW.iload_n (pc := 2) dX8_link_2 rfl ?_
  refine AW.iconst (pc := 3) dX8_link_3 ⟨by decide, by decide⟩ ?_
  refine AW.icmp_ge (tgt := 116) (pc := 4) dX8_link_4 rfl (fun q => ?_) (fun q => ?_)
  · skip
    have H_1 := H.1 q
    refine AW.vret (pc := 116) dX8_link_116 rfl ?_
    exact H_1
  · skip
    have H_2 := H.2 q
    refine AW.aload_n (pc := 7) dX8_link_7 rfl ?_
    refine AW.getr (k := 8) (pc := 8) dX8_link_8 ac_5 sh_3 rfl (by decide) fl_8_77 ?_
    refine AW.iload_n (pc := 11) dX8_link_11 rfl ?_
    refine AW.iald (pc := 12) dX8_link_12 sh_10 (H_2.1) (v := (h 10 l3)) rfl ?_
    refine AW.istore (pc := 13) dX8_link_13 (by decide) rfl ?_
    refine AW.aload_n (pc := 15) dX8_link_15 rfl ?_
    refine AW.getr (k := 8) (pc := 16) dX8_link_16 ac_5 sh_3 rfl (by decide) fl_8_77 ?_
    refine AW.iload_n (pc := 19) dX8_link_19 rfl ?_
    refine AW.iconst (pc := 20) dX8_link_20 ⟨by decide, by decide⟩ ?_
    refine AW.iadd (pc := 21) dX8_link_21 (H_2.2.1) ?_
    refine AW.iald (pc := 22) dX8_link_22 sh_10 (H_2.2.2.1) (v := (h 10 (l3 + 1))) rfl ?_
    refine AW.istore (pc := 23) dX8_link_23 (by decide) rfl ?_
    refine AW.iload (pc := 25) dX8_link_25 rfl ?_
    refine AW.istore (pc := 27) dX8_link_27 (by decide) rfl ?_
    exact H_2.2.2.2
set_option maxRecDepth 100000 in
set_option maxHeartbeats 4000000 in
theorem s_X8_link_29 {x : Nat} (hx : isT x) {r : Nat} (hr : isRow r) {l3 l4 l5 l6 : Int} {h : aH} {Q : aQ} (H : ((l5 ≤ l6 → inR (l3 + 1) ∧ AW mX8_link 0 2 [some (aR x), some (aR 3), some (aR r), some (aI (l3 + 1)), none, none, none, none] [] h Q) ∧ (¬ (l5 ≤ l6) → (0 ≤ l6 ∧ l6 < 24) ∧ inR (l6 - l4) ∧ (0 ≤ (h r l6) ∧ (h r l6) < 24) ∧ ((¬ (l6 ≤ l4) → (inR (l6 - 1) ∧ (0 ≤ (l6 - 1) ∧ (l6 - 1) < 24))) ∧ inR (l6 + 1) ∧ ((¬ (l5 ≤ (l6 + 1)) → (0 ≤ (l6 + 1) ∧ (l6 + 1) < 24)) ∧ AW mX8_link 0 29 [some (aR x), some (aR 3), some (aR r), some (aI l3), some (aI l4), some (aI l5), some (aI (l6 + 1)), none] [] (a_up (a_up (a_up h (x + 1) (h r l6) (l6 - l4)) (x + 2) (h r l6) (if l6 ≤ l4 then ((-1) : Int) else (h r (l6 - 1)))) (x + 3) (h r l6) (if l5 ≤ (l6 + 1) then ((-1) : Int) else (h r (l6 + 1)))) Q))))) : AW mX8_link 0 29 [some (aR x), some (aR 3), some (aR r), some (aI l3), some (aI l4), some (aI l5), some (aI l6), none] [] h Q := by
  refine AW.iload (pc := 29) dX8_link_29 rfl ?_
  refine AW.iload (pc := 31) dX8_link_31 rfl ?_
  refine AW.icmp_ge (tgt := 110) (pc := 33) dX8_link_33 rfl (fun q => ?_) (fun q => ?_)
  · skip
    have H_1 := H.1 q
    refine AW.iinc (pc := 110) dX8_link_110 rfl (by decide) rfl (H_1.1) ?_
    refine AW.goto (tgt := 2) (pc := 113) dX8_link_113 rfl ?_
    refine AW.mask [true, true, true, true, false, false, false, true] ?_
    exact H_1.2
  · skip
    have H_2 := H.2 q
    refine AW.aload_n (pc := 36) dX8_link_36 rfl ?_
    refine AW.iload (pc := 37) dX8_link_37 rfl ?_
    refine AW.iald (pc := 39) dX8_link_39 (sh_isRow hr) (H_2.1) (v := (h r l6)) rfl ?_
    refine AW.istore (pc := 40) dX8_link_40 (by decide) rfl ?_
    refine AW.aload_n (pc := 42) dX8_link_42 rfl ?_
    refine AW.getr (k := 0) (pc := 43) dX8_link_43 ac_8 (sh_isT hx) rfl (by decide) fl_8_9 ?_
    refine AW.iload (pc := 46) dX8_link_46 rfl ?_
    refine AW.iload (pc := 48) dX8_link_48 rfl ?_
    refine AW.iload (pc := 50) dX8_link_50 rfl ?_
    refine AW.isub (pc := 52) dX8_link_52 (H_2.2.1) ?_
    refine AW.iast (pc := 53) dX8_link_53 (sh_isT_1 hx) (H_2.2.2.1) ?_
    refine AW.aload_n (pc := 54) dX8_link_54 rfl ?_
    refine AW.getr (k := 1) (pc := 55) dX8_link_55 ac_8 (sh_isT hx) rfl (by decide) fl_8_15 ?_
    refine AW.iload (pc := 58) dX8_link_58 rfl ?_
    refine AW.iload (pc := 60) dX8_link_60 rfl ?_
    refine AW.iload (pc := 62) dX8_link_62 rfl ?_
    have K_3 : AW mX8_link 0 77 [some (aR x), some (aR 3), some (aR r), some (aI l3), some (aI l4), some (aI l5), some (aI l6), some (aI (h r l6))] [aI (if l6 ≤ l4 then ((-1) : Int) else (h r (l6 - 1))), aI (h r l6), aR (x + 2)] (a_up h (x + 1) (h r l6) (l6 - l4)) Q := by
      have H_4 := H_2.2.2.2.2
      refine AW.iast (pc := 77) dX8_link_77 (sh_isT_2 hx) (H_2.2.2.1) ?_
      refine AW.aload_n (pc := 78) dX8_link_78 rfl ?_
      refine AW.getr (k := 2) (pc := 79) dX8_link_79 ac_8 (sh_isT hx) rfl (by decide) fl_8_18 ?_
      refine AW.iload (pc := 82) dX8_link_82 rfl ?_
      refine AW.iload (pc := 84) dX8_link_84 rfl ?_
      refine AW.iconst (pc := 86) dX8_link_86 ⟨by decide, by decide⟩ ?_
      refine AW.iadd (pc := 87) dX8_link_87 (H_4.1) ?_
      refine AW.iload (pc := 88) dX8_link_88 rfl ?_
      have K_6 : AW mX8_link 0 103 [some (aR x), some (aR 3), some (aR r), some (aI l3), some (aI l4), some (aI l5), some (aI l6), some (aI (h r l6))] [aI (if l5 ≤ (l6 + 1) then ((-1) : Int) else (h r (l6 + 1))), aI (h r l6), aR (x + 3)] (a_up (a_up h (x + 1) (h r l6) (l6 - l4)) (x + 2) (h r l6) (if l6 ≤ l4 then ((-1) : Int) else (h r (l6 - 1)))) Q := by
        have H_7 := H_4.2.2
        refine AW.iast (pc := 103) dX8_link_103 (sh_isT_3 hx) (H_2.2.2.1) ?_
        refine AW.iinc (pc := 104) dX8_link_104 rfl (by decide) rfl (H_4.1) ?_
        refine AW.goto (tgt := 29) (pc := 107) dX8_link_107 rfl ?_
        refine AW.mask [true, true, true, true, true, true, true, false] ?_
        exact H_7
      have H_8 := H_4.2.1
      refine AW.icmp_ge (tgt := 102) (pc := 90) dX8_link_90 rfl (fun q => ?_) (fun q => ?_)
      · skip
        rw [if_pos q] at K_6
        refine AW.iconst (pc := 102) dX8_link_102 ⟨by decide, by decide⟩ ?_
        exact K_6
      · skip
        have H_10 := H_8 q
        rw [if_neg q] at K_6
        refine AW.aload_n (pc := 93) dX8_link_93 rfl ?_
        refine AW.iload (pc := 94) dX8_link_94 rfl ?_
        refine AW.iconst (pc := 96) dX8_link_96 ⟨by decide, by decide⟩ ?_
        refine AW.iadd (pc := 97) dX8_link_97 (H_4.1) ?_
        refine AW.iald (pc := 98) dX8_link_98 (sh_isRow hr) H_10 (v := (h r (l6 + 1))) (by rw [a_up_ne (by omega), a_up_ne (by omega)]) ?_
        refine AW.goto (tgt := 103) (pc := 99) dX8_link_99 rfl ?_
        exact K_6
    have H_5 := H_2.2.2.2.1
    refine AW.icmp_le (tgt := 76) (pc := 64) dX8_link_64 rfl (fun q => ?_) (fun q => ?_)
    · skip
      rw [if_pos q] at K_3
      refine AW.iconst (pc := 76) dX8_link_76 ⟨by decide, by decide⟩ ?_
      exact K_3
    · skip
      have H_12 := H_5 q
      rw [if_neg q] at K_3
      refine AW.aload_n (pc := 67) dX8_link_67 rfl ?_
      refine AW.iload (pc := 68) dX8_link_68 rfl ?_
      refine AW.iconst (pc := 70) dX8_link_70 ⟨by decide, by decide⟩ ?_
      refine AW.isub (pc := 71) dX8_link_71 (H_12.1) ?_
      refine AW.iald (pc := 72) dX8_link_72 (sh_isRow hr) (H_12.2) (v := (h r (l6 - 1))) (by rw [a_up_ne (by omega)]) ?_
      refine AW.goto (tgt := 77) (pc := 73) dX8_link_73 rfl ?_
      exact K_3
