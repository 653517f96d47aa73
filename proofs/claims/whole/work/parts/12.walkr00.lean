def f_X10_in (h : aH) (a0 : Int) (a1 : Int) (a2 : Int) : Int := (if a0 < a1 then (0 : Int) else (if a2 < a0 then (0 : Int) else (1 : Int)))
theorem b_X10_in {h : aH} {a0 a1 a2 : Int} : f_X10_in h a0 a1 a2 = 0 ∨ f_X10_in h a0 a1 a2 = 1 := by
  unfold f_X10_in
  exact (a_ite01 (Or.inl rfl) (a_ite01 (Or.inl rfl) (Or.inr rfl)))
set_option maxRecDepth 100000 in
set_option maxHeartbeats 4000000 in
theorem p_X10_in {a0 a1 a2 : Int} {h : aH} {Q : aQ} (k : Q (f_X10_in h a0 a1 a2) h) : aRun mX10_in 0 [aI a0, aI a1, aI a2] h Q := by
  unfold f_X10_in at k
  refine aRun.of pn_10 rfl (Nat.le_of_ble_eq_true rfl) ?_
  show AW mX10_in 0 0 [some (aI a0), some (aI a1), some (aI a2)] [] h Q
  refine AW.iload_n (pc := 0) dX10_in_0 rfl ?_
  refine AW.iload_n (pc := 1) dX10_in_1 rfl ?_
  have K_1 : AW mX10_in 0 15 [some (aI a0), some (aI a1), some (aI a2)] [aI (if a0 < a1 then (0 : Int) else (if a2 < a0 then (0 : Int) else (1 : Int)))] h Q := by
    refine AW.zret (pc := 15) dX10_in_15 rfl (a_ite01 (Or.inl rfl) (a_ite01 (Or.inl rfl) (Or.inr rfl))) ?_
    exact k
  refine AW.icmp_lt (tgt := 14) (pc := 2) dX10_in_2 rfl (fun q => ?_) (fun q => ?_)
  · skip
    rw [if_pos q] at K_1
    refine AW.iconst (pc := 14) dX10_in_14 ⟨by decide, by decide⟩ ?_
    exact K_1
  · skip
    rw [if_neg q] at K_1
    refine AW.iload_n (pc := 5) dX10_in_5 rfl ?_
    refine AW.iload_n (pc := 6) dX10_in_6 rfl ?_
    refine AW.icmp_gt (tgt := 14) (pc := 7) dX10_in_7 rfl (fun q => ?_) (fun q => ?_)
    · skip
      rw [if_pos q] at K_1
      refine AW.iconst (pc := 14) dX10_in_14 ⟨by decide, by decide⟩ ?_
      exact K_1
    · skip
      rw [if_neg q] at K_1
      refine AW.iconst (pc := 10) dX10_in_10 ⟨by decide, by decide⟩ ?_
      refine AW.goto (tgt := 15) (pc := 11) dX10_in_11 rfl ?_
      exact K_1
set_option maxRecDepth 100000 in
set_option maxHeartbeats 4000000 in
theorem p_X10_changesOver {a1 a2 : Int} {h : aH} {Q : aQ} (o : (0 ≤ a1 ∧ a1 < 120) ∧ (0 ≤ a2 ∧ a2 < 120) ∧ (0 ≤ a1 ∧ a1 < 120) ∧ (0 ≤ a2 ∧ a2 < 120)) (k : Q 0 (a_up (a_up h 90 a1 (h 90 a2)) 90 a2 (h 90 a1))) : aRun mX10_changesOver 0 [aR 85, aI a1, aI a2] h Q := by
  refine aRun.of pn_10 rfl (Nat.le_of_ble_eq_true rfl) ?_
  show AW mX10_changesOver 0 0 [some (aR 85), some (aI a1), some (aI a2), none] [] h Q
  refine AW.aload_n (pc := 0) dX10_changesOver_0 rfl ?_
  refine AW.getr (k := 6) (pc := 1) dX10_changesOver_1 ac_10 sh_85 rfl (by decide) fl_10_22 ?_
  refine AW.iload_n (pc := 4) dX10_changesOver_4 rfl ?_
  refine AW.iald (pc := 5) dX10_changesOver_5 sh_90 (o.1) (v := (h 90 a1)) rfl ?_
  refine AW.istore_n (pc := 6) dX10_changesOver_6 (by decide) rfl ?_
  refine AW.aload_n (pc := 7) dX10_changesOver_7 rfl ?_
  refine AW.getr (k := 6) (pc := 8) dX10_changesOver_8 ac_10 sh_85 rfl (by decide) fl_10_22 ?_
  refine AW.iload_n (pc := 11) dX10_changesOver_11 rfl ?_
  refine AW.aload_n (pc := 12) dX10_changesOver_12 rfl ?_
  refine AW.getr (k := 6) (pc := 13) dX10_changesOver_13 ac_10 sh_85 rfl (by decide) fl_10_22 ?_
  refine AW.iload_n (pc := 16) dX10_changesOver_16 rfl ?_
  refine AW.iald (pc := 17) dX10_changesOver_17 sh_90 (o.2.1) (v := (h 90 a2)) rfl ?_
  refine AW.iast (pc := 18) dX10_changesOver_18 sh_90 (o.2.2.1) ?_
  refine AW.aload_n (pc := 19) dX10_changesOver_19 rfl ?_
  refine AW.getr (k := 6) (pc := 20) dX10_changesOver_20 ac_10 sh_85 rfl (by decide) fl_10_22 ?_
  refine AW.iload_n (pc := 23) dX10_changesOver_23 rfl ?_
  refine AW.iload_n (pc := 24) dX10_changesOver_24 rfl ?_
  refine AW.iast (pc := 25) dX10_changesOver_25 sh_90 (o.2.2.2) ?_
  refine AW.vret (pc := 26) dX10_changesOver_26 rfl ?_
  exact k
def f_X10_endOf (h : aH) (a1 : Int) : Int := (if 0 ≤ a1 then ((h 99 a1) + (h 89 a1)) else (0 : Int))
def o_X10_endOf (h : aH) (a1 : Int) : Prop := ((0 ≤ a1 → ((0 ≤ a1 ∧ a1 < 24) ∧ inR ((h 99 a1) + (h 89 a1)))))
set_option maxRecDepth 100000 in
set_option maxHeartbeats 4000000 in
theorem p_X10_endOf {a1 : Int} {h : aH} {Q : aQ} (o : o_X10_endOf h a1) (k : Q (f_X10_endOf h a1) h) : aRun mX10_endOf 0 [aR 85, aI a1] h Q := by
  unfold f_X10_endOf at k
  unfold o_X10_endOf at o
  refine aRun.of pn_10 rfl (Nat.le_of_ble_eq_true rfl) ?_
  show AW mX10_endOf 0 0 [some (aR 85), some (aI a1)] [] h Q
  refine AW.iload_n (pc := 0) dX10_endOf_0 rfl ?_
  have K_1 : AW mX10_endOf 0 21 [some (aR 85), some (aI a1)] [aI (if 0 ≤ a1 then ((h 99 a1) + (h 89 a1)) else (0 : Int))] h Q := by
    refine AW.iret (pc := 21) dX10_endOf_21 rfl ?_
    exact k
  have H_3 := o
  refine AW.if_ge (tgt := 8) (pc := 1) dX10_endOf_1 rfl (fun q => ?_) (fun q => ?_)
  · skip
    have H_4 := H_3 q
    rw [if_pos q] at K_1
    refine AW.aload_n (pc := 8) dX10_endOf_8 rfl ?_
    refine AW.getr (k := 22) (pc := 9) dX10_endOf_9 ac_10 sh_85 rfl (by decide) fl_10_49 ?_
    refine AW.iload_n (pc := 12) dX10_endOf_12 rfl ?_
    refine AW.iald (pc := 13) dX10_endOf_13 sh_99 (H_4.1) (v := (h 99 a1)) rfl ?_
    refine AW.aload_n (pc := 14) dX10_endOf_14 rfl ?_
    refine AW.getr (k := 5) (pc := 15) dX10_endOf_15 ac_10 sh_85 rfl (by decide) fl_10_19 ?_
    refine AW.iload_n (pc := 18) dX10_endOf_18 rfl ?_
    refine AW.iald (pc := 19) dX10_endOf_19 sh_89 (H_4.1) (v := (h 89 a1)) rfl ?_
    refine AW.iadd (pc := 20) dX10_endOf_20 (H_4.2) ?_
    exact K_1
  · skip
    rw [if_neg q] at K_1
    refine AW.iconst (pc := 4) dX10_endOf_4 ⟨by decide, by decide⟩ ?_
    refine AW.goto (tgt := 21) (pc := 5) dX10_endOf_5 rfl ?_
    exact K_1
def f_X10_jobAhead (h : aH) (a1 : Int) : Int := (if (h 87 a1) ≤ 0 then ((-1) : Int) else (a1 - 1))
def o_X10_jobAhead (h : aH) (a1 : Int) : Prop := (0 ≤ a1 ∧ a1 < 24) ∧ ((¬ ((h 87 a1) ≤ 0) → inR (a1 - 1)))
set_option maxRecDepth 100000 in
set_option maxHeartbeats 4000000 in
theorem p_X10_jobAhead {a1 : Int} {h : aH} {Q : aQ} (o : o_X10_jobAhead h a1) (k : Q (f_X10_jobAhead h a1) h) : aRun mX10_jobAhead 0 [aR 85, aI a1] h Q := by
  unfold f_X10_jobAhead at k
  unfold o_X10_jobAhead at o
  refine aRun.of pn_10 rfl (Nat.le_of_ble_eq_true rfl) ?_
  show AW mX10_jobAhead 0 0 [some (aR 85), some (aI a1)] [] h Q
  refine AW.aload_n (pc := 0) dX10_jobAhead_0 rfl ?_
  refine AW.getr (k := 3) (pc := 1) dX10_jobAhead_1 ac_10 sh_85 rfl (by decide) fl_10_13 ?_
  refine AW.iload_n (pc := 4) dX10_jobAhead_4 rfl ?_
  refine AW.iald (pc := 5) dX10_jobAhead_5 sh_87 (o.1) (v := (h 87 a1)) rfl ?_
  have K_1 : AW mX10_jobAhead 0 16 [some (aR 85), some (aI a1)] [aI (if (h 87 a1) ≤ 0 then ((-1) : Int) else (a1 - 1))] h Q := by
    refine AW.iret (pc := 16) dX10_jobAhead_16 rfl ?_
    exact k
  have H_3 := o.2
  refine AW.if_le (tgt := 15) (pc := 6) dX10_jobAhead_6 rfl (fun q => ?_) (fun q => ?_)
  · skip
    rw [if_pos q] at K_1
    refine AW.iconst (pc := 15) dX10_jobAhead_15 ⟨by decide, by decide⟩ ?_
    exact K_1
  · skip
    have H_5 := H_3 q
    rw [if_neg q] at K_1
    refine AW.iload_n (pc := 9) dX10_jobAhead_9 rfl ?_
    refine AW.iconst (pc := 10) dX10_jobAhead_10 ⟨by decide, by decide⟩ ?_
    refine AW.isub (pc := 11) dX10_jobAhead_11 H_5 ?_
    refine AW.goto (tgt := 16) (pc := 12) dX10_jobAhead_12 rfl ?_
    exact K_1
def f_X10_jobBehind (h : aH) (a1 : Int) : Int := (if (h 85 1) ≤ (a1 + 1) then ((-1) : Int) else (if (h 86 (a1 + 1)) = (h 86 a1) then (a1 + 1) else ((-1) : Int)))
def o_X10_jobBehind (h : aH) (a1 : Int) : Prop := inR (a1 + 1) ∧ ((¬ ((h 85 1) ≤ (a1 + 1)) → ((0 ≤ (a1 + 1) ∧ (a1 + 1) < 24) ∧ (0 ≤ a1 ∧ a1 < 24))))
set_option maxRecDepth 100000 in
set_option maxHeartbeats 4000000 in
theorem p_X10_jobBehind {a1 : Int} {h : aH} {Q : aQ} (o : o_X10_jobBehind h a1) (k : Q (f_X10_jobBehind h a1) h) : aRun mX10_jobBehind 0 [aR 85, aI a1] h Q := by
  unfold f_X10_jobBehind at k
  unfold o_X10_jobBehind at o
  refine aRun.of pn_10 rfl (Nat.le_of_ble_eq_true rfl) ?_
  show AW mX10_jobBehind 0 0 [some (aR 85), some (aI a1)] [] h Q
  refine AW.iload_n (pc := 0) dX10_jobBehind_0 rfl ?_
  refine AW.iconst (pc := 1) dX10_jobBehind_1 ⟨by decide, by decide⟩ ?_
  refine AW.iadd (pc := 2) dX10_jobBehind_2 (o.1) ?_
  refine AW.aload_n (pc := 3) dX10_jobBehind_3 rfl ?_
  refine AW.geti' (k := 1) (j := 1) (pc := 4) dX10_jobBehind_4 ac_10 sh_85 rfl (by decide) fl_10_105 rfl (v := (h 85 1)) rfl ?_
  have K_1 : AW mX10_jobBehind 0 34 [some (aR 85), some (aI a1)] [aI (if (h 85 1) ≤ (a1 + 1) then ((-1) : Int) else (if (h 86 (a1 + 1)) = (h 86 a1) then (a1 + 1) else ((-1) : Int)))] h Q := by
    refine AW.iret (pc := 34) dX10_jobBehind_34 rfl ?_
    exact k
  have H_3 := o.2
  refine AW.icmp_ge (tgt := 33) (pc := 7) dX10_jobBehind_7 rfl (fun q => ?_) (fun q => ?_)
  · skip
    rw [if_pos q] at K_1
    refine AW.iconst (pc := 33) dX10_jobBehind_33 ⟨by decide, by decide⟩ ?_
    exact K_1
  · skip
    have H_5 := H_3 q
    rw [if_neg q] at K_1
    refine AW.aload_n (pc := 10) dX10_jobBehind_10 rfl ?_
    refine AW.getr (k := 2) (pc := 11) dX10_jobBehind_11 ac_10 sh_85 rfl (by decide) fl_10_9 ?_
    refine AW.iload_n (pc := 14) dX10_jobBehind_14 rfl ?_
    refine AW.iconst (pc := 15) dX10_jobBehind_15 ⟨by decide, by decide⟩ ?_
    refine AW.iadd (pc := 16) dX10_jobBehind_16 (o.1) ?_
    refine AW.iald (pc := 17) dX10_jobBehind_17 sh_86 (H_5.1) (v := (h 86 (a1 + 1))) rfl ?_
    refine AW.aload_n (pc := 18) dX10_jobBehind_18 rfl ?_
    refine AW.getr (k := 2) (pc := 19) dX10_jobBehind_19 ac_10 sh_85 rfl (by decide) fl_10_9 ?_
    refine AW.iload_n (pc := 22) dX10_jobBehind_22 rfl ?_
    refine AW.iald (pc := 23) dX10_jobBehind_23 sh_86 (H_5.2) (v := (h 86 a1)) rfl ?_
    refine AW.icmp_ne (tgt := 33) (pc := 24) dX10_jobBehind_24 rfl (fun q => ?_) (fun q => ?_)
    · skip
      rw [if_neg q] at K_1
      refine AW.iconst (pc := 33) dX10_jobBehind_33 ⟨by decide, by decide⟩ ?_
      exact K_1
    · have q := Decidable.not_not.mp q
      rw [if_pos q] at K_1
      refine AW.iload_n (pc := 27) dX10_jobBehind_27 rfl ?_
      refine AW.iconst (pc := 28) dX10_jobBehind_28 ⟨by decide, by decide⟩ ?_
      refine AW.iadd (pc := 29) dX10_jobBehind_29 (o.1) ?_
      refine AW.goto (tgt := 34) (pc := 30) dX10_jobBehind_30 rfl ?_
      exact K_1
set_option maxRecDepth 100000 in
set_option maxHeartbeats 4000000 in
theorem e_X10_neighbours  {h : aH} {Q : aQ} (H : AW mX10_neighbours 0 2 [some (aR 85), some (aI 0), none, none] [] h Q) : aRun mX10_neighbours 0 [aR 85] h Q := by
  refine aRun.of pn_10 rfl (Nat.le_of_ble_eq_true rfl) ?_
  show AW mX10_neighbours 0 0 [some (aR 85), none, none, none] [] h Q
  refine AW.iconst (pc := 0) dX10_neighbours_0 ⟨by decide, by decide⟩ ?_
  refine AW.istore_n (pc := 1) dX10_neighbours_1 (by decide) rfl ?_
  exact H
set_option maxRecDepth 100000 in
set_option maxHeartbeats 4000000 in
theorem s_X10_neighbours_2  {l1 : Int} {h : aH} {Q : aQ} (H : ((5 ≤ l1 → Q 0 h) ∧ (¬ (5 ≤ l1) → AW mX10_neighbours 0 9 [some (aR 85), some (aI l1), some (aI 0), none] [] h Q))) : AW mX10_neighbours 0 2 [some (aR 85), some (aI l1), none, none] [] h Q := by
  refine AW.iload_n (pc := 2) dX10_neighbours_2 rfl ?_
  refine AW.iconst (pc := 3) dX10_neighbours_3 ⟨by decide, by decide⟩ ?_
  refine AW.icmp_ge (tgt := 105) (pc := 4) dX10_neighbours_4 rfl (fun q => ?_) (fun q => ?_)
  · skip
    have H_1 := H.1 q
    refine AW.vret (pc := 105) dX10_neighbours_105 rfl ?_
    exact H_1
  · skip
    have H_2 := H.2 q
    refine AW.iconst (pc := 7) dX10_neighbours_7 ⟨by decide, by decide⟩ ?_
    refine AW.istore_n (pc := 8) dX10_neighbours_8 (by decide) rfl ?_
    exact H_2
set_option maxRecDepth 100000 in
set_option maxHeartbeats 4000000 in
theorem s_X10_neighbours_9  {l1 l2 : Int} {h : aH} {Q : aQ} (H : (0 ≤ l1 ∧ l1 < 5) ∧ (((h 91 l1) ≤ l2 → inR (l1 + 1) ∧ AW mX10_neighbours 0 2 [some (aR 85), some (aI (l1 + 1)), none, none] [] h Q) ∧ (¬ ((h 91 l1) ≤ l2) → inR (24 * l1) ∧ inR ((24 * l1) + l2) ∧ (0 ≤ ((24 * l1) + l2) ∧ ((24 * l1) + l2) < 120) ∧ ((¬ (l2 ≤ 0) → (inR (((24 * l1) + l2) - 1) ∧ (0 ≤ (((24 * l1) + l2) - 1) ∧ (((24 * l1) + l2) - 1) < 120))) ∧ (0 ≤ (h 90 ((24 * l1) + l2)) ∧ (h 90 ((24 * l1) + l2)) < 24) ∧ inR (l2 + 1) ∧ ((¬ ((h 91 l1) ≤ (l2 + 1)) → (inR (((24 * l1) + l2) + 1) ∧ (0 ≤ (((24 * l1) + l2) + 1) ∧ (((24 * l1) + l2) + 1) < 120))) ∧ AW mX10_neighbours 0 9 [some (aR 85), some (aI l1), some (aI (l2 + 1)), none] [] (a_up (a_up h 97 (h 90 ((24 * l1) + l2)) (if l2 ≤ 0 then ((-1) : Int) else (h 90 (((24 * l1) + l2) - 1)))) 98 (h 90 ((24 * l1) + l2)) (if (h 91 l1) ≤ (l2 + 1) then ((-1) : Int) else (h 90 (((24 * l1) + l2) + 1)))) Q))))) : AW mX10_neighbours 0 9 [some (aR 85), some (aI l1), some (aI l2), none] [] h Q := by
  refine AW.iload_n (pc := 9) dX10_neighbours_9 rfl ?_
  refine AW.aload_n (pc := 10) dX10_neighbours_10 rfl ?_
  refine AW.getr (k := 7) (pc := 11) dX10_neighbours_11 ac_10 sh_85 rfl (by decide) fl_10_25 ?_
  refine AW.iload_n (pc := 14) dX10_neighbours_14 rfl ?_
  refine AW.iald (pc := 15) dX10_neighbours_15 sh_91 (H.1) (v := (h 91 l1)) rfl ?_
  refine AW.icmp_ge (tgt := 99) (pc := 16) dX10_neighbours_16 rfl (fun q => ?_) (fun q => ?_)
  · skip
    have H_1 := H.2.1 q
    refine AW.iinc (pc := 99) dX10_neighbours_99 rfl (by decide) rfl (H_1.1) ?_
    refine AW.goto (tgt := 2) (pc := 102) dX10_neighbours_102 rfl ?_
    refine AW.mask [true, true, false, true] ?_
    exact H_1.2
  · skip
    have H_2 := H.2.2 q
    refine AW.aload_n (pc := 19) dX10_neighbours_19 rfl ?_
    refine AW.getr (k := 6) (pc := 20) dX10_neighbours_20 ac_10 sh_85 rfl (by decide) fl_10_22 ?_
    refine AW.bipush (pc := 23) dX10_neighbours_23 rfl ⟨by decide, by decide⟩ ?_
    refine AW.iload_n (pc := 25) dX10_neighbours_25 rfl ?_
    refine AW.imul (pc := 26) dX10_neighbours_26 (H_2.1) ?_
    refine AW.iload_n (pc := 27) dX10_neighbours_27 rfl ?_
    refine AW.iadd (pc := 28) dX10_neighbours_28 (H_2.2.1) ?_
    refine AW.iald (pc := 29) dX10_neighbours_29 sh_90 (H_2.2.2.1) (v := (h 90 ((24 * l1) + l2))) rfl ?_
    refine AW.istore_n (pc := 30) dX10_neighbours_30 (by decide) rfl ?_
    refine AW.aload_n (pc := 31) dX10_neighbours_31 rfl ?_
    refine AW.getr (k := 20) (pc := 32) dX10_neighbours_32 ac_10 sh_85 rfl (by decide) fl_10_43 ?_
    refine AW.iload_n (pc := 35) dX10_neighbours_35 rfl ?_
    refine AW.iload_n (pc := 36) dX10_neighbours_36 rfl ?_
    have K_3 : AW mX10_neighbours 0 57 [some (aR 85), some (aI l1), some (aI l2), some (aI (h 90 ((24 * l1) + l2)))] [aI (if l2 ≤ 0 then ((-1) : Int) else (h 90 (((24 * l1) + l2) - 1))), aI (h 90 ((24 * l1) + l2)), aR 97] h Q := by
      have H_4 := H_2.2.2.2.2
      refine AW.iast (pc := 57) dX10_neighbours_57 sh_97 (H_4.1) ?_
      refine AW.aload_n (pc := 58) dX10_neighbours_58 rfl ?_
      refine AW.getr (k := 21) (pc := 59) dX10_neighbours_59 ac_10 sh_85 rfl (by decide) fl_10_46 ?_
      refine AW.iload_n (pc := 62) dX10_neighbours_62 rfl ?_
      refine AW.iload_n (pc := 63) dX10_neighbours_63 rfl ?_
      refine AW.iconst (pc := 64) dX10_neighbours_64 ⟨by decide, by decide⟩ ?_
      refine AW.iadd (pc := 65) dX10_neighbours_65 (H_4.2.1) ?_
      refine AW.aload_n (pc := 66) dX10_neighbours_66 rfl ?_
      refine AW.getr (k := 7) (pc := 67) dX10_neighbours_67 ac_10 sh_85 rfl (by decide) fl_10_25 ?_
      refine AW.iload_n (pc := 70) dX10_neighbours_70 rfl ?_
      refine AW.iald (pc := 71) dX10_neighbours_71 sh_91 (H.1) (v := (h 91 l1)) (by rw [a_up_ne (by decide)]) ?_
      have K_6 : AW mX10_neighbours 0 92 [some (aR 85), some (aI l1), some (aI l2), some (aI (h 90 ((24 * l1) + l2)))] [aI (if (h 91 l1) ≤ (l2 + 1) then ((-1) : Int) else (h 90 (((24 * l1) + l2) + 1))), aI (h 90 ((24 * l1) + l2)), aR 98] (a_up h 97 (h 90 ((24 * l1) + l2)) (if l2 ≤ 0 then ((-1) : Int) else (h 90 (((24 * l1) + l2) - 1)))) Q := by
        have H_7 := H_4.2.2.2
        refine AW.iast (pc := 92) dX10_neighbours_92 sh_98 (H_4.1) ?_
        refine AW.iinc (pc := 93) dX10_neighbours_93 rfl (by decide) rfl (H_4.2.1) ?_
        refine AW.goto (tgt := 9) (pc := 96) dX10_neighbours_96 rfl ?_
        refine AW.mask [true, true, true, false] ?_
        exact H_7
      have H_8 := H_4.2.2.1
      refine AW.icmp_ge (tgt := 91) (pc := 72) dX10_neighbours_72 rfl (fun q => ?_) (fun q => ?_)
      · skip
        rw [if_pos q] at K_6
        refine AW.iconst (pc := 91) dX10_neighbours_91 ⟨by decide, by decide⟩ ?_
        exact K_6
      · skip
        have H_10 := H_8 q
        rw [if_neg q] at K_6
        refine AW.aload_n (pc := 75) dX10_neighbours_75 rfl ?_
        refine AW.getr (k := 6) (pc := 76) dX10_neighbours_76 ac_10 sh_85 rfl (by decide) fl_10_22 ?_
        refine AW.bipush (pc := 79) dX10_neighbours_79 rfl ⟨by decide, by decide⟩ ?_
        refine AW.iload_n (pc := 81) dX10_neighbours_81 rfl ?_
        refine AW.imul (pc := 82) dX10_neighbours_82 (H_2.1) ?_
        refine AW.iload_n (pc := 83) dX10_neighbours_83 rfl ?_
        refine AW.iadd (pc := 84) dX10_neighbours_84 (H_2.2.1) ?_
        refine AW.iconst (pc := 85) dX10_neighbours_85 ⟨by decide, by decide⟩ ?_
        refine AW.iadd (pc := 86) dX10_neighbours_86 (H_10.1) ?_
        refine AW.iald (pc := 87) dX10_neighbours_87 sh_90 (H_10.2) (v := (h 90 (((24 * l1) + l2) + 1))) (by rw [a_up_ne (by decide)]) ?_
        refine AW.goto (tgt := 92) (pc := 88) dX10_neighbours_88 rfl ?_
        exact K_6
    have H_5 := H_2.2.2.2.1
    refine AW.if_le (tgt := 56) (pc := 37) dX10_neighbours_37 rfl (fun q => ?_) (fun q => ?_)
    · skip
      rw [if_pos q] at K_3
      refine AW.iconst (pc := 56) dX10_neighbours_56 ⟨by decide, by decide⟩ ?_
      exact K_3
    · skip
      have H_12 := H_5 q
      rw [if_neg q] at K_3
      refine AW.aload_n (pc := 40) dX10_neighbours_40 rfl ?_
      refine AW.getr (k := 6) (pc := 41) dX10_neighbours_41 ac_10 sh_85 rfl (by decide) fl_10_22 ?_
      refine AW.bipush (pc := 44) dX10_neighbours_44 rfl ⟨by decide, by decide⟩ ?_
      refine AW.iload_n (pc := 46) dX10_neighbours_46 rfl ?_
      refine AW.imul (pc := 47) dX10_neighbours_47 (H_2.1) ?_
      refine AW.iload_n (pc := 48) dX10_neighbours_48 rfl ?_
      refine AW.iadd (pc := 49) dX10_neighbours_49 (H_2.2.1) ?_
      refine AW.iconst (pc := 50) dX10_neighbours_50 ⟨by decide, by decide⟩ ?_
      refine AW.isub (pc := 51) dX10_neighbours_51 (H_12.1) ?_
      refine AW.iald (pc := 52) dX10_neighbours_52 sh_90 (H_12.2) (v := (h 90 (((24 * l1) + l2) - 1))) rfl ?_
      refine AW.goto (tgt := 57) (pc := 53) dX10_neighbours_53 rfl ?_
      exact K_3
def f_X10_isReady (h : aH) (a1 : Int) : Int := (if (h 102 a1) = 0 then (if (f_X10_jobAhead h a1) < 0 then (if (h 97 a1) < 0 then (1 : Int) else (if (h 102 (h 97 a1)) = 0 then (0 : Int) else (1 : Int))) else (if (h 102 (f_X10_jobAhead h a1)) = 0 then (0 : Int) else (if (h 97 a1) < 0 then (1 : Int) else (if (h 102 (h 97 a1)) = 0 then (0 : Int) else (1 : Int))))) else (0 : Int))
def o_X10_isReady (h : aH) (a1 : Int) : Prop := (0 ≤ a1 ∧ a1 < 24) ∧ (((h 102 a1) = 0 → (o_X10_jobAhead h a1 ∧ (((f_X10_jobAhead h a1) < 0 → (¬ ((h 97 a1) < 0) → (0 ≤ (h 97 a1) ∧ (h 97 a1) < 24))) ∧ (¬ ((f_X10_jobAhead h a1) < 0) → ((0 ≤ (f_X10_jobAhead h a1) ∧ (f_X10_jobAhead h a1) < 24) ∧ (¬ ((h 102 (f_X10_jobAhead h a1)) = 0) → (¬ ((h 97 a1) < 0) → (0 ≤ (h 97 a1) ∧ (h 97 a1) < 24)))))))))
theorem b_X10_isReady {h : aH} {a1 : Int} : f_X10_isReady h a1 = 0 ∨ f_X10_isReady h a1 = 1 := by
  unfold f_X10_isReady
  exact (a_ite01 (a_ite01 (a_ite01 (Or.inr rfl) (a_ite01 (Or.inl rfl) (Or.inr rfl))) (a_ite01 (Or.inl rfl) (a_ite01 (Or.inr rfl) (a_ite01 (Or.inl rfl) (Or.inr rfl))))) (Or.inl rfl))
set_option maxRecDepth 100000 in
set_option maxHeartbeats 4000000 in
theorem p_X10_isReady {a1 : Int} {h : aH} {Q : aQ} (o : o_X10_isReady h a1) (k : Q (f_X10_isReady h a1) h) : aRun mX10_isReady 1 [aR 85, aI a1] h Q := by
  unfold f_X10_isReady at k
  unfold o_X10_isReady at o
  refine aRun.of pn_10 rfl (Nat.le_of_ble_eq_true rfl) ?_
  show AW mX10_isReady 1 0 [some (aR 85), some (aI a1)] [] h Q
  refine AW.aload_n (pc := 0) dX10_isReady_0 rfl ?_
  refine AW.getr (k := 25) (pc := 1) dX10_isReady_1 ac_10 sh_85 rfl (by decide) fl_10_58 ?_
  refine AW.iload_n (pc := 4) dX10_isReady_4 rfl ?_
  refine AW.zald (pc := 5) dX10_isReady_5 sh_102 (o.1) (v := (h 102 a1)) rfl ?_
  have K_1 : AW mX10_isReady 1 58 [some (aR 85), some (aI a1)] [aI (if (h 102 a1) = 0 then (if (f_X10_jobAhead h a1) < 0 then (if (h 97 a1) < 0 then (1 : Int) else (if (h 102 (h 97 a1)) = 0 then (0 : Int) else (1 : Int))) else (if (h 102 (f_X10_jobAhead h a1)) = 0 then (0 : Int) else (if (h 97 a1) < 0 then (1 : Int) else (if (h 102 (h 97 a1)) = 0 then (0 : Int) else (1 : Int))))) else (0 : Int))] h Q := by
    refine AW.zret (pc := 58) dX10_isReady_58 rfl (a_ite01 (a_ite01 (a_ite01 (Or.inr rfl) (a_ite01 (Or.inl rfl) (Or.inr rfl))) (a_ite01 (Or.inl rfl) (a_ite01 (Or.inr rfl) (a_ite01 (Or.inl rfl) (Or.inr rfl))))) (Or.inl rfl)) ?_
    exact k
  have H_3 := o.2
  refine AW.if_ne (tgt := 57) (pc := 6) dX10_isReady_6 rfl (fun q => ?_) (fun q => ?_)
  · skip
    rw [if_neg q] at K_1
    refine AW.iconst (pc := 57) dX10_isReady_57 ⟨by decide, by decide⟩ ?_
    exact K_1
  · have q := Decidable.not_not.mp q
    have H_5 := H_3 q
    rw [if_pos q] at K_1
    refine AW.aload_n (pc := 9) dX10_isReady_9 rfl ?_
    refine AW.iload_n (pc := 10) dX10_isReady_10 rfl ?_
    refine AW.callVi (M' := mX10_jobAhead) (F' := 0) (as := [aI a1]) (pc := 11) dX10_isReady_11 (by decide) kX10_jobAhead ml_10_198 ob_85 rfl npX10_jobAhead (Nat.le_of_ble_eq_true rfl) (p_X10_jobAhead (H_5.1) ?_)
    refine AW.if_lt (tgt := 30) (pc := 14) dX10_isReady_14 rfl (fun q => ?_) (fun q => ?_)
    · skip
      have H_6 := H_5.2.1 q
      rw [if_pos q] at K_1
      refine AW.aload_n (pc := 30) dX10_isReady_30 rfl ?_
      refine AW.getr (k := 20) (pc := 31) dX10_isReady_31 ac_10 sh_85 rfl (by decide) fl_10_43 ?_
      refine AW.iload_n (pc := 34) dX10_isReady_34 rfl ?_
      refine AW.iald (pc := 35) dX10_isReady_35 sh_97 (o.1) (v := (h 97 a1)) rfl ?_
      refine AW.if_lt (tgt := 53) (pc := 36) dX10_isReady_36 rfl (fun q => ?_) (fun q => ?_)
      · skip
        rw [if_pos q] at K_1
        refine AW.iconst (pc := 53) dX10_isReady_53 ⟨by decide, by decide⟩ ?_
        refine AW.goto (tgt := 58) (pc := 54) dX10_isReady_54 rfl ?_
        exact K_1
      · skip
        have H_8 := H_6 q
        rw [if_neg q] at K_1
        refine AW.aload_n (pc := 39) dX10_isReady_39 rfl ?_
        refine AW.getr (k := 25) (pc := 40) dX10_isReady_40 ac_10 sh_85 rfl (by decide) fl_10_58 ?_
        refine AW.aload_n (pc := 43) dX10_isReady_43 rfl ?_
        refine AW.getr (k := 20) (pc := 44) dX10_isReady_44 ac_10 sh_85 rfl (by decide) fl_10_43 ?_
        refine AW.iload_n (pc := 47) dX10_isReady_47 rfl ?_
        refine AW.iald (pc := 48) dX10_isReady_48 sh_97 (o.1) (v := (h 97 a1)) rfl ?_
        refine AW.zald (pc := 49) dX10_isReady_49 sh_102 H_8 (v := (h 102 (h 97 a1))) rfl ?_
        refine AW.if_eq (tgt := 57) (pc := 50) dX10_isReady_50 rfl (fun q => ?_) (fun q => ?_)
        · skip
          rw [if_pos q] at K_1
          refine AW.iconst (pc := 57) dX10_isReady_57 ⟨by decide, by decide⟩ ?_
          exact K_1
        · skip
          rw [if_neg q] at K_1
          refine AW.iconst (pc := 53) dX10_isReady_53 ⟨by decide, by decide⟩ ?_
          refine AW.goto (tgt := 58) (pc := 54) dX10_isReady_54 rfl ?_
          exact K_1
    · skip
      have H_11 := H_5.2.2 q
      rw [if_neg q] at K_1
      refine AW.aload_n (pc := 17) dX10_isReady_17 rfl ?_
      refine AW.getr (k := 25) (pc := 18) dX10_isReady_18 ac_10 sh_85 rfl (by decide) fl_10_58 ?_
      refine AW.aload_n (pc := 21) dX10_isReady_21 rfl ?_
      refine AW.iload_n (pc := 22) dX10_isReady_22 rfl ?_
      refine AW.callVi (M' := mX10_jobAhead) (F' := 0) (as := [aI a1]) (pc := 23) dX10_isReady_23 (by decide) kX10_jobAhead ml_10_198 ob_85 rfl npX10_jobAhead (Nat.le_of_ble_eq_true rfl) (p_X10_jobAhead (H_5.1) ?_)
      refine AW.zald (pc := 26) dX10_isReady_26 sh_102 (H_11.1) (v := (h 102 (f_X10_jobAhead h a1))) rfl ?_
      refine AW.if_eq (tgt := 57) (pc := 27) dX10_isReady_27 rfl (fun q => ?_) (fun q => ?_)
      · skip
        rw [if_pos q] at K_1
        refine AW.iconst (pc := 57) dX10_isReady_57 ⟨by decide, by decide⟩ ?_
        exact K_1
      · skip
        have H_13 := H_11.2 q
        rw [if_neg q] at K_1
        refine AW.aload_n (pc := 30) dX10_isReady_30 rfl ?_
        refine AW.getr (k := 20) (pc := 31) dX10_isReady_31 ac_10 sh_85 rfl (by decide) fl_10_43 ?_
        refine AW.iload_n (pc := 34) dX10_isReady_34 rfl ?_
        refine AW.iald (pc := 35) dX10_isReady_35 sh_97 (o.1) (v := (h 97 a1)) rfl ?_
        refine AW.if_lt (tgt := 53) (pc := 36) dX10_isReady_36 rfl (fun q => ?_) (fun q => ?_)
        · skip
          rw [if_pos q] at K_1
          refine AW.iconst (pc := 53) dX10_isReady_53 ⟨by decide, by decide⟩ ?_
          refine AW.goto (tgt := 58) (pc := 54) dX10_isReady_54 rfl ?_
          exact K_1
        · skip
          have H_15 := H_13 q
          rw [if_neg q] at K_1
          refine AW.aload_n (pc := 39) dX10_isReady_39 rfl ?_
          refine AW.getr (k := 25) (pc := 40) dX10_isReady_40 ac_10 sh_85 rfl (by decide) fl_10_58 ?_
          refine AW.aload_n (pc := 43) dX10_isReady_43 rfl ?_
          refine AW.getr (k := 20) (pc := 44) dX10_isReady_44 ac_10 sh_85 rfl (by decide) fl_10_43 ?_
          refine AW.iload_n (pc := 47) dX10_isReady_47 rfl ?_
          refine AW.iald (pc := 48) dX10_isReady_48 sh_97 (o.1) (v := (h 97 a1)) rfl ?_
          refine AW.zald (pc := 49) dX10_isReady_49 sh_102 H_15 (v := (h 102 (h 97 a1))) rfl ?_
          refine AW.if_eq (tgt := 57) (pc := 50) dX10_isReady_50 rfl (fun q => ?_) (fun q => ?_)
          · skip
            rw [if_pos q] at K_1
            refine AW.iconst (pc := 57) dX10_isReady_57 ⟨by decide, by decide⟩ ?_
            exact K_1
          · skip
            rw [if_neg q] at K_1
            refine AW.iconst (pc := 53) dX10_isReady_53 ⟨by decide, by decide⟩ ?_
            refine AW.goto (tgt := 58) (pc := 54) dX10_isReady_54 rfl ?_
            exact K_1
set_option maxRecDepth 100000 in
set_option maxHeartbeats 4000000 in
theorem e_X10_nextReady  {h : aH} {Q : aQ} (H : AW mX10_nextReady 2 2 [some (aR 85), some (aI 0)] [] h Q) : aRun mX10_nextReady 2 [aR 85] h Q := by
  refine aRun.of pn_10 rfl (Nat.le_of_ble_eq_true rfl) ?_
  show AW mX10_nextReady 2 0 [some (aR 85), none] [] h Q
  refine AW.iconst (pc := 0) dX10_nextReady_0 ⟨by decide, by decide⟩ ?_
  refine AW.istore_n (pc := 1) dX10_nextReady_1 (by decide) rfl ?_
  exact H
set_option maxRecDepth 100000 in
set_option maxHeartbeats 4000000 in
theorem s_X10_nextReady_2  {l1 : Int} {h : aH} {Q : aQ} (H : (((h 85 1) ≤ l1 → Q (-1) h) ∧ (¬ ((h 85 1) ≤ l1) → o_X10_isReady h l1 ∧ (((f_X10_isReady h l1) = 0 → inR (l1 + 1) ∧ AW mX10_nextReady 2 2 [some (aR 85), some (aI (l1 + 1))] [] h Q) ∧ (¬ ((f_X10_isReady h l1) = 0) → Q l1 h))))) : AW mX10_nextReady 2 2 [some (aR 85), some (aI l1)] [] h Q := by
  refine AW.iload_n (pc := 2) dX10_nextReady_2 rfl ?_
  refine AW.aload_n (pc := 3) dX10_nextReady_3 rfl ?_
  refine AW.geti' (k := 1) (j := 1) (pc := 4) dX10_nextReady_4 ac_10 sh_85 rfl (by decide) fl_10_105 rfl (v := (h 85 1)) rfl ?_
  refine AW.icmp_ge (tgt := 26) (pc := 7) dX10_nextReady_7 rfl (fun q => ?_) (fun q => ?_)
  · skip
    have H_1 := H.1 q
    refine AW.iconst (pc := 26) dX10_nextReady_26 ⟨by decide, by decide⟩ ?_
    refine AW.iret (pc := 27) dX10_nextReady_27 rfl ?_
    exact H_1
  · skip
    have H_2 := H.2 q
    refine AW.aload_n (pc := 10) dX10_nextReady_10 rfl ?_
    refine AW.iload_n (pc := 11) dX10_nextReady_11 rfl ?_
    refine AW.callVi (M' := mX10_isReady) (F' := 1) (as := [aI l1]) (pc := 12) dX10_nextReady_12 (by decide) kX10_isReady ml_10_201 ob_85 rfl npX10_isReady (Nat.le_of_ble_eq_true rfl) (p_X10_isReady (H_2.1) ?_)
    refine AW.if_eq (tgt := 20) (pc := 15) dX10_nextReady_15 rfl (fun q => ?_) (fun q => ?_)
    · skip
      have H_3 := H_2.2.1 q
      refine AW.iinc (pc := 20) dX10_nextReady_20 rfl (by decide) rfl (H_3.1) ?_
      refine AW.goto (tgt := 2) (pc := 23) dX10_nextReady_23 rfl ?_
      exact H_3.2
    · skip
      have H_4 := H_2.2.2 q
      refine AW.iload_n (pc := 18) dX10_nextReady_18 rfl ?_
      refine AW.iret (pc := 19) dX10_nextReady_19 rfl ?_
      exact H_4
def f_X10_restOf (h : aH) (a1 : Int) : Int := (if 0 ≤ a1 then ((h 89 a1) + (h 100 a1)) else (0 : Int))
def o_X10_restOf (h : aH) (a1 : Int) : Prop := ((0 ≤ a1 → ((0 ≤ a1 ∧ a1 < 24) ∧ inR ((h 89 a1) + (h 100 a1)))))
set_option maxRecDepth 100000 in
set_option maxHeartbeats 4000000 in
theorem p_X10_restOf {a1 : Int} {h : aH} {Q : aQ} (o : o_X10_restOf h a1) (k : Q (f_X10_restOf h a1) h) : aRun mX10_restOf 0 [aR 85, aI a1] h Q := by
  unfold f_X10_restOf at k
  unfold o_X10_restOf at o
  refine aRun.of pn_10 rfl (Nat.le_of_ble_eq_true rfl) ?_
  show AW mX10_restOf 0 0 [some (aR 85), some (aI a1)] [] h Q
  refine AW.iload_n (pc := 0) dX10_restOf_0 rfl ?_
  have K_1 : AW mX10_restOf 0 21 [some (aR 85), some (aI a1)] [aI (if 0 ≤ a1 then ((h 89 a1) + (h 100 a1)) else (0 : Int))] h Q := by
    refine AW.iret (pc := 21) dX10_restOf_21 rfl ?_
    exact k
  have H_3 := o
  refine AW.if_ge (tgt := 8) (pc := 1) dX10_restOf_1 rfl (fun q => ?_) (fun q => ?_)
  · skip
    have H_4 := H_3 q
    rw [if_pos q] at K_1
    refine AW.aload_n (pc := 8) dX10_restOf_8 rfl ?_
    refine AW.getr (k := 5) (pc := 9) dX10_restOf_9 ac_10 sh_85 rfl (by decide) fl_10_19 ?_
    refine AW.iload_n (pc := 12) dX10_restOf_12 rfl ?_
    refine AW.iald (pc := 13) dX10_restOf_13 sh_89 (H_4.1) (v := (h 89 a1)) rfl ?_
    refine AW.aload_n (pc := 14) dX10_restOf_14 rfl ?_
    refine AW.getr (k := 23) (pc := 15) dX10_restOf_15 ac_10 sh_85 rfl (by decide) fl_10_52 ?_
    refine AW.iload_n (pc := 18) dX10_restOf_18 rfl ?_
    refine AW.iald (pc := 19) dX10_restOf_19 sh_100 (H_4.1) (v := (h 100 a1)) rfl ?_
    refine AW.iadd (pc := 20) dX10_restOf_20 (H_4.2) ?_
    exact K_1
  · skip
    rw [if_neg q] at K_1
    refine AW.iconst (pc := 4) dX10_restOf_4 ⟨by decide, by decide⟩ ?_
    refine AW.goto (tgt := 21) (pc := 5) dX10_restOf_5 rfl ?_
    exact K_1
set_option maxRecDepth 100000 in
set_option maxHeartbeats 4000000 in
theorem e_X10_reckons  {h : aH} {Q : aQ} (H : aRun mX10_neighbours 0 [aR 85] h (fun r1 h2 => AW mX10_reckons 3 11 [some (aR 85), some (aI 0), none] [] (a_up h2 85 26 0) Q)) : aRun mX10_reckons 3 [aR 85] h Q := by
  refine aRun.of pn_10 rfl (Nat.le_of_ble_eq_true rfl) ?_
  show AW mX10_reckons 3 0 [some (aR 85), none, none] [] h Q
  refine AW.aload_n (pc := 0) dX10_reckons_0 rfl ?_
  refine AW.callVv (M' := mX10_neighbours) (F' := 0) (as := []) (pc := 1) dX10_reckons_1 (by decide) kX10_neighbours ml_10_204 ob_85 rfl npX10_neighbours (Nat.le_of_ble_eq_true rfl) (aRun.mono (fun r1 h2 H_1 => ?_) H)
  refine AW.aload_n (pc := 4) dX10_reckons_4 rfl ?_
  refine AW.iconst (pc := 5) dX10_reckons_5 ⟨by decide, by decide⟩ ?_
  refine AW.puti' (k := 26) (j := 26) (pc := 6) dX10_reckons_6 ac_10 sh_85 rfl (by decide) fl_10_195 rfl rfl (tyX10_ok 26 (by decide)) (Or.inl rfl) ?_
  refine AW.iconst (pc := 9) dX10_reckons_9 ⟨by decide, by decide⟩ ?_
  refine AW.istore_n (pc := 10) dX10_reckons_10 (by decide) rfl ?_
  exact H_1
set_option maxRecDepth 100000 in
set_option maxHeartbeats 4000000 in
theorem s_X10_reckons_11  {l1 : Int} {h : aH} {Q : aQ} (H : (((h 85 1) ≤ l1 → AW mX10_reckons 3 34 [some (aR 85), some (aI 0), none] [] h Q) ∧ (¬ ((h 85 1) ≤ l1) → (0 ≤ l1 ∧ l1 < 24) ∧ inR (l1 + 1) ∧ AW mX10_reckons 3 11 [some (aR 85), some (aI (l1 + 1)), none] [] (a_up h 102 l1 0) Q))) : AW mX10_reckons 3 11 [some (aR 85), some (aI l1), none] [] h Q := by
  refine AW.iload_n (pc := 11) dX10_reckons_11 rfl ?_
  refine AW.aload_n (pc := 12) dX10_reckons_12 rfl ?_
  refine AW.geti' (k := 1) (j := 1) (pc := 13) dX10_reckons_13 ac_10 sh_85 rfl (by decide) fl_10_105 rfl (v := (h 85 1)) rfl ?_
  refine AW.icmp_ge (tgt := 32) (pc := 16) dX10_reckons_16 rfl (fun q => ?_) (fun q => ?_)
  · skip
    have H_1 := H.1 q
    refine AW.iconst (pc := 32) dX10_reckons_32 ⟨by decide, by decide⟩ ?_
    refine AW.istore_n (pc := 33) dX10_reckons_33 (by decide) rfl ?_
    exact H_1
  · skip
    have H_2 := H.2 q
    refine AW.aload_n (pc := 19) dX10_reckons_19 rfl ?_
    refine AW.getr (k := 25) (pc := 20) dX10_reckons_20 ac_10 sh_85 rfl (by decide) fl_10_58 ?_
    refine AW.iload_n (pc := 23) dX10_reckons_23 rfl ?_
    refine AW.iconst (pc := 24) dX10_reckons_24 ⟨by decide, by decide⟩ ?_
    refine AW.zast (pc := 25) dX10_reckons_25 sh_102 (H_2.1) (Or.inl rfl) ?_
    refine AW.iinc (pc := 26) dX10_reckons_26 rfl (by decide) rfl (H_2.2.1) ?_
    refine AW.goto (tgt := 11) (pc := 29) dX10_reckons_29 rfl ?_
    exact H_2.2.2
set_option maxRecDepth 100000 in
set_option maxHeartbeats 4000000 in
theorem s_X10_reckons_34  {l1 : Int} {h : aH} {Q : aQ} (H : (((h 85 1) ≤ l1 → inR ((h 85 1) - 1) ∧ AW mX10_reckons 3 124 [some (aR 85), some (aI ((h 85 1) - 1)), none] [] h Q) ∧ (¬ ((h 85 1) ≤ l1) → aRun mX10_nextReady 2 [aR 85] h (fun r1 h2 => ((0 ≤ r1 → (0 ≤ r1 ∧ r1 < 24) ∧ (0 ≤ l1 ∧ l1 < 24) ∧ o_X10_jobAhead (a_up (a_up h2 102 r1 1) 101 l1 r1) r1 ∧ o_X10_endOf (a_up (a_up h2 102 r1 1) 101 l1 r1) (f_X10_jobAhead (a_up (a_up h2 102 r1 1) 101 l1 r1) r1) ∧ o_X10_endOf (a_up (a_up h2 102 r1 1) 101 l1 r1) (h2 97 r1) ∧ o_X10_endOf (a_up (a_up (a_up h2 102 r1 1) 101 l1 r1) 99 r1 (max (f_X10_endOf (a_up (a_up h2 102 r1 1) 101 l1 r1) (f_X10_jobAhead (a_up (a_up h2 102 r1 1) 101 l1 r1) r1)) (f_X10_endOf (a_up (a_up h2 102 r1 1) 101 l1 r1) (h2 97 r1)))) r1 ∧ inR (l1 + 1) ∧ AW mX10_reckons 3 34 [some (aR 85), some (aI (l1 + 1)), none] [] (a_up (a_up (a_up (a_up h2 102 r1 1) 101 l1 r1) 99 r1 (max (f_X10_endOf (a_up (a_up h2 102 r1 1) 101 l1 r1) (f_X10_jobAhead (a_up (a_up h2 102 r1 1) 101 l1 r1) r1)) (f_X10_endOf (a_up (a_up h2 102 r1 1) 101 l1 r1) (h2 97 r1)))) 85 26 (max (h2 85 26) (f_X10_endOf (a_up (a_up (a_up h2 102 r1 1) 101 l1 r1) 99 r1 (max (f_X10_endOf (a_up (a_up h2 102 r1 1) 101 l1 r1) (f_X10_jobAhead (a_up (a_up h2 102 r1 1) 101 l1 r1) r1)) (f_X10_endOf (a_up (a_up h2 102 r1 1) 101 l1 r1) (h2 97 r1)))) r1))) Q) ∧ (¬ (0 ≤ r1) → Q 0 h2)))))) : AW mX10_reckons 3 34 [some (aR 85), some (aI l1), none] [] h Q := by
  refine AW.iload_n (pc := 34) dX10_reckons_34 rfl ?_
  refine AW.aload_n (pc := 35) dX10_reckons_35 rfl ?_
  refine AW.geti' (k := 1) (j := 1) (pc := 36) dX10_reckons_36 ac_10 sh_85 rfl (by decide) fl_10_105 rfl (v := (h 85 1)) rfl ?_
  refine AW.icmp_ge (tgt := 117) (pc := 39) dX10_reckons_39 rfl (fun q => ?_) (fun q => ?_)
  · skip
    have H_1 := H.1 q
    refine AW.aload_n (pc := 117) dX10_reckons_117 rfl ?_
    refine AW.geti' (k := 1) (j := 1) (pc := 118) dX10_reckons_118 ac_10 sh_85 rfl (by decide) fl_10_105 rfl (v := (h 85 1)) rfl ?_
    refine AW.iconst (pc := 121) dX10_reckons_121 ⟨by decide, by decide⟩ ?_
    refine AW.isub (pc := 122) dX10_reckons_122 (H_1.1) ?_
    refine AW.istore_n (pc := 123) dX10_reckons_123 (by decide) rfl ?_
    exact H_1.2
  · skip
    have H_2 := H.2 q
    refine AW.aload_n (pc := 42) dX10_reckons_42 rfl ?_
    refine AW.callVi (M' := mX10_nextReady) (F' := 2) (as := []) (pc := 43) dX10_reckons_43 (by decide) kX10_nextReady ml_10_207 ob_85 rfl npX10_nextReady (Nat.le_of_ble_eq_true rfl) (aRun.mono (fun r1 h2 H_3 => ?_) H_2)
    refine AW.istore_n (pc := 46) dX10_reckons_46 (by decide) rfl ?_
    refine AW.iload_n (pc := 47) dX10_reckons_47 rfl ?_
    refine AW.if_ge (tgt := 53) (pc := 48) dX10_reckons_48 rfl (fun q => ?_) (fun q => ?_)
    · skip
      have H_4 := H_3.1 q
      refine AW.aload_n (pc := 53) dX10_reckons_53 rfl ?_
      refine AW.getr (k := 25) (pc := 54) dX10_reckons_54 ac_10 sh_85 rfl (by decide) fl_10_58 ?_
      refine AW.iload_n (pc := 57) dX10_reckons_57 rfl ?_
      refine AW.iconst (pc := 58) dX10_reckons_58 ⟨by decide, by decide⟩ ?_
      refine AW.zast (pc := 59) dX10_reckons_59 sh_102 (H_4.1) (Or.inr rfl) ?_
      refine AW.aload_n (pc := 60) dX10_reckons_60 rfl ?_
      refine AW.getr (k := 24) (pc := 61) dX10_reckons_61 ac_10 sh_85 rfl (by decide) fl_10_55 ?_
      refine AW.iload_n (pc := 64) dX10_reckons_64 rfl ?_
      refine AW.iload_n (pc := 65) dX10_reckons_65 rfl ?_
      refine AW.iast (pc := 66) dX10_reckons_66 sh_101 (H_4.2.1) ?_
      refine AW.aload_n (pc := 67) dX10_reckons_67 rfl ?_
      refine AW.getr (k := 22) (pc := 68) dX10_reckons_68 ac_10 sh_85 rfl (by decide) fl_10_49 ?_
      refine AW.iload_n (pc := 71) dX10_reckons_71 rfl ?_
      refine AW.aload_n (pc := 72) dX10_reckons_72 rfl ?_
      refine AW.aload_n (pc := 73) dX10_reckons_73 rfl ?_
      refine AW.iload_n (pc := 74) dX10_reckons_74 rfl ?_
      refine AW.callVi (M' := mX10_jobAhead) (F' := 0) (as := [aI r1]) (pc := 75) dX10_reckons_75 (by decide) kX10_jobAhead ml_10_198 ob_85 rfl npX10_jobAhead (Nat.le_of_ble_eq_true rfl) (p_X10_jobAhead (H_4.2.2.1) ?_)
      refine AW.callVi (M' := mX10_endOf) (F' := 0) (as := [aI (f_X10_jobAhead (a_up (a_up h2 102 r1 1) 101 l1 r1) r1)]) (pc := 78) dX10_reckons_78 (by decide) kX10_endOf ml_10_211 ob_85 rfl npX10_endOf (Nat.le_of_ble_eq_true rfl) (p_X10_endOf (H_4.2.2.2.1) ?_)
      refine AW.aload_n (pc := 81) dX10_reckons_81 rfl ?_
      refine AW.aload_n (pc := 82) dX10_reckons_82 rfl ?_
      refine AW.getr (k := 20) (pc := 83) dX10_reckons_83 ac_10 sh_85 rfl (by decide) fl_10_43 ?_
      refine AW.iload_n (pc := 86) dX10_reckons_86 rfl ?_
      refine AW.iald (pc := 87) dX10_reckons_87 sh_97 (H_4.1) (v := (h2 97 r1)) (by rw [a_up_ne (by decide), a_up_ne (by decide)]) ?_
      refine AW.callVi (M' := mX10_endOf) (F' := 0) (as := [aI (h2 97 r1)]) (pc := 88) dX10_reckons_88 (by decide) kX10_endOf ml_10_211 ob_85 rfl npX10_endOf (Nat.le_of_ble_eq_true rfl) (p_X10_endOf (H_4.2.2.2.2.1) ?_)
      refine AW.mmax (pc := 91) dX10_reckons_91 (by decide) ml_10_214 (Nat.le_of_ble_eq_true rfl) ?_
      refine AW.iast (pc := 94) dX10_reckons_94 sh_99 (H_4.1) ?_
      refine AW.aload_n (pc := 95) dX10_reckons_95 rfl ?_
      refine AW.aload_n (pc := 96) dX10_reckons_96 rfl ?_
      refine AW.geti' (k := 26) (j := 26) (pc := 97) dX10_reckons_97 ac_10 sh_85 rfl (by decide) fl_10_195 rfl (v := (h2 85 26)) (by rw [a_up_ne (by decide), a_up_ne (by decide), a_up_ne (by decide)]) ?_
      refine AW.aload_n (pc := 100) dX10_reckons_100 rfl ?_
      refine AW.iload_n (pc := 101) dX10_reckons_101 rfl ?_
      refine AW.callVi (M' := mX10_endOf) (F' := 0) (as := [aI r1]) (pc := 102) dX10_reckons_102 (by decide) kX10_endOf ml_10_211 ob_85 rfl npX10_endOf (Nat.le_of_ble_eq_true rfl) (p_X10_endOf (H_4.2.2.2.2.2.1) ?_)
      refine AW.mmax (pc := 105) dX10_reckons_105 (by decide) ml_10_214 (Nat.le_of_ble_eq_true rfl) ?_
      refine AW.puti' (k := 26) (j := 26) (pc := 108) dX10_reckons_108 ac_10 sh_85 rfl (by decide) fl_10_195 rfl rfl (tyX10_ok 26 (by decide)) (Or.inl rfl) ?_
      refine AW.iinc (pc := 111) dX10_reckons_111 rfl (by decide) rfl (H_4.2.2.2.2.2.2.1) ?_
      refine AW.goto (tgt := 34) (pc := 114) dX10_reckons_114 rfl ?_
      refine AW.mask [true, true, false] ?_
      exact H_4.2.2.2.2.2.2.2
    · skip
      have H_5 := H_3.2 q
      refine AW.iconst (pc := 51) dX10_reckons_51 ⟨by decide, by decide⟩ ?_
      refine AW.zret (pc := 52) dX10_reckons_52 rfl (Or.inl rfl) ?_
      exact H_5
set_option maxRecDepth 100000 in
set_option maxHeartbeats 4000000 in
theorem s_X10_reckons_124  {l1 : Int} {h : aH} {Q : aQ} (H : ((l1 < 0 → Q 1 h) ∧ (¬ (l1 < 0) → (0 ≤ l1 ∧ l1 < 24) ∧ o_X10_jobBehind h (h 101 l1) ∧ o_X10_restOf h (f_X10_jobBehind h (h 101 l1)) ∧ (0 ≤ (h 101 l1) ∧ (h 101 l1) < 24) ∧ o_X10_restOf h (h 98 (h 101 l1)) ∧ inR (l1 + (-1)) ∧ AW mX10_reckons 3 124 [some (aR 85), some (aI (l1 + (-1))), none] [] (a_up h 100 (h 101 l1) (max (f_X10_restOf h (f_X10_jobBehind h (h 101 l1))) (f_X10_restOf h (h 98 (h 101 l1))))) Q))) : AW mX10_reckons 3 124 [some (aR 85), some (aI l1), none] [] h Q := by
  refine AW.iload_n (pc := 124) dX10_reckons_124 rfl ?_
  refine AW.if_lt (tgt := 169) (pc := 125) dX10_reckons_125 rfl (fun q => ?_) (fun q => ?_)
  · skip
    have H_1 := H.1 q
    refine AW.iconst (pc := 169) dX10_reckons_169 ⟨by decide, by decide⟩ ?_
    refine AW.zret (pc := 170) dX10_reckons_170 rfl (Or.inr rfl) ?_
    exact H_1
  · skip
    have H_2 := H.2 q
    refine AW.aload_n (pc := 128) dX10_reckons_128 rfl ?_
    refine AW.getr (k := 24) (pc := 129) dX10_reckons_129 ac_10 sh_85 rfl (by decide) fl_10_55 ?_
    refine AW.iload_n (pc := 132) dX10_reckons_132 rfl ?_
    refine AW.iald (pc := 133) dX10_reckons_133 sh_101 (H_2.1) (v := (h 101 l1)) rfl ?_
    refine AW.istore_n (pc := 134) dX10_reckons_134 (by decide) rfl ?_
    refine AW.aload_n (pc := 135) dX10_reckons_135 rfl ?_
    refine AW.getr (k := 23) (pc := 136) dX10_reckons_136 ac_10 sh_85 rfl (by decide) fl_10_52 ?_
    refine AW.iload_n (pc := 139) dX10_reckons_139 rfl ?_
    refine AW.aload_n (pc := 140) dX10_reckons_140 rfl ?_
    refine AW.aload_n (pc := 141) dX10_reckons_141 rfl ?_
    refine AW.iload_n (pc := 142) dX10_reckons_142 rfl ?_
    refine AW.callVi (M' := mX10_jobBehind) (F' := 0) (as := [aI (h 101 l1)]) (pc := 143) dX10_reckons_143 (by decide) kX10_jobBehind ml_10_220 ob_85 rfl npX10_jobBehind (Nat.le_of_ble_eq_true rfl) (p_X10_jobBehind (H_2.2.1) ?_)
    refine AW.callVi (M' := mX10_restOf) (F' := 0) (as := [aI (f_X10_jobBehind h (h 101 l1))]) (pc := 146) dX10_reckons_146 (by decide) kX10_restOf ml_10_223 ob_85 rfl npX10_restOf (Nat.le_of_ble_eq_true rfl) (p_X10_restOf (H_2.2.2.1) ?_)
    refine AW.aload_n (pc := 149) dX10_reckons_149 rfl ?_
    refine AW.aload_n (pc := 150) dX10_reckons_150 rfl ?_
    refine AW.getr (k := 21) (pc := 151) dX10_reckons_151 ac_10 sh_85 rfl (by decide) fl_10_46 ?_
    refine AW.iload_n (pc := 154) dX10_reckons_154 rfl ?_
    refine AW.iald (pc := 155) dX10_reckons_155 sh_98 (H_2.2.2.2.1) (v := (h 98 (h 101 l1))) rfl ?_
    refine AW.callVi (M' := mX10_restOf) (F' := 0) (as := [aI (h 98 (h 101 l1))]) (pc := 156) dX10_reckons_156 (by decide) kX10_restOf ml_10_223 ob_85 rfl npX10_restOf (Nat.le_of_ble_eq_true rfl) (p_X10_restOf (H_2.2.2.2.2.1) ?_)
    refine AW.mmax (pc := 159) dX10_reckons_159 (by decide) ml_10_214 (Nat.le_of_ble_eq_true rfl) ?_
    refine AW.iast (pc := 162) dX10_reckons_162 sh_100 (H_2.2.2.2.1) ?_
    refine AW.iinc (pc := 163) dX10_reckons_163 rfl (by decide) rfl (H_2.2.2.2.2.2.1) ?_
    refine AW.goto (tgt := 124) (pc := 166) dX10_reckons_166 rfl ?_
    refine AW.mask [true, true, false] ?_
    exact H_2.2.2.2.2.2.2
set_option maxRecDepth 100000 in
set_option maxHeartbeats 4000000 in
theorem e_X10_triesFrom {F F' : Nat} (hF : F' + 1 ≤ F) (hB : 12 ≤ F) {a1 a2 : Int} {h : aH} {Q : aQ} (H : ((a1 = 5 → aRun mX10_reckons 3 [aR 85] h (fun r3 h4 => ((r3 = 0 → Q 0 h4) ∧ (¬ (r3 = 0) → inR ((h4 85 48) + 1) ∧ Q 0 (a_up (a_up h4 85 48 ((h4 85 48) + 1)) 85 49 (if 0 ≤ (h4 85 49) then (min (h4 85 49) (h4 85 26)) else (h4 85 26))))))) ∧ (¬ (a1 = 5) → (0 ≤ a1 ∧ a1 < 5) ∧ ((a2 < (h 91 a1) → AW mX10_triesFrom F 73 [some (aR 85), some (aI a1), some (aI a2), some (aI a2)] [] h Q) ∧ (¬ (a2 < (h 91 a1)) → inR (a1 + 1) ∧ aRun mX10_triesFrom F' [aR 85, aI (a1 + 1), aI 0] h (fun r1 h2 => Q 0 h2)))))) : aRun mX10_triesFrom F [aR 85, aI a1, aI a2] h Q := by
  refine aRun.of pn_10 rfl (Nat.le_of_ble_eq_true rfl) ?_
  show AW mX10_triesFrom F 0 [some (aR 85), some (aI a1), some (aI a2), none] [] h Q
  refine AW.iload_n (pc := 0) dX10_triesFrom_0 rfl ?_
  refine AW.iconst (pc := 1) dX10_triesFrom_1 ⟨by decide, by decide⟩ ?_
  refine AW.icmp_ne (tgt := 52) (pc := 2) dX10_triesFrom_2 rfl (fun q => ?_) (fun q => ?_)
  · skip
    have H_1 := H.2 q
    refine AW.iload_n (pc := 52) dX10_triesFrom_52 rfl ?_
    refine AW.aload_n (pc := 53) dX10_triesFrom_53 rfl ?_
    refine AW.getr (k := 7) (pc := 54) dX10_triesFrom_54 ac_10 sh_85 rfl (by decide) fl_10_25 ?_
    refine AW.iload_n (pc := 57) dX10_triesFrom_57 rfl ?_
    refine AW.iald (pc := 58) dX10_triesFrom_58 sh_91 (H_1.1) (v := (h 91 a1)) rfl ?_
    refine AW.icmp_lt (tgt := 71) (pc := 59) dX10_triesFrom_59 rfl (fun q => ?_) (fun q => ?_)
    · skip
      have H_2 := H_1.2.1 q
      refine AW.iload_n (pc := 71) dX10_triesFrom_71 rfl ?_
      refine AW.istore_n (pc := 72) dX10_triesFrom_72 (by decide) rfl ?_
      exact H_2
    · skip
      have H_3 := H_1.2.2 q
      refine AW.aload_n (pc := 62) dX10_triesFrom_62 rfl ?_
      refine AW.iload_n (pc := 63) dX10_triesFrom_63 rfl ?_
      refine AW.iconst (pc := 64) dX10_triesFrom_64 ⟨by decide, by decide⟩ ?_
      refine AW.iadd (pc := 65) dX10_triesFrom_65 (H_3.1) ?_
      refine AW.iconst (pc := 66) dX10_triesFrom_66 ⟨by decide, by decide⟩ ?_
      refine AW.callVv (M' := mX10_triesFrom) (F' := F') (as := [aI (a1 + 1), aI 0]) (pc := 67) dX10_triesFrom_67 hF kX10_triesFrom ml_10_360 ob_85 rfl npX10_triesFrom (Nat.le_of_ble_eq_true rfl) (aRun.mono (fun r1 h2 H_4 => ?_) H_3.2)
      refine AW.vret (pc := 70) dX10_triesFrom_70 rfl ?_
      exact H_4
  · have q := Decidable.not_not.mp q
    have H_5 := H.1 q
    refine AW.aload_n (pc := 5) dX10_triesFrom_5 rfl ?_
    refine AW.callVi (M' := mX10_reckons) (F' := 3) (as := []) (pc := 6) dX10_triesFrom_6 (by omega) kX10_reckons ml_10_191 ob_85 rfl npX10_reckons (Nat.le_of_ble_eq_true rfl) (aRun.mono (fun r3 h4 H_6 => ?_) H_5)
    refine AW.if_eq (tgt := 51) (pc := 9) dX10_triesFrom_9 rfl (fun q => ?_) (fun q => ?_)
    · skip
      have H_7 := H_6.1 q
      refine AW.vret (pc := 51) dX10_triesFrom_51 rfl ?_
      exact H_7
    · skip
      have H_8 := H_6.2 q
      refine AW.aload_n (pc := 12) dX10_triesFrom_12 rfl ?_
      refine AW.dup (pc := 13) dX10_triesFrom_13 rfl ?_
      refine AW.geti' (k := 48) (j := 48) (pc := 14) dX10_triesFrom_14 ac_10 sh_85 rfl (by decide) fl_10_354 rfl (v := (h4 85 48)) rfl ?_
      refine AW.iconst (pc := 17) dX10_triesFrom_17 ⟨by decide, by decide⟩ ?_
      refine AW.iadd (pc := 18) dX10_triesFrom_18 (H_8.1) ?_
      refine AW.puti' (k := 48) (j := 48) (pc := 19) dX10_triesFrom_19 ac_10 sh_85 rfl (by decide) fl_10_354 rfl rfl (tyX10_ok 48 (by decide)) (Or.inl rfl) ?_
      refine AW.aload_n (pc := 22) dX10_triesFrom_22 rfl ?_
      refine AW.aload_n (pc := 23) dX10_triesFrom_23 rfl ?_
      refine AW.geti' (k := 49) (j := 49) (pc := 24) dX10_triesFrom_24 ac_10 sh_85 rfl (by decide) fl_10_357 rfl (v := (h4 85 49)) (by rw [a_up_off (by decide)]) ?_
      have K_9 : AW mX10_triesFrom F 48 [some (aR 85), some (aI a1), some (aI a2), none] [aI (if 0 ≤ (h4 85 49) then (min (h4 85 49) (h4 85 26)) else (h4 85 26)), aR 85] (a_up h4 85 48 ((h4 85 48) + 1)) Q := by
        have H_10 := H_8.2
        refine AW.puti' (k := 49) (j := 49) (pc := 48) dX10_triesFrom_48 ac_10 sh_85 rfl (by decide) fl_10_357 rfl rfl (tyX10_ok 49 (by decide)) (Or.inl rfl) ?_
        refine AW.vret (pc := 51) dX10_triesFrom_51 rfl ?_
        exact H_10
      refine AW.if_ge (tgt := 37) (pc := 27) dX10_triesFrom_27 rfl (fun q => ?_) (fun q => ?_)
      · skip
        rw [if_pos q] at K_9
        refine AW.aload_n (pc := 37) dX10_triesFrom_37 rfl ?_
        refine AW.geti' (k := 49) (j := 49) (pc := 38) dX10_triesFrom_38 ac_10 sh_85 rfl (by decide) fl_10_357 rfl (v := (h4 85 49)) (by rw [a_up_off (by decide)]) ?_
        refine AW.aload_n (pc := 41) dX10_triesFrom_41 rfl ?_
        refine AW.geti' (k := 26) (j := 26) (pc := 42) dX10_triesFrom_42 ac_10 sh_85 rfl (by decide) fl_10_195 rfl (v := (h4 85 26)) (by rw [a_up_off (by decide)]) ?_
        refine AW.mmin (pc := 45) dX10_triesFrom_45 (by omega) ml_10_263 (Nat.le_of_ble_eq_true rfl) ?_
        exact K_9
      · skip
        rw [if_neg q] at K_9
        refine AW.aload_n (pc := 30) dX10_triesFrom_30 rfl ?_
        refine AW.geti' (k := 26) (j := 26) (pc := 31) dX10_triesFrom_31 ac_10 sh_85 rfl (by decide) fl_10_195 rfl (v := (h4 85 26)) (by rw [a_up_off (by decide)]) ?_
        refine AW.goto (tgt := 48) (pc := 34) dX10_triesFrom_34 rfl ?_
        exact K_9
set_option maxRecDepth 100000 in
set_option maxHeartbeats 4000000 in
theorem s_X10_triesFrom_73 {F F' : Nat} (hF : F' + 1 ≤ F) (hB : 12 ≤ F)  {l1 l2 l3 : Int} {h : aH} {Q : aQ} (H : (0 ≤ l1 ∧ l1 < 5) ∧ (((h 91 l1) ≤ l3 → Q 0 h) ∧ (¬ ((h 91 l1) ≤ l3) → inR (24 * l1) ∧ inR ((24 * l1) + l2) ∧ inR ((24 * l1) + l3) ∧ ((0 ≤ ((24 * l1) + l2) ∧ ((24 * l1) + l2) < 120) ∧ (0 ≤ ((24 * l1) + l3) ∧ ((24 * l1) + l3) < 120) ∧ (0 ≤ ((24 * l1) + l2) ∧ ((24 * l1) + l2) < 120) ∧ (0 ≤ ((24 * l1) + l3) ∧ ((24 * l1) + l3) < 120)) ∧ inR (l2 + 1) ∧ aRun mX10_triesFrom F' [aR 85, aI l1, aI (l2 + 1)] (a_up (a_up h 90 ((24 * l1) + l2) (h 90 ((24 * l1) + l3))) 90 ((24 * l1) + l3) (h 90 ((24 * l1) + l2))) (fun r1 h2 => inR (l3 + 1) ∧ AW mX10_triesFrom F 73 [some (aR 85), some (aI l1), some (aI l2), some (aI (l3 + 1))] [] (a_up (a_up h2 90 ((24 * l1) + l2) (h2 90 ((24 * l1) + l3))) 90 ((24 * l1) + l3) (h2 90 ((24 * l1) + l2))) Q)))) : AW mX10_triesFrom F 73 [some (aR 85), some (aI l1), some (aI l2), some (aI l3)] [] h Q := by
  refine AW.iload_n (pc := 73) dX10_triesFrom_73 rfl ?_
  refine AW.aload_n (pc := 74) dX10_triesFrom_74 rfl ?_
  refine AW.getr (k := 7) (pc := 75) dX10_triesFrom_75 ac_10 sh_85 rfl (by decide) fl_10_25 ?_
  refine AW.iload_n (pc := 78) dX10_triesFrom_78 rfl ?_
  refine AW.iald (pc := 79) dX10_triesFrom_79 sh_91 (H.1) (v := (h 91 l1)) rfl ?_
  refine AW.icmp_ge (tgt := 129) (pc := 80) dX10_triesFrom_80 rfl (fun q => ?_) (fun q => ?_)
  · skip
    have H_1 := H.2.1 q
    refine AW.vret (pc := 129) dX10_triesFrom_129 rfl ?_
    exact H_1
  · skip
    have H_2 := H.2.2 q
    refine AW.aload_n (pc := 83) dX10_triesFrom_83 rfl ?_
    refine AW.bipush (pc := 84) dX10_triesFrom_84 rfl ⟨by decide, by decide⟩ ?_
    refine AW.iload_n (pc := 86) dX10_triesFrom_86 rfl ?_
    refine AW.imul (pc := 87) dX10_triesFrom_87 (H_2.1) ?_
    refine AW.iload_n (pc := 88) dX10_triesFrom_88 rfl ?_
    refine AW.iadd (pc := 89) dX10_triesFrom_89 (H_2.2.1) ?_
    refine AW.bipush (pc := 90) dX10_triesFrom_90 rfl ⟨by decide, by decide⟩ ?_
    refine AW.iload_n (pc := 92) dX10_triesFrom_92 rfl ?_
    refine AW.imul (pc := 93) dX10_triesFrom_93 (H_2.1) ?_
    refine AW.iload_n (pc := 94) dX10_triesFrom_94 rfl ?_
    refine AW.iadd (pc := 95) dX10_triesFrom_95 (H_2.2.2.1) ?_
    refine AW.callVv (M' := mX10_changesOver) (F' := 0) (as := [aI ((24 * l1) + l2), aI ((24 * l1) + l3)]) (pc := 96) dX10_triesFrom_96 (by omega) kX10_changesOver ml_10_363 ob_85 rfl npX10_changesOver (Nat.le_of_ble_eq_true rfl) (p_X10_changesOver (H_2.2.2.2.1) ?_)
    refine AW.aload_n (pc := 99) dX10_triesFrom_99 rfl ?_
    refine AW.iload_n (pc := 100) dX10_triesFrom_100 rfl ?_
    refine AW.iload_n (pc := 101) dX10_triesFrom_101 rfl ?_
    refine AW.iconst (pc := 102) dX10_triesFrom_102 ⟨by decide, by decide⟩ ?_
    refine AW.iadd (pc := 103) dX10_triesFrom_103 (H_2.2.2.2.2.1) ?_
    refine AW.callVv (M' := mX10_triesFrom) (F' := F') (as := [aI l1, aI (l2 + 1)]) (pc := 104) dX10_triesFrom_104 hF kX10_triesFrom ml_10_360 ob_85 rfl npX10_triesFrom (Nat.le_of_ble_eq_true rfl) (aRun.mono (fun r1 h2 H_3 => ?_) H_2.2.2.2.2.2)
    refine AW.aload_n (pc := 107) dX10_triesFrom_107 rfl ?_
    refine AW.bipush (pc := 108) dX10_triesFrom_108 rfl ⟨by decide, by decide⟩ ?_
    refine AW.iload_n (pc := 110) dX10_triesFrom_110 rfl ?_
    refine AW.imul (pc := 111) dX10_triesFrom_111 (H_2.1) ?_
    refine AW.iload_n (pc := 112) dX10_triesFrom_112 rfl ?_
    refine AW.iadd (pc := 113) dX10_triesFrom_113 (H_2.2.1) ?_
    refine AW.bipush (pc := 114) dX10_triesFrom_114 rfl ⟨by decide, by decide⟩ ?_
    refine AW.iload_n (pc := 116) dX10_triesFrom_116 rfl ?_
    refine AW.imul (pc := 117) dX10_triesFrom_117 (H_2.1) ?_
    refine AW.iload_n (pc := 118) dX10_triesFrom_118 rfl ?_
    refine AW.iadd (pc := 119) dX10_triesFrom_119 (H_2.2.2.1) ?_
    refine AW.callVv (M' := mX10_changesOver) (F' := 0) (as := [aI ((24 * l1) + l2), aI ((24 * l1) + l3)]) (pc := 120) dX10_triesFrom_120 (by omega) kX10_changesOver ml_10_363 ob_85 rfl npX10_changesOver (Nat.le_of_ble_eq_true rfl) (p_X10_changesOver (H_2.2.2.2.1) ?_)
    refine AW.iinc (pc := 123) dX10_triesFrom_123 rfl (by decide) rfl (H_3.1) ?_
    refine AW.goto (tgt := 73) (pc := 126) dX10_triesFrom_126 rfl ?_
    exact H_3.2
