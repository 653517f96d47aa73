set_option maxRecDepth 100000 in
set_option maxHeartbeats 4000000 in
theorem e_X10_feed {a1 : Int} {h : aH} {Q : aQ} (H : (((f_X10_in h a1 32 126) = 0 → Q (-1) h) ∧ (¬ ((f_X10_in h a1 32 126) = 0) → (((h 85 9) = 140 → Q (-3) h) ∧ (¬ ((h 85 9) = 140) → (0 ≤ (h 85 9) ∧ (h 85 9) < 140) ∧ inR ((h 85 9) + 1) ∧ Q ((h 85 9) + 1) (a_up (a_up h 92 (h 85 9) a1) 85 9 ((h 85 9) + 1))))))) : aRun mX10_feed 1 [aR 85, aI a1] h Q := by
  refine aRun.of pn_10 rfl (Nat.le_of_ble_eq_true rfl) ?_
  show AW mX10_feed 1 0 [some (aR 85), some (aI a1)] [] h Q
  refine AW.iload_n (pc := 0) dX10_feed_0 rfl ?_
  refine AW.bipush (pc := 1) dX10_feed_1 rfl ⟨by decide, by decide⟩ ?_
  refine AW.bipush (pc := 3) dX10_feed_3 rfl ⟨by decide, by decide⟩ ?_
  refine AW.callSi (M' := mX10_in) (F' := 0) (as := [aI a1, aI 32, aI 126]) (pc := 5) dX10_feed_5 (by decide) kX10_in ml_10_108 rfl npX10_in (Nat.le_of_ble_eq_true rfl) (p_X10_in  ?_)
  refine AW.if_ne (tgt := 13) (pc := 8) dX10_feed_8 rfl (fun q => ?_) (fun q => ?_)
  · skip
    have H_1 := H.2 q
    refine AW.aload_n (pc := 13) dX10_feed_13 rfl ?_
    refine AW.geti' (k := 9) (j := 9) (pc := 14) dX10_feed_14 ac_10 sh_85 rfl (by decide) fl_10_112 rfl (v := (h 85 9)) rfl ?_
    refine AW.sipush (pc := 17) dX10_feed_17 rfl ⟨by decide, by decide⟩ ?_
    refine AW.icmp_ne (tgt := 26) (pc := 20) dX10_feed_20 rfl (fun q => ?_) (fun q => ?_)
    · skip
      have H_2 := H_1.2 q
      refine AW.aload_n (pc := 26) dX10_feed_26 rfl ?_
      refine AW.getr (k := 8) (pc := 27) dX10_feed_27 ac_10 sh_85 rfl (by decide) fl_10_28 ?_
      refine AW.aload_n (pc := 30) dX10_feed_30 rfl ?_
      refine AW.geti' (k := 9) (j := 9) (pc := 31) dX10_feed_31 ac_10 sh_85 rfl (by decide) fl_10_112 rfl (v := (h 85 9)) rfl ?_
      refine AW.iload_n (pc := 34) dX10_feed_34 rfl ?_
      refine AW.iast (pc := 35) dX10_feed_35 sh_92 (H_2.1) ?_
      refine AW.aload_n (pc := 36) dX10_feed_36 rfl ?_
      refine AW.dup (pc := 37) dX10_feed_37 rfl ?_
      refine AW.geti' (k := 9) (j := 9) (pc := 38) dX10_feed_38 ac_10 sh_85 rfl (by decide) fl_10_112 rfl (v := (h 85 9)) (by rw [a_up_ne (by decide)]) ?_
      refine AW.iconst (pc := 41) dX10_feed_41 ⟨by decide, by decide⟩ ?_
      refine AW.iadd (pc := 42) dX10_feed_42 (H_2.2.1) ?_
      refine AW.puti' (k := 9) (j := 9) (pc := 43) dX10_feed_43 ac_10 sh_85 rfl (by decide) fl_10_112 rfl rfl (tyX10_ok 9 (by decide)) (Or.inl rfl) ?_
      refine AW.aload_n (pc := 46) dX10_feed_46 rfl ?_
      refine AW.geti' (k := 9) (j := 9) (pc := 47) dX10_feed_47 ac_10 sh_85 rfl (by decide) fl_10_112 rfl (v := ((h 85 9) + 1)) (by rw [a_up_eq]) ?_
      refine AW.iret (pc := 50) dX10_feed_50 rfl ?_
      exact H_2.2.2
    · have q := Decidable.not_not.mp q
      have H_3 := H_1.1 q
      refine AW.bipush (pc := 23) dX10_feed_23 rfl ⟨by decide, by decide⟩ ?_
      refine AW.iret (pc := 25) dX10_feed_25 rfl ?_
      exact H_3
  · have q := Decidable.not_not.mp q
    have H_4 := H.1 q
    refine AW.iconst (pc := 11) dX10_feed_11 ⟨by decide, by decide⟩ ?_
    refine AW.iret (pc := 12) dX10_feed_12 rfl ?_
    exact H_4
set_option maxRecDepth 100000 in
set_option maxHeartbeats 4000000 in
theorem e_X10_fetches  {h : aH} {Q : aQ} (H : AW mX10_fetches 0 2 [some (aR 85), some (aI 0)] [] h Q) : aRun mX10_fetches 0 [aR 85] h Q := by
  refine aRun.of pn_10 rfl (Nat.le_of_ble_eq_true rfl) ?_
  show AW mX10_fetches 0 0 [some (aR 85), none] [] h Q
  refine AW.iconst (pc := 0) dX10_fetches_0 ⟨by decide, by decide⟩ ?_
  refine AW.istore_n (pc := 1) dX10_fetches_1 (by decide) rfl ?_
  exact H
set_option maxRecDepth 100000 in
set_option maxHeartbeats 4000000 in
theorem s_X10_fetches_2  {l1 : Int} {h : aH} {Q : aQ} (H : ((120 ≤ l1 → Q 0 h) ∧ (¬ (120 ≤ l1) → inR (120 * (h 85 18)) ∧ inR ((120 * (h 85 18)) + l1) ∧ (0 ≤ ((120 * (h 85 18)) + l1) ∧ ((120 * (h 85 18)) + l1) < 2040) ∧ (0 ≤ l1 ∧ l1 < 120) ∧ inR (l1 + 1) ∧ AW mX10_fetches 0 2 [some (aR 85), some (aI (l1 + 1))] [] (a_up h 90 l1 (h 96 ((120 * (h 85 18)) + l1))) Q))) : AW mX10_fetches 0 2 [some (aR 85), some (aI l1)] [] h Q := by
  refine AW.iload_n (pc := 2) dX10_fetches_2 rfl ?_
  refine AW.bipush (pc := 3) dX10_fetches_3 rfl ⟨by decide, by decide⟩ ?_
  refine AW.icmp_ge (tgt := 34) (pc := 5) dX10_fetches_5 rfl (fun q => ?_) (fun q => ?_)
  · skip
    have H_1 := H.1 q
    refine AW.vret (pc := 34) dX10_fetches_34 rfl ?_
    exact H_1
  · skip
    have H_2 := H.2 q
    refine AW.aload_n (pc := 8) dX10_fetches_8 rfl ?_
    refine AW.getr (k := 6) (pc := 9) dX10_fetches_9 ac_10 sh_85 rfl (by decide) fl_10_22 ?_
    refine AW.iload_n (pc := 12) dX10_fetches_12 rfl ?_
    refine AW.aload_n (pc := 13) dX10_fetches_13 rfl ?_
    refine AW.getr (k := 17) (pc := 14) dX10_fetches_14 ac_10 sh_85 rfl (by decide) fl_10_40 ?_
    refine AW.bipush (pc := 17) dX10_fetches_17 rfl ⟨by decide, by decide⟩ ?_
    refine AW.aload_n (pc := 19) dX10_fetches_19 rfl ?_
    refine AW.geti' (k := 18) (j := 18) (pc := 20) dX10_fetches_20 ac_10 sh_85 rfl (by decide) fl_10_159 rfl (v := (h 85 18)) rfl ?_
    refine AW.imul (pc := 23) dX10_fetches_23 (H_2.1) ?_
    refine AW.iload_n (pc := 24) dX10_fetches_24 rfl ?_
    refine AW.iadd (pc := 25) dX10_fetches_25 (H_2.2.1) ?_
    refine AW.iald (pc := 26) dX10_fetches_26 sh_96 (H_2.2.2.1) (v := (h 96 ((120 * (h 85 18)) + l1))) rfl ?_
    refine AW.iast (pc := 27) dX10_fetches_27 sh_90 (H_2.2.2.2.1) ?_
    refine AW.iinc (pc := 28) dX10_fetches_28 rfl (by decide) rfl (H_2.2.2.2.2.1) ?_
    refine AW.goto (tgt := 2) (pc := 31) dX10_fetches_31 rfl ?_
    exact H_2.2.2.2.2.2
set_option maxRecDepth 100000 in
set_option maxHeartbeats 4000000 in
theorem e_X10_image  {h : aH} {Q : aQ} (H : (((h 85 1) = 0 → Q (-5) h) ∧ (¬ ((h 85 1) = 0) → aRun mX10_passesAll 2 [aR 85, aI 1] (a_up h 85 51 1) (fun r1 h2 => Q (h2 85 1) h2)))) : aRun mX10_image 3 [aR 85] h Q := by
  refine aRun.of pn_10 rfl (Nat.le_of_ble_eq_true rfl) ?_
  show AW mX10_image 3 0 [some (aR 85)] [] h Q
  refine AW.aload_n (pc := 0) dX10_image_0 rfl ?_
  refine AW.geti' (k := 1) (j := 1) (pc := 1) dX10_image_1 ac_10 sh_85 rfl (by decide) fl_10_105 rfl (v := (h 85 1)) rfl ?_
  refine AW.if_ne (tgt := 10) (pc := 4) dX10_image_4 rfl (fun q => ?_) (fun q => ?_)
  · skip
    have H_1 := H.2 q
    refine AW.aload_n (pc := 10) dX10_image_10 rfl ?_
    refine AW.iconst (pc := 11) dX10_image_11 ⟨by decide, by decide⟩ ?_
    refine AW.puti' (k := 51) (j := 51) (pc := 12) dX10_image_12 ac_10 sh_85 rfl (by decide) fl_10_387 rfl rfl (tyX10_ok 51 (by decide)) (Or.inr ⟨rfl, (Or.inr rfl)⟩) ?_
    refine AW.aload_n (pc := 15) dX10_image_15 rfl ?_
    refine AW.iconst (pc := 16) dX10_image_16 ⟨by decide, by decide⟩ ?_
    refine AW.callVv (M' := mX10_passesAll) (F' := 2) (as := [aI 1]) (pc := 17) dX10_image_17 (by decide) kX10_passesAll ml_10_390 ob_85 rfl npX10_passesAll (Nat.le_of_ble_eq_true rfl) (aRun.mono (fun r1 h2 H_2 => ?_) H_1)
    refine AW.aload_n (pc := 20) dX10_image_20 rfl ?_
    refine AW.geti' (k := 1) (j := 1) (pc := 21) dX10_image_21 ac_10 sh_85 rfl (by decide) fl_10_105 rfl (v := (h2 85 1)) rfl ?_
    refine AW.iret (pc := 24) dX10_image_24 rfl ?_
    exact H_2
  · have q := Decidable.not_not.mp q
    have H_3 := H.1 q
    refine AW.bipush (pc := 7) dX10_image_7 rfl ⟨by decide, by decide⟩ ?_
    refine AW.iret (pc := 9) dX10_image_9 rfl ?_
    exact H_3
def f_X10_is (h : aH) (a1 : Int) : Int := (if (h 85 9) ≤ (h 85 10) then (0 : Int) else (if (h 92 (h 85 10)) = a1 then (1 : Int) else (0 : Int)))
def o_X10_is (h : aH) (a1 : Int) : Prop := ((¬ ((h 85 9) ≤ (h 85 10)) → (0 ≤ (h 85 10) ∧ (h 85 10) < 140)))
theorem b_X10_is {h : aH} {a1 : Int} : f_X10_is h a1 = 0 ∨ f_X10_is h a1 = 1 := by
  unfold f_X10_is
  exact (a_ite01 (Or.inl rfl) (a_ite01 (Or.inr rfl) (Or.inl rfl)))
set_option maxRecDepth 100000 in
set_option maxHeartbeats 4000000 in
theorem p_X10_is {a1 : Int} {h : aH} {Q : aQ} (o : o_X10_is h a1) (k : Q (f_X10_is h a1) h) : aRun mX10_is 0 [aR 85, aI a1] h Q := by
  unfold f_X10_is at k
  unfold o_X10_is at o
  refine aRun.of pn_10 rfl (Nat.le_of_ble_eq_true rfl) ?_
  show AW mX10_is 0 0 [some (aR 85), some (aI a1)] [] h Q
  refine AW.aload_n (pc := 0) dX10_is_0 rfl ?_
  refine AW.geti' (k := 10) (j := 10) (pc := 1) dX10_is_1 ac_10 sh_85 rfl (by decide) fl_10_115 rfl (v := (h 85 10)) rfl ?_
  refine AW.aload_n (pc := 4) dX10_is_4 rfl ?_
  refine AW.geti' (k := 9) (j := 9) (pc := 5) dX10_is_5 ac_10 sh_85 rfl (by decide) fl_10_112 rfl (v := (h 85 9)) rfl ?_
  have K_1 : AW mX10_is 0 29 [some (aR 85), some (aI a1)] [aI (if (h 85 9) ≤ (h 85 10) then (0 : Int) else (if (h 92 (h 85 10)) = a1 then (1 : Int) else (0 : Int)))] h Q := by
    refine AW.zret (pc := 29) dX10_is_29 rfl (a_ite01 (Or.inl rfl) (a_ite01 (Or.inr rfl) (Or.inl rfl))) ?_
    exact k
  have H_3 := o
  refine AW.icmp_ge (tgt := 28) (pc := 8) dX10_is_8 rfl (fun q => ?_) (fun q => ?_)
  · skip
    rw [if_pos q] at K_1
    refine AW.iconst (pc := 28) dX10_is_28 ⟨by decide, by decide⟩ ?_
    exact K_1
  · skip
    have H_5 := H_3 q
    rw [if_neg q] at K_1
    refine AW.aload_n (pc := 11) dX10_is_11 rfl ?_
    refine AW.getr (k := 8) (pc := 12) dX10_is_12 ac_10 sh_85 rfl (by decide) fl_10_28 ?_
    refine AW.aload_n (pc := 15) dX10_is_15 rfl ?_
    refine AW.geti' (k := 10) (j := 10) (pc := 16) dX10_is_16 ac_10 sh_85 rfl (by decide) fl_10_115 rfl (v := (h 85 10)) rfl ?_
    refine AW.iald (pc := 19) dX10_is_19 sh_92 H_5 (v := (h 92 (h 85 10))) rfl ?_
    refine AW.iload_n (pc := 20) dX10_is_20 rfl ?_
    refine AW.icmp_ne (tgt := 28) (pc := 21) dX10_is_21 rfl (fun q => ?_) (fun q => ?_)
    · skip
      rw [if_neg q] at K_1
      refine AW.iconst (pc := 28) dX10_is_28 ⟨by decide, by decide⟩ ?_
      exact K_1
    · have q := Decidable.not_not.mp q
      rw [if_pos q] at K_1
      refine AW.iconst (pc := 24) dX10_is_24 ⟨by decide, by decide⟩ ?_
      refine AW.goto (tgt := 29) (pc := 25) dX10_is_25 rfl ?_
      exact K_1
def f_X10_isFigure (h : aH) (a1 : Int) (a2 : Int) : Int := (if (h 85 9) ≤ (h 85 10) then (0 : Int) else (if (f_X10_in h ((h 92 (h 85 10)) - 48) a1 a2) = 0 then (0 : Int) else (1 : Int)))
def o_X10_isFigure (h : aH) (a1 : Int) (a2 : Int) : Prop := ((¬ ((h 85 9) ≤ (h 85 10)) → ((0 ≤ (h 85 10) ∧ (h 85 10) < 140) ∧ inR ((h 92 (h 85 10)) - 48))))
theorem b_X10_isFigure {h : aH} {a1 a2 : Int} : f_X10_isFigure h a1 a2 = 0 ∨ f_X10_isFigure h a1 a2 = 1 := by
  unfold f_X10_isFigure
  exact (a_ite01 (Or.inl rfl) (a_ite01 (Or.inl rfl) (Or.inr rfl)))
set_option maxRecDepth 100000 in
set_option maxHeartbeats 4000000 in
theorem p_X10_isFigure {a1 a2 : Int} {h : aH} {Q : aQ} (o : o_X10_isFigure h a1 a2) (k : Q (f_X10_isFigure h a1 a2) h) : aRun mX10_isFigure 1 [aR 85, aI a1, aI a2] h Q := by
  unfold f_X10_isFigure at k
  unfold o_X10_isFigure at o
  refine aRun.of pn_10 rfl (Nat.le_of_ble_eq_true rfl) ?_
  show AW mX10_isFigure 1 0 [some (aR 85), some (aI a1), some (aI a2)] [] h Q
  refine AW.aload_n (pc := 0) dX10_isFigure_0 rfl ?_
  refine AW.geti' (k := 10) (j := 10) (pc := 1) dX10_isFigure_1 ac_10 sh_85 rfl (by decide) fl_10_115 rfl (v := (h 85 10)) rfl ?_
  refine AW.aload_n (pc := 4) dX10_isFigure_4 rfl ?_
  refine AW.geti' (k := 9) (j := 9) (pc := 5) dX10_isFigure_5 ac_10 sh_85 rfl (by decide) fl_10_112 rfl (v := (h 85 9)) rfl ?_
  have K_1 : AW mX10_isFigure 1 36 [some (aR 85), some (aI a1), some (aI a2)] [aI (if (h 85 9) ≤ (h 85 10) then (0 : Int) else (if (f_X10_in h ((h 92 (h 85 10)) - 48) a1 a2) = 0 then (0 : Int) else (1 : Int)))] h Q := by
    refine AW.zret (pc := 36) dX10_isFigure_36 rfl (a_ite01 (Or.inl rfl) (a_ite01 (Or.inl rfl) (Or.inr rfl))) ?_
    exact k
  have H_3 := o
  refine AW.icmp_ge (tgt := 35) (pc := 8) dX10_isFigure_8 rfl (fun q => ?_) (fun q => ?_)
  · skip
    rw [if_pos q] at K_1
    refine AW.iconst (pc := 35) dX10_isFigure_35 ⟨by decide, by decide⟩ ?_
    exact K_1
  · skip
    have H_5 := H_3 q
    rw [if_neg q] at K_1
    refine AW.aload_n (pc := 11) dX10_isFigure_11 rfl ?_
    refine AW.getr (k := 8) (pc := 12) dX10_isFigure_12 ac_10 sh_85 rfl (by decide) fl_10_28 ?_
    refine AW.aload_n (pc := 15) dX10_isFigure_15 rfl ?_
    refine AW.geti' (k := 10) (j := 10) (pc := 16) dX10_isFigure_16 ac_10 sh_85 rfl (by decide) fl_10_115 rfl (v := (h 85 10)) rfl ?_
    refine AW.iald (pc := 19) dX10_isFigure_19 sh_92 (H_5.1) (v := (h 92 (h 85 10))) rfl ?_
    refine AW.bipush (pc := 20) dX10_isFigure_20 rfl ⟨by decide, by decide⟩ ?_
    refine AW.isub (pc := 22) dX10_isFigure_22 (H_5.2) ?_
    refine AW.iload_n (pc := 23) dX10_isFigure_23 rfl ?_
    refine AW.iload_n (pc := 24) dX10_isFigure_24 rfl ?_
    refine AW.callSi (M' := mX10_in) (F' := 0) (as := [aI ((h 92 (h 85 10)) - 48), aI a1, aI a2]) (pc := 25) dX10_isFigure_25 (by decide) kX10_in ml_10_108 rfl npX10_in (Nat.le_of_ble_eq_true rfl) (p_X10_in  ?_)
    refine AW.if_eq (tgt := 35) (pc := 28) dX10_isFigure_28 rfl (fun q => ?_) (fun q => ?_)
    · skip
      rw [if_pos q] at K_1
      refine AW.iconst (pc := 35) dX10_isFigure_35 ⟨by decide, by decide⟩ ?_
      exact K_1
    · skip
      rw [if_neg q] at K_1
      refine AW.iconst (pc := 31) dX10_isFigure_31 ⟨by decide, by decide⟩ ?_
      refine AW.goto (tgt := 36) (pc := 32) dX10_isFigure_32 rfl ?_
      exact K_1
def f_X10_isMachine (h : aH) (a0 : Int) : Int := (f_X10_in h a0 0 4)
theorem b_X10_isMachine {h : aH} {a0 : Int} : f_X10_isMachine h a0 = 0 ∨ f_X10_isMachine h a0 = 1 := by
  unfold f_X10_isMachine
  exact (b_X10_in)
set_option maxRecDepth 100000 in
set_option maxHeartbeats 4000000 in
theorem p_X10_isMachine {a0 : Int} {h : aH} {Q : aQ} (k : Q (f_X10_isMachine h a0) h) : aRun mX10_isMachine 1 [aI a0] h Q := by
  unfold f_X10_isMachine at k
  refine aRun.of pn_10 rfl (Nat.le_of_ble_eq_true rfl) ?_
  show AW mX10_isMachine 1 0 [some (aI a0)] [] h Q
  refine AW.iload_n (pc := 0) dX10_isMachine_0 rfl ?_
  refine AW.iconst (pc := 1) dX10_isMachine_1 ⟨by decide, by decide⟩ ?_
  refine AW.iconst (pc := 2) dX10_isMachine_2 ⟨by decide, by decide⟩ ?_
  refine AW.callSi (M' := mX10_in) (F' := 0) (as := [aI a0, aI 0, aI 4]) (pc := 3) dX10_isMachine_3 (by decide) kX10_in ml_10_108 rfl npX10_in (Nat.le_of_ble_eq_true rfl) (p_X10_in  ?_)
  refine AW.zret (pc := 6) dX10_isMachine_6 rfl (b_X10_in) ?_
  exact k
def f_X10_isTask (h : aH) (a1 : Int) : Int := (f_X10_in h a1 0 ((h 85 1) - 1))
def o_X10_isTask (h : aH) (a1 : Int) : Prop := inR ((h 85 1) - 1)
theorem b_X10_isTask {h : aH} {a1 : Int} : f_X10_isTask h a1 = 0 ∨ f_X10_isTask h a1 = 1 := by
  unfold f_X10_isTask
  exact (b_X10_in)
set_option maxRecDepth 100000 in
set_option maxHeartbeats 4000000 in
theorem p_X10_isTask {a1 : Int} {h : aH} {Q : aQ} (o : o_X10_isTask h a1) (k : Q (f_X10_isTask h a1) h) : aRun mX10_isTask 1 [aR 85, aI a1] h Q := by
  unfold f_X10_isTask at k
  unfold o_X10_isTask at o
  refine aRun.of pn_10 rfl (Nat.le_of_ble_eq_true rfl) ?_
  show AW mX10_isTask 1 0 [some (aR 85), some (aI a1)] [] h Q
  refine AW.iload_n (pc := 0) dX10_isTask_0 rfl ?_
  refine AW.iconst (pc := 1) dX10_isTask_1 ⟨by decide, by decide⟩ ?_
  refine AW.aload_n (pc := 2) dX10_isTask_2 rfl ?_
  refine AW.geti' (k := 1) (j := 1) (pc := 3) dX10_isTask_3 ac_10 sh_85 rfl (by decide) fl_10_105 rfl (v := (h 85 1)) rfl ?_
  refine AW.iconst (pc := 6) dX10_isTask_6 ⟨by decide, by decide⟩ ?_
  refine AW.isub (pc := 7) dX10_isTask_7 o ?_
  refine AW.callSi (M' := mX10_in) (F' := 0) (as := [aI a1, aI 0, aI ((h 85 1) - 1)]) (pc := 8) dX10_isTask_8 (by decide) kX10_in ml_10_108 rfl npX10_in (Nat.le_of_ble_eq_true rfl) (p_X10_in  ?_)
  refine AW.zret (pc := 11) dX10_isTask_11 rfl (b_X10_in) ?_
  exact k
set_option maxRecDepth 100000 in
set_option maxHeartbeats 4000000 in
theorem e_X10_takesOff {a1 : Int} {h : aH} {Q : aQ} (H : inR ((h 85 36) - 1) ∧ AW mX10_takesOff 0 12 [some (aR 85), none, some (aI a1)] [] (a_up h 85 36 ((h 85 36) - 1)) Q) : aRun mX10_takesOff 0 [aR 85, aI a1] h Q := by
  refine aRun.of pn_10 rfl (Nat.le_of_ble_eq_true rfl) ?_
  show AW mX10_takesOff 0 0 [some (aR 85), some (aI a1), none] [] h Q
  refine AW.aload_n (pc := 0) dX10_takesOff_0 rfl ?_
  refine AW.dup (pc := 1) dX10_takesOff_1 rfl ?_
  refine AW.geti' (k := 36) (j := 36) (pc := 2) dX10_takesOff_2 ac_10 sh_85 rfl (by decide) fl_10_278 rfl (v := (h 85 36)) rfl ?_
  refine AW.iconst (pc := 5) dX10_takesOff_5 ⟨by decide, by decide⟩ ?_
  refine AW.isub (pc := 6) dX10_takesOff_6 (H.1) ?_
  refine AW.puti' (k := 36) (j := 36) (pc := 7) dX10_takesOff_7 ac_10 sh_85 rfl (by decide) fl_10_278 rfl rfl (tyX10_ok 36 (by decide)) (Or.inl rfl) ?_
  refine AW.iload_n (pc := 10) dX10_takesOff_10 rfl ?_
  refine AW.istore_n (pc := 11) dX10_takesOff_11 (by decide) rfl ?_
  refine AW.mask [true, false, true] ?_
  exact H.2
set_option maxRecDepth 100000 in
set_option maxHeartbeats 4000000 in
theorem s_X10_takesOff_12  {l2 : Int} {h : aH} {Q : aQ} (H : (((h 85 36) ≤ l2 → Q 0 h) ∧ (¬ ((h 85 36) ≤ l2) → inR (l2 + 1) ∧ (0 ≤ (l2 + 1) ∧ (l2 + 1) < 10) ∧ (0 ≤ l2 ∧ l2 < 10) ∧ AW mX10_takesOff 0 12 [some (aR 85), none, some (aI (l2 + 1))] [] (a_up h 107 l2 (h 107 (l2 + 1))) Q))) : AW mX10_takesOff 0 12 [some (aR 85), none, some (aI l2)] [] h Q := by
  refine AW.iload_n (pc := 12) dX10_takesOff_12 rfl ?_
  refine AW.aload_n (pc := 13) dX10_takesOff_13 rfl ?_
  refine AW.geti' (k := 36) (j := 36) (pc := 14) dX10_takesOff_14 ac_10 sh_85 rfl (by decide) fl_10_278 rfl (v := (h 85 36)) rfl ?_
  refine AW.icmp_ge (tgt := 40) (pc := 17) dX10_takesOff_17 rfl (fun q => ?_) (fun q => ?_)
  · skip
    have H_1 := H.1 q
    refine AW.vret (pc := 40) dX10_takesOff_40 rfl ?_
    exact H_1
  · skip
    have H_2 := H.2 q
    refine AW.aload_n (pc := 20) dX10_takesOff_20 rfl ?_
    refine AW.getr (k := 35) (pc := 21) dX10_takesOff_21 ac_10 sh_85 rfl (by decide) fl_10_78 ?_
    refine AW.iload_n (pc := 24) dX10_takesOff_24 rfl ?_
    refine AW.aload_n (pc := 25) dX10_takesOff_25 rfl ?_
    refine AW.getr (k := 35) (pc := 26) dX10_takesOff_26 ac_10 sh_85 rfl (by decide) fl_10_78 ?_
    refine AW.iload_n (pc := 29) dX10_takesOff_29 rfl ?_
    refine AW.iconst (pc := 30) dX10_takesOff_30 ⟨by decide, by decide⟩ ?_
    refine AW.iadd (pc := 31) dX10_takesOff_31 (H_2.1) ?_
    refine AW.iald (pc := 32) dX10_takesOff_32 sh_107 (H_2.2.1) (v := (h 107 (l2 + 1))) rfl ?_
    refine AW.iast (pc := 33) dX10_takesOff_33 sh_107 (H_2.2.2.1) ?_
    refine AW.iinc (pc := 34) dX10_takesOff_34 rfl (by decide) rfl (H_2.1) ?_
    refine AW.goto (tgt := 12) (pc := 37) dX10_takesOff_37 rfl ?_
    exact H_2.2.2.2
set_option maxRecDepth 100000 in
set_option maxHeartbeats 4000000 in
theorem e_X10_keepsMove {a1 : Int} {h : aH} {Q : aQ} (H : aRun mX10_tabuAt 0 [aR 85, aI a1] h (fun r1 h2 => ((r1 < 0 → (0 ≤ (h2 85 36) ∧ (h2 85 36) < 10) ∧ inR ((h2 85 36) + 1) ∧ ((((h2 85 36) + 1) ≤ (h2 85 34) → Q 0 (a_up (a_up h2 107 (h2 85 36) a1) 85 36 ((h2 85 36) + 1))) ∧ (¬ (((h2 85 36) + 1) ≤ (h2 85 34)) → aRun mX10_takesOff 0 [aR 85, aI 0] (a_up (a_up h2 107 (h2 85 36) a1) 85 36 ((h2 85 36) + 1)) (fun r3 h4 => Q 0 h4)))) ∧ (¬ (r1 < 0) → aRun mX10_tabuAt 0 [aR 85, aI a1] h2 (fun r5 h6 => aRun mX10_takesOff 0 [aR 85, aI r5] h6 (fun r7 h8 => (0 ≤ (h8 85 36) ∧ (h8 85 36) < 10) ∧ inR ((h8 85 36) + 1) ∧ ((((h8 85 36) + 1) ≤ (h8 85 34) → Q 0 (a_up (a_up h8 107 (h8 85 36) a1) 85 36 ((h8 85 36) + 1))) ∧ (¬ (((h8 85 36) + 1) ≤ (h8 85 34)) → aRun mX10_takesOff 0 [aR 85, aI 0] (a_up (a_up h8 107 (h8 85 36) a1) 85 36 ((h8 85 36) + 1)) (fun r9 h10 => Q 0 h10))))))))) : aRun mX10_keepsMove 1 [aR 85, aI a1] h Q := by
  refine aRun.of pn_10 rfl (Nat.le_of_ble_eq_true rfl) ?_
  show AW mX10_keepsMove 1 0 [some (aR 85), some (aI a1)] [] h Q
  refine AW.aload_n (pc := 0) dX10_keepsMove_0 rfl ?_
  refine AW.iload_n (pc := 1) dX10_keepsMove_1 rfl ?_
  refine AW.callVi (M' := mX10_tabuAt) (F' := 0) (as := [aI a1]) (pc := 2) dX10_keepsMove_2 (by decide) kX10_tabuAt ml_10_275 ob_85 rfl npX10_tabuAt (Nat.le_of_ble_eq_true rfl) (aRun.mono (fun r1 h2 H_1 => ?_) H)
  refine AW.if_lt (tgt := 17) (pc := 5) dX10_keepsMove_5 rfl (fun q => ?_) (fun q => ?_)
  · skip
    have H_2 := H_1.1 q
    refine AW.aload_n (pc := 17) dX10_keepsMove_17 rfl ?_
    refine AW.getr (k := 35) (pc := 18) dX10_keepsMove_18 ac_10 sh_85 rfl (by decide) fl_10_78 ?_
    refine AW.aload_n (pc := 21) dX10_keepsMove_21 rfl ?_
    refine AW.geti' (k := 36) (j := 36) (pc := 22) dX10_keepsMove_22 ac_10 sh_85 rfl (by decide) fl_10_278 rfl (v := (h2 85 36)) rfl ?_
    refine AW.iload_n (pc := 25) dX10_keepsMove_25 rfl ?_
    refine AW.iast (pc := 26) dX10_keepsMove_26 sh_107 (H_2.1) ?_
    refine AW.aload_n (pc := 27) dX10_keepsMove_27 rfl ?_
    refine AW.dup (pc := 28) dX10_keepsMove_28 rfl ?_
    refine AW.geti' (k := 36) (j := 36) (pc := 29) dX10_keepsMove_29 ac_10 sh_85 rfl (by decide) fl_10_278 rfl (v := (h2 85 36)) (by rw [a_up_ne (by decide)]) ?_
    refine AW.iconst (pc := 32) dX10_keepsMove_32 ⟨by decide, by decide⟩ ?_
    refine AW.iadd (pc := 33) dX10_keepsMove_33 (H_2.2.1) ?_
    refine AW.puti' (k := 36) (j := 36) (pc := 34) dX10_keepsMove_34 ac_10 sh_85 rfl (by decide) fl_10_278 rfl rfl (tyX10_ok 36 (by decide)) (Or.inl rfl) ?_
    refine AW.aload_n (pc := 37) dX10_keepsMove_37 rfl ?_
    refine AW.geti' (k := 36) (j := 36) (pc := 38) dX10_keepsMove_38 ac_10 sh_85 rfl (by decide) fl_10_278 rfl (v := ((h2 85 36) + 1)) (by rw [a_up_eq]) ?_
    refine AW.aload_n (pc := 41) dX10_keepsMove_41 rfl ?_
    refine AW.geti' (k := 34) (j := 34) (pc := 42) dX10_keepsMove_42 ac_10 sh_85 rfl (by decide) fl_10_74 rfl (v := (h2 85 34)) (by rw [a_up_off (by decide), a_up_ne (by decide)]) ?_
    refine AW.icmp_le (tgt := 53) (pc := 45) dX10_keepsMove_45 rfl (fun q => ?_) (fun q => ?_)
    · skip
      have H_3 := H_2.2.2.1 q
      refine AW.vret (pc := 53) dX10_keepsMove_53 rfl ?_
      exact H_3
    · skip
      have H_4 := H_2.2.2.2 q
      refine AW.aload_n (pc := 48) dX10_keepsMove_48 rfl ?_
      refine AW.iconst (pc := 49) dX10_keepsMove_49 ⟨by decide, by decide⟩ ?_
      refine AW.callVv (M' := mX10_takesOff) (F' := 0) (as := [aI 0]) (pc := 50) dX10_keepsMove_50 (by decide) kX10_takesOff ml_10_284 ob_85 rfl npX10_takesOff (Nat.le_of_ble_eq_true rfl) (aRun.mono (fun r3 h4 H_5 => ?_) H_4)
      refine AW.vret (pc := 53) dX10_keepsMove_53 rfl ?_
      exact H_5
  · skip
    have H_6 := H_1.2 q
    refine AW.aload_n (pc := 8) dX10_keepsMove_8 rfl ?_
    refine AW.aload_n (pc := 9) dX10_keepsMove_9 rfl ?_
    refine AW.iload_n (pc := 10) dX10_keepsMove_10 rfl ?_
    refine AW.callVi (M' := mX10_tabuAt) (F' := 0) (as := [aI a1]) (pc := 11) dX10_keepsMove_11 (by decide) kX10_tabuAt ml_10_275 ob_85 rfl npX10_tabuAt (Nat.le_of_ble_eq_true rfl) (aRun.mono (fun r5 h6 H_7 => ?_) H_6)
    refine AW.callVv (M' := mX10_takesOff) (F' := 0) (as := [aI r5]) (pc := 14) dX10_keepsMove_14 (by decide) kX10_takesOff ml_10_284 ob_85 rfl npX10_takesOff (Nat.le_of_ble_eq_true rfl) (aRun.mono (fun r7 h8 H_8 => ?_) H_7)
    refine AW.aload_n (pc := 17) dX10_keepsMove_17 rfl ?_
    refine AW.getr (k := 35) (pc := 18) dX10_keepsMove_18 ac_10 sh_85 rfl (by decide) fl_10_78 ?_
    refine AW.aload_n (pc := 21) dX10_keepsMove_21 rfl ?_
    refine AW.geti' (k := 36) (j := 36) (pc := 22) dX10_keepsMove_22 ac_10 sh_85 rfl (by decide) fl_10_278 rfl (v := (h8 85 36)) rfl ?_
    refine AW.iload_n (pc := 25) dX10_keepsMove_25 rfl ?_
    refine AW.iast (pc := 26) dX10_keepsMove_26 sh_107 (H_8.1) ?_
    refine AW.aload_n (pc := 27) dX10_keepsMove_27 rfl ?_
    refine AW.dup (pc := 28) dX10_keepsMove_28 rfl ?_
    refine AW.geti' (k := 36) (j := 36) (pc := 29) dX10_keepsMove_29 ac_10 sh_85 rfl (by decide) fl_10_278 rfl (v := (h8 85 36)) (by rw [a_up_ne (by decide)]) ?_
    refine AW.iconst (pc := 32) dX10_keepsMove_32 ⟨by decide, by decide⟩ ?_
    refine AW.iadd (pc := 33) dX10_keepsMove_33 (H_8.2.1) ?_
    refine AW.puti' (k := 36) (j := 36) (pc := 34) dX10_keepsMove_34 ac_10 sh_85 rfl (by decide) fl_10_278 rfl rfl (tyX10_ok 36 (by decide)) (Or.inl rfl) ?_
    refine AW.aload_n (pc := 37) dX10_keepsMove_37 rfl ?_
    refine AW.geti' (k := 36) (j := 36) (pc := 38) dX10_keepsMove_38 ac_10 sh_85 rfl (by decide) fl_10_278 rfl (v := ((h8 85 36) + 1)) (by rw [a_up_eq]) ?_
    refine AW.aload_n (pc := 41) dX10_keepsMove_41 rfl ?_
    refine AW.geti' (k := 34) (j := 34) (pc := 42) dX10_keepsMove_42 ac_10 sh_85 rfl (by decide) fl_10_74 rfl (v := (h8 85 34)) (by rw [a_up_off (by decide), a_up_ne (by decide)]) ?_
    refine AW.icmp_le (tgt := 53) (pc := 45) dX10_keepsMove_45 rfl (fun q => ?_) (fun q => ?_)
    · skip
      have H_9 := H_8.2.2.1 q
      refine AW.vret (pc := 53) dX10_keepsMove_53 rfl ?_
      exact H_9
    · skip
      have H_10 := H_8.2.2.2 q
      refine AW.aload_n (pc := 48) dX10_keepsMove_48 rfl ?_
      refine AW.iconst (pc := 49) dX10_keepsMove_49 ⟨by decide, by decide⟩ ?_
      refine AW.callVv (M' := mX10_takesOff) (F' := 0) (as := [aI 0]) (pc := 50) dX10_keepsMove_50 (by decide) kX10_takesOff ml_10_284 ob_85 rfl npX10_takesOff (Nat.le_of_ble_eq_true rfl) (aRun.mono (fun r9 h10 H_11 => ?_) H_10)
      refine AW.vret (pc := 53) dX10_keepsMove_53 rfl ?_
      exact H_11
def f_X10_toldAt (h : aH) (r : Nat) (n : Nat) (a1 : Int) (a2 : Int) : Int := (if 0 ≤ a2 then (if a1 ≤ a2 then ((-2) : Int) else (h r a2)) else a1)
def o_X10_toldAt (h : aH) (r : Nat) (n : Nat) (a1 : Int) (a2 : Int) : Prop := ((0 ≤ a2 → (¬ (a1 ≤ a2) → (0 ≤ a2 ∧ a2 < n))))
set_option maxRecDepth 100000 in
set_option maxHeartbeats 4000000 in
theorem p_X10_toldAt {r : Nat} {n : Nat} {br : Nat} (hr : a_T[r]? = some (.inl (0, n, br))) {a1 a2 : Int} {h : aH} {Q : aQ} (o : o_X10_toldAt h r n a1 a2) (k : Q (f_X10_toldAt h r n a1 a2) h) : aRun mX10_toldAt 0 [aR r, aI a1, aI a2] h Q := by
  unfold f_X10_toldAt at k
  unfold o_X10_toldAt at o
  refine aRun.of pn_10 rfl (Nat.le_of_ble_eq_true rfl) ?_
  show AW mX10_toldAt 0 0 [some (aR r), some (aI a1), some (aI a2)] [] h Q
  refine AW.iload_n (pc := 0) dX10_toldAt_0 rfl ?_
  have K_1 : AW mX10_toldAt 0 21 [some (aR r), some (aI a1), some (aI a2)] [aI (if 0 ≤ a2 then (if a1 ≤ a2 then ((-2) : Int) else (h r a2)) else a1)] h Q := by
    refine AW.iret (pc := 21) dX10_toldAt_21 rfl ?_
    exact k
  have H_3 := o
  refine AW.if_ge (tgt := 8) (pc := 1) dX10_toldAt_1 rfl (fun q => ?_) (fun q => ?_)
  · skip
    have H_4 := H_3 q
    rw [if_pos q] at K_1
    refine AW.iload_n (pc := 8) dX10_toldAt_8 rfl ?_
    refine AW.iload_n (pc := 9) dX10_toldAt_9 rfl ?_
    refine AW.icmp_ge (tgt := 19) (pc := 10) dX10_toldAt_10 rfl (fun q => ?_) (fun q => ?_)
    · skip
      rw [if_pos q] at K_1
      refine AW.bipush (pc := 19) dX10_toldAt_19 rfl ⟨by decide, by decide⟩ ?_
      exact K_1
    · skip
      have H_6 := H_4 q
      rw [if_neg q] at K_1
      refine AW.aload_n (pc := 13) dX10_toldAt_13 rfl ?_
      refine AW.iload_n (pc := 14) dX10_toldAt_14 rfl ?_
      refine AW.iald (pc := 15) dX10_toldAt_15 hr H_6 (v := (h r a2)) rfl ?_
      refine AW.goto (tgt := 21) (pc := 16) dX10_toldAt_16 rfl ?_
      exact K_1
  · skip
    rw [if_neg q] at K_1
    refine AW.iload_n (pc := 4) dX10_toldAt_4 rfl ?_
    refine AW.goto (tgt := 21) (pc := 5) dX10_toldAt_5 rfl ?_
    exact K_1
def f_X10_kept (h : aH) (a1 : Int) : Int := (if (-1) ≤ a1 then (f_X10_toldAt h 107 10 (h 85 36) a1) else ((-1) : Int))
def o_X10_kept (h : aH) (a1 : Int) : Prop := (((-1) ≤ a1 → o_X10_toldAt h 107 10 (h 85 36) a1))
set_option maxRecDepth 100000 in
set_option maxHeartbeats 4000000 in
theorem p_X10_kept {a1 : Int} {h : aH} {Q : aQ} (o : o_X10_kept h a1) (k : Q (f_X10_kept h a1) h) : aRun mX10_kept 1 [aR 85, aI a1] h Q := by
  unfold f_X10_kept at k
  unfold o_X10_kept at o
  refine aRun.of pn_10 rfl (Nat.le_of_ble_eq_true rfl) ?_
  show AW mX10_kept 1 0 [some (aR 85), some (aI a1)] [] h Q
  refine AW.iload_n (pc := 0) dX10_kept_0 rfl ?_
  refine AW.iconst (pc := 1) dX10_kept_1 ⟨by decide, by decide⟩ ?_
  have K_1 : AW mX10_kept 1 21 [some (aR 85), some (aI a1)] [aI (if (-1) ≤ a1 then (f_X10_toldAt h 107 10 (h 85 36) a1) else ((-1) : Int))] h Q := by
    refine AW.iret (pc := 21) dX10_kept_21 rfl ?_
    exact k
  have H_3 := o
  refine AW.icmp_ge (tgt := 9) (pc := 2) dX10_kept_2 rfl (fun q => ?_) (fun q => ?_)
  · skip
    have H_4 := H_3 q
    rw [if_pos q] at K_1
    refine AW.aload_n (pc := 9) dX10_kept_9 rfl ?_
    refine AW.getr (k := 35) (pc := 10) dX10_kept_10 ac_10 sh_85 rfl (by decide) fl_10_78 ?_
    refine AW.aload_n (pc := 13) dX10_kept_13 rfl ?_
    refine AW.geti' (k := 36) (j := 36) (pc := 14) dX10_kept_14 ac_10 sh_85 rfl (by decide) fl_10_278 rfl (v := (h 85 36)) rfl ?_
    refine AW.iload_n (pc := 17) dX10_kept_17 rfl ?_
    refine AW.callSi (M' := mX10_toldAt) (F' := 0) (as := [aR 107, aI (h 85 36), aI a1]) (pc := 18) dX10_kept_18 (by decide) kX10_toldAt ml_10_247 rfl npX10_toldAt (Nat.le_of_ble_eq_true rfl) (p_X10_toldAt sh_107 H_4 ?_)
    exact K_1
  · skip
    rw [if_neg q] at K_1
    refine AW.iconst (pc := 5) dX10_kept_5 ⟨by decide, by decide⟩ ?_
    refine AW.goto (tgt := 21) (pc := 6) dX10_kept_6 rfl ?_
    exact K_1
set_option maxRecDepth 100000 in
set_option maxHeartbeats 4000000 in
theorem e_X10_nextAt {a1 : Int} {h : aH} {Q : aQ} (H : AW mX10_nextAt 2 4 [some (aR 85), some (aI a1), some (aI (-1)), some (aI 0), none] [] h Q) : aRun mX10_nextAt 2 [aR 85, aI a1] h Q := by
  refine aRun.of pn_10 rfl (Nat.le_of_ble_eq_true rfl) ?_
  show AW mX10_nextAt 2 0 [some (aR 85), some (aI a1), none, none, none] [] h Q
  refine AW.iconst (pc := 0) dX10_nextAt_0 ⟨by decide, by decide⟩ ?_
  refine AW.istore_n (pc := 1) dX10_nextAt_1 (by decide) rfl ?_
  refine AW.iconst (pc := 2) dX10_nextAt_2 ⟨by decide, by decide⟩ ?_
  refine AW.istore_n (pc := 3) dX10_nextAt_3 (by decide) rfl ?_
  exact H
set_option maxRecDepth 100000 in
set_option maxHeartbeats 4000000 in
theorem s_X10_nextAt_4  {l1 l2 l3 : Int} {h : aH} {Q : aQ} (H : (((h 85 46) ≤ l3 → Q l2 h) ∧ (¬ ((h 85 46) ≤ l3) → (0 ≤ l3 ∧ l3 < 24) ∧ (((h 114 l3) ≤ 0 → (((0 : Int) = (0 : Int) → inR (l3 + 1) ∧ AW mX10_nextAt 2 4 [some (aR 85), some (aI l1), some (aI l2), some (aI (l3 + 1)), none] [] h Q) ∧ (¬ ((0 : Int) = (0 : Int)) → ((l2 < 0 → inR (l3 + 1) ∧ AW mX10_nextAt 2 4 [some (aR 85), some (aI l1), some (aI l3), some (aI (l3 + 1)), none] [] h Q) ∧ (¬ (l2 < 0) → aRun mX10_tailOf 1 [aR 85, aI (h 113 l3)] h (fun r1 h2 => (0 ≤ l2 ∧ l2 < 24) ∧ aRun mX10_tailOf 1 [aR 85, aI (h2 113 l2)] h2 (fun r3 h4 => ((r1 ≤ r3 → inR (l3 + 1) ∧ AW mX10_nextAt 2 4 [some (aR 85), some (aI l1), some (aI l2), some (aI (l3 + 1)), none] [] h4 Q) ∧ (¬ (r1 ≤ r3) → inR (l3 + 1) ∧ AW mX10_nextAt 2 4 [some (aR 85), some (aI l1), some (aI l3), some (aI (l3 + 1)), none] [] h4 Q))))))))) ∧ (¬ ((h 114 l3) ≤ 0) → aRun mX10_headOf 0 [aR 85, aI (h 113 l3)] h (fun r5 h6 => (((if l1 < r5 then (0 : Int) else (1 : Int)) = 0 → inR (l3 + 1) ∧ AW mX10_nextAt 2 4 [some (aR 85), some (aI l1), some (aI l2), some (aI (l3 + 1)), none] [] h6 Q) ∧ (¬ ((if l1 < r5 then (0 : Int) else (1 : Int)) = 0) → ((l2 < 0 → inR (l3 + 1) ∧ AW mX10_nextAt 2 4 [some (aR 85), some (aI l1), some (aI l3), some (aI (l3 + 1)), none] [] h6 Q) ∧ (¬ (l2 < 0) → aRun mX10_tailOf 1 [aR 85, aI (h6 113 l3)] h6 (fun r7 h8 => (0 ≤ l2 ∧ l2 < 24) ∧ aRun mX10_tailOf 1 [aR 85, aI (h8 113 l2)] h8 (fun r9 h10 => ((r7 ≤ r9 → inR (l3 + 1) ∧ AW mX10_nextAt 2 4 [some (aR 85), some (aI l1), some (aI l2), some (aI (l3 + 1)), none] [] h10 Q) ∧ (¬ (r7 ≤ r9) → inR (l3 + 1) ∧ AW mX10_nextAt 2 4 [some (aR 85), some (aI l1), some (aI l3), some (aI (l3 + 1)), none] [] h10 Q)))))))))))))) : AW mX10_nextAt 2 4 [some (aR 85), some (aI l1), some (aI l2), some (aI l3), none] [] h Q := by
  refine AW.iload_n (pc := 4) dX10_nextAt_4 rfl ?_
  refine AW.aload_n (pc := 5) dX10_nextAt_5 rfl ?_
  refine AW.geti' (k := 46) (j := 46) (pc := 6) dX10_nextAt_6 ac_10 sh_85 rfl (by decide) fl_10_329 rfl (v := (h 85 46)) rfl ?_
  refine AW.icmp_ge (tgt := 82) (pc := 9) dX10_nextAt_9 rfl (fun q => ?_) (fun q => ?_)
  · skip
    have H_1 := H.1 q
    refine AW.iload_n (pc := 82) dX10_nextAt_82 rfl ?_
    refine AW.iret (pc := 83) dX10_nextAt_83 rfl ?_
    exact H_1
  · skip
    have H_2 := H.2 q
    refine AW.aload_n (pc := 12) dX10_nextAt_12 rfl ?_
    refine AW.getr (k := 47) (pc := 13) dX10_nextAt_13 ac_10 sh_85 rfl (by decide) fl_10_99 ?_
    refine AW.iload_n (pc := 16) dX10_nextAt_16 rfl ?_
    refine AW.iald (pc := 17) dX10_nextAt_17 sh_114 (H_2.1) (v := (h 114 l3)) rfl ?_
    refine AW.if_le (tgt := 39) (pc := 18) dX10_nextAt_18 rfl (fun q => ?_) (fun q => ?_)
    · skip
      have H_3 := H_2.2.1 q
      refine AW.iconst (pc := 39) dX10_nextAt_39 ⟨by decide, by decide⟩ ?_
      refine AW.istore (pc := 40) dX10_nextAt_40 (by decide) rfl ?_
      refine AW.iload (pc := 42) dX10_nextAt_42 rfl ?_
      refine AW.if_eq (tgt := 76) (pc := 44) dX10_nextAt_44 rfl (fun q => ?_) (fun q => ?_)
      · skip
        have H_4 := H_3.1 q
        refine AW.iinc (pc := 76) dX10_nextAt_76 rfl (by decide) rfl (H_4.1) ?_
        refine AW.goto (tgt := 4) (pc := 79) dX10_nextAt_79 rfl ?_
        refine AW.mask [true, true, true, true, false] ?_
        exact H_4.2
      · skip
        have H_5 := H_3.2 q
        refine AW.iload_n (pc := 47) dX10_nextAt_47 rfl ?_
        refine AW.if_lt (tgt := 74) (pc := 48) dX10_nextAt_48 rfl (fun q => ?_) (fun q => ?_)
        · skip
          have H_6 := H_5.1 q
          refine AW.iload_n (pc := 74) dX10_nextAt_74 rfl ?_
          refine AW.istore_n (pc := 75) dX10_nextAt_75 (by decide) rfl ?_
          refine AW.iinc (pc := 76) dX10_nextAt_76 rfl (by decide) rfl (H_6.1) ?_
          refine AW.goto (tgt := 4) (pc := 79) dX10_nextAt_79 rfl ?_
          refine AW.mask [true, true, true, true, false] ?_
          exact H_6.2
        · skip
          have H_7 := H_5.2 q
          refine AW.aload_n (pc := 51) dX10_nextAt_51 rfl ?_
          refine AW.aload_n (pc := 52) dX10_nextAt_52 rfl ?_
          refine AW.getr (k := 45) (pc := 53) dX10_nextAt_53 ac_10 sh_85 rfl (by decide) fl_10_96 ?_
          refine AW.iload_n (pc := 56) dX10_nextAt_56 rfl ?_
          refine AW.iald (pc := 57) dX10_nextAt_57 sh_113 (H_2.1) (v := (h 113 l3)) rfl ?_
          refine AW.callVi (M' := mX10_tailOf) (F' := 1) (as := [aI (h 113 l3)]) (pc := 58) dX10_nextAt_58 (by decide) kX10_tailOf ml_10_335 ob_85 rfl npX10_tailOf (Nat.le_of_ble_eq_true rfl) (aRun.mono (fun r1 h2 H_8 => ?_) H_7)
          refine AW.aload_n (pc := 61) dX10_nextAt_61 rfl ?_
          refine AW.aload_n (pc := 62) dX10_nextAt_62 rfl ?_
          refine AW.getr (k := 45) (pc := 63) dX10_nextAt_63 ac_10 sh_85 rfl (by decide) fl_10_96 ?_
          refine AW.iload_n (pc := 66) dX10_nextAt_66 rfl ?_
          refine AW.iald (pc := 67) dX10_nextAt_67 sh_113 (H_8.1) (v := (h2 113 l2)) rfl ?_
          refine AW.callVi (M' := mX10_tailOf) (F' := 1) (as := [aI (h2 113 l2)]) (pc := 68) dX10_nextAt_68 (by decide) kX10_tailOf ml_10_335 ob_85 rfl npX10_tailOf (Nat.le_of_ble_eq_true rfl) (aRun.mono (fun r3 h4 H_9 => ?_) H_8.2)
          refine AW.icmp_le (tgt := 76) (pc := 71) dX10_nextAt_71 rfl (fun q => ?_) (fun q => ?_)
          · skip
            have H_10 := H_9.1 q
            refine AW.iinc (pc := 76) dX10_nextAt_76 rfl (by decide) rfl (H_10.1) ?_
            refine AW.goto (tgt := 4) (pc := 79) dX10_nextAt_79 rfl ?_
            refine AW.mask [true, true, true, true, false] ?_
            exact H_10.2
          · skip
            have H_11 := H_9.2 q
            refine AW.iload_n (pc := 74) dX10_nextAt_74 rfl ?_
            refine AW.istore_n (pc := 75) dX10_nextAt_75 (by decide) rfl ?_
            refine AW.iinc (pc := 76) dX10_nextAt_76 rfl (by decide) rfl (H_11.1) ?_
            refine AW.goto (tgt := 4) (pc := 79) dX10_nextAt_79 rfl ?_
            refine AW.mask [true, true, true, true, false] ?_
            exact H_11.2
    · skip
      have H_12 := H_2.2.2 q
      refine AW.aload_n (pc := 21) dX10_nextAt_21 rfl ?_
      refine AW.aload_n (pc := 22) dX10_nextAt_22 rfl ?_
      refine AW.getr (k := 45) (pc := 23) dX10_nextAt_23 ac_10 sh_85 rfl (by decide) fl_10_96 ?_
      refine AW.iload_n (pc := 26) dX10_nextAt_26 rfl ?_
      refine AW.iald (pc := 27) dX10_nextAt_27 sh_113 (H_2.1) (v := (h 113 l3)) rfl ?_
      refine AW.callVi (M' := mX10_headOf) (F' := 0) (as := [aI (h 113 l3)]) (pc := 28) dX10_nextAt_28 (by decide) kX10_headOf ml_10_332 ob_85 rfl npX10_headOf (Nat.le_of_ble_eq_true rfl) (aRun.mono (fun r5 h6 H_13 => ?_) H_12)
      refine AW.iload_n (pc := 31) dX10_nextAt_31 rfl ?_
      have K_14 : AW mX10_nextAt 2 40 [some (aR 85), some (aI l1), some (aI l2), some (aI l3), none] [aI (if l1 < r5 then (0 : Int) else (1 : Int))] h6 Q := by
        have H_15 := H_13
        refine AW.istore (pc := 40) dX10_nextAt_40 (by decide) rfl ?_
        refine AW.iload (pc := 42) dX10_nextAt_42 rfl ?_
        refine AW.if_eq (tgt := 76) (pc := 44) dX10_nextAt_44 rfl (fun q => ?_) (fun q => ?_)
        · skip
          have H_17 := H_15.1 q
          refine AW.iinc (pc := 76) dX10_nextAt_76 rfl (by decide) rfl (H_17.1) ?_
          refine AW.goto (tgt := 4) (pc := 79) dX10_nextAt_79 rfl ?_
          refine AW.mask [true, true, true, true, false] ?_
          exact H_17.2
        · skip
          have H_18 := H_15.2 q
          refine AW.iload_n (pc := 47) dX10_nextAt_47 rfl ?_
          refine AW.if_lt (tgt := 74) (pc := 48) dX10_nextAt_48 rfl (fun q => ?_) (fun q => ?_)
          · skip
            have H_19 := H_18.1 q
            refine AW.iload_n (pc := 74) dX10_nextAt_74 rfl ?_
            refine AW.istore_n (pc := 75) dX10_nextAt_75 (by decide) rfl ?_
            refine AW.iinc (pc := 76) dX10_nextAt_76 rfl (by decide) rfl (H_19.1) ?_
            refine AW.goto (tgt := 4) (pc := 79) dX10_nextAt_79 rfl ?_
            refine AW.mask [true, true, true, true, false] ?_
            exact H_19.2
          · skip
            have H_20 := H_18.2 q
            refine AW.aload_n (pc := 51) dX10_nextAt_51 rfl ?_
            refine AW.aload_n (pc := 52) dX10_nextAt_52 rfl ?_
            refine AW.getr (k := 45) (pc := 53) dX10_nextAt_53 ac_10 sh_85 rfl (by decide) fl_10_96 ?_
            refine AW.iload_n (pc := 56) dX10_nextAt_56 rfl ?_
            refine AW.iald (pc := 57) dX10_nextAt_57 sh_113 (H_2.1) (v := (h6 113 l3)) rfl ?_
            refine AW.callVi (M' := mX10_tailOf) (F' := 1) (as := [aI (h6 113 l3)]) (pc := 58) dX10_nextAt_58 (by decide) kX10_tailOf ml_10_335 ob_85 rfl npX10_tailOf (Nat.le_of_ble_eq_true rfl) (aRun.mono (fun r7 h8 H_21 => ?_) H_20)
            refine AW.aload_n (pc := 61) dX10_nextAt_61 rfl ?_
            refine AW.aload_n (pc := 62) dX10_nextAt_62 rfl ?_
            refine AW.getr (k := 45) (pc := 63) dX10_nextAt_63 ac_10 sh_85 rfl (by decide) fl_10_96 ?_
            refine AW.iload_n (pc := 66) dX10_nextAt_66 rfl ?_
            refine AW.iald (pc := 67) dX10_nextAt_67 sh_113 (H_21.1) (v := (h8 113 l2)) rfl ?_
            refine AW.callVi (M' := mX10_tailOf) (F' := 1) (as := [aI (h8 113 l2)]) (pc := 68) dX10_nextAt_68 (by decide) kX10_tailOf ml_10_335 ob_85 rfl npX10_tailOf (Nat.le_of_ble_eq_true rfl) (aRun.mono (fun r9 h10 H_22 => ?_) H_21.2)
            refine AW.icmp_le (tgt := 76) (pc := 71) dX10_nextAt_71 rfl (fun q => ?_) (fun q => ?_)
            · skip
              have H_23 := H_22.1 q
              refine AW.iinc (pc := 76) dX10_nextAt_76 rfl (by decide) rfl (H_23.1) ?_
              refine AW.goto (tgt := 4) (pc := 79) dX10_nextAt_79 rfl ?_
              refine AW.mask [true, true, true, true, false] ?_
              exact H_23.2
            · skip
              have H_24 := H_22.2 q
              refine AW.iload_n (pc := 74) dX10_nextAt_74 rfl ?_
              refine AW.istore_n (pc := 75) dX10_nextAt_75 (by decide) rfl ?_
              refine AW.iinc (pc := 76) dX10_nextAt_76 rfl (by decide) rfl (H_24.1) ?_
              refine AW.goto (tgt := 4) (pc := 79) dX10_nextAt_79 rfl ?_
              refine AW.mask [true, true, true, true, false] ?_
              exact H_24.2
      refine AW.icmp_gt (tgt := 39) (pc := 32) dX10_nextAt_32 rfl (fun q => ?_) (fun q => ?_)
      · skip
        rw [if_pos q] at K_14
        refine AW.iconst (pc := 39) dX10_nextAt_39 ⟨by decide, by decide⟩ ?_
        exact K_14
      · skip
        rw [if_neg q] at K_14
        refine AW.iconst (pc := 35) dX10_nextAt_35 ⟨by decide, by decide⟩ ?_
        refine AW.goto (tgt := 40) (pc := 36) dX10_nextAt_36 rfl ?_
        exact K_14
set_option maxRecDepth 100000 in
set_option maxHeartbeats 4000000 in
theorem e_X10_preempted  {h : aH} {Q : aQ} (H : AW mX10_preempted 3 4 [some (aR 85), some (aI 0), some (aI 0), none, none] [] h Q) : aRun mX10_preempted 3 [aR 85] h Q := by
  refine aRun.of pn_10 rfl (Nat.le_of_ble_eq_true rfl) ?_
  show AW mX10_preempted 3 0 [some (aR 85), none, none, none, none] [] h Q
  refine AW.iconst (pc := 0) dX10_preempted_0 ⟨by decide, by decide⟩ ?_
  refine AW.istore_n (pc := 1) dX10_preempted_1 (by decide) rfl ?_
  refine AW.iconst (pc := 2) dX10_preempted_2 ⟨by decide, by decide⟩ ?_
  refine AW.istore_n (pc := 3) dX10_preempted_3 (by decide) rfl ?_
  exact H
set_option maxRecDepth 100000 in
set_option maxHeartbeats 4000000 in
theorem s_X10_preempted_4  {l1 l2 : Int} {h : aH} {Q : aQ} (H : (((h 85 46) ≤ l2 → AW mX10_preempted 3 48 [some (aR 85), some (aI l1), some (aI 0), some (aI 0), none] [] h Q) ∧ (¬ ((h 85 46) ≤ l2) → (0 ≤ l2 ∧ l2 < 24) ∧ (0 ≤ (h 113 l2) ∧ (h 113 l2) < 24) ∧ inR (l1 + (h 89 (h 113 l2))) ∧ inR (l2 + 1) ∧ AW mX10_preempted 3 4 [some (aR 85), some (aI (l1 + (h 89 (h 113 l2)))), some (aI (l2 + 1)), none, none] [] (a_up h 114 l2 (h 89 (h 113 l2))) Q))) : AW mX10_preempted 3 4 [some (aR 85), some (aI l1), some (aI l2), none, none] [] h Q := by
  refine AW.iload_n (pc := 4) dX10_preempted_4 rfl ?_
  refine AW.aload_n (pc := 5) dX10_preempted_5 rfl ?_
  refine AW.geti' (k := 46) (j := 46) (pc := 6) dX10_preempted_6 ac_10 sh_85 rfl (by decide) fl_10_329 rfl (v := (h 85 46)) rfl ?_
  refine AW.icmp_ge (tgt := 44) (pc := 9) dX10_preempted_9 rfl (fun q => ?_) (fun q => ?_)
  · skip
    have H_1 := H.1 q
    refine AW.iconst (pc := 44) dX10_preempted_44 ⟨by decide, by decide⟩ ?_
    refine AW.istore_n (pc := 45) dX10_preempted_45 (by decide) rfl ?_
    refine AW.iconst (pc := 46) dX10_preempted_46 ⟨by decide, by decide⟩ ?_
    refine AW.istore_n (pc := 47) dX10_preempted_47 (by decide) rfl ?_
    exact H_1
  · skip
    have H_2 := H.2 q
    refine AW.aload_n (pc := 12) dX10_preempted_12 rfl ?_
    refine AW.getr (k := 47) (pc := 13) dX10_preempted_13 ac_10 sh_85 rfl (by decide) fl_10_99 ?_
    refine AW.iload_n (pc := 16) dX10_preempted_16 rfl ?_
    refine AW.aload_n (pc := 17) dX10_preempted_17 rfl ?_
    refine AW.getr (k := 5) (pc := 18) dX10_preempted_18 ac_10 sh_85 rfl (by decide) fl_10_19 ?_
    refine AW.aload_n (pc := 21) dX10_preempted_21 rfl ?_
    refine AW.getr (k := 45) (pc := 22) dX10_preempted_22 ac_10 sh_85 rfl (by decide) fl_10_96 ?_
    refine AW.iload_n (pc := 25) dX10_preempted_25 rfl ?_
    refine AW.iald (pc := 26) dX10_preempted_26 sh_113 (H_2.1) (v := (h 113 l2)) rfl ?_
    refine AW.iald (pc := 27) dX10_preempted_27 sh_89 (H_2.2.1) (v := (h 89 (h 113 l2))) rfl ?_
    refine AW.iast (pc := 28) dX10_preempted_28 sh_114 (H_2.1) ?_
    refine AW.iload_n (pc := 29) dX10_preempted_29 rfl ?_
    refine AW.aload_n (pc := 30) dX10_preempted_30 rfl ?_
    refine AW.getr (k := 47) (pc := 31) dX10_preempted_31 ac_10 sh_85 rfl (by decide) fl_10_99 ?_
    refine AW.iload_n (pc := 34) dX10_preempted_34 rfl ?_
    refine AW.iald (pc := 35) dX10_preempted_35 sh_114 (H_2.1) (v := (h 89 (h 113 l2))) (by rw [a_up_eq]) ?_
    refine AW.iadd (pc := 36) dX10_preempted_36 (H_2.2.2.1) ?_
    refine AW.istore_n (pc := 37) dX10_preempted_37 (by decide) rfl ?_
    refine AW.iinc (pc := 38) dX10_preempted_38 rfl (by decide) rfl (H_2.2.2.2.1) ?_
    refine AW.goto (tgt := 4) (pc := 41) dX10_preempted_41 rfl ?_
    exact H_2.2.2.2.2
set_option maxRecDepth 100000 in
set_option maxHeartbeats 4000000 in
theorem s_X10_preempted_48  {l1 l2 l3 : Int} {h : aH} {Q : aQ} (H : ((l1 ≤ 0 → Q l2 h) ∧ (¬ (l1 ≤ 0) → aRun mX10_nextAt 2 [aR 85, aI l3] h (fun r1 h2 => ((r1 < 0 → inR (l3 + 1) ∧ AW mX10_preempted 3 48 [some (aR 85), some (aI l1), some (aI l2), some (aI (l3 + 1)), none] [] h2 Q) ∧ (¬ (r1 < 0) → (0 ≤ r1 ∧ r1 < 24) ∧ inR ((h2 114 r1) - 1) ∧ inR (l1 + (-1)) ∧ ((((h2 114 r1) - 1) = 0 → inR (l3 + 1) ∧ aRun mX10_tailOf 1 [aR 85, aI (h2 113 r1)] (a_up h2 114 r1 ((h2 114 r1) - 1)) (fun r3 h4 => inR ((l3 + 1) + r3) ∧ AW mX10_preempted 3 48 [some (aR 85), some (aI (l1 + (-1))), some (aI (max l2 ((l3 + 1) + r3))), some (aI (l3 + 1)), none] [] h4 Q)) ∧ (¬ (((h2 114 r1) - 1) = 0) → inR (l3 + 1) ∧ AW mX10_preempted 3 48 [some (aR 85), some (aI (l1 + (-1))), some (aI l2), some (aI (l3 + 1)), none] [] (a_up h2 114 r1 ((h2 114 r1) - 1)) Q)))))))) : AW mX10_preempted 3 48 [some (aR 85), some (aI l1), some (aI l2), some (aI l3), none] [] h Q := by
  refine AW.iload_n (pc := 48) dX10_preempted_48 rfl ?_
  refine AW.if_le (tgt := 118) (pc := 49) dX10_preempted_49 rfl (fun q => ?_) (fun q => ?_)
  · skip
    have H_1 := H.1 q
    refine AW.iload_n (pc := 118) dX10_preempted_118 rfl ?_
    refine AW.iret (pc := 119) dX10_preempted_119 rfl ?_
    exact H_1
  · skip
    have H_2 := H.2 q
    refine AW.aload_n (pc := 52) dX10_preempted_52 rfl ?_
    refine AW.iload_n (pc := 53) dX10_preempted_53 rfl ?_
    refine AW.callVi (M' := mX10_nextAt) (F' := 2) (as := [aI l3]) (pc := 54) dX10_preempted_54 (by decide) kX10_nextAt ml_10_342 ob_85 rfl npX10_nextAt (Nat.le_of_ble_eq_true rfl) (aRun.mono (fun r1 h2 H_3 => ?_) H_2)
    refine AW.istore (pc := 57) dX10_preempted_57 (by decide) rfl ?_
    refine AW.iload (pc := 59) dX10_preempted_59 rfl ?_
    refine AW.if_lt (tgt := 112) (pc := 61) dX10_preempted_61 rfl (fun q => ?_) (fun q => ?_)
    · skip
      have H_4 := H_3.1 q
      refine AW.iinc (pc := 112) dX10_preempted_112 rfl (by decide) rfl (H_4.1) ?_
      refine AW.goto (tgt := 48) (pc := 115) dX10_preempted_115 rfl ?_
      refine AW.mask [true, true, true, true, false] ?_
      exact H_4.2
    · skip
      have H_5 := H_3.2 q
      refine AW.aload_n (pc := 64) dX10_preempted_64 rfl ?_
      refine AW.getr (k := 47) (pc := 65) dX10_preempted_65 ac_10 sh_85 rfl (by decide) fl_10_99 ?_
      refine AW.iload (pc := 68) dX10_preempted_68 rfl ?_
      refine AW.dup2 (pc := 70) dX10_preempted_70 rfl rfl ?_
      refine AW.iald (pc := 71) dX10_preempted_71 sh_114 (H_5.1) (v := (h2 114 r1)) rfl ?_
      refine AW.iconst (pc := 72) dX10_preempted_72 ⟨by decide, by decide⟩ ?_
      refine AW.isub (pc := 73) dX10_preempted_73 (H_5.2.1) ?_
      refine AW.iast (pc := 74) dX10_preempted_74 sh_114 (H_5.1) ?_
      refine AW.iinc (pc := 75) dX10_preempted_75 rfl (by decide) rfl (H_5.2.2.1) ?_
      refine AW.aload_n (pc := 78) dX10_preempted_78 rfl ?_
      refine AW.getr (k := 47) (pc := 79) dX10_preempted_79 ac_10 sh_85 rfl (by decide) fl_10_99 ?_
      refine AW.iload (pc := 82) dX10_preempted_82 rfl ?_
      refine AW.iald (pc := 84) dX10_preempted_84 sh_114 (H_5.1) (v := ((h2 114 r1) - 1)) (by rw [a_up_eq]) ?_
      refine AW.if_ne (tgt := 110) (pc := 85) dX10_preempted_85 rfl (fun q => ?_) (fun q => ?_)
      · skip
        have H_6 := H_5.2.2.2.2 q
        refine AW.iload_n (pc := 110) dX10_preempted_110 rfl ?_
        refine AW.istore_n (pc := 111) dX10_preempted_111 (by decide) rfl ?_
        refine AW.iinc (pc := 112) dX10_preempted_112 rfl (by decide) rfl (H_6.1) ?_
        refine AW.goto (tgt := 48) (pc := 115) dX10_preempted_115 rfl ?_
        refine AW.mask [true, true, true, true, false] ?_
        exact H_6.2
      · have q := Decidable.not_not.mp q
        have H_7 := H_5.2.2.2.1 q
        refine AW.iload_n (pc := 88) dX10_preempted_88 rfl ?_
        refine AW.iload_n (pc := 89) dX10_preempted_89 rfl ?_
        refine AW.iconst (pc := 90) dX10_preempted_90 ⟨by decide, by decide⟩ ?_
        refine AW.iadd (pc := 91) dX10_preempted_91 (H_7.1) ?_
        refine AW.aload_n (pc := 92) dX10_preempted_92 rfl ?_
        refine AW.aload_n (pc := 93) dX10_preempted_93 rfl ?_
        refine AW.getr (k := 45) (pc := 94) dX10_preempted_94 ac_10 sh_85 rfl (by decide) fl_10_96 ?_
        refine AW.iload (pc := 97) dX10_preempted_97 rfl ?_
        refine AW.iald (pc := 99) dX10_preempted_99 sh_113 (H_5.1) (v := (h2 113 r1)) (by rw [a_up_ne (by decide)]) ?_
        refine AW.callVi (M' := mX10_tailOf) (F' := 1) (as := [aI (h2 113 r1)]) (pc := 100) dX10_preempted_100 (by decide) kX10_tailOf ml_10_335 ob_85 rfl npX10_tailOf (Nat.le_of_ble_eq_true rfl) (aRun.mono (fun r3 h4 H_8 => ?_) H_7.2)
        refine AW.iadd (pc := 103) dX10_preempted_103 (H_8.1) ?_
        refine AW.mmax (pc := 104) dX10_preempted_104 (by decide) ml_10_214 (Nat.le_of_ble_eq_true rfl) ?_
        refine AW.goto (tgt := 111) (pc := 107) dX10_preempted_107 rfl ?_
        refine AW.istore_n (pc := 111) dX10_preempted_111 (by decide) rfl ?_
        refine AW.iinc (pc := 112) dX10_preempted_112 rfl (by decide) rfl (H_7.1) ?_
        refine AW.goto (tgt := 48) (pc := 115) dX10_preempted_115 rfl ?_
        refine AW.mask [true, true, true, true, false] ?_
        exact H_8.2
set_option maxRecDepth 100000 in
set_option maxHeartbeats 4000000 in
theorem e_X10_machine {a1 a2 : Int} {h : aH} {Q : aQ} (H : (((f_X10_isMachine h a1) = 0 → Q (-1) h) ∧ (¬ ((f_X10_isMachine h a1) = 0) → (((f_X10_in h a2 0 1) = 0 → Q (-1) h) ∧ (¬ ((f_X10_in h a2 0 1) = 0) → (((h 85 1) = 0 → Q (-5) h) ∧ (¬ ((h 85 1) = 0) → ((a2 = 0 → aRun mX10_alone 21 [aR 85, aI a1] h (fun r5 h6 => Q r5 h6)) ∧ (¬ (a2 = 0) → aRun mX10_takes 0 [aR 85, aI a1] h (fun r1 h2 => (((h2 85 46) = 0 → Q (-2) h2) ∧ (¬ ((h2 85 46) = 0) → aRun mX10_preempted 3 [aR 85] h2 (fun r3 h4 => Q r3 h4))))))))))))) : aRun mX10_machine 22 [aR 85, aI a1, aI a2] h Q := by
  refine aRun.of pn_10 rfl (Nat.le_of_ble_eq_true rfl) ?_
  show AW mX10_machine 22 0 [some (aR 85), some (aI a1), some (aI a2)] [] h Q
  refine AW.iload_n (pc := 0) dX10_machine_0 rfl ?_
  refine AW.callSi (M' := mX10_isMachine) (F' := 1) (as := [aI a1]) (pc := 1) dX10_machine_1 (by decide) kX10_isMachine ml_10_181 rfl npX10_isMachine (Nat.le_of_ble_eq_true rfl) (p_X10_isMachine  ?_)
  refine AW.if_eq (tgt := 16) (pc := 4) dX10_machine_4 rfl (fun q => ?_) (fun q => ?_)
  · skip
    have H_1 := H.1 q
    refine AW.iconst (pc := 16) dX10_machine_16 ⟨by decide, by decide⟩ ?_
    refine AW.iret (pc := 17) dX10_machine_17 rfl ?_
    exact H_1
  · skip
    have H_2 := H.2 q
    refine AW.iload_n (pc := 7) dX10_machine_7 rfl ?_
    refine AW.iconst (pc := 8) dX10_machine_8 ⟨by decide, by decide⟩ ?_
    refine AW.iconst (pc := 9) dX10_machine_9 ⟨by decide, by decide⟩ ?_
    refine AW.callSi (M' := mX10_in) (F' := 0) (as := [aI a2, aI 0, aI 1]) (pc := 10) dX10_machine_10 (by decide) kX10_in ml_10_108 rfl npX10_in (Nat.le_of_ble_eq_true rfl) (p_X10_in  ?_)
    refine AW.if_ne (tgt := 18) (pc := 13) dX10_machine_13 rfl (fun q => ?_) (fun q => ?_)
    · skip
      have H_3 := H_2.2 q
      refine AW.aload_n (pc := 18) dX10_machine_18 rfl ?_
      refine AW.geti' (k := 1) (j := 1) (pc := 19) dX10_machine_19 ac_10 sh_85 rfl (by decide) fl_10_105 rfl (v := (h 85 1)) rfl ?_
      refine AW.if_ne (tgt := 28) (pc := 22) dX10_machine_22 rfl (fun q => ?_) (fun q => ?_)
      · skip
        have H_4 := H_3.2 q
        refine AW.iload_n (pc := 28) dX10_machine_28 rfl ?_
        refine AW.if_ne (tgt := 38) (pc := 29) dX10_machine_29 rfl (fun q => ?_) (fun q => ?_)
        · skip
          have H_5 := H_4.2 q
          refine AW.aload_n (pc := 38) dX10_machine_38 rfl ?_
          refine AW.iload_n (pc := 39) dX10_machine_39 rfl ?_
          refine AW.callVv (M' := mX10_takes) (F' := 0) (as := [aI a1]) (pc := 40) dX10_machine_40 (by decide) kX10_takes ml_10_345 ob_85 rfl npX10_takes (Nat.le_of_ble_eq_true rfl) (aRun.mono (fun r1 h2 H_6 => ?_) H_5)
          refine AW.aload_n (pc := 43) dX10_machine_43 rfl ?_
          refine AW.geti' (k := 46) (j := 46) (pc := 44) dX10_machine_44 ac_10 sh_85 rfl (by decide) fl_10_329 rfl (v := (h2 85 46)) rfl ?_
          refine AW.if_ne (tgt := 55) (pc := 47) dX10_machine_47 rfl (fun q => ?_) (fun q => ?_)
          · skip
            have H_7 := H_6.2 q
            refine AW.aload_n (pc := 55) dX10_machine_55 rfl ?_
            refine AW.callVi (M' := mX10_preempted) (F' := 3) (as := []) (pc := 56) dX10_machine_56 (by decide) kX10_preempted ml_10_351 ob_85 rfl npX10_preempted (Nat.le_of_ble_eq_true rfl) (aRun.mono (fun r3 h4 H_8 => ?_) H_7)
            refine AW.iret (pc := 59) dX10_machine_59 rfl ?_
            exact H_8
          · have q := Decidable.not_not.mp q
            have H_9 := H_6.1 q
            refine AW.bipush (pc := 50) dX10_machine_50 rfl ⟨by decide, by decide⟩ ?_
            refine AW.goto (tgt := 59) (pc := 52) dX10_machine_52 rfl ?_
            refine AW.iret (pc := 59) dX10_machine_59 rfl ?_
            exact H_9
        · have q := Decidable.not_not.mp q
          have H_10 := H_4.1 q
          refine AW.aload_n (pc := 32) dX10_machine_32 rfl ?_
          refine AW.iload_n (pc := 33) dX10_machine_33 rfl ?_
          refine AW.callVi (M' := mX10_alone) (F' := 21) (as := [aI a1]) (pc := 34) dX10_machine_34 (by decide) kX10_alone ml_10_348 ob_85 rfl npX10_alone (Nat.le_of_ble_eq_true rfl) (aRun.mono (fun r5 h6 H_11 => ?_) H_10)
          refine AW.iret (pc := 37) dX10_machine_37 rfl ?_
          exact H_11
      · have q := Decidable.not_not.mp q
        have H_12 := H_3.1 q
        refine AW.bipush (pc := 25) dX10_machine_25 rfl ⟨by decide, by decide⟩ ?_
        refine AW.iret (pc := 27) dX10_machine_27 rfl ?_
        exact H_12
    · have q := Decidable.not_not.mp q
      have H_13 := H_2.1 q
      refine AW.iconst (pc := 16) dX10_machine_16 ⟨by decide, by decide⟩ ?_
      refine AW.iret (pc := 17) dX10_machine_17 rfl ?_
      exact H_13
