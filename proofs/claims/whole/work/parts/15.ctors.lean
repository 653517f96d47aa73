theorem a_up_same {h : aH} {c : Nat} {i v : Int} (hv : h c i = v) : a_up h c i v = h := by
  funext c' i'
  by_cases e : c' = c
  · subst e
    rw [a_up_at]
    by_cases e2 : i' = i
    · rw [if_pos e2, e2, hv]
    · rw [if_neg e2]
  · rw [a_up_ne e]
theorem CW.puti0 {M : aM} {F pc mc ms k n : Nat} {ls : List (Option aV)} {st : List aV} {T : List cS} {h : aH} {Q : cQ} {ci x ix j N : Nat} {v jj : Int} {C0 : String} {T0 : u_T} {ty : Nat → FieldType} {fs : List (Option (Option Nat))} (hd : decode M.2.1 pc = .ok (.putfield ix, 3)) (hc0 : a_cls ci C0 T0 N ty) (hs : T[x]? = some (.inr (ci, fs))) (hf : fs[j]? = some none) (hj : j < N) (hl : Cond.fieldLink M.1.cls ix (T0 j).1 (T0 j).2.1 (T0 j).2.2.1 ∈ a_ws) (hjj : (j : Int) = jj) (hfin : (T0 j).2.2.2 = false) (hn : ty j = .int ∨ (ty j = .boolean ∧ (v = 0 ∨ v = 1))) (hv : h x jj = v) (kk : CW M F mc ms (pc + 3) ls st T h k n Q) : CW M F mc ms pc ls (aI v :: aR x :: st) T h k n Q :=
  CW.puti hd hc0 hs hf hj hl hjj hfin hn (by rw [a_up_same hv]; exact kk)
def hB_0 : aH := fun _ _ => 0
def tB_0 : List cS := [.inr (9, [some none, some none, some none, some none, some none, some none, some none, some none, some none, some none, some none, some none, some none, some none, some none, none, none])]
theorem ol_9_1 : Cond.methodLink RX9 1 Lib.objectInit ∈ a_ws := a_in 122 (by decide +kernel) (by decide +kernel)
theorem cl_9_7 : Cond.classLink RX9 7 RX7 ∈ a_ws := a_in 125 (by decide +kernel) (by decide +kernel)
theorem in_7 : Cond.instantiable RX7 2 ∈ a_ws := a_in 126 (by decide +kernel) (by decide +kernel)
def tB_1 : List cS := [.inr (9, [some none, some none, some none, some none, some none, some none, some none, some none, some none, some none, some none, some none, some none, some none, some none, none, none]), .inr (7, [some none, none])]
theorem ol_7_3 : Cond.methodLink RX7 3 Lib.objectInit ∈ a_ws := a_in 130 (by decide +kernel) (by decide +kernel)
def tB_2 : List cS := [.inr (9, [some none, some none, some none, some none, some none, some none, some none, some none, some none, some none, some none, some none, some none, some none, some none, none, none]), .inr (7, [some (some 2), none]), .inl (0, 140, 0)]
set_option maxRecDepth 100000 in
set_option maxHeartbeats 4000000 in
theorem ct_1 {Q : cQ} (k : Q tB_2 hB_0) : cRun mX7_init 1 1 140 1 tB_1 hB_0 Q := by
  refine cRun.of pn_7 rfl (by decide) (by decide) ?_
  refine CW.aload_n (pc := 0) dX7_init_0 rfl ?_
  refine CW.objInit (pc := 1) dX7_init_1 (by decide) ol_7_3 (Nat.le_of_ble_eq_true rfl) ?_
  refine CW.aload_n (pc := 4) dX7_init_4 rfl ?_
  refine CW.sipush (pc := 5) dX7_init_5 rfl ?_
  refine CW.newarr' (kd := 0) (N := 140) (t := 2) (pc := 8) dX7_init_8 rfl aw_int (Or.inl ⟨rfl, rfl⟩) rfl (by decide) (by decide) (by decide) rfl rfl ?_
  refine CW.putF (j := 0) (ci := 7) (pc := 10) dX7_init_10 ac_7 rfl rfl (by decide) fl_7_9 rfl rfl rfl ?_
  refine CW.aload_n (pc := 13) dX7_init_13 rfl ?_
  refine CW.iconst (pc := 14) dX7_init_14 ?_
  refine CW.puti0 (j := 1) (jj := 1) (ci := 7) (pc := 15) dX7_init_15 ac_7 rfl rfl (by decide) fl_7_15 rfl rfl (Or.inl rfl) rfl ?_
  refine CW.vret (pc := 18) dX7_init_18 rfl rfl rfl ?_
  exact k
theorem ck_7 : Cond.code mX7_init.1 mX7_init.2.1 mX7_init.2.2.1 mX7_init.2.2.2 ∈ a_ws := a_in 129 (by decide +kernel) (by decide +kernel)
theorem ci_7 : Cond.instanceMethod mX7_init.1 ∈ a_ws := a_in 128 (by decide +kernel) (by decide +kernel)
theorem cl_9_16 : Cond.classLink RX9 16 RX5 ∈ a_ws := a_in 140 (by decide +kernel) (by decide +kernel)
theorem in_5 : Cond.instantiable RX5 9 ∈ a_ws := a_in 141 (by decide +kernel) (by decide +kernel)
def tB_3 : List cS := [.inr (9, [some (some 1), some none, some none, some none, some none, some none, some none, some none, some none, some none, some none, some none, some none, some none, some none, none, none]), .inr (7, [some (some 2), none]), .inl (0, 140, 0), .inr (5, [none, none, some none, some none, some none, some none, some none, some none, some none])]
theorem ol_5_3 : Cond.methodLink RX5 3 Lib.objectInit ∈ a_ws := a_in 145 (by decide +kernel) (by decide +kernel)
def tB_4 : List cS := [.inr (9, [some (some 1), some none, some none, some none, some none, some none, some none, some none, some none, some none, some none, some none, some none, some none, some none, none, none]), .inr (7, [some (some 2), none]), .inl (0, 140, 0), .inr (5, [none, none, some (some 4), some (some 5), some (some 6), some (some 7), some (some 8), some (some 9), some (some 10)]), .inl (0, 24, 0), .inl (0, 24, 0), .inl (0, 24, 0), .inl (0, 24, 0), .inl (0, 24, 0), .inl (0, 24, 0), .inl (0, 6, 0)]
set_option maxRecDepth 100000 in
set_option maxHeartbeats 4000000 in
theorem ct_3 {Q : cQ} (k : Q tB_4 hB_0) : cRun mX5_init 1 7 150 3 tB_3 hB_0 Q := by
  refine cRun.of pn_5 rfl (by decide) (by decide) ?_
  refine CW.aload_n (pc := 0) dX5_init_0 rfl ?_
  refine CW.objInit (pc := 1) dX5_init_1 (by decide) ol_5_3 (Nat.le_of_ble_eq_true rfl) ?_
  refine CW.aload_n (pc := 4) dX5_init_4 rfl ?_
  refine CW.iconst (pc := 5) dX5_init_5 ?_
  refine CW.puti0 (j := 0) (jj := 0) (ci := 5) (pc := 6) dX5_init_6 ac_5 rfl rfl (by decide) fl_5_9 rfl rfl (Or.inl rfl) rfl ?_
  refine CW.aload_n (pc := 9) dX5_init_9 rfl ?_
  refine CW.iconst (pc := 10) dX5_init_10 ?_
  refine CW.puti0 (j := 1) (jj := 1) (ci := 5) (pc := 11) dX5_init_11 ac_5 rfl rfl (by decide) fl_5_15 rfl rfl (Or.inl rfl) rfl ?_
  refine CW.aload_n (pc := 14) dX5_init_14 rfl ?_
  refine CW.bipush (pc := 15) dX5_init_15 rfl ?_
  refine CW.newarr' (kd := 0) (N := 24) (t := 4) (pc := 17) dX5_init_17 rfl aw_int (Or.inl ⟨rfl, rfl⟩) rfl (by decide) (by decide) (by decide) rfl rfl ?_
  refine CW.putF (j := 2) (ci := 5) (pc := 19) dX5_init_19 ac_5 rfl rfl (by decide) fl_5_18 rfl rfl rfl ?_
  refine CW.aload_n (pc := 22) dX5_init_22 rfl ?_
  refine CW.bipush (pc := 23) dX5_init_23 rfl ?_
  refine CW.newarr' (kd := 0) (N := 24) (t := 5) (pc := 25) dX5_init_25 rfl aw_int (Or.inl ⟨rfl, rfl⟩) rfl (by decide) (by decide) (by decide) rfl rfl ?_
  refine CW.putF (j := 3) (ci := 5) (pc := 27) dX5_init_27 ac_5 rfl rfl (by decide) fl_5_22 rfl rfl rfl ?_
  refine CW.aload_n (pc := 30) dX5_init_30 rfl ?_
  refine CW.bipush (pc := 31) dX5_init_31 rfl ?_
  refine CW.newarr' (kd := 0) (N := 24) (t := 6) (pc := 33) dX5_init_33 rfl aw_int (Or.inl ⟨rfl, rfl⟩) rfl (by decide) (by decide) (by decide) rfl rfl ?_
  refine CW.putF (j := 4) (ci := 5) (pc := 35) dX5_init_35 ac_5 rfl rfl (by decide) fl_5_25 rfl rfl rfl ?_
  refine CW.aload_n (pc := 38) dX5_init_38 rfl ?_
  refine CW.bipush (pc := 39) dX5_init_39 rfl ?_
  refine CW.newarr' (kd := 0) (N := 24) (t := 7) (pc := 41) dX5_init_41 rfl aw_int (Or.inl ⟨rfl, rfl⟩) rfl (by decide) (by decide) (by decide) rfl rfl ?_
  refine CW.putF (j := 5) (ci := 5) (pc := 43) dX5_init_43 ac_5 rfl rfl (by decide) fl_5_28 rfl rfl rfl ?_
  refine CW.aload_n (pc := 46) dX5_init_46 rfl ?_
  refine CW.bipush (pc := 47) dX5_init_47 rfl ?_
  refine CW.newarr' (kd := 0) (N := 24) (t := 8) (pc := 49) dX5_init_49 rfl aw_int (Or.inl ⟨rfl, rfl⟩) rfl (by decide) (by decide) (by decide) rfl rfl ?_
  refine CW.putF (j := 6) (ci := 5) (pc := 51) dX5_init_51 ac_5 rfl rfl (by decide) fl_5_31 rfl rfl rfl ?_
  refine CW.aload_n (pc := 54) dX5_init_54 rfl ?_
  refine CW.bipush (pc := 55) dX5_init_55 rfl ?_
  refine CW.newarr' (kd := 0) (N := 24) (t := 9) (pc := 57) dX5_init_57 rfl aw_int (Or.inl ⟨rfl, rfl⟩) rfl (by decide) (by decide) (by decide) rfl rfl ?_
  refine CW.putF (j := 7) (ci := 5) (pc := 59) dX5_init_59 ac_5 rfl rfl (by decide) fl_5_34 rfl rfl rfl ?_
  refine CW.aload_n (pc := 62) dX5_init_62 rfl ?_
  refine CW.bipush (pc := 63) dX5_init_63 rfl ?_
  refine CW.newarr' (kd := 0) (N := 6) (t := 10) (pc := 65) dX5_init_65 rfl aw_int (Or.inl ⟨rfl, rfl⟩) rfl (by decide) (by decide) (by decide) rfl rfl ?_
  refine CW.putF (j := 8) (ci := 5) (pc := 67) dX5_init_67 ac_5 rfl rfl (by decide) fl_5_37 rfl rfl rfl ?_
  refine CW.vret (pc := 70) dX5_init_70 rfl rfl rfl ?_
  exact k
theorem ck_5 : Cond.code mX5_init.1 mX5_init.2.1 mX5_init.2.2.1 mX5_init.2.2.2 ∈ a_ws := a_in 144 (by decide +kernel) (by decide +kernel)
theorem ci_5 : Cond.instanceMethod mX5_init.1 ∈ a_ws := a_in 143 (by decide +kernel) (by decide +kernel)
def tB_5 : List cS := [.inr (9, [some (some 1), some (some 3), some none, some none, some none, some none, some none, some none, some none, some none, some none, some none, some none, some none, some none, none, none]), .inr (7, [some (some 2), none]), .inl (0, 140, 0), .inr (5, [none, none, some (some 4), some (some 5), some (some 6), some (some 7), some (some 8), some (some 9), some (some 10)]), .inl (0, 24, 0), .inl (0, 24, 0), .inl (0, 24, 0), .inl (0, 24, 0), .inl (0, 24, 0), .inl (0, 24, 0), .inl (0, 6, 0), .inr (5, [none, none, some none, some none, some none, some none, some none, some none, some none])]
def tB_6 : List cS := [.inr (9, [some (some 1), some (some 3), some none, some none, some none, some none, some none, some none, some none, some none, some none, some none, some none, some none, some none, none, none]), .inr (7, [some (some 2), none]), .inl (0, 140, 0), .inr (5, [none, none, some (some 4), some (some 5), some (some 6), some (some 7), some (some 8), some (some 9), some (some 10)]), .inl (0, 24, 0), .inl (0, 24, 0), .inl (0, 24, 0), .inl (0, 24, 0), .inl (0, 24, 0), .inl (0, 24, 0), .inl (0, 6, 0), .inr (5, [none, none, some (some 12), some (some 13), some (some 14), some (some 15), some (some 16), some (some 17), some (some 18)]), .inl (0, 24, 0), .inl (0, 24, 0), .inl (0, 24, 0), .inl (0, 24, 0), .inl (0, 24, 0), .inl (0, 24, 0), .inl (0, 6, 0)]
set_option maxRecDepth 100000 in
set_option maxHeartbeats 4000000 in
theorem ct_11 {Q : cQ} (k : Q tB_6 hB_0) : cRun mX5_init 1 7 150 11 tB_5 hB_0 Q := by
  refine cRun.of pn_5 rfl (by decide) (by decide) ?_
  refine CW.aload_n (pc := 0) dX5_init_0 rfl ?_
  refine CW.objInit (pc := 1) dX5_init_1 (by decide) ol_5_3 (Nat.le_of_ble_eq_true rfl) ?_
  refine CW.aload_n (pc := 4) dX5_init_4 rfl ?_
  refine CW.iconst (pc := 5) dX5_init_5 ?_
  refine CW.puti0 (j := 0) (jj := 0) (ci := 5) (pc := 6) dX5_init_6 ac_5 rfl rfl (by decide) fl_5_9 rfl rfl (Or.inl rfl) rfl ?_
  refine CW.aload_n (pc := 9) dX5_init_9 rfl ?_
  refine CW.iconst (pc := 10) dX5_init_10 ?_
  refine CW.puti0 (j := 1) (jj := 1) (ci := 5) (pc := 11) dX5_init_11 ac_5 rfl rfl (by decide) fl_5_15 rfl rfl (Or.inl rfl) rfl ?_
  refine CW.aload_n (pc := 14) dX5_init_14 rfl ?_
  refine CW.bipush (pc := 15) dX5_init_15 rfl ?_
  refine CW.newarr' (kd := 0) (N := 24) (t := 12) (pc := 17) dX5_init_17 rfl aw_int (Or.inl ⟨rfl, rfl⟩) rfl (by decide) (by decide) (by decide) rfl rfl ?_
  refine CW.putF (j := 2) (ci := 5) (pc := 19) dX5_init_19 ac_5 rfl rfl (by decide) fl_5_18 rfl rfl rfl ?_
  refine CW.aload_n (pc := 22) dX5_init_22 rfl ?_
  refine CW.bipush (pc := 23) dX5_init_23 rfl ?_
  refine CW.newarr' (kd := 0) (N := 24) (t := 13) (pc := 25) dX5_init_25 rfl aw_int (Or.inl ⟨rfl, rfl⟩) rfl (by decide) (by decide) (by decide) rfl rfl ?_
  refine CW.putF (j := 3) (ci := 5) (pc := 27) dX5_init_27 ac_5 rfl rfl (by decide) fl_5_22 rfl rfl rfl ?_
  refine CW.aload_n (pc := 30) dX5_init_30 rfl ?_
  refine CW.bipush (pc := 31) dX5_init_31 rfl ?_
  refine CW.newarr' (kd := 0) (N := 24) (t := 14) (pc := 33) dX5_init_33 rfl aw_int (Or.inl ⟨rfl, rfl⟩) rfl (by decide) (by decide) (by decide) rfl rfl ?_
  refine CW.putF (j := 4) (ci := 5) (pc := 35) dX5_init_35 ac_5 rfl rfl (by decide) fl_5_25 rfl rfl rfl ?_
  refine CW.aload_n (pc := 38) dX5_init_38 rfl ?_
  refine CW.bipush (pc := 39) dX5_init_39 rfl ?_
  refine CW.newarr' (kd := 0) (N := 24) (t := 15) (pc := 41) dX5_init_41 rfl aw_int (Or.inl ⟨rfl, rfl⟩) rfl (by decide) (by decide) (by decide) rfl rfl ?_
  refine CW.putF (j := 5) (ci := 5) (pc := 43) dX5_init_43 ac_5 rfl rfl (by decide) fl_5_28 rfl rfl rfl ?_
  refine CW.aload_n (pc := 46) dX5_init_46 rfl ?_
  refine CW.bipush (pc := 47) dX5_init_47 rfl ?_
  refine CW.newarr' (kd := 0) (N := 24) (t := 16) (pc := 49) dX5_init_49 rfl aw_int (Or.inl ⟨rfl, rfl⟩) rfl (by decide) (by decide) (by decide) rfl rfl ?_
  refine CW.putF (j := 6) (ci := 5) (pc := 51) dX5_init_51 ac_5 rfl rfl (by decide) fl_5_31 rfl rfl rfl ?_
  refine CW.aload_n (pc := 54) dX5_init_54 rfl ?_
  refine CW.bipush (pc := 55) dX5_init_55 rfl ?_
  refine CW.newarr' (kd := 0) (N := 24) (t := 17) (pc := 57) dX5_init_57 rfl aw_int (Or.inl ⟨rfl, rfl⟩) rfl (by decide) (by decide) (by decide) rfl rfl ?_
  refine CW.putF (j := 7) (ci := 5) (pc := 59) dX5_init_59 ac_5 rfl rfl (by decide) fl_5_34 rfl rfl rfl ?_
  refine CW.aload_n (pc := 62) dX5_init_62 rfl ?_
  refine CW.bipush (pc := 63) dX5_init_63 rfl ?_
  refine CW.newarr' (kd := 0) (N := 6) (t := 18) (pc := 65) dX5_init_65 rfl aw_int (Or.inl ⟨rfl, rfl⟩) rfl (by decide) (by decide) (by decide) rfl rfl ?_
  refine CW.putF (j := 8) (ci := 5) (pc := 67) dX5_init_67 ac_5 rfl rfl (by decide) fl_5_37 rfl rfl rfl ?_
  refine CW.vret (pc := 70) dX5_init_70 rfl rfl rfl ?_
  exact k
theorem cl_9_30 : Cond.classLink RX9 30 RX8 ∈ a_ws := a_in 200 (by decide +kernel) (by decide +kernel)
theorem in_8 : Cond.instantiable RX8 11 ∈ a_ws := a_in 201 (by decide +kernel) (by decide +kernel)
def tB_7 : List cS := [.inr (9, [some (some 1), some (some 3), some (some 11), some (some 19), some none, some none, some none, some none, some none, some none, some none, some none, some none, some none, some none, none, none]), .inr (7, [some (some 2), none]), .inl (0, 140, 0), .inr (5, [none, none, some (some 4), some (some 5), some (some 6), some (some 7), some (some 8), some (some 9), some (some 10)]), .inl (0, 24, 0), .inl (0, 24, 0), .inl (0, 24, 0), .inl (0, 24, 0), .inl (0, 24, 0), .inl (0, 24, 0), .inl (0, 6, 0), .inr (5, [none, none, some (some 12), some (some 13), some (some 14), some (some 15), some (some 16), some (some 17), some (some 18)]), .inl (0, 24, 0), .inl (0, 24, 0), .inl (0, 24, 0), .inl (0, 24, 0), .inl (0, 24, 0), .inl (0, 24, 0), .inl (0, 6, 0), .inl (0, 24, 0), .inr (8, [some none, some none, some none, some none, some none, some none, some none, some none, none, none, none])]
theorem ol_8_3 : Cond.methodLink RX8 3 Lib.objectInit ∈ a_ws := a_in 205 (by decide +kernel) (by decide +kernel)
def tB_8 : List cS := [.inr (9, [some (some 1), some (some 3), some (some 11), some (some 19), some none, some none, some none, some none, some none, some none, some none, some none, some none, some none, some none, none, none]), .inr (7, [some (some 2), none]), .inl (0, 140, 0), .inr (5, [none, none, some (some 4), some (some 5), some (some 6), some (some 7), some (some 8), some (some 9), some (some 10)]), .inl (0, 24, 0), .inl (0, 24, 0), .inl (0, 24, 0), .inl (0, 24, 0), .inl (0, 24, 0), .inl (0, 24, 0), .inl (0, 6, 0), .inr (5, [none, none, some (some 12), some (some 13), some (some 14), some (some 15), some (some 16), some (some 17), some (some 18)]), .inl (0, 24, 0), .inl (0, 24, 0), .inl (0, 24, 0), .inl (0, 24, 0), .inl (0, 24, 0), .inl (0, 24, 0), .inl (0, 6, 0), .inl (0, 24, 0), .inr (8, [some (some 21), some (some 22), some (some 23), some (some 24), some (some 25), some (some 26), some (some 27), some (some 28), none, none, none]), .inl (0, 24, 0), .inl (0, 24, 0), .inl (0, 24, 0), .inl (0, 24, 0), .inl (0, 24, 0), .inl (0, 24, 0), .inl (0, 24, 0), .inl (0, 24, 0)]
set_option maxRecDepth 100000 in
set_option maxHeartbeats 4000000 in
theorem ct_20 {Q : cQ} (k : Q tB_8 hB_0) : cRun mX8_init 1 8 192 20 tB_7 hB_0 Q := by
  refine cRun.of pn_8 rfl (by decide) (by decide) ?_
  refine CW.aload_n (pc := 0) dX8_init_0 rfl ?_
  refine CW.objInit (pc := 1) dX8_init_1 (by decide) ol_8_3 (Nat.le_of_ble_eq_true rfl) ?_
  refine CW.aload_n (pc := 4) dX8_init_4 rfl ?_
  refine CW.bipush (pc := 5) dX8_init_5 rfl ?_
  refine CW.newarr' (kd := 0) (N := 24) (t := 21) (pc := 7) dX8_init_7 rfl aw_int (Or.inl ⟨rfl, rfl⟩) rfl (by decide) (by decide) (by decide) rfl rfl ?_
  refine CW.putF (j := 0) (ci := 8) (pc := 9) dX8_init_9 ac_8 rfl rfl (by decide) fl_8_9 rfl rfl rfl ?_
  refine CW.aload_n (pc := 12) dX8_init_12 rfl ?_
  refine CW.bipush (pc := 13) dX8_init_13 rfl ?_
  refine CW.newarr' (kd := 0) (N := 24) (t := 22) (pc := 15) dX8_init_15 rfl aw_int (Or.inl ⟨rfl, rfl⟩) rfl (by decide) (by decide) (by decide) rfl rfl ?_
  refine CW.putF (j := 1) (ci := 8) (pc := 17) dX8_init_17 ac_8 rfl rfl (by decide) fl_8_15 rfl rfl rfl ?_
  refine CW.aload_n (pc := 20) dX8_init_20 rfl ?_
  refine CW.bipush (pc := 21) dX8_init_21 rfl ?_
  refine CW.newarr' (kd := 0) (N := 24) (t := 23) (pc := 23) dX8_init_23 rfl aw_int (Or.inl ⟨rfl, rfl⟩) rfl (by decide) (by decide) (by decide) rfl rfl ?_
  refine CW.putF (j := 2) (ci := 8) (pc := 25) dX8_init_25 ac_8 rfl rfl (by decide) fl_8_18 rfl rfl rfl ?_
  refine CW.aload_n (pc := 28) dX8_init_28 rfl ?_
  refine CW.bipush (pc := 29) dX8_init_29 rfl ?_
  refine CW.newarr' (kd := 0) (N := 24) (t := 24) (pc := 31) dX8_init_31 rfl aw_int (Or.inl ⟨rfl, rfl⟩) rfl (by decide) (by decide) (by decide) rfl rfl ?_
  refine CW.putF (j := 3) (ci := 8) (pc := 33) dX8_init_33 ac_8 rfl rfl (by decide) fl_8_21 rfl rfl rfl ?_
  refine CW.aload_n (pc := 36) dX8_init_36 rfl ?_
  refine CW.bipush (pc := 37) dX8_init_37 rfl ?_
  refine CW.newarr' (kd := 0) (N := 24) (t := 25) (pc := 39) dX8_init_39 rfl aw_int (Or.inl ⟨rfl, rfl⟩) rfl (by decide) (by decide) (by decide) rfl rfl ?_
  refine CW.putF (j := 4) (ci := 8) (pc := 41) dX8_init_41 ac_8 rfl rfl (by decide) fl_8_24 rfl rfl rfl ?_
  refine CW.aload_n (pc := 44) dX8_init_44 rfl ?_
  refine CW.bipush (pc := 45) dX8_init_45 rfl ?_
  refine CW.newarr' (kd := 0) (N := 24) (t := 26) (pc := 47) dX8_init_47 rfl aw_int (Or.inl ⟨rfl, rfl⟩) rfl (by decide) (by decide) (by decide) rfl rfl ?_
  refine CW.putF (j := 5) (ci := 8) (pc := 49) dX8_init_49 ac_8 rfl rfl (by decide) fl_8_27 rfl rfl rfl ?_
  refine CW.aload_n (pc := 52) dX8_init_52 rfl ?_
  refine CW.bipush (pc := 53) dX8_init_53 rfl ?_
  refine CW.newarr' (kd := 0) (N := 24) (t := 27) (pc := 55) dX8_init_55 rfl aw_int (Or.inl ⟨rfl, rfl⟩) rfl (by decide) (by decide) (by decide) rfl rfl ?_
  refine CW.putF (j := 6) (ci := 8) (pc := 57) dX8_init_57 ac_8 rfl rfl (by decide) fl_8_30 rfl rfl rfl ?_
  refine CW.aload_n (pc := 60) dX8_init_60 rfl ?_
  refine CW.bipush (pc := 61) dX8_init_61 rfl ?_
  refine CW.newarr' (kd := 0) (N := 24) (t := 28) (pc := 63) dX8_init_63 rfl aw_int (Or.inl ⟨rfl, rfl⟩) rfl (by decide) (by decide) (by decide) rfl rfl ?_
  refine CW.putF (j := 7) (ci := 8) (pc := 65) dX8_init_65 ac_8 rfl rfl (by decide) fl_8_33 rfl rfl rfl ?_
  refine CW.aload_n (pc := 68) dX8_init_68 rfl ?_
  refine CW.iconst (pc := 69) dX8_init_69 ?_
  refine CW.puti0 (j := 8) (jj := 8) (ci := 8) (pc := 70) dX8_init_70 ac_8 rfl rfl (by decide) fl_8_36 rfl rfl (Or.inl rfl) rfl ?_
  refine CW.aload_n (pc := 73) dX8_init_73 rfl ?_
  refine CW.iconst (pc := 74) dX8_init_74 ?_
  refine CW.puti0 (j := 9) (jj := 9) (ci := 8) (pc := 75) dX8_init_75 ac_8 rfl rfl (by decide) fl_8_40 rfl rfl (Or.inl rfl) rfl ?_
  refine CW.aload_n (pc := 78) dX8_init_78 rfl ?_
  refine CW.iconst (pc := 79) dX8_init_79 ?_
  refine CW.puti0 (j := 10) (jj := 10) (ci := 8) (pc := 80) dX8_init_80 ac_8 rfl rfl (by decide) fl_8_43 rfl rfl (Or.inr ⟨rfl, Or.inl rfl⟩) rfl ?_
  refine CW.vret (pc := 83) dX8_init_83 rfl rfl rfl ?_
  exact k
theorem ck_8 : Cond.code mX8_init.1 mX8_init.2.1 mX8_init.2.2.1 mX8_init.2.2.2 ∈ a_ws := a_in 204 (by decide +kernel) (by decide +kernel)
theorem ci_8 : Cond.instanceMethod mX8_init.1 ∈ a_ws := a_in 203 (by decide +kernel) (by decide +kernel)
def tB_9 : List cS := [.inr (9, [some (some 1), some (some 3), some (some 11), some (some 19), some (some 20), some none, some none, some none, some none, some none, some none, some none, some none, some none, some none, none, none]), .inr (7, [some (some 2), none]), .inl (0, 140, 0), .inr (5, [none, none, some (some 4), some (some 5), some (some 6), some (some 7), some (some 8), some (some 9), some (some 10)]), .inl (0, 24, 0), .inl (0, 24, 0), .inl (0, 24, 0), .inl (0, 24, 0), .inl (0, 24, 0), .inl (0, 24, 0), .inl (0, 6, 0), .inr (5, [none, none, some (some 12), some (some 13), some (some 14), some (some 15), some (some 16), some (some 17), some (some 18)]), .inl (0, 24, 0), .inl (0, 24, 0), .inl (0, 24, 0), .inl (0, 24, 0), .inl (0, 24, 0), .inl (0, 24, 0), .inl (0, 6, 0), .inl (0, 24, 0), .inr (8, [some (some 21), some (some 22), some (some 23), some (some 24), some (some 25), some (some 26), some (some 27), some (some 28), none, none, none]), .inl (0, 24, 0), .inl (0, 24, 0), .inl (0, 24, 0), .inl (0, 24, 0), .inl (0, 24, 0), .inl (0, 24, 0), .inl (0, 24, 0), .inl (0, 24, 0), .inr (8, [some none, some none, some none, some none, some none, some none, some none, some none, none, none, none])]
def tB_10 : List cS := [.inr (9, [some (some 1), some (some 3), some (some 11), some (some 19), some (some 20), some none, some none, some none, some none, some none, some none, some none, some none, some none, some none, none, none]), .inr (7, [some (some 2), none]), .inl (0, 140, 0), .inr (5, [none, none, some (some 4), some (some 5), some (some 6), some (some 7), some (some 8), some (some 9), some (some 10)]), .inl (0, 24, 0), .inl (0, 24, 0), .inl (0, 24, 0), .inl (0, 24, 0), .inl (0, 24, 0), .inl (0, 24, 0), .inl (0, 6, 0), .inr (5, [none, none, some (some 12), some (some 13), some (some 14), some (some 15), some (some 16), some (some 17), some (some 18)]), .inl (0, 24, 0), .inl (0, 24, 0), .inl (0, 24, 0), .inl (0, 24, 0), .inl (0, 24, 0), .inl (0, 24, 0), .inl (0, 6, 0), .inl (0, 24, 0), .inr (8, [some (some 21), some (some 22), some (some 23), some (some 24), some (some 25), some (some 26), some (some 27), some (some 28), none, none, none]), .inl (0, 24, 0), .inl (0, 24, 0), .inl (0, 24, 0), .inl (0, 24, 0), .inl (0, 24, 0), .inl (0, 24, 0), .inl (0, 24, 0), .inl (0, 24, 0), .inr (8, [some (some 30), some (some 31), some (some 32), some (some 33), some (some 34), some (some 35), some (some 36), some (some 37), none, none, none]), .inl (0, 24, 0), .inl (0, 24, 0), .inl (0, 24, 0), .inl (0, 24, 0), .inl (0, 24, 0), .inl (0, 24, 0), .inl (0, 24, 0), .inl (0, 24, 0)]
set_option maxRecDepth 100000 in
set_option maxHeartbeats 4000000 in
theorem ct_29 {Q : cQ} (k : Q tB_10 hB_0) : cRun mX8_init 1 8 192 29 tB_9 hB_0 Q := by
  refine cRun.of pn_8 rfl (by decide) (by decide) ?_
  refine CW.aload_n (pc := 0) dX8_init_0 rfl ?_
  refine CW.objInit (pc := 1) dX8_init_1 (by decide) ol_8_3 (Nat.le_of_ble_eq_true rfl) ?_
  refine CW.aload_n (pc := 4) dX8_init_4 rfl ?_
  refine CW.bipush (pc := 5) dX8_init_5 rfl ?_
  refine CW.newarr' (kd := 0) (N := 24) (t := 30) (pc := 7) dX8_init_7 rfl aw_int (Or.inl ⟨rfl, rfl⟩) rfl (by decide) (by decide) (by decide) rfl rfl ?_
  refine CW.putF (j := 0) (ci := 8) (pc := 9) dX8_init_9 ac_8 rfl rfl (by decide) fl_8_9 rfl rfl rfl ?_
  refine CW.aload_n (pc := 12) dX8_init_12 rfl ?_
  refine CW.bipush (pc := 13) dX8_init_13 rfl ?_
  refine CW.newarr' (kd := 0) (N := 24) (t := 31) (pc := 15) dX8_init_15 rfl aw_int (Or.inl ⟨rfl, rfl⟩) rfl (by decide) (by decide) (by decide) rfl rfl ?_
  refine CW.putF (j := 1) (ci := 8) (pc := 17) dX8_init_17 ac_8 rfl rfl (by decide) fl_8_15 rfl rfl rfl ?_
  refine CW.aload_n (pc := 20) dX8_init_20 rfl ?_
  refine CW.bipush (pc := 21) dX8_init_21 rfl ?_
  refine CW.newarr' (kd := 0) (N := 24) (t := 32) (pc := 23) dX8_init_23 rfl aw_int (Or.inl ⟨rfl, rfl⟩) rfl (by decide) (by decide) (by decide) rfl rfl ?_
  refine CW.putF (j := 2) (ci := 8) (pc := 25) dX8_init_25 ac_8 rfl rfl (by decide) fl_8_18 rfl rfl rfl ?_
  refine CW.aload_n (pc := 28) dX8_init_28 rfl ?_
  refine CW.bipush (pc := 29) dX8_init_29 rfl ?_
  refine CW.newarr' (kd := 0) (N := 24) (t := 33) (pc := 31) dX8_init_31 rfl aw_int (Or.inl ⟨rfl, rfl⟩) rfl (by decide) (by decide) (by decide) rfl rfl ?_
  refine CW.putF (j := 3) (ci := 8) (pc := 33) dX8_init_33 ac_8 rfl rfl (by decide) fl_8_21 rfl rfl rfl ?_
  refine CW.aload_n (pc := 36) dX8_init_36 rfl ?_
  refine CW.bipush (pc := 37) dX8_init_37 rfl ?_
  refine CW.newarr' (kd := 0) (N := 24) (t := 34) (pc := 39) dX8_init_39 rfl aw_int (Or.inl ⟨rfl, rfl⟩) rfl (by decide) (by decide) (by decide) rfl rfl ?_
  refine CW.putF (j := 4) (ci := 8) (pc := 41) dX8_init_41 ac_8 rfl rfl (by decide) fl_8_24 rfl rfl rfl ?_
  refine CW.aload_n (pc := 44) dX8_init_44 rfl ?_
  refine CW.bipush (pc := 45) dX8_init_45 rfl ?_
  refine CW.newarr' (kd := 0) (N := 24) (t := 35) (pc := 47) dX8_init_47 rfl aw_int (Or.inl ⟨rfl, rfl⟩) rfl (by decide) (by decide) (by decide) rfl rfl ?_
  refine CW.putF (j := 5) (ci := 8) (pc := 49) dX8_init_49 ac_8 rfl rfl (by decide) fl_8_27 rfl rfl rfl ?_
  refine CW.aload_n (pc := 52) dX8_init_52 rfl ?_
  refine CW.bipush (pc := 53) dX8_init_53 rfl ?_
  refine CW.newarr' (kd := 0) (N := 24) (t := 36) (pc := 55) dX8_init_55 rfl aw_int (Or.inl ⟨rfl, rfl⟩) rfl (by decide) (by decide) (by decide) rfl rfl ?_
  refine CW.putF (j := 6) (ci := 8) (pc := 57) dX8_init_57 ac_8 rfl rfl (by decide) fl_8_30 rfl rfl rfl ?_
  refine CW.aload_n (pc := 60) dX8_init_60 rfl ?_
  refine CW.bipush (pc := 61) dX8_init_61 rfl ?_
  refine CW.newarr' (kd := 0) (N := 24) (t := 37) (pc := 63) dX8_init_63 rfl aw_int (Or.inl ⟨rfl, rfl⟩) rfl (by decide) (by decide) (by decide) rfl rfl ?_
  refine CW.putF (j := 7) (ci := 8) (pc := 65) dX8_init_65 ac_8 rfl rfl (by decide) fl_8_33 rfl rfl rfl ?_
  refine CW.aload_n (pc := 68) dX8_init_68 rfl ?_
  refine CW.iconst (pc := 69) dX8_init_69 ?_
  refine CW.puti0 (j := 8) (jj := 8) (ci := 8) (pc := 70) dX8_init_70 ac_8 rfl rfl (by decide) fl_8_36 rfl rfl (Or.inl rfl) rfl ?_
  refine CW.aload_n (pc := 73) dX8_init_73 rfl ?_
  refine CW.iconst (pc := 74) dX8_init_74 ?_
  refine CW.puti0 (j := 9) (jj := 9) (ci := 8) (pc := 75) dX8_init_75 ac_8 rfl rfl (by decide) fl_8_40 rfl rfl (Or.inl rfl) rfl ?_
  refine CW.aload_n (pc := 78) dX8_init_78 rfl ?_
  refine CW.iconst (pc := 79) dX8_init_79 ?_
  refine CW.puti0 (j := 10) (jj := 10) (ci := 8) (pc := 80) dX8_init_80 ac_8 rfl rfl (by decide) fl_8_43 rfl rfl (Or.inr ⟨rfl, Or.inl rfl⟩) rfl ?_
  refine CW.vret (pc := 83) dX8_init_83 rfl rfl rfl ?_
  exact k
theorem cl_9_40 : Cond.classLink RX9 40 RX6 ∈ a_ws := a_in 251 (by decide +kernel) (by decide +kernel)
theorem in_6 : Cond.instantiable RX6 6 ∈ a_ws := a_in 252 (by decide +kernel) (by decide +kernel)
def tB_11 : List cS := [.inr (9, [some (some 1), some (some 3), some (some 11), some (some 19), some (some 20), some (some 29), some none, some none, some none, some none, some none, some none, some none, some none, some none, none, none]), .inr (7, [some (some 2), none]), .inl (0, 140, 0), .inr (5, [none, none, some (some 4), some (some 5), some (some 6), some (some 7), some (some 8), some (some 9), some (some 10)]), .inl (0, 24, 0), .inl (0, 24, 0), .inl (0, 24, 0), .inl (0, 24, 0), .inl (0, 24, 0), .inl (0, 24, 0), .inl (0, 6, 0), .inr (5, [none, none, some (some 12), some (some 13), some (some 14), some (some 15), some (some 16), some (some 17), some (some 18)]), .inl (0, 24, 0), .inl (0, 24, 0), .inl (0, 24, 0), .inl (0, 24, 0), .inl (0, 24, 0), .inl (0, 24, 0), .inl (0, 6, 0), .inl (0, 24, 0), .inr (8, [some (some 21), some (some 22), some (some 23), some (some 24), some (some 25), some (some 26), some (some 27), some (some 28), none, none, none]), .inl (0, 24, 0), .inl (0, 24, 0), .inl (0, 24, 0), .inl (0, 24, 0), .inl (0, 24, 0), .inl (0, 24, 0), .inl (0, 24, 0), .inl (0, 24, 0), .inr (8, [some (some 30), some (some 31), some (some 32), some (some 33), some (some 34), some (some 35), some (some 36), some (some 37), none, none, none]), .inl (0, 24, 0), .inl (0, 24, 0), .inl (0, 24, 0), .inl (0, 24, 0), .inl (0, 24, 0), .inl (0, 24, 0), .inl (0, 24, 0), .inl (0, 24, 0), .inr (6, [some none, none, some none, none, some none, none])]
theorem ol_6_3 : Cond.methodLink RX6 3 Lib.objectInit ∈ a_ws := a_in 256 (by decide +kernel) (by decide +kernel)
def tB_12 : List cS := [.inr (9, [some (some 1), some (some 3), some (some 11), some (some 19), some (some 20), some (some 29), some none, some none, some none, some none, some none, some none, some none, some none, some none, none, none]), .inr (7, [some (some 2), none]), .inl (0, 140, 0), .inr (5, [none, none, some (some 4), some (some 5), some (some 6), some (some 7), some (some 8), some (some 9), some (some 10)]), .inl (0, 24, 0), .inl (0, 24, 0), .inl (0, 24, 0), .inl (0, 24, 0), .inl (0, 24, 0), .inl (0, 24, 0), .inl (0, 6, 0), .inr (5, [none, none, some (some 12), some (some 13), some (some 14), some (some 15), some (some 16), some (some 17), some (some 18)]), .inl (0, 24, 0), .inl (0, 24, 0), .inl (0, 24, 0), .inl (0, 24, 0), .inl (0, 24, 0), .inl (0, 24, 0), .inl (0, 6, 0), .inl (0, 24, 0), .inr (8, [some (some 21), some (some 22), some (some 23), some (some 24), some (some 25), some (some 26), some (some 27), some (some 28), none, none, none]), .inl (0, 24, 0), .inl (0, 24, 0), .inl (0, 24, 0), .inl (0, 24, 0), .inl (0, 24, 0), .inl (0, 24, 0), .inl (0, 24, 0), .inl (0, 24, 0), .inr (8, [some (some 30), some (some 31), some (some 32), some (some 33), some (some 34), some (some 35), some (some 36), some (some 37), none, none, none]), .inl (0, 24, 0), .inl (0, 24, 0), .inl (0, 24, 0), .inl (0, 24, 0), .inl (0, 24, 0), .inl (0, 24, 0), .inl (0, 24, 0), .inl (0, 24, 0), .inr (6, [some (some 39), none, some (some 40), none, some (some 41), none]), .inl (0, 24, 0), .inl (0, 25, 0), .inl (0, 24, 0)]
set_option maxRecDepth 100000 in
set_option maxHeartbeats 4000000 in
theorem ct_38 {Q : cQ} (k : Q tB_12 hB_0) : cRun mX6_init 1 3 73 38 tB_11 hB_0 Q := by
  refine cRun.of pn_6 rfl (by decide) (by decide) ?_
  refine CW.aload_n (pc := 0) dX6_init_0 rfl ?_
  refine CW.objInit (pc := 1) dX6_init_1 (by decide) ol_6_3 (Nat.le_of_ble_eq_true rfl) ?_
  refine CW.aload_n (pc := 4) dX6_init_4 rfl ?_
  refine CW.bipush (pc := 5) dX6_init_5 rfl ?_
  refine CW.newarr' (kd := 0) (N := 24) (t := 39) (pc := 7) dX6_init_7 rfl aw_int (Or.inl ⟨rfl, rfl⟩) rfl (by decide) (by decide) (by decide) rfl rfl ?_
  refine CW.putF (j := 0) (ci := 6) (pc := 9) dX6_init_9 ac_6 rfl rfl (by decide) fl_6_9 rfl rfl rfl ?_
  refine CW.aload_n (pc := 12) dX6_init_12 rfl ?_
  refine CW.iconst (pc := 13) dX6_init_13 ?_
  refine CW.puti0 (j := 1) (jj := 1) (ci := 6) (pc := 14) dX6_init_14 ac_6 rfl rfl (by decide) fl_6_15 rfl rfl (Or.inl rfl) rfl ?_
  refine CW.aload_n (pc := 17) dX6_init_17 rfl ?_
  refine CW.bipush (pc := 18) dX6_init_18 rfl ?_
  refine CW.newarr' (kd := 0) (N := 25) (t := 40) (pc := 20) dX6_init_20 rfl aw_int (Or.inl ⟨rfl, rfl⟩) rfl (by decide) (by decide) (by decide) rfl rfl ?_
  refine CW.putF (j := 2) (ci := 6) (pc := 22) dX6_init_22 ac_6 rfl rfl (by decide) fl_6_19 rfl rfl rfl ?_
  refine CW.aload_n (pc := 25) dX6_init_25 rfl ?_
  refine CW.iconst (pc := 26) dX6_init_26 ?_
  refine CW.puti0 (j := 3) (jj := 3) (ci := 6) (pc := 27) dX6_init_27 ac_6 rfl rfl (by decide) fl_6_22 rfl rfl (Or.inl rfl) rfl ?_
  refine CW.aload_n (pc := 30) dX6_init_30 rfl ?_
  refine CW.bipush (pc := 31) dX6_init_31 rfl ?_
  refine CW.newarr' (kd := 0) (N := 24) (t := 41) (pc := 33) dX6_init_33 rfl aw_int (Or.inl ⟨rfl, rfl⟩) rfl (by decide) (by decide) (by decide) rfl rfl ?_
  refine CW.putF (j := 4) (ci := 6) (pc := 35) dX6_init_35 ac_6 rfl rfl (by decide) fl_6_25 rfl rfl rfl ?_
  refine CW.aload_n (pc := 38) dX6_init_38 rfl ?_
  refine CW.iconst (pc := 39) dX6_init_39 ?_
  refine CW.puti0 (j := 5) (jj := 5) (ci := 6) (pc := 40) dX6_init_40 ac_6 rfl rfl (by decide) fl_6_28 rfl rfl (Or.inl rfl) rfl ?_
  refine CW.vret (pc := 43) dX6_init_43 rfl rfl rfl ?_
  exact k
theorem ck_6 : Cond.code mX6_init.1 mX6_init.2.1 mX6_init.2.2.1 mX6_init.2.2.2 ∈ a_ws := a_in 255 (by decide +kernel) (by decide +kernel)
theorem ci_6 : Cond.instanceMethod mX6_init.1 ∈ a_ws := a_in 254 (by decide +kernel) (by decide +kernel)
theorem cl_9_47 : Cond.classLink RX9 47 RX3 ∈ a_ws := a_in 281 (by decide +kernel) (by decide +kernel)
theorem in_3 : Cond.instantiable RX3 3 ∈ a_ws := a_in 282 (by decide +kernel) (by decide +kernel)
def tB_13 : List cS := [.inr (9, [some (some 1), some (some 3), some (some 11), some (some 19), some (some 20), some (some 29), some (some 38), some none, some none, some none, some none, some none, some none, some none, some none, none, none]), .inr (7, [some (some 2), none]), .inl (0, 140, 0), .inr (5, [none, none, some (some 4), some (some 5), some (some 6), some (some 7), some (some 8), some (some 9), some (some 10)]), .inl (0, 24, 0), .inl (0, 24, 0), .inl (0, 24, 0), .inl (0, 24, 0), .inl (0, 24, 0), .inl (0, 24, 0), .inl (0, 6, 0), .inr (5, [none, none, some (some 12), some (some 13), some (some 14), some (some 15), some (some 16), some (some 17), some (some 18)]), .inl (0, 24, 0), .inl (0, 24, 0), .inl (0, 24, 0), .inl (0, 24, 0), .inl (0, 24, 0), .inl (0, 24, 0), .inl (0, 6, 0), .inl (0, 24, 0), .inr (8, [some (some 21), some (some 22), some (some 23), some (some 24), some (some 25), some (some 26), some (some 27), some (some 28), none, none, none]), .inl (0, 24, 0), .inl (0, 24, 0), .inl (0, 24, 0), .inl (0, 24, 0), .inl (0, 24, 0), .inl (0, 24, 0), .inl (0, 24, 0), .inl (0, 24, 0), .inr (8, [some (some 30), some (some 31), some (some 32), some (some 33), some (some 34), some (some 35), some (some 36), some (some 37), none, none, none]), .inl (0, 24, 0), .inl (0, 24, 0), .inl (0, 24, 0), .inl (0, 24, 0), .inl (0, 24, 0), .inl (0, 24, 0), .inl (0, 24, 0), .inl (0, 24, 0), .inr (6, [some (some 39), none, some (some 40), none, some (some 41), none]), .inl (0, 24, 0), .inl (0, 25, 0), .inl (0, 24, 0), .inr (3, [some none, none, none])]
theorem ol_3_3 : Cond.methodLink RX3 3 Lib.objectInit ∈ a_ws := a_in 286 (by decide +kernel) (by decide +kernel)
def hB_1 : aH := a_up hB_0 42 2 4
def tB_14 : List cS := [.inr (9, [some (some 1), some (some 3), some (some 11), some (some 19), some (some 20), some (some 29), some (some 38), some none, some none, some none, some none, some none, some none, some none, some none, none, none]), .inr (7, [some (some 2), none]), .inl (0, 140, 0), .inr (5, [none, none, some (some 4), some (some 5), some (some 6), some (some 7), some (some 8), some (some 9), some (some 10)]), .inl (0, 24, 0), .inl (0, 24, 0), .inl (0, 24, 0), .inl (0, 24, 0), .inl (0, 24, 0), .inl (0, 24, 0), .inl (0, 6, 0), .inr (5, [none, none, some (some 12), some (some 13), some (some 14), some (some 15), some (some 16), some (some 17), some (some 18)]), .inl (0, 24, 0), .inl (0, 24, 0), .inl (0, 24, 0), .inl (0, 24, 0), .inl (0, 24, 0), .inl (0, 24, 0), .inl (0, 6, 0), .inl (0, 24, 0), .inr (8, [some (some 21), some (some 22), some (some 23), some (some 24), some (some 25), some (some 26), some (some 27), some (some 28), none, none, none]), .inl (0, 24, 0), .inl (0, 24, 0), .inl (0, 24, 0), .inl (0, 24, 0), .inl (0, 24, 0), .inl (0, 24, 0), .inl (0, 24, 0), .inl (0, 24, 0), .inr (8, [some (some 30), some (some 31), some (some 32), some (some 33), some (some 34), some (some 35), some (some 36), some (some 37), none, none, none]), .inl (0, 24, 0), .inl (0, 24, 0), .inl (0, 24, 0), .inl (0, 24, 0), .inl (0, 24, 0), .inl (0, 24, 0), .inl (0, 24, 0), .inl (0, 24, 0), .inr (6, [some (some 39), none, some (some 40), none, some (some 41), none]), .inl (0, 24, 0), .inl (0, 25, 0), .inl (0, 24, 0), .inr (3, [some (some 43), none, none]), .inl (0, 9, 0)]
set_option maxRecDepth 100000 in
set_option maxHeartbeats 4000000 in
theorem ct_42 {Q : cQ} (k : Q tB_14 hB_1) : cRun mX3_init 1 1 9 42 tB_13 hB_0 Q := by
  refine cRun.of pn_3 rfl (by decide) (by decide) ?_
  refine CW.aload_n (pc := 0) dX3_init_0 rfl ?_
  refine CW.objInit (pc := 1) dX3_init_1 (by decide) ol_3_3 (Nat.le_of_ble_eq_true rfl) ?_
  refine CW.aload_n (pc := 4) dX3_init_4 rfl ?_
  refine CW.bipush (pc := 5) dX3_init_5 rfl ?_
  refine CW.newarr' (kd := 0) (N := 9) (t := 43) (pc := 7) dX3_init_7 rfl aw_int (Or.inl ⟨rfl, rfl⟩) rfl (by decide) (by decide) (by decide) rfl rfl ?_
  refine CW.putF (j := 0) (ci := 3) (pc := 9) dX3_init_9 ac_3 rfl rfl (by decide) fl_3_9 rfl rfl rfl ?_
  refine CW.aload_n (pc := 12) dX3_init_12 rfl ?_
  refine CW.iconst (pc := 13) dX3_init_13 ?_
  refine CW.puti0 (j := 1) (jj := 1) (ci := 3) (pc := 14) dX3_init_14 ac_3 rfl rfl (by decide) fl_3_15 rfl rfl (Or.inl rfl) rfl ?_
  refine CW.aload_n (pc := 17) dX3_init_17 rfl ?_
  refine CW.iconst (pc := 18) dX3_init_18 ?_
  refine CW.puti (j := 2) (jj := 2) (ci := 3) (pc := 19) dX3_init_19 ac_3 rfl rfl (by decide) fl_3_19 rfl rfl (Or.inl rfl) ?_
  show CW _ _ _ _ _ _ _ _ hB_1 _ _ _
  refine CW.vret (pc := 22) dX3_init_22 rfl rfl rfl ?_
  exact k
theorem ck_3 : Cond.code mX3_init.1 mX3_init.2.1 mX3_init.2.2.1 mX3_init.2.2.2 ∈ a_ws := a_in 285 (by decide +kernel) (by decide +kernel)
theorem ci_3 : Cond.instanceMethod mX3_init.1 ∈ a_ws := a_in 284 (by decide +kernel) (by decide +kernel)
theorem cl_9_54 : Cond.classLink RX9 54 RX4 ∈ a_ws := a_in 300 (by decide +kernel) (by decide +kernel)
theorem in_4 : Cond.instantiable RX4 3 ∈ a_ws := a_in 301 (by decide +kernel) (by decide +kernel)
def tB_15 : List cS := [.inr (9, [some (some 1), some (some 3), some (some 11), some (some 19), some (some 20), some (some 29), some (some 38), some (some 42), some none, some none, some none, some none, some none, some none, some none, none, none]), .inr (7, [some (some 2), none]), .inl (0, 140, 0), .inr (5, [none, none, some (some 4), some (some 5), some (some 6), some (some 7), some (some 8), some (some 9), some (some 10)]), .inl (0, 24, 0), .inl (0, 24, 0), .inl (0, 24, 0), .inl (0, 24, 0), .inl (0, 24, 0), .inl (0, 24, 0), .inl (0, 6, 0), .inr (5, [none, none, some (some 12), some (some 13), some (some 14), some (some 15), some (some 16), some (some 17), some (some 18)]), .inl (0, 24, 0), .inl (0, 24, 0), .inl (0, 24, 0), .inl (0, 24, 0), .inl (0, 24, 0), .inl (0, 24, 0), .inl (0, 6, 0), .inl (0, 24, 0), .inr (8, [some (some 21), some (some 22), some (some 23), some (some 24), some (some 25), some (some 26), some (some 27), some (some 28), none, none, none]), .inl (0, 24, 0), .inl (0, 24, 0), .inl (0, 24, 0), .inl (0, 24, 0), .inl (0, 24, 0), .inl (0, 24, 0), .inl (0, 24, 0), .inl (0, 24, 0), .inr (8, [some (some 30), some (some 31), some (some 32), some (some 33), some (some 34), some (some 35), some (some 36), some (some 37), none, none, none]), .inl (0, 24, 0), .inl (0, 24, 0), .inl (0, 24, 0), .inl (0, 24, 0), .inl (0, 24, 0), .inl (0, 24, 0), .inl (0, 24, 0), .inl (0, 24, 0), .inr (6, [some (some 39), none, some (some 40), none, some (some 41), none]), .inl (0, 24, 0), .inl (0, 25, 0), .inl (0, 24, 0), .inr (3, [some (some 43), none, none]), .inl (0, 9, 0), .inr (4, [some none, none, none])]
theorem ol_4_3 : Cond.methodLink RX4 3 Lib.objectInit ∈ a_ws := a_in 305 (by decide +kernel) (by decide +kernel)
theorem cl_4_9 : Cond.classLink RX4 9 ("[" ++ (FieldType.array .int).toString) ∈ a_ws := a_in 306 (by decide +kernel) (by decide +kernel)
def tB_16 : List cS := [.inr (9, [some (some 1), some (some 3), some (some 11), some (some 19), some (some 20), some (some 29), some (some 38), some (some 42), some none, some none, some none, some none, some none, some none, some none, none, none]), .inr (7, [some (some 2), none]), .inl (0, 140, 0), .inr (5, [none, none, some (some 4), some (some 5), some (some 6), some (some 7), some (some 8), some (some 9), some (some 10)]), .inl (0, 24, 0), .inl (0, 24, 0), .inl (0, 24, 0), .inl (0, 24, 0), .inl (0, 24, 0), .inl (0, 24, 0), .inl (0, 6, 0), .inr (5, [none, none, some (some 12), some (some 13), some (some 14), some (some 15), some (some 16), some (some 17), some (some 18)]), .inl (0, 24, 0), .inl (0, 24, 0), .inl (0, 24, 0), .inl (0, 24, 0), .inl (0, 24, 0), .inl (0, 24, 0), .inl (0, 6, 0), .inl (0, 24, 0), .inr (8, [some (some 21), some (some 22), some (some 23), some (some 24), some (some 25), some (some 26), some (some 27), some (some 28), none, none, none]), .inl (0, 24, 0), .inl (0, 24, 0), .inl (0, 24, 0), .inl (0, 24, 0), .inl (0, 24, 0), .inl (0, 24, 0), .inl (0, 24, 0), .inl (0, 24, 0), .inr (8, [some (some 30), some (some 31), some (some 32), some (some 33), some (some 34), some (some 35), some (some 36), some (some 37), none, none, none]), .inl (0, 24, 0), .inl (0, 24, 0), .inl (0, 24, 0), .inl (0, 24, 0), .inl (0, 24, 0), .inl (0, 24, 0), .inl (0, 24, 0), .inl (0, 24, 0), .inr (6, [some (some 39), none, some (some 40), none, some (some 41), none]), .inl (0, 24, 0), .inl (0, 25, 0), .inl (0, 24, 0), .inr (3, [some (some 43), none, none]), .inl (0, 9, 0), .inr (4, [some (some 45), none, none]), .inl (2, 17, 46), .inl (0, 24, 0), .inl (0, 24, 0), .inl (0, 24, 0), .inl (0, 24, 0), .inl (0, 24, 0), .inl (0, 24, 0), .inl (0, 24, 0), .inl (0, 24, 0), .inl (0, 24, 0), .inl (0, 24, 0), .inl (0, 24, 0), .inl (0, 24, 0), .inl (0, 24, 0), .inl (0, 24, 0), .inl (0, 24, 0), .inl (0, 24, 0), .inl (0, 24, 0)]
set_option maxRecDepth 100000 in
set_option maxHeartbeats 4000000 in
theorem ct_44 {Q : cQ} (k : Q tB_16 hB_1) : cRun mX4_init 1 18 425 44 tB_15 hB_1 Q := by
  refine cRun.of pn_4 rfl (by decide) (by decide) ?_
  refine CW.aload_n (pc := 0) dX4_init_0 rfl ?_
  refine CW.objInit (pc := 1) dX4_init_1 (by decide) ol_4_3 (Nat.le_of_ble_eq_true rfl) ?_
  refine CW.aload_n (pc := 4) dX4_init_4 rfl ?_
  refine CW.bipush (pc := 5) dX4_init_5 rfl ?_
  refine CW.bipush (pc := 7) dX4_init_7 rfl ?_
  refine CW.mna (t := 45) (pc := 9) dX4_init_9 cl_4_9 (by decide) (by decide) rfl (fun c hc => a_up_ne (by omega)) ?_
  refine CW.putF (j := 0) (ci := 4) (pc := 13) dX4_init_13 ac_4 rfl rfl (by decide) fl_4_11 rfl rfl rfl ?_
  refine CW.aload_n (pc := 16) dX4_init_16 rfl ?_
  refine CW.iconst (pc := 17) dX4_init_17 ?_
  refine CW.puti0 (j := 1) (jj := 1) (ci := 4) (pc := 18) dX4_init_18 ac_4 rfl rfl (by decide) fl_4_16 rfl rfl (Or.inl rfl) rfl ?_
  refine CW.aload_n (pc := 21) dX4_init_21 rfl ?_
  refine CW.iconst (pc := 22) dX4_init_22 ?_
  refine CW.puti0 (j := 2) (jj := 2) (ci := 4) (pc := 23) dX4_init_23 ac_4 rfl rfl (by decide) fl_4_20 rfl rfl (Or.inl rfl) rfl ?_
  refine CW.vret (pc := 26) dX4_init_26 rfl rfl rfl ?_
  exact k
theorem ck_4 : Cond.code mX4_init.1 mX4_init.2.1 mX4_init.2.2.1 mX4_init.2.2.2 ∈ a_ws := a_in 304 (by decide +kernel) (by decide +kernel)
theorem ci_4 : Cond.instanceMethod mX4_init.1 ∈ a_ws := a_in 303 (by decide +kernel) (by decide +kernel)
theorem cl_9_61 : Cond.classLink RX9 61 RX1 ∈ a_ws := a_in 320 (by decide +kernel) (by decide +kernel)
theorem in_1 : Cond.instantiable RX1 6 ∈ a_ws := a_in 321 (by decide +kernel) (by decide +kernel)
def tB_17 : List cS := [.inr (9, [some (some 1), some (some 3), some (some 11), some (some 19), some (some 20), some (some 29), some (some 38), some (some 42), some (some 44), some none, some none, some none, some none, some none, some none, none, none]), .inr (7, [some (some 2), none]), .inl (0, 140, 0), .inr (5, [none, none, some (some 4), some (some 5), some (some 6), some (some 7), some (some 8), some (some 9), some (some 10)]), .inl (0, 24, 0), .inl (0, 24, 0), .inl (0, 24, 0), .inl (0, 24, 0), .inl (0, 24, 0), .inl (0, 24, 0), .inl (0, 6, 0), .inr (5, [none, none, some (some 12), some (some 13), some (some 14), some (some 15), some (some 16), some (some 17), some (some 18)]), .inl (0, 24, 0), .inl (0, 24, 0), .inl (0, 24, 0), .inl (0, 24, 0), .inl (0, 24, 0), .inl (0, 24, 0), .inl (0, 6, 0), .inl (0, 24, 0), .inr (8, [some (some 21), some (some 22), some (some 23), some (some 24), some (some 25), some (some 26), some (some 27), some (some 28), none, none, none]), .inl (0, 24, 0), .inl (0, 24, 0), .inl (0, 24, 0), .inl (0, 24, 0), .inl (0, 24, 0), .inl (0, 24, 0), .inl (0, 24, 0), .inl (0, 24, 0), .inr (8, [some (some 30), some (some 31), some (some 32), some (some 33), some (some 34), some (some 35), some (some 36), some (some 37), none, none, none]), .inl (0, 24, 0), .inl (0, 24, 0), .inl (0, 24, 0), .inl (0, 24, 0), .inl (0, 24, 0), .inl (0, 24, 0), .inl (0, 24, 0), .inl (0, 24, 0), .inr (6, [some (some 39), none, some (some 40), none, some (some 41), none]), .inl (0, 24, 0), .inl (0, 25, 0), .inl (0, 24, 0), .inr (3, [some (some 43), none, none]), .inl (0, 9, 0), .inr (4, [some (some 45), none, none]), .inl (2, 17, 46), .inl (0, 24, 0), .inl (0, 24, 0), .inl (0, 24, 0), .inl (0, 24, 0), .inl (0, 24, 0), .inl (0, 24, 0), .inl (0, 24, 0), .inl (0, 24, 0), .inl (0, 24, 0), .inl (0, 24, 0), .inl (0, 24, 0), .inl (0, 24, 0), .inl (0, 24, 0), .inl (0, 24, 0), .inl (0, 24, 0), .inl (0, 24, 0), .inl (0, 24, 0), .inr (1, [some none, some none, some none, some none, some none, none])]
theorem ol_1_3 : Cond.methodLink RX1 3 Lib.objectInit ∈ a_ws := a_in 325 (by decide +kernel) (by decide +kernel)
def tB_18 : List cS := [.inr (9, [some (some 1), some (some 3), some (some 11), some (some 19), some (some 20), some (some 29), some (some 38), some (some 42), some (some 44), some none, some none, some none, some none, some none, some none, none, none]), .inr (7, [some (some 2), none]), .inl (0, 140, 0), .inr (5, [none, none, some (some 4), some (some 5), some (some 6), some (some 7), some (some 8), some (some 9), some (some 10)]), .inl (0, 24, 0), .inl (0, 24, 0), .inl (0, 24, 0), .inl (0, 24, 0), .inl (0, 24, 0), .inl (0, 24, 0), .inl (0, 6, 0), .inr (5, [none, none, some (some 12), some (some 13), some (some 14), some (some 15), some (some 16), some (some 17), some (some 18)]), .inl (0, 24, 0), .inl (0, 24, 0), .inl (0, 24, 0), .inl (0, 24, 0), .inl (0, 24, 0), .inl (0, 24, 0), .inl (0, 6, 0), .inl (0, 24, 0), .inr (8, [some (some 21), some (some 22), some (some 23), some (some 24), some (some 25), some (some 26), some (some 27), some (some 28), none, none, none]), .inl (0, 24, 0), .inl (0, 24, 0), .inl (0, 24, 0), .inl (0, 24, 0), .inl (0, 24, 0), .inl (0, 24, 0), .inl (0, 24, 0), .inl (0, 24, 0), .inr (8, [some (some 30), some (some 31), some (some 32), some (some 33), some (some 34), some (some 35), some (some 36), some (some 37), none, none, none]), .inl (0, 24, 0), .inl (0, 24, 0), .inl (0, 24, 0), .inl (0, 24, 0), .inl (0, 24, 0), .inl (0, 24, 0), .inl (0, 24, 0), .inl (0, 24, 0), .inr (6, [some (some 39), none, some (some 40), none, some (some 41), none]), .inl (0, 24, 0), .inl (0, 25, 0), .inl (0, 24, 0), .inr (3, [some (some 43), none, none]), .inl (0, 9, 0), .inr (4, [some (some 45), none, none]), .inl (2, 17, 46), .inl (0, 24, 0), .inl (0, 24, 0), .inl (0, 24, 0), .inl (0, 24, 0), .inl (0, 24, 0), .inl (0, 24, 0), .inl (0, 24, 0), .inl (0, 24, 0), .inl (0, 24, 0), .inl (0, 24, 0), .inl (0, 24, 0), .inl (0, 24, 0), .inl (0, 24, 0), .inl (0, 24, 0), .inl (0, 24, 0), .inl (0, 24, 0), .inl (0, 24, 0), .inr (1, [some (some 64), some (some 65), some (some 66), some (some 67), some (some 68), none]), .inl (0, 24, 0), .inl (0, 5, 0), .inl (0, 5, 0), .inl (0, 6, 0), .inl (1, 24, 0)]
set_option maxRecDepth 100000 in
set_option maxHeartbeats 4000000 in
theorem ct_63 {Q : cQ} (k : Q tB_18 hB_1) : cRun mX1_init 1 5 64 63 tB_17 hB_1 Q := by
  refine cRun.of pn_1 rfl (by decide) (by decide) ?_
  refine CW.aload_n (pc := 0) dX1_init_0 rfl ?_
  refine CW.objInit (pc := 1) dX1_init_1 (by decide) ol_1_3 (Nat.le_of_ble_eq_true rfl) ?_
  refine CW.aload_n (pc := 4) dX1_init_4 rfl ?_
  refine CW.bipush (pc := 5) dX1_init_5 rfl ?_
  refine CW.newarr' (kd := 0) (N := 24) (t := 64) (pc := 7) dX1_init_7 rfl aw_int (Or.inl ⟨rfl, rfl⟩) rfl (by decide) (by decide) (by decide) rfl rfl ?_
  refine CW.putF (j := 0) (ci := 1) (pc := 9) dX1_init_9 ac_1 rfl rfl (by decide) fl_1_9 rfl rfl rfl ?_
  refine CW.aload_n (pc := 12) dX1_init_12 rfl ?_
  refine CW.iconst (pc := 13) dX1_init_13 ?_
  refine CW.newarr' (kd := 0) (N := 5) (t := 65) (pc := 14) dX1_init_14 rfl aw_int (Or.inl ⟨rfl, rfl⟩) rfl (by decide) (by decide) (by decide) rfl rfl ?_
  refine CW.putF (j := 1) (ci := 1) (pc := 16) dX1_init_16 ac_1 rfl rfl (by decide) fl_1_15 rfl rfl rfl ?_
  refine CW.aload_n (pc := 19) dX1_init_19 rfl ?_
  refine CW.iconst (pc := 20) dX1_init_20 ?_
  refine CW.newarr' (kd := 0) (N := 5) (t := 66) (pc := 21) dX1_init_21 rfl aw_int (Or.inl ⟨rfl, rfl⟩) rfl (by decide) (by decide) (by decide) rfl rfl ?_
  refine CW.putF (j := 2) (ci := 1) (pc := 23) dX1_init_23 ac_1 rfl rfl (by decide) fl_1_18 rfl rfl rfl ?_
  refine CW.aload_n (pc := 26) dX1_init_26 rfl ?_
  refine CW.bipush (pc := 27) dX1_init_27 rfl ?_
  refine CW.newarr' (kd := 0) (N := 6) (t := 67) (pc := 29) dX1_init_29 rfl aw_int (Or.inl ⟨rfl, rfl⟩) rfl (by decide) (by decide) (by decide) rfl rfl ?_
  refine CW.putF (j := 3) (ci := 1) (pc := 31) dX1_init_31 ac_1 rfl rfl (by decide) fl_1_21 rfl rfl rfl ?_
  refine CW.aload_n (pc := 34) dX1_init_34 rfl ?_
  refine CW.bipush (pc := 35) dX1_init_35 rfl ?_
  refine CW.newarr' (kd := 1) (N := 24) (t := 68) (pc := 37) dX1_init_37 rfl aw_boolean (Or.inr ⟨rfl, rfl⟩) rfl (by decide) (by decide) (by decide) rfl rfl ?_
  refine CW.putF (j := 4) (ci := 1) (pc := 39) dX1_init_39 ac_1 rfl rfl (by decide) fl_1_24 rfl rfl rfl ?_
  refine CW.aload_n (pc := 42) dX1_init_42 rfl ?_
  refine CW.iconst (pc := 43) dX1_init_43 ?_
  refine CW.puti0 (j := 5) (jj := 5) (ci := 1) (pc := 44) dX1_init_44 ac_1 rfl rfl (by decide) fl_1_28 rfl rfl (Or.inl rfl) rfl ?_
  refine CW.vret (pc := 47) dX1_init_47 rfl rfl rfl ?_
  exact k
theorem ck_1 : Cond.code mX1_init.1 mX1_init.2.1 mX1_init.2.2.1 mX1_init.2.2.2 ∈ a_ws := a_in 324 (by decide +kernel) (by decide +kernel)
theorem ci_1 : Cond.instanceMethod mX1_init.1 ∈ a_ws := a_in 323 (by decide +kernel) (by decide +kernel)
theorem cl_9_68 : Cond.classLink RX9 68 RX0 ∈ a_ws := a_in 348 (by decide +kernel) (by decide +kernel)
theorem in_0 : Cond.instantiable RX0 3 ∈ a_ws := a_in 349 (by decide +kernel) (by decide +kernel)
def tB_19 : List cS := [.inr (9, [some (some 1), some (some 3), some (some 11), some (some 19), some (some 20), some (some 29), some (some 38), some (some 42), some (some 44), some (some 63), some none, some none, some none, some none, some none, none, none]), .inr (7, [some (some 2), none]), .inl (0, 140, 0), .inr (5, [none, none, some (some 4), some (some 5), some (some 6), some (some 7), some (some 8), some (some 9), some (some 10)]), .inl (0, 24, 0), .inl (0, 24, 0), .inl (0, 24, 0), .inl (0, 24, 0), .inl (0, 24, 0), .inl (0, 24, 0), .inl (0, 6, 0), .inr (5, [none, none, some (some 12), some (some 13), some (some 14), some (some 15), some (some 16), some (some 17), some (some 18)]), .inl (0, 24, 0), .inl (0, 24, 0), .inl (0, 24, 0), .inl (0, 24, 0), .inl (0, 24, 0), .inl (0, 24, 0), .inl (0, 6, 0), .inl (0, 24, 0), .inr (8, [some (some 21), some (some 22), some (some 23), some (some 24), some (some 25), some (some 26), some (some 27), some (some 28), none, none, none]), .inl (0, 24, 0), .inl (0, 24, 0), .inl (0, 24, 0), .inl (0, 24, 0), .inl (0, 24, 0), .inl (0, 24, 0), .inl (0, 24, 0), .inl (0, 24, 0), .inr (8, [some (some 30), some (some 31), some (some 32), some (some 33), some (some 34), some (some 35), some (some 36), some (some 37), none, none, none]), .inl (0, 24, 0), .inl (0, 24, 0), .inl (0, 24, 0), .inl (0, 24, 0), .inl (0, 24, 0), .inl (0, 24, 0), .inl (0, 24, 0), .inl (0, 24, 0), .inr (6, [some (some 39), none, some (some 40), none, some (some 41), none]), .inl (0, 24, 0), .inl (0, 25, 0), .inl (0, 24, 0), .inr (3, [some (some 43), none, none]), .inl (0, 9, 0), .inr (4, [some (some 45), none, none]), .inl (2, 17, 46), .inl (0, 24, 0), .inl (0, 24, 0), .inl (0, 24, 0), .inl (0, 24, 0), .inl (0, 24, 0), .inl (0, 24, 0), .inl (0, 24, 0), .inl (0, 24, 0), .inl (0, 24, 0), .inl (0, 24, 0), .inl (0, 24, 0), .inl (0, 24, 0), .inl (0, 24, 0), .inl (0, 24, 0), .inl (0, 24, 0), .inl (0, 24, 0), .inl (0, 24, 0), .inr (1, [some (some 64), some (some 65), some (some 66), some (some 67), some (some 68), none]), .inl (0, 24, 0), .inl (0, 5, 0), .inl (0, 5, 0), .inl (0, 6, 0), .inl (1, 24, 0), .inr (0, [some none, some none, some none])]
theorem ol_0_3 : Cond.methodLink RX0 3 Lib.objectInit ∈ a_ws := a_in 353 (by decide +kernel) (by decide +kernel)
def hB_2 : aH := a_up hB_1 72 0 (-1)
def hB_3 : aH := a_up hB_2 72 1 (-1)
def hB_4 : aH := a_up hB_3 72 2 (-1)
def hB_5 : aH := a_up hB_4 72 3 (-1)
def hB_6 : aH := a_up hB_5 72 4 (-1)
def tB_20 : List cS := [.inr (9, [some (some 1), some (some 3), some (some 11), some (some 19), some (some 20), some (some 29), some (some 38), some (some 42), some (some 44), some (some 63), some none, some none, some none, some none, some none, none, none]), .inr (7, [some (some 2), none]), .inl (0, 140, 0), .inr (5, [none, none, some (some 4), some (some 5), some (some 6), some (some 7), some (some 8), some (some 9), some (some 10)]), .inl (0, 24, 0), .inl (0, 24, 0), .inl (0, 24, 0), .inl (0, 24, 0), .inl (0, 24, 0), .inl (0, 24, 0), .inl (0, 6, 0), .inr (5, [none, none, some (some 12), some (some 13), some (some 14), some (some 15), some (some 16), some (some 17), some (some 18)]), .inl (0, 24, 0), .inl (0, 24, 0), .inl (0, 24, 0), .inl (0, 24, 0), .inl (0, 24, 0), .inl (0, 24, 0), .inl (0, 6, 0), .inl (0, 24, 0), .inr (8, [some (some 21), some (some 22), some (some 23), some (some 24), some (some 25), some (some 26), some (some 27), some (some 28), none, none, none]), .inl (0, 24, 0), .inl (0, 24, 0), .inl (0, 24, 0), .inl (0, 24, 0), .inl (0, 24, 0), .inl (0, 24, 0), .inl (0, 24, 0), .inl (0, 24, 0), .inr (8, [some (some 30), some (some 31), some (some 32), some (some 33), some (some 34), some (some 35), some (some 36), some (some 37), none, none, none]), .inl (0, 24, 0), .inl (0, 24, 0), .inl (0, 24, 0), .inl (0, 24, 0), .inl (0, 24, 0), .inl (0, 24, 0), .inl (0, 24, 0), .inl (0, 24, 0), .inr (6, [some (some 39), none, some (some 40), none, some (some 41), none]), .inl (0, 24, 0), .inl (0, 25, 0), .inl (0, 24, 0), .inr (3, [some (some 43), none, none]), .inl (0, 9, 0), .inr (4, [some (some 45), none, none]), .inl (2, 17, 46), .inl (0, 24, 0), .inl (0, 24, 0), .inl (0, 24, 0), .inl (0, 24, 0), .inl (0, 24, 0), .inl (0, 24, 0), .inl (0, 24, 0), .inl (0, 24, 0), .inl (0, 24, 0), .inl (0, 24, 0), .inl (0, 24, 0), .inl (0, 24, 0), .inl (0, 24, 0), .inl (0, 24, 0), .inl (0, 24, 0), .inl (0, 24, 0), .inl (0, 24, 0), .inr (1, [some (some 64), some (some 65), some (some 66), some (some 67), some (some 68), none]), .inl (0, 24, 0), .inl (0, 5, 0), .inl (0, 5, 0), .inl (0, 6, 0), .inl (1, 24, 0), .inr (0, [some (some 70), some (some 71), some (some 72)]), .inl (0, 6, 0), .inl (0, 24, 0), .inl (0, 5, 0)]
set_option maxRecDepth 100000 in
set_option maxHeartbeats 4000000 in
theorem ct_69 {Q : cQ} (k : Q tB_20 hB_6) : cRun mX0_init 1 3 35 69 tB_19 hB_1 Q := by
  refine cRun.of pn_0 rfl (by decide) (by decide) ?_
  refine CW.aload_n (pc := 0) dX0_init_0 rfl ?_
  refine CW.objInit (pc := 1) dX0_init_1 (by decide) ol_0_3 (Nat.le_of_ble_eq_true rfl) ?_
  refine CW.aload_n (pc := 4) dX0_init_4 rfl ?_
  refine CW.bipush (pc := 5) dX0_init_5 rfl ?_
  refine CW.newarr' (kd := 0) (N := 6) (t := 70) (pc := 7) dX0_init_7 rfl aw_int (Or.inl ⟨rfl, rfl⟩) rfl (by decide) (by decide) (by decide) rfl rfl ?_
  refine CW.putF (j := 0) (ci := 0) (pc := 9) dX0_init_9 ac_0 rfl rfl (by decide) fl_0_9 rfl rfl rfl ?_
  refine CW.aload_n (pc := 12) dX0_init_12 rfl ?_
  refine CW.bipush (pc := 13) dX0_init_13 rfl ?_
  refine CW.newarr' (kd := 0) (N := 24) (t := 71) (pc := 15) dX0_init_15 rfl aw_int (Or.inl ⟨rfl, rfl⟩) rfl (by decide) (by decide) (by decide) rfl rfl ?_
  refine CW.putF (j := 1) (ci := 0) (pc := 17) dX0_init_17 ac_0 rfl rfl (by decide) fl_0_15 rfl rfl rfl ?_
  refine CW.aload_n (pc := 20) dX0_init_20 rfl ?_
  refine CW.iconst (pc := 21) dX0_init_21 ?_
  refine CW.newarr' (kd := 0) (N := 5) (t := 72) (pc := 22) dX0_init_22 rfl aw_int (Or.inl ⟨rfl, rfl⟩) rfl (by decide) (by decide) (by decide) rfl rfl ?_
  refine CW.dup (pc := 24) dX0_init_24 rfl ?_
  refine CW.iconst (pc := 25) dX0_init_25 ?_
  refine CW.iconst (pc := 26) dX0_init_26 ?_
  refine CW.iast (N := 5) (b := 0) (pc := 27) dX0_init_27 rfl ⟨by decide, by decide⟩ ⟨by decide, by decide⟩ ?_
  show CW _ _ _ _ _ _ _ _ hB_2 _ _ _
  refine CW.dup (pc := 28) dX0_init_28 rfl ?_
  refine CW.iconst (pc := 29) dX0_init_29 ?_
  refine CW.iconst (pc := 30) dX0_init_30 ?_
  refine CW.iast (N := 5) (b := 0) (pc := 31) dX0_init_31 rfl ⟨by decide, by decide⟩ ⟨by decide, by decide⟩ ?_
  show CW _ _ _ _ _ _ _ _ hB_3 _ _ _
  refine CW.dup (pc := 32) dX0_init_32 rfl ?_
  refine CW.iconst (pc := 33) dX0_init_33 ?_
  refine CW.iconst (pc := 34) dX0_init_34 ?_
  refine CW.iast (N := 5) (b := 0) (pc := 35) dX0_init_35 rfl ⟨by decide, by decide⟩ ⟨by decide, by decide⟩ ?_
  show CW _ _ _ _ _ _ _ _ hB_4 _ _ _
  refine CW.dup (pc := 36) dX0_init_36 rfl ?_
  refine CW.iconst (pc := 37) dX0_init_37 ?_
  refine CW.iconst (pc := 38) dX0_init_38 ?_
  refine CW.iast (N := 5) (b := 0) (pc := 39) dX0_init_39 rfl ⟨by decide, by decide⟩ ⟨by decide, by decide⟩ ?_
  show CW _ _ _ _ _ _ _ _ hB_5 _ _ _
  refine CW.dup (pc := 40) dX0_init_40 rfl ?_
  refine CW.iconst (pc := 41) dX0_init_41 ?_
  refine CW.iconst (pc := 42) dX0_init_42 ?_
  refine CW.iast (N := 5) (b := 0) (pc := 43) dX0_init_43 rfl ⟨by decide, by decide⟩ ⟨by decide, by decide⟩ ?_
  show CW _ _ _ _ _ _ _ _ hB_6 _ _ _
  refine CW.putF (j := 2) (ci := 0) (pc := 44) dX0_init_44 ac_0 rfl rfl (by decide) fl_0_18 rfl rfl rfl ?_
  refine CW.vret (pc := 47) dX0_init_47 rfl rfl rfl ?_
  exact k
theorem ck_0 : Cond.code mX0_init.1 mX0_init.2.1 mX0_init.2.2.1 mX0_init.2.2.2 ∈ a_ws := a_in 352 (by decide +kernel) (by decide +kernel)
theorem ci_0 : Cond.instanceMethod mX0_init.1 ∈ a_ws := a_in 351 (by decide +kernel) (by decide +kernel)
theorem cl_9_75 : Cond.classLink RX9 75 RX2 ∈ a_ws := a_in 364 (by decide +kernel) (by decide +kernel)
theorem in_2 : Cond.instantiable RX2 4 ∈ a_ws := a_in 365 (by decide +kernel) (by decide +kernel)
def tB_21 : List cS := [.inr (9, [some (some 1), some (some 3), some (some 11), some (some 19), some (some 20), some (some 29), some (some 38), some (some 42), some (some 44), some (some 63), some (some 69), some none, some none, some none, some none, none, none]), .inr (7, [some (some 2), none]), .inl (0, 140, 0), .inr (5, [none, none, some (some 4), some (some 5), some (some 6), some (some 7), some (some 8), some (some 9), some (some 10)]), .inl (0, 24, 0), .inl (0, 24, 0), .inl (0, 24, 0), .inl (0, 24, 0), .inl (0, 24, 0), .inl (0, 24, 0), .inl (0, 6, 0), .inr (5, [none, none, some (some 12), some (some 13), some (some 14), some (some 15), some (some 16), some (some 17), some (some 18)]), .inl (0, 24, 0), .inl (0, 24, 0), .inl (0, 24, 0), .inl (0, 24, 0), .inl (0, 24, 0), .inl (0, 24, 0), .inl (0, 6, 0), .inl (0, 24, 0), .inr (8, [some (some 21), some (some 22), some (some 23), some (some 24), some (some 25), some (some 26), some (some 27), some (some 28), none, none, none]), .inl (0, 24, 0), .inl (0, 24, 0), .inl (0, 24, 0), .inl (0, 24, 0), .inl (0, 24, 0), .inl (0, 24, 0), .inl (0, 24, 0), .inl (0, 24, 0), .inr (8, [some (some 30), some (some 31), some (some 32), some (some 33), some (some 34), some (some 35), some (some 36), some (some 37), none, none, none]), .inl (0, 24, 0), .inl (0, 24, 0), .inl (0, 24, 0), .inl (0, 24, 0), .inl (0, 24, 0), .inl (0, 24, 0), .inl (0, 24, 0), .inl (0, 24, 0), .inr (6, [some (some 39), none, some (some 40), none, some (some 41), none]), .inl (0, 24, 0), .inl (0, 25, 0), .inl (0, 24, 0), .inr (3, [some (some 43), none, none]), .inl (0, 9, 0), .inr (4, [some (some 45), none, none]), .inl (2, 17, 46), .inl (0, 24, 0), .inl (0, 24, 0), .inl (0, 24, 0), .inl (0, 24, 0), .inl (0, 24, 0), .inl (0, 24, 0), .inl (0, 24, 0), .inl (0, 24, 0), .inl (0, 24, 0), .inl (0, 24, 0), .inl (0, 24, 0), .inl (0, 24, 0), .inl (0, 24, 0), .inl (0, 24, 0), .inl (0, 24, 0), .inl (0, 24, 0), .inl (0, 24, 0), .inr (1, [some (some 64), some (some 65), some (some 66), some (some 67), some (some 68), none]), .inl (0, 24, 0), .inl (0, 5, 0), .inl (0, 5, 0), .inl (0, 6, 0), .inl (1, 24, 0), .inr (0, [some (some 70), some (some 71), some (some 72)]), .inl (0, 6, 0), .inl (0, 24, 0), .inl (0, 5, 0), .inr (2, [some none, none, none, none])]
theorem ol_2_3 : Cond.methodLink RX2 3 Lib.objectInit ∈ a_ws := a_in 369 (by decide +kernel) (by decide +kernel)
def tB_22 : List cS := [.inr (9, [some (some 1), some (some 3), some (some 11), some (some 19), some (some 20), some (some 29), some (some 38), some (some 42), some (some 44), some (some 63), some (some 69), some none, some none, some none, some none, none, none]), .inr (7, [some (some 2), none]), .inl (0, 140, 0), .inr (5, [none, none, some (some 4), some (some 5), some (some 6), some (some 7), some (some 8), some (some 9), some (some 10)]), .inl (0, 24, 0), .inl (0, 24, 0), .inl (0, 24, 0), .inl (0, 24, 0), .inl (0, 24, 0), .inl (0, 24, 0), .inl (0, 6, 0), .inr (5, [none, none, some (some 12), some (some 13), some (some 14), some (some 15), some (some 16), some (some 17), some (some 18)]), .inl (0, 24, 0), .inl (0, 24, 0), .inl (0, 24, 0), .inl (0, 24, 0), .inl (0, 24, 0), .inl (0, 24, 0), .inl (0, 6, 0), .inl (0, 24, 0), .inr (8, [some (some 21), some (some 22), some (some 23), some (some 24), some (some 25), some (some 26), some (some 27), some (some 28), none, none, none]), .inl (0, 24, 0), .inl (0, 24, 0), .inl (0, 24, 0), .inl (0, 24, 0), .inl (0, 24, 0), .inl (0, 24, 0), .inl (0, 24, 0), .inl (0, 24, 0), .inr (8, [some (some 30), some (some 31), some (some 32), some (some 33), some (some 34), some (some 35), some (some 36), some (some 37), none, none, none]), .inl (0, 24, 0), .inl (0, 24, 0), .inl (0, 24, 0), .inl (0, 24, 0), .inl (0, 24, 0), .inl (0, 24, 0), .inl (0, 24, 0), .inl (0, 24, 0), .inr (6, [some (some 39), none, some (some 40), none, some (some 41), none]), .inl (0, 24, 0), .inl (0, 25, 0), .inl (0, 24, 0), .inr (3, [some (some 43), none, none]), .inl (0, 9, 0), .inr (4, [some (some 45), none, none]), .inl (2, 17, 46), .inl (0, 24, 0), .inl (0, 24, 0), .inl (0, 24, 0), .inl (0, 24, 0), .inl (0, 24, 0), .inl (0, 24, 0), .inl (0, 24, 0), .inl (0, 24, 0), .inl (0, 24, 0), .inl (0, 24, 0), .inl (0, 24, 0), .inl (0, 24, 0), .inl (0, 24, 0), .inl (0, 24, 0), .inl (0, 24, 0), .inl (0, 24, 0), .inl (0, 24, 0), .inr (1, [some (some 64), some (some 65), some (some 66), some (some 67), some (some 68), none]), .inl (0, 24, 0), .inl (0, 5, 0), .inl (0, 5, 0), .inl (0, 6, 0), .inl (1, 24, 0), .inr (0, [some (some 70), some (some 71), some (some 72)]), .inl (0, 6, 0), .inl (0, 24, 0), .inl (0, 5, 0), .inr (2, [some (some 74), none, none, none]), .inl (0, 24, 0)]
set_option maxRecDepth 100000 in
set_option maxHeartbeats 4000000 in
theorem ct_73 {Q : cQ} (k : Q tB_22 hB_6) : cRun mX2_init 1 1 24 73 tB_21 hB_6 Q := by
  refine cRun.of pn_2 rfl (by decide) (by decide) ?_
  refine CW.aload_n (pc := 0) dX2_init_0 rfl ?_
  refine CW.objInit (pc := 1) dX2_init_1 (by decide) ol_2_3 (Nat.le_of_ble_eq_true rfl) ?_
  refine CW.aload_n (pc := 4) dX2_init_4 rfl ?_
  refine CW.bipush (pc := 5) dX2_init_5 rfl ?_
  refine CW.newarr' (kd := 0) (N := 24) (t := 74) (pc := 7) dX2_init_7 rfl aw_int (Or.inl ⟨rfl, rfl⟩) rfl (by decide) (by decide) (by decide) rfl rfl ?_
  refine CW.putF (j := 0) (ci := 2) (pc := 9) dX2_init_9 ac_2 rfl rfl (by decide) fl_2_9 rfl rfl rfl ?_
  refine CW.aload_n (pc := 12) dX2_init_12 rfl ?_
  refine CW.iconst (pc := 13) dX2_init_13 ?_
  refine CW.puti0 (j := 1) (jj := 1) (ci := 2) (pc := 14) dX2_init_14 ac_2 rfl rfl (by decide) fl_2_15 rfl rfl (Or.inr ⟨rfl, Or.inl rfl⟩) rfl ?_
  refine CW.aload_n (pc := 17) dX2_init_17 rfl ?_
  refine CW.iconst (pc := 18) dX2_init_18 ?_
  refine CW.puti0 (j := 2) (jj := 2) (ci := 2) (pc := 19) dX2_init_19 ac_2 rfl rfl (by decide) fl_2_19 rfl rfl (Or.inl rfl) rfl ?_
  refine CW.aload_n (pc := 22) dX2_init_22 rfl ?_
  refine CW.iconst (pc := 23) dX2_init_23 ?_
  refine CW.puti0 (j := 3) (jj := 3) (ci := 2) (pc := 24) dX2_init_24 ac_2 rfl rfl (by decide) fl_2_23 rfl rfl (Or.inl rfl) rfl ?_
  refine CW.vret (pc := 27) dX2_init_27 rfl rfl rfl ?_
  exact k
theorem ck_2 : Cond.code mX2_init.1 mX2_init.2.1 mX2_init.2.2.1 mX2_init.2.2.2 ∈ a_ws := a_in 368 (by decide +kernel) (by decide +kernel)
theorem ci_2 : Cond.instanceMethod mX2_init.1 ∈ a_ws := a_in 367 (by decide +kernel) (by decide +kernel)
def tB_23 : List cS := [.inr (9, [some (some 1), some (some 3), some (some 11), some (some 19), some (some 20), some (some 29), some (some 38), some (some 42), some (some 44), some (some 63), some (some 69), some (some 73), some none, some none, some none, none, none]), .inr (7, [some (some 2), none]), .inl (0, 140, 0), .inr (5, [none, none, some (some 4), some (some 5), some (some 6), some (some 7), some (some 8), some (some 9), some (some 10)]), .inl (0, 24, 0), .inl (0, 24, 0), .inl (0, 24, 0), .inl (0, 24, 0), .inl (0, 24, 0), .inl (0, 24, 0), .inl (0, 6, 0), .inr (5, [none, none, some (some 12), some (some 13), some (some 14), some (some 15), some (some 16), some (some 17), some (some 18)]), .inl (0, 24, 0), .inl (0, 24, 0), .inl (0, 24, 0), .inl (0, 24, 0), .inl (0, 24, 0), .inl (0, 24, 0), .inl (0, 6, 0), .inl (0, 24, 0), .inr (8, [some (some 21), some (some 22), some (some 23), some (some 24), some (some 25), some (some 26), some (some 27), some (some 28), none, none, none]), .inl (0, 24, 0), .inl (0, 24, 0), .inl (0, 24, 0), .inl (0, 24, 0), .inl (0, 24, 0), .inl (0, 24, 0), .inl (0, 24, 0), .inl (0, 24, 0), .inr (8, [some (some 30), some (some 31), some (some 32), some (some 33), some (some 34), some (some 35), some (some 36), some (some 37), none, none, none]), .inl (0, 24, 0), .inl (0, 24, 0), .inl (0, 24, 0), .inl (0, 24, 0), .inl (0, 24, 0), .inl (0, 24, 0), .inl (0, 24, 0), .inl (0, 24, 0), .inr (6, [some (some 39), none, some (some 40), none, some (some 41), none]), .inl (0, 24, 0), .inl (0, 25, 0), .inl (0, 24, 0), .inr (3, [some (some 43), none, none]), .inl (0, 9, 0), .inr (4, [some (some 45), none, none]), .inl (2, 17, 46), .inl (0, 24, 0), .inl (0, 24, 0), .inl (0, 24, 0), .inl (0, 24, 0), .inl (0, 24, 0), .inl (0, 24, 0), .inl (0, 24, 0), .inl (0, 24, 0), .inl (0, 24, 0), .inl (0, 24, 0), .inl (0, 24, 0), .inl (0, 24, 0), .inl (0, 24, 0), .inl (0, 24, 0), .inl (0, 24, 0), .inl (0, 24, 0), .inl (0, 24, 0), .inr (1, [some (some 64), some (some 65), some (some 66), some (some 67), some (some 68), none]), .inl (0, 24, 0), .inl (0, 5, 0), .inl (0, 5, 0), .inl (0, 6, 0), .inl (1, 24, 0), .inr (0, [some (some 70), some (some 71), some (some 72)]), .inl (0, 6, 0), .inl (0, 24, 0), .inl (0, 5, 0), .inr (2, [some (some 74), none, none, none]), .inl (0, 24, 0), .inr (5, [none, none, some none, some none, some none, some none, some none, some none, some none])]
def tB_24 : List cS := [.inr (9, [some (some 1), some (some 3), some (some 11), some (some 19), some (some 20), some (some 29), some (some 38), some (some 42), some (some 44), some (some 63), some (some 69), some (some 73), some none, some none, some none, none, none]), .inr (7, [some (some 2), none]), .inl (0, 140, 0), .inr (5, [none, none, some (some 4), some (some 5), some (some 6), some (some 7), some (some 8), some (some 9), some (some 10)]), .inl (0, 24, 0), .inl (0, 24, 0), .inl (0, 24, 0), .inl (0, 24, 0), .inl (0, 24, 0), .inl (0, 24, 0), .inl (0, 6, 0), .inr (5, [none, none, some (some 12), some (some 13), some (some 14), some (some 15), some (some 16), some (some 17), some (some 18)]), .inl (0, 24, 0), .inl (0, 24, 0), .inl (0, 24, 0), .inl (0, 24, 0), .inl (0, 24, 0), .inl (0, 24, 0), .inl (0, 6, 0), .inl (0, 24, 0), .inr (8, [some (some 21), some (some 22), some (some 23), some (some 24), some (some 25), some (some 26), some (some 27), some (some 28), none, none, none]), .inl (0, 24, 0), .inl (0, 24, 0), .inl (0, 24, 0), .inl (0, 24, 0), .inl (0, 24, 0), .inl (0, 24, 0), .inl (0, 24, 0), .inl (0, 24, 0), .inr (8, [some (some 30), some (some 31), some (some 32), some (some 33), some (some 34), some (some 35), some (some 36), some (some 37), none, none, none]), .inl (0, 24, 0), .inl (0, 24, 0), .inl (0, 24, 0), .inl (0, 24, 0), .inl (0, 24, 0), .inl (0, 24, 0), .inl (0, 24, 0), .inl (0, 24, 0), .inr (6, [some (some 39), none, some (some 40), none, some (some 41), none]), .inl (0, 24, 0), .inl (0, 25, 0), .inl (0, 24, 0), .inr (3, [some (some 43), none, none]), .inl (0, 9, 0), .inr (4, [some (some 45), none, none]), .inl (2, 17, 46), .inl (0, 24, 0), .inl (0, 24, 0), .inl (0, 24, 0), .inl (0, 24, 0), .inl (0, 24, 0), .inl (0, 24, 0), .inl (0, 24, 0), .inl (0, 24, 0), .inl (0, 24, 0), .inl (0, 24, 0), .inl (0, 24, 0), .inl (0, 24, 0), .inl (0, 24, 0), .inl (0, 24, 0), .inl (0, 24, 0), .inl (0, 24, 0), .inl (0, 24, 0), .inr (1, [some (some 64), some (some 65), some (some 66), some (some 67), some (some 68), none]), .inl (0, 24, 0), .inl (0, 5, 0), .inl (0, 5, 0), .inl (0, 6, 0), .inl (1, 24, 0), .inr (0, [some (some 70), some (some 71), some (some 72)]), .inl (0, 6, 0), .inl (0, 24, 0), .inl (0, 5, 0), .inr (2, [some (some 74), none, none, none]), .inl (0, 24, 0), .inr (5, [none, none, some (some 76), some (some 77), some (some 78), some (some 79), some (some 80), some (some 81), some (some 82)]), .inl (0, 24, 0), .inl (0, 24, 0), .inl (0, 24, 0), .inl (0, 24, 0), .inl (0, 24, 0), .inl (0, 24, 0), .inl (0, 6, 0)]
set_option maxRecDepth 100000 in
set_option maxHeartbeats 4000000 in
theorem ct_75 {Q : cQ} (k : Q tB_24 hB_6) : cRun mX5_init 1 7 150 75 tB_23 hB_6 Q := by
  refine cRun.of pn_5 rfl (by decide) (by decide) ?_
  refine CW.aload_n (pc := 0) dX5_init_0 rfl ?_
  refine CW.objInit (pc := 1) dX5_init_1 (by decide) ol_5_3 (Nat.le_of_ble_eq_true rfl) ?_
  refine CW.aload_n (pc := 4) dX5_init_4 rfl ?_
  refine CW.iconst (pc := 5) dX5_init_5 ?_
  refine CW.puti0 (j := 0) (jj := 0) (ci := 5) (pc := 6) dX5_init_6 ac_5 rfl rfl (by decide) fl_5_9 rfl rfl (Or.inl rfl) rfl ?_
  refine CW.aload_n (pc := 9) dX5_init_9 rfl ?_
  refine CW.iconst (pc := 10) dX5_init_10 ?_
  refine CW.puti0 (j := 1) (jj := 1) (ci := 5) (pc := 11) dX5_init_11 ac_5 rfl rfl (by decide) fl_5_15 rfl rfl (Or.inl rfl) rfl ?_
  refine CW.aload_n (pc := 14) dX5_init_14 rfl ?_
  refine CW.bipush (pc := 15) dX5_init_15 rfl ?_
  refine CW.newarr' (kd := 0) (N := 24) (t := 76) (pc := 17) dX5_init_17 rfl aw_int (Or.inl ⟨rfl, rfl⟩) rfl (by decide) (by decide) (by decide) rfl rfl ?_
  refine CW.putF (j := 2) (ci := 5) (pc := 19) dX5_init_19 ac_5 rfl rfl (by decide) fl_5_18 rfl rfl rfl ?_
  refine CW.aload_n (pc := 22) dX5_init_22 rfl ?_
  refine CW.bipush (pc := 23) dX5_init_23 rfl ?_
  refine CW.newarr' (kd := 0) (N := 24) (t := 77) (pc := 25) dX5_init_25 rfl aw_int (Or.inl ⟨rfl, rfl⟩) rfl (by decide) (by decide) (by decide) rfl rfl ?_
  refine CW.putF (j := 3) (ci := 5) (pc := 27) dX5_init_27 ac_5 rfl rfl (by decide) fl_5_22 rfl rfl rfl ?_
  refine CW.aload_n (pc := 30) dX5_init_30 rfl ?_
  refine CW.bipush (pc := 31) dX5_init_31 rfl ?_
  refine CW.newarr' (kd := 0) (N := 24) (t := 78) (pc := 33) dX5_init_33 rfl aw_int (Or.inl ⟨rfl, rfl⟩) rfl (by decide) (by decide) (by decide) rfl rfl ?_
  refine CW.putF (j := 4) (ci := 5) (pc := 35) dX5_init_35 ac_5 rfl rfl (by decide) fl_5_25 rfl rfl rfl ?_
  refine CW.aload_n (pc := 38) dX5_init_38 rfl ?_
  refine CW.bipush (pc := 39) dX5_init_39 rfl ?_
  refine CW.newarr' (kd := 0) (N := 24) (t := 79) (pc := 41) dX5_init_41 rfl aw_int (Or.inl ⟨rfl, rfl⟩) rfl (by decide) (by decide) (by decide) rfl rfl ?_
  refine CW.putF (j := 5) (ci := 5) (pc := 43) dX5_init_43 ac_5 rfl rfl (by decide) fl_5_28 rfl rfl rfl ?_
  refine CW.aload_n (pc := 46) dX5_init_46 rfl ?_
  refine CW.bipush (pc := 47) dX5_init_47 rfl ?_
  refine CW.newarr' (kd := 0) (N := 24) (t := 80) (pc := 49) dX5_init_49 rfl aw_int (Or.inl ⟨rfl, rfl⟩) rfl (by decide) (by decide) (by decide) rfl rfl ?_
  refine CW.putF (j := 6) (ci := 5) (pc := 51) dX5_init_51 ac_5 rfl rfl (by decide) fl_5_31 rfl rfl rfl ?_
  refine CW.aload_n (pc := 54) dX5_init_54 rfl ?_
  refine CW.bipush (pc := 55) dX5_init_55 rfl ?_
  refine CW.newarr' (kd := 0) (N := 24) (t := 81) (pc := 57) dX5_init_57 rfl aw_int (Or.inl ⟨rfl, rfl⟩) rfl (by decide) (by decide) (by decide) rfl rfl ?_
  refine CW.putF (j := 7) (ci := 5) (pc := 59) dX5_init_59 ac_5 rfl rfl (by decide) fl_5_34 rfl rfl rfl ?_
  refine CW.aload_n (pc := 62) dX5_init_62 rfl ?_
  refine CW.bipush (pc := 63) dX5_init_63 rfl ?_
  refine CW.newarr' (kd := 0) (N := 6) (t := 82) (pc := 65) dX5_init_65 rfl aw_int (Or.inl ⟨rfl, rfl⟩) rfl (by decide) (by decide) (by decide) rfl rfl ?_
  refine CW.putF (j := 8) (ci := 5) (pc := 67) dX5_init_67 ac_5 rfl rfl (by decide) fl_5_37 rfl rfl rfl ?_
  refine CW.vret (pc := 70) dX5_init_70 rfl rfl rfl ?_
  exact k
def hB_7 : aH := a_up hB_6 0 15 (-1)
def tB_25 : List cS := [.inr (9, [some (some 1), some (some 3), some (some 11), some (some 19), some (some 20), some (some 29), some (some 38), some (some 42), some (some 44), some (some 63), some (some 69), some (some 73), some (some 75), some (some 83), some (some 84), none, none]), .inr (7, [some (some 2), none]), .inl (0, 140, 0), .inr (5, [none, none, some (some 4), some (some 5), some (some 6), some (some 7), some (some 8), some (some 9), some (some 10)]), .inl (0, 24, 0), .inl (0, 24, 0), .inl (0, 24, 0), .inl (0, 24, 0), .inl (0, 24, 0), .inl (0, 24, 0), .inl (0, 6, 0), .inr (5, [none, none, some (some 12), some (some 13), some (some 14), some (some 15), some (some 16), some (some 17), some (some 18)]), .inl (0, 24, 0), .inl (0, 24, 0), .inl (0, 24, 0), .inl (0, 24, 0), .inl (0, 24, 0), .inl (0, 24, 0), .inl (0, 6, 0), .inl (0, 24, 0), .inr (8, [some (some 21), some (some 22), some (some 23), some (some 24), some (some 25), some (some 26), some (some 27), some (some 28), none, none, none]), .inl (0, 24, 0), .inl (0, 24, 0), .inl (0, 24, 0), .inl (0, 24, 0), .inl (0, 24, 0), .inl (0, 24, 0), .inl (0, 24, 0), .inl (0, 24, 0), .inr (8, [some (some 30), some (some 31), some (some 32), some (some 33), some (some 34), some (some 35), some (some 36), some (some 37), none, none, none]), .inl (0, 24, 0), .inl (0, 24, 0), .inl (0, 24, 0), .inl (0, 24, 0), .inl (0, 24, 0), .inl (0, 24, 0), .inl (0, 24, 0), .inl (0, 24, 0), .inr (6, [some (some 39), none, some (some 40), none, some (some 41), none]), .inl (0, 24, 0), .inl (0, 25, 0), .inl (0, 24, 0), .inr (3, [some (some 43), none, none]), .inl (0, 9, 0), .inr (4, [some (some 45), none, none]), .inl (2, 17, 46), .inl (0, 24, 0), .inl (0, 24, 0), .inl (0, 24, 0), .inl (0, 24, 0), .inl (0, 24, 0), .inl (0, 24, 0), .inl (0, 24, 0), .inl (0, 24, 0), .inl (0, 24, 0), .inl (0, 24, 0), .inl (0, 24, 0), .inl (0, 24, 0), .inl (0, 24, 0), .inl (0, 24, 0), .inl (0, 24, 0), .inl (0, 24, 0), .inl (0, 24, 0), .inr (1, [some (some 64), some (some 65), some (some 66), some (some 67), some (some 68), none]), .inl (0, 24, 0), .inl (0, 5, 0), .inl (0, 5, 0), .inl (0, 6, 0), .inl (1, 24, 0), .inr (0, [some (some 70), some (some 71), some (some 72)]), .inl (0, 6, 0), .inl (0, 24, 0), .inl (0, 5, 0), .inr (2, [some (some 74), none, none, none]), .inl (0, 24, 0), .inr (5, [none, none, some (some 76), some (some 77), some (some 78), some (some 79), some (some 80), some (some 81), some (some 82)]), .inl (0, 24, 0), .inl (0, 24, 0), .inl (0, 24, 0), .inl (0, 24, 0), .inl (0, 24, 0), .inl (0, 24, 0), .inl (0, 6, 0), .inl (0, 24, 0), .inl (0, 24, 0)]
set_option maxRecDepth 100000 in
set_option maxHeartbeats 4000000 in
theorem ct_0 {Q : cQ} (k : Q tB_25 hB_7) : cRun mX9_init 2 84 1752 0 tB_0 hB_0 Q := by
  refine cRun.of pn_9 rfl (by decide) (by decide) ?_
  refine CW.aload_n (pc := 0) dX9_init_0 rfl ?_
  refine CW.objInit (pc := 1) dX9_init_1 (by decide) ol_9_1 (Nat.le_of_ble_eq_true rfl) ?_
  refine CW.aload_n (pc := 4) dX9_init_4 rfl ?_
  refine CW.new' (fs := [some none, none]) (t := 1) (pc := 5) dX9_init_5 ac_7 cl_9_7 in_7 iw_7 (by decide) (by decide) (by decide) (by decide) rfl rfl ?_
  refine CW.dup (pc := 8) dX9_init_8 rfl ?_
  show CW _ _ _ _ _ _ _ tB_1 _ _ _ _
  refine CW.callI (M' := mX7_init) (F' := 1) (mc' := 1) (ms' := 140) (host := "ShopFloor") (pc := 9) dX9_init_9 (by decide) ck_7 iw_7 ci_7 ⟨by decide +kernel, by decide +kernel, by decide⟩ (List.mem_of_getElem? (i := 0) rfl) rfl rfl npX7_init (Nat.le_of_ble_eq_true rfl) (by decide) (by decide) (ct_1 ⟨rfl, ?_⟩)
  refine CW.putF (j := 0) (ci := 9) (pc := 12) dX9_init_12 ac_9 rfl rfl (by decide) fl_9_10 rfl rfl rfl ?_
  refine CW.aload_n (pc := 15) dX9_init_15 rfl ?_
  refine CW.new' (fs := [none, none, some none, some none, some none, some none, some none, some none, some none]) (t := 3) (pc := 16) dX9_init_16 ac_5 cl_9_16 in_5 iw_5 (by decide) (by decide) (by decide) (by decide) rfl rfl ?_
  refine CW.dup (pc := 19) dX9_init_19 rfl ?_
  show CW _ _ _ _ _ _ _ tB_3 _ _ _ _
  refine CW.callI (M' := mX5_init) (F' := 1) (mc' := 7) (ms' := 150) (host := "ShopFloor") (pc := 20) dX9_init_20 (by decide) ck_5 iw_5 ci_5 ⟨by decide +kernel, by decide +kernel, by decide⟩ (List.mem_of_getElem? (i := 1) rfl) rfl rfl npX5_init (Nat.le_of_ble_eq_true rfl) (by decide) (by decide) (ct_3 ⟨rfl, ?_⟩)
  refine CW.putF (j := 1) (ci := 9) (pc := 23) dX9_init_23 ac_9 rfl rfl (by decide) fl_9_19 rfl rfl rfl ?_
  refine CW.aload_n (pc := 26) dX9_init_26 rfl ?_
  refine CW.new' (fs := [none, none, some none, some none, some none, some none, some none, some none, some none]) (t := 11) (pc := 27) dX9_init_27 ac_5 cl_9_16 in_5 iw_5 (by decide) (by decide) (by decide) (by decide) rfl rfl ?_
  refine CW.dup (pc := 30) dX9_init_30 rfl ?_
  show CW _ _ _ _ _ _ _ tB_5 _ _ _ _
  refine CW.callI (M' := mX5_init) (F' := 1) (mc' := 7) (ms' := 150) (host := "ShopFloor") (pc := 31) dX9_init_31 (by decide) ck_5 iw_5 ci_5 ⟨by decide +kernel, by decide +kernel, by decide⟩ (List.mem_of_getElem? (i := 1) rfl) rfl rfl npX5_init (Nat.le_of_ble_eq_true rfl) (by decide) (by decide) (ct_11 ⟨rfl, ?_⟩)
  refine CW.putF (j := 2) (ci := 9) (pc := 34) dX9_init_34 ac_9 rfl rfl (by decide) fl_9_23 rfl rfl rfl ?_
  refine CW.aload_n (pc := 37) dX9_init_37 rfl ?_
  refine CW.bipush (pc := 38) dX9_init_38 rfl ?_
  refine CW.newarr' (kd := 0) (N := 24) (t := 19) (pc := 40) dX9_init_40 rfl aw_int (Or.inl ⟨rfl, rfl⟩) rfl (by decide) (by decide) (by decide) rfl rfl ?_
  refine CW.putF (j := 3) (ci := 9) (pc := 42) dX9_init_42 ac_9 rfl rfl (by decide) fl_9_26 rfl rfl rfl ?_
  refine CW.aload_n (pc := 45) dX9_init_45 rfl ?_
  refine CW.new' (fs := [some none, some none, some none, some none, some none, some none, some none, some none, none, none, none]) (t := 20) (pc := 46) dX9_init_46 ac_8 cl_9_30 in_8 iw_8 (by decide) (by decide) (by decide) (by decide) rfl rfl ?_
  refine CW.dup (pc := 49) dX9_init_49 rfl ?_
  show CW _ _ _ _ _ _ _ tB_7 _ _ _ _
  refine CW.callI (M' := mX8_init) (F' := 1) (mc' := 8) (ms' := 192) (host := "ShopFloor") (pc := 50) dX9_init_50 (by decide) ck_8 iw_8 ci_8 ⟨by decide +kernel, by decide +kernel, by decide⟩ (List.mem_of_getElem? (i := 2) rfl) rfl rfl npX8_init (Nat.le_of_ble_eq_true rfl) (by decide) (by decide) (ct_20 ⟨rfl, ?_⟩)
  refine CW.putF (j := 4) (ci := 9) (pc := 53) dX9_init_53 ac_9 rfl rfl (by decide) fl_9_33 rfl rfl rfl ?_
  refine CW.aload_n (pc := 56) dX9_init_56 rfl ?_
  refine CW.new' (fs := [some none, some none, some none, some none, some none, some none, some none, some none, none, none, none]) (t := 29) (pc := 57) dX9_init_57 ac_8 cl_9_30 in_8 iw_8 (by decide) (by decide) (by decide) (by decide) rfl rfl ?_
  refine CW.dup (pc := 60) dX9_init_60 rfl ?_
  show CW _ _ _ _ _ _ _ tB_9 _ _ _ _
  refine CW.callI (M' := mX8_init) (F' := 1) (mc' := 8) (ms' := 192) (host := "ShopFloor") (pc := 61) dX9_init_61 (by decide) ck_8 iw_8 ci_8 ⟨by decide +kernel, by decide +kernel, by decide⟩ (List.mem_of_getElem? (i := 2) rfl) rfl rfl npX8_init (Nat.le_of_ble_eq_true rfl) (by decide) (by decide) (ct_29 ⟨rfl, ?_⟩)
  refine CW.putF (j := 5) (ci := 9) (pc := 64) dX9_init_64 ac_9 rfl rfl (by decide) fl_9_37 rfl rfl rfl ?_
  refine CW.aload_n (pc := 67) dX9_init_67 rfl ?_
  refine CW.new' (fs := [some none, none, some none, none, some none, none]) (t := 38) (pc := 68) dX9_init_68 ac_6 cl_9_40 in_6 iw_6 (by decide) (by decide) (by decide) (by decide) rfl rfl ?_
  refine CW.dup (pc := 71) dX9_init_71 rfl ?_
  show CW _ _ _ _ _ _ _ tB_11 _ _ _ _
  refine CW.callI (M' := mX6_init) (F' := 1) (mc' := 3) (ms' := 73) (host := "ShopFloor") (pc := 72) dX9_init_72 (by decide) ck_6 iw_6 ci_6 ⟨by decide +kernel, by decide +kernel, by decide⟩ (List.mem_of_getElem? (i := 3) rfl) rfl rfl npX6_init (Nat.le_of_ble_eq_true rfl) (by decide) (by decide) (ct_38 ⟨rfl, ?_⟩)
  refine CW.putF (j := 6) (ci := 9) (pc := 75) dX9_init_75 ac_9 rfl rfl (by decide) fl_9_43 rfl rfl rfl ?_
  refine CW.aload_n (pc := 78) dX9_init_78 rfl ?_
  refine CW.new' (fs := [some none, none, none]) (t := 42) (pc := 79) dX9_init_79 ac_3 cl_9_47 in_3 iw_3 (by decide) (by decide) (by decide) (by decide) rfl rfl ?_
  refine CW.dup (pc := 82) dX9_init_82 rfl ?_
  show CW _ _ _ _ _ _ _ tB_13 _ _ _ _
  refine CW.callI (M' := mX3_init) (F' := 1) (mc' := 1) (ms' := 9) (host := "ShopFloor") (pc := 83) dX9_init_83 (by decide) ck_3 iw_3 ci_3 ⟨by decide +kernel, by decide +kernel, by decide⟩ (List.mem_of_getElem? (i := 4) rfl) rfl rfl npX3_init (Nat.le_of_ble_eq_true rfl) (by decide) (by decide) (ct_42 ⟨rfl, ?_⟩)
  refine CW.putF (j := 7) (ci := 9) (pc := 86) dX9_init_86 ac_9 rfl rfl (by decide) fl_9_50 rfl rfl rfl ?_
  refine CW.aload_n (pc := 89) dX9_init_89 rfl ?_
  refine CW.new' (fs := [some none, none, none]) (t := 44) (pc := 90) dX9_init_90 ac_4 cl_9_54 in_4 iw_4 (by decide) (by decide) (by decide) (by decide) rfl rfl ?_
  refine CW.dup (pc := 93) dX9_init_93 rfl ?_
  show CW _ _ _ _ _ _ _ tB_15 _ _ _ _
  refine CW.callI (M' := mX4_init) (F' := 1) (mc' := 18) (ms' := 425) (host := "ShopFloor") (pc := 94) dX9_init_94 (by decide) ck_4 iw_4 ci_4 ⟨by decide +kernel, by decide +kernel, by decide⟩ (List.mem_of_getElem? (i := 5) rfl) rfl rfl npX4_init (Nat.le_of_ble_eq_true rfl) (by decide) (by decide) (ct_44 ⟨rfl, ?_⟩)
  refine CW.putF (j := 8) (ci := 9) (pc := 97) dX9_init_97 ac_9 rfl rfl (by decide) fl_9_57 rfl rfl rfl ?_
  refine CW.aload_n (pc := 100) dX9_init_100 rfl ?_
  refine CW.new' (fs := [some none, some none, some none, some none, some none, none]) (t := 63) (pc := 101) dX9_init_101 ac_1 cl_9_61 in_1 iw_1 (by decide) (by decide) (by decide) (by decide) rfl rfl ?_
  refine CW.dup (pc := 104) dX9_init_104 rfl ?_
  show CW _ _ _ _ _ _ _ tB_17 _ _ _ _
  refine CW.callI (M' := mX1_init) (F' := 1) (mc' := 5) (ms' := 64) (host := "ShopFloor") (pc := 105) dX9_init_105 (by decide) ck_1 iw_1 ci_1 ⟨by decide +kernel, by decide +kernel, by decide⟩ (List.mem_of_getElem? (i := 6) rfl) rfl rfl npX1_init (Nat.le_of_ble_eq_true rfl) (by decide) (by decide) (ct_63 ⟨rfl, ?_⟩)
  refine CW.putF (j := 9) (ci := 9) (pc := 108) dX9_init_108 ac_9 rfl rfl (by decide) fl_9_64 rfl rfl rfl ?_
  refine CW.aload_n (pc := 111) dX9_init_111 rfl ?_
  refine CW.new' (fs := [some none, some none, some none]) (t := 69) (pc := 112) dX9_init_112 ac_0 cl_9_68 in_0 iw_0 (by decide) (by decide) (by decide) (by decide) rfl rfl ?_
  refine CW.dup (pc := 115) dX9_init_115 rfl ?_
  show CW _ _ _ _ _ _ _ tB_19 _ _ _ _
  refine CW.callI (M' := mX0_init) (F' := 1) (mc' := 3) (ms' := 35) (host := "ShopFloor") (pc := 116) dX9_init_116 (by decide) ck_0 iw_0 ci_0 ⟨by decide +kernel, by decide +kernel, by decide⟩ (List.mem_of_getElem? (i := 7) rfl) rfl rfl npX0_init (Nat.le_of_ble_eq_true rfl) (by decide) (by decide) (ct_69 ⟨rfl, ?_⟩)
  refine CW.putF (j := 10) (ci := 9) (pc := 119) dX9_init_119 ac_9 rfl rfl (by decide) fl_9_71 rfl rfl rfl ?_
  refine CW.aload_n (pc := 122) dX9_init_122 rfl ?_
  refine CW.new' (fs := [some none, none, none, none]) (t := 73) (pc := 123) dX9_init_123 ac_2 cl_9_75 in_2 iw_2 (by decide) (by decide) (by decide) (by decide) rfl rfl ?_
  refine CW.dup (pc := 126) dX9_init_126 rfl ?_
  show CW _ _ _ _ _ _ _ tB_21 _ _ _ _
  refine CW.callI (M' := mX2_init) (F' := 1) (mc' := 1) (ms' := 24) (host := "ShopFloor") (pc := 127) dX9_init_127 (by decide) ck_2 iw_2 ci_2 ⟨by decide +kernel, by decide +kernel, by decide⟩ (List.mem_of_getElem? (i := 8) rfl) rfl rfl npX2_init (Nat.le_of_ble_eq_true rfl) (by decide) (by decide) (ct_73 ⟨rfl, ?_⟩)
  refine CW.putF (j := 11) (ci := 9) (pc := 130) dX9_init_130 ac_9 rfl rfl (by decide) fl_9_78 rfl rfl rfl ?_
  refine CW.aload_n (pc := 133) dX9_init_133 rfl ?_
  refine CW.new' (fs := [none, none, some none, some none, some none, some none, some none, some none, some none]) (t := 75) (pc := 134) dX9_init_134 ac_5 cl_9_16 in_5 iw_5 (by decide) (by decide) (by decide) (by decide) rfl rfl ?_
  refine CW.dup (pc := 137) dX9_init_137 rfl ?_
  show CW _ _ _ _ _ _ _ tB_23 _ _ _ _
  refine CW.callI (M' := mX5_init) (F' := 1) (mc' := 7) (ms' := 150) (host := "ShopFloor") (pc := 138) dX9_init_138 (by decide) ck_5 iw_5 ci_5 ⟨by decide +kernel, by decide +kernel, by decide⟩ (List.mem_of_getElem? (i := 1) rfl) rfl rfl npX5_init (Nat.le_of_ble_eq_true rfl) (by decide) (by decide) (ct_75 ⟨rfl, ?_⟩)
  refine CW.putF (j := 12) (ci := 9) (pc := 141) dX9_init_141 ac_9 rfl rfl (by decide) fl_9_82 rfl rfl rfl ?_
  refine CW.aload_n (pc := 144) dX9_init_144 rfl ?_
  refine CW.bipush (pc := 145) dX9_init_145 rfl ?_
  refine CW.newarr' (kd := 0) (N := 24) (t := 83) (pc := 147) dX9_init_147 rfl aw_int (Or.inl ⟨rfl, rfl⟩) rfl (by decide) (by decide) (by decide) rfl rfl ?_
  refine CW.putF (j := 13) (ci := 9) (pc := 149) dX9_init_149 ac_9 rfl rfl (by decide) fl_9_85 rfl rfl rfl ?_
  refine CW.aload_n (pc := 152) dX9_init_152 rfl ?_
  refine CW.bipush (pc := 153) dX9_init_153 rfl ?_
  refine CW.newarr' (kd := 0) (N := 24) (t := 84) (pc := 155) dX9_init_155 rfl aw_int (Or.inl ⟨rfl, rfl⟩) rfl (by decide) (by decide) (by decide) rfl rfl ?_
  refine CW.putF (j := 14) (ci := 9) (pc := 157) dX9_init_157 ac_9 rfl rfl (by decide) fl_9_88 rfl rfl rfl ?_
  refine CW.aload_n (pc := 160) dX9_init_160 rfl ?_
  refine CW.iconst (pc := 161) dX9_init_161 ?_
  refine CW.puti (j := 15) (jj := 15) (ci := 9) (pc := 162) dX9_init_162 ac_9 rfl rfl (by decide) fl_9_91 rfl rfl (Or.inl rfl) ?_
  show CW _ _ _ _ _ _ _ _ hB_7 _ _ _
  refine CW.aload_n (pc := 165) dX9_init_165 rfl ?_
  refine CW.iconst (pc := 166) dX9_init_166 ?_
  refine CW.puti0 (j := 16) (jj := 16) (ci := 9) (pc := 167) dX9_init_167 ac_9 rfl rfl (by decide) fl_9_95 rfl rfl (Or.inl rfl) rfl ?_
  refine CW.vret (pc := 170) dX9_init_170 rfl rfl rfl ?_
  exact k
def tB_26 : List cS := [.inr (9, [some (some 1), some (some 3), some (some 11), some (some 19), some (some 20), some (some 29), some (some 38), some (some 42), some (some 44), some (some 63), some (some 69), some (some 73), some (some 75), some (some 83), some (some 84), none, none]), .inr (7, [some (some 2), none]), .inl (0, 140, 0), .inr (5, [none, none, some (some 4), some (some 5), some (some 6), some (some 7), some (some 8), some (some 9), some (some 10)]), .inl (0, 24, 0), .inl (0, 24, 0), .inl (0, 24, 0), .inl (0, 24, 0), .inl (0, 24, 0), .inl (0, 24, 0), .inl (0, 6, 0), .inr (5, [none, none, some (some 12), some (some 13), some (some 14), some (some 15), some (some 16), some (some 17), some (some 18)]), .inl (0, 24, 0), .inl (0, 24, 0), .inl (0, 24, 0), .inl (0, 24, 0), .inl (0, 24, 0), .inl (0, 24, 0), .inl (0, 6, 0), .inl (0, 24, 0), .inr (8, [some (some 21), some (some 22), some (some 23), some (some 24), some (some 25), some (some 26), some (some 27), some (some 28), none, none, none]), .inl (0, 24, 0), .inl (0, 24, 0), .inl (0, 24, 0), .inl (0, 24, 0), .inl (0, 24, 0), .inl (0, 24, 0), .inl (0, 24, 0), .inl (0, 24, 0), .inr (8, [some (some 30), some (some 31), some (some 32), some (some 33), some (some 34), some (some 35), some (some 36), some (some 37), none, none, none]), .inl (0, 24, 0), .inl (0, 24, 0), .inl (0, 24, 0), .inl (0, 24, 0), .inl (0, 24, 0), .inl (0, 24, 0), .inl (0, 24, 0), .inl (0, 24, 0), .inr (6, [some (some 39), none, some (some 40), none, some (some 41), none]), .inl (0, 24, 0), .inl (0, 25, 0), .inl (0, 24, 0), .inr (3, [some (some 43), none, none]), .inl (0, 9, 0), .inr (4, [some (some 45), none, none]), .inl (2, 17, 46), .inl (0, 24, 0), .inl (0, 24, 0), .inl (0, 24, 0), .inl (0, 24, 0), .inl (0, 24, 0), .inl (0, 24, 0), .inl (0, 24, 0), .inl (0, 24, 0), .inl (0, 24, 0), .inl (0, 24, 0), .inl (0, 24, 0), .inl (0, 24, 0), .inl (0, 24, 0), .inl (0, 24, 0), .inl (0, 24, 0), .inl (0, 24, 0), .inl (0, 24, 0), .inr (1, [some (some 64), some (some 65), some (some 66), some (some 67), some (some 68), none]), .inl (0, 24, 0), .inl (0, 5, 0), .inl (0, 5, 0), .inl (0, 6, 0), .inl (1, 24, 0), .inr (0, [some (some 70), some (some 71), some (some 72)]), .inl (0, 6, 0), .inl (0, 24, 0), .inl (0, 5, 0), .inr (2, [some (some 74), none, none, none]), .inl (0, 24, 0), .inr (5, [none, none, some (some 76), some (some 77), some (some 78), some (some 79), some (some 80), some (some 81), some (some 82)]), .inl (0, 24, 0), .inl (0, 24, 0), .inl (0, 24, 0), .inl (0, 24, 0), .inl (0, 24, 0), .inl (0, 24, 0), .inl (0, 6, 0), .inl (0, 24, 0), .inl (0, 24, 0), .inr (10, [none, none, some none, some none, some none, some none, some none, some none, some none, none, none, none, none, none, some none, some none, some none, some none, none, none, some none, some none, some none, some none, some none, some none, none, some none, none, some none, none, some none, some none, none, none, some none, none, none, none, some none, none, some none, some none, some none, some none, some none, none, some none, none, none, some none, none, none, none])]
theorem ol_10_3 : Cond.methodLink RX10 3 Lib.objectInit ∈ a_ws := a_in 887 (by decide +kernel) (by decide +kernel)
def hB_8 : aH := a_up hB_7 85 34 4
def tB_27 : List cS := [.inr (9, [some (some 1), some (some 3), some (some 11), some (some 19), some (some 20), some (some 29), some (some 38), some (some 42), some (some 44), some (some 63), some (some 69), some (some 73), some (some 75), some (some 83), some (some 84), none, none]), .inr (7, [some (some 2), none]), .inl (0, 140, 0), .inr (5, [none, none, some (some 4), some (some 5), some (some 6), some (some 7), some (some 8), some (some 9), some (some 10)]), .inl (0, 24, 0), .inl (0, 24, 0), .inl (0, 24, 0), .inl (0, 24, 0), .inl (0, 24, 0), .inl (0, 24, 0), .inl (0, 6, 0), .inr (5, [none, none, some (some 12), some (some 13), some (some 14), some (some 15), some (some 16), some (some 17), some (some 18)]), .inl (0, 24, 0), .inl (0, 24, 0), .inl (0, 24, 0), .inl (0, 24, 0), .inl (0, 24, 0), .inl (0, 24, 0), .inl (0, 6, 0), .inl (0, 24, 0), .inr (8, [some (some 21), some (some 22), some (some 23), some (some 24), some (some 25), some (some 26), some (some 27), some (some 28), none, none, none]), .inl (0, 24, 0), .inl (0, 24, 0), .inl (0, 24, 0), .inl (0, 24, 0), .inl (0, 24, 0), .inl (0, 24, 0), .inl (0, 24, 0), .inl (0, 24, 0), .inr (8, [some (some 30), some (some 31), some (some 32), some (some 33), some (some 34), some (some 35), some (some 36), some (some 37), none, none, none]), .inl (0, 24, 0), .inl (0, 24, 0), .inl (0, 24, 0), .inl (0, 24, 0), .inl (0, 24, 0), .inl (0, 24, 0), .inl (0, 24, 0), .inl (0, 24, 0), .inr (6, [some (some 39), none, some (some 40), none, some (some 41), none]), .inl (0, 24, 0), .inl (0, 25, 0), .inl (0, 24, 0), .inr (3, [some (some 43), none, none]), .inl (0, 9, 0), .inr (4, [some (some 45), none, none]), .inl (2, 17, 46), .inl (0, 24, 0), .inl (0, 24, 0), .inl (0, 24, 0), .inl (0, 24, 0), .inl (0, 24, 0), .inl (0, 24, 0), .inl (0, 24, 0), .inl (0, 24, 0), .inl (0, 24, 0), .inl (0, 24, 0), .inl (0, 24, 0), .inl (0, 24, 0), .inl (0, 24, 0), .inl (0, 24, 0), .inl (0, 24, 0), .inl (0, 24, 0), .inl (0, 24, 0), .inr (1, [some (some 64), some (some 65), some (some 66), some (some 67), some (some 68), none]), .inl (0, 24, 0), .inl (0, 5, 0), .inl (0, 5, 0), .inl (0, 6, 0), .inl (1, 24, 0), .inr (0, [some (some 70), some (some 71), some (some 72)]), .inl (0, 6, 0), .inl (0, 24, 0), .inl (0, 5, 0), .inr (2, [some (some 74), none, none, none]), .inl (0, 24, 0), .inr (5, [none, none, some (some 76), some (some 77), some (some 78), some (some 79), some (some 80), some (some 81), some (some 82)]), .inl (0, 24, 0), .inl (0, 24, 0), .inl (0, 24, 0), .inl (0, 24, 0), .inl (0, 24, 0), .inl (0, 24, 0), .inl (0, 6, 0), .inl (0, 24, 0), .inl (0, 24, 0), .inr (10, [none, none, some (some 86), some (some 87), some (some 88), some (some 89), some (some 90), some (some 91), some (some 92), none, none, none, none, none, some (some 93), some (some 94), some (some 95), some (some 96), none, none, some (some 97), some (some 98), some (some 99), some (some 100), some (some 101), some (some 102), none, some (some 103), none, some (some 104), none, some (some 105), some (some 106), none, none, some (some 107), none, none, none, some (some 108), none, some (some 109), some (some 110), some (some 111), some (some 112), some (some 113), none, some (some 114), none, none, some (some 115), none, none, none]), .inl (0, 24, 0), .inl (0, 24, 0), .inl (0, 24, 0), .inl (0, 24, 0), .inl (0, 120, 0), .inl (0, 5, 0), .inl (0, 140, 0), .inl (0, 24, 0), .inl (0, 24, 0), .inl (0, 24, 0), .inl (0, 2040, 0), .inl (0, 24, 0), .inl (0, 24, 0), .inl (0, 24, 0), .inl (0, 24, 0), .inl (0, 24, 0), .inl (1, 24, 0), .inl (0, 24, 0), .inl (0, 25, 0), .inl (0, 48, 0), .inl (0, 48, 0), .inl (0, 10, 0), .inl (0, 120, 0), .inl (0, 48, 0), .inl (0, 6, 0), .inl (0, 6, 0), .inl (0, 5, 0), .inl (0, 24, 0), .inl (0, 24, 0), .inl (0, 223, 0)]
set_option maxRecDepth 100000 in
set_option maxHeartbeats 4000000 in
theorem ct_85 {Q : cQ} (k : Q tB_27 hB_8) : cRun mX10_init 1 30 3228 85 tB_26 hB_7 Q := by
  refine cRun.of pn_10 rfl (by decide) (by decide) ?_
  refine CW.aload_n (pc := 0) dX10_init_0 rfl ?_
  refine CW.objInit (pc := 1) dX10_init_1 (by decide) ol_10_3 (Nat.le_of_ble_eq_true rfl) ?_
  refine CW.aload_n (pc := 4) dX10_init_4 rfl ?_
  refine CW.bipush (pc := 5) dX10_init_5 rfl ?_
  refine CW.newarr' (kd := 0) (N := 24) (t := 86) (pc := 7) dX10_init_7 rfl aw_int (Or.inl ⟨rfl, rfl⟩) rfl (by decide) (by decide) (by decide) rfl rfl ?_
  refine CW.putF (j := 2) (ci := 10) (pc := 9) dX10_init_9 ac_10 rfl rfl (by decide) fl_10_9 rfl rfl rfl ?_
  refine CW.aload_n (pc := 12) dX10_init_12 rfl ?_
  refine CW.bipush (pc := 13) dX10_init_13 rfl ?_
  refine CW.newarr' (kd := 0) (N := 24) (t := 87) (pc := 15) dX10_init_15 rfl aw_int (Or.inl ⟨rfl, rfl⟩) rfl (by decide) (by decide) (by decide) rfl rfl ?_
  refine CW.putF (j := 3) (ci := 10) (pc := 17) dX10_init_17 ac_10 rfl rfl (by decide) fl_10_13 rfl rfl rfl ?_
  refine CW.aload_n (pc := 20) dX10_init_20 rfl ?_
  refine CW.bipush (pc := 21) dX10_init_21 rfl ?_
  refine CW.newarr' (kd := 0) (N := 24) (t := 88) (pc := 23) dX10_init_23 rfl aw_int (Or.inl ⟨rfl, rfl⟩) rfl (by decide) (by decide) (by decide) rfl rfl ?_
  refine CW.putF (j := 4) (ci := 10) (pc := 25) dX10_init_25 ac_10 rfl rfl (by decide) fl_10_16 rfl rfl rfl ?_
  refine CW.aload_n (pc := 28) dX10_init_28 rfl ?_
  refine CW.bipush (pc := 29) dX10_init_29 rfl ?_
  refine CW.newarr' (kd := 0) (N := 24) (t := 89) (pc := 31) dX10_init_31 rfl aw_int (Or.inl ⟨rfl, rfl⟩) rfl (by decide) (by decide) (by decide) rfl rfl ?_
  refine CW.putF (j := 5) (ci := 10) (pc := 33) dX10_init_33 ac_10 rfl rfl (by decide) fl_10_19 rfl rfl rfl ?_
  refine CW.aload_n (pc := 36) dX10_init_36 rfl ?_
  refine CW.bipush (pc := 37) dX10_init_37 rfl ?_
  refine CW.newarr' (kd := 0) (N := 120) (t := 90) (pc := 39) dX10_init_39 rfl aw_int (Or.inl ⟨rfl, rfl⟩) rfl (by decide) (by decide) (by decide) rfl rfl ?_
  refine CW.putF (j := 6) (ci := 10) (pc := 41) dX10_init_41 ac_10 rfl rfl (by decide) fl_10_22 rfl rfl rfl ?_
  refine CW.aload_n (pc := 44) dX10_init_44 rfl ?_
  refine CW.iconst (pc := 45) dX10_init_45 ?_
  refine CW.newarr' (kd := 0) (N := 5) (t := 91) (pc := 46) dX10_init_46 rfl aw_int (Or.inl ⟨rfl, rfl⟩) rfl (by decide) (by decide) (by decide) rfl rfl ?_
  refine CW.putF (j := 7) (ci := 10) (pc := 48) dX10_init_48 ac_10 rfl rfl (by decide) fl_10_25 rfl rfl rfl ?_
  refine CW.aload_n (pc := 51) dX10_init_51 rfl ?_
  refine CW.sipush (pc := 52) dX10_init_52 rfl ?_
  refine CW.newarr' (kd := 0) (N := 140) (t := 92) (pc := 55) dX10_init_55 rfl aw_int (Or.inl ⟨rfl, rfl⟩) rfl (by decide) (by decide) (by decide) rfl rfl ?_
  refine CW.putF (j := 8) (ci := 10) (pc := 57) dX10_init_57 ac_10 rfl rfl (by decide) fl_10_28 rfl rfl rfl ?_
  refine CW.aload_n (pc := 60) dX10_init_60 rfl ?_
  refine CW.bipush (pc := 61) dX10_init_61 rfl ?_
  refine CW.newarr' (kd := 0) (N := 24) (t := 93) (pc := 63) dX10_init_63 rfl aw_int (Or.inl ⟨rfl, rfl⟩) rfl (by decide) (by decide) (by decide) rfl rfl ?_
  refine CW.putF (j := 14) (ci := 10) (pc := 65) dX10_init_65 ac_10 rfl rfl (by decide) fl_10_31 rfl rfl rfl ?_
  refine CW.aload_n (pc := 68) dX10_init_68 rfl ?_
  refine CW.bipush (pc := 69) dX10_init_69 rfl ?_
  refine CW.newarr' (kd := 0) (N := 24) (t := 94) (pc := 71) dX10_init_71 rfl aw_int (Or.inl ⟨rfl, rfl⟩) rfl (by decide) (by decide) (by decide) rfl rfl ?_
  refine CW.putF (j := 15) (ci := 10) (pc := 73) dX10_init_73 ac_10 rfl rfl (by decide) fl_10_34 rfl rfl rfl ?_
  refine CW.aload_n (pc := 76) dX10_init_76 rfl ?_
  refine CW.bipush (pc := 77) dX10_init_77 rfl ?_
  refine CW.newarr' (kd := 0) (N := 24) (t := 95) (pc := 79) dX10_init_79 rfl aw_int (Or.inl ⟨rfl, rfl⟩) rfl (by decide) (by decide) (by decide) rfl rfl ?_
  refine CW.putF (j := 16) (ci := 10) (pc := 81) dX10_init_81 ac_10 rfl rfl (by decide) fl_10_37 rfl rfl rfl ?_
  refine CW.aload_n (pc := 84) dX10_init_84 rfl ?_
  refine CW.sipush (pc := 85) dX10_init_85 rfl ?_
  refine CW.newarr' (kd := 0) (N := 2040) (t := 96) (pc := 88) dX10_init_88 rfl aw_int (Or.inl ⟨rfl, rfl⟩) rfl (by decide) (by decide) (by decide) rfl rfl ?_
  refine CW.putF (j := 17) (ci := 10) (pc := 90) dX10_init_90 ac_10 rfl rfl (by decide) fl_10_40 rfl rfl rfl ?_
  refine CW.aload_n (pc := 93) dX10_init_93 rfl ?_
  refine CW.bipush (pc := 94) dX10_init_94 rfl ?_
  refine CW.newarr' (kd := 0) (N := 24) (t := 97) (pc := 96) dX10_init_96 rfl aw_int (Or.inl ⟨rfl, rfl⟩) rfl (by decide) (by decide) (by decide) rfl rfl ?_
  refine CW.putF (j := 20) (ci := 10) (pc := 98) dX10_init_98 ac_10 rfl rfl (by decide) fl_10_43 rfl rfl rfl ?_
  refine CW.aload_n (pc := 101) dX10_init_101 rfl ?_
  refine CW.bipush (pc := 102) dX10_init_102 rfl ?_
  refine CW.newarr' (kd := 0) (N := 24) (t := 98) (pc := 104) dX10_init_104 rfl aw_int (Or.inl ⟨rfl, rfl⟩) rfl (by decide) (by decide) (by decide) rfl rfl ?_
  refine CW.putF (j := 21) (ci := 10) (pc := 106) dX10_init_106 ac_10 rfl rfl (by decide) fl_10_46 rfl rfl rfl ?_
  refine CW.aload_n (pc := 109) dX10_init_109 rfl ?_
  refine CW.bipush (pc := 110) dX10_init_110 rfl ?_
  refine CW.newarr' (kd := 0) (N := 24) (t := 99) (pc := 112) dX10_init_112 rfl aw_int (Or.inl ⟨rfl, rfl⟩) rfl (by decide) (by decide) (by decide) rfl rfl ?_
  refine CW.putF (j := 22) (ci := 10) (pc := 114) dX10_init_114 ac_10 rfl rfl (by decide) fl_10_49 rfl rfl rfl ?_
  refine CW.aload_n (pc := 117) dX10_init_117 rfl ?_
  refine CW.bipush (pc := 118) dX10_init_118 rfl ?_
  refine CW.newarr' (kd := 0) (N := 24) (t := 100) (pc := 120) dX10_init_120 rfl aw_int (Or.inl ⟨rfl, rfl⟩) rfl (by decide) (by decide) (by decide) rfl rfl ?_
  refine CW.putF (j := 23) (ci := 10) (pc := 122) dX10_init_122 ac_10 rfl rfl (by decide) fl_10_52 rfl rfl rfl ?_
  refine CW.aload_n (pc := 125) dX10_init_125 rfl ?_
  refine CW.bipush (pc := 126) dX10_init_126 rfl ?_
  refine CW.newarr' (kd := 0) (N := 24) (t := 101) (pc := 128) dX10_init_128 rfl aw_int (Or.inl ⟨rfl, rfl⟩) rfl (by decide) (by decide) (by decide) rfl rfl ?_
  refine CW.putF (j := 24) (ci := 10) (pc := 130) dX10_init_130 ac_10 rfl rfl (by decide) fl_10_55 rfl rfl rfl ?_
  refine CW.aload_n (pc := 133) dX10_init_133 rfl ?_
  refine CW.bipush (pc := 134) dX10_init_134 rfl ?_
  refine CW.newarr' (kd := 1) (N := 24) (t := 102) (pc := 136) dX10_init_136 rfl aw_boolean (Or.inr ⟨rfl, rfl⟩) rfl (by decide) (by decide) (by decide) rfl rfl ?_
  refine CW.putF (j := 25) (ci := 10) (pc := 138) dX10_init_138 ac_10 rfl rfl (by decide) fl_10_58 rfl rfl rfl ?_
  refine CW.aload_n (pc := 141) dX10_init_141 rfl ?_
  refine CW.bipush (pc := 142) dX10_init_142 rfl ?_
  refine CW.newarr' (kd := 0) (N := 24) (t := 103) (pc := 144) dX10_init_144 rfl aw_int (Or.inl ⟨rfl, rfl⟩) rfl (by decide) (by decide) (by decide) rfl rfl ?_
  refine CW.putF (j := 27) (ci := 10) (pc := 146) dX10_init_146 ac_10 rfl rfl (by decide) fl_10_62 rfl rfl rfl ?_
  refine CW.aload_n (pc := 149) dX10_init_149 rfl ?_
  refine CW.bipush (pc := 150) dX10_init_150 rfl ?_
  refine CW.newarr' (kd := 0) (N := 25) (t := 104) (pc := 152) dX10_init_152 rfl aw_int (Or.inl ⟨rfl, rfl⟩) rfl (by decide) (by decide) (by decide) rfl rfl ?_
  refine CW.putF (j := 29) (ci := 10) (pc := 154) dX10_init_154 ac_10 rfl rfl (by decide) fl_10_65 rfl rfl rfl ?_
  refine CW.aload_n (pc := 157) dX10_init_157 rfl ?_
  refine CW.bipush (pc := 158) dX10_init_158 rfl ?_
  refine CW.newarr' (kd := 0) (N := 48) (t := 105) (pc := 160) dX10_init_160 rfl aw_int (Or.inl ⟨rfl, rfl⟩) rfl (by decide) (by decide) (by decide) rfl rfl ?_
  refine CW.putF (j := 31) (ci := 10) (pc := 162) dX10_init_162 ac_10 rfl rfl (by decide) fl_10_68 rfl rfl rfl ?_
  refine CW.aload_n (pc := 165) dX10_init_165 rfl ?_
  refine CW.bipush (pc := 166) dX10_init_166 rfl ?_
  refine CW.newarr' (kd := 0) (N := 48) (t := 106) (pc := 168) dX10_init_168 rfl aw_int (Or.inl ⟨rfl, rfl⟩) rfl (by decide) (by decide) (by decide) rfl rfl ?_
  refine CW.putF (j := 32) (ci := 10) (pc := 170) dX10_init_170 ac_10 rfl rfl (by decide) fl_10_71 rfl rfl rfl ?_
  refine CW.aload_n (pc := 173) dX10_init_173 rfl ?_
  refine CW.iconst (pc := 174) dX10_init_174 ?_
  refine CW.puti (j := 34) (jj := 34) (ci := 10) (pc := 175) dX10_init_175 ac_10 rfl rfl (by decide) fl_10_74 rfl rfl (Or.inl rfl) ?_
  show CW _ _ _ _ _ _ _ _ hB_8 _ _ _
  refine CW.aload_n (pc := 178) dX10_init_178 rfl ?_
  refine CW.bipush (pc := 179) dX10_init_179 rfl ?_
  refine CW.newarr' (kd := 0) (N := 10) (t := 107) (pc := 181) dX10_init_181 rfl aw_int (Or.inl ⟨rfl, rfl⟩) rfl (by decide) (by decide) (by decide) rfl rfl ?_
  refine CW.putF (j := 35) (ci := 10) (pc := 183) dX10_init_183 ac_10 rfl rfl (by decide) fl_10_78 rfl rfl rfl ?_
  refine CW.aload_n (pc := 186) dX10_init_186 rfl ?_
  refine CW.bipush (pc := 187) dX10_init_187 rfl ?_
  refine CW.newarr' (kd := 0) (N := 120) (t := 108) (pc := 189) dX10_init_189 rfl aw_int (Or.inl ⟨rfl, rfl⟩) rfl (by decide) (by decide) (by decide) rfl rfl ?_
  refine CW.putF (j := 39) (ci := 10) (pc := 191) dX10_init_191 ac_10 rfl rfl (by decide) fl_10_81 rfl rfl rfl ?_
  refine CW.aload_n (pc := 194) dX10_init_194 rfl ?_
  refine CW.bipush (pc := 195) dX10_init_195 rfl ?_
  refine CW.newarr' (kd := 0) (N := 48) (t := 109) (pc := 197) dX10_init_197 rfl aw_int (Or.inl ⟨rfl, rfl⟩) rfl (by decide) (by decide) (by decide) rfl rfl ?_
  refine CW.putF (j := 41) (ci := 10) (pc := 199) dX10_init_199 ac_10 rfl rfl (by decide) fl_10_84 rfl rfl rfl ?_
  refine CW.aload_n (pc := 202) dX10_init_202 rfl ?_
  refine CW.bipush (pc := 203) dX10_init_203 rfl ?_
  refine CW.newarr' (kd := 0) (N := 6) (t := 110) (pc := 205) dX10_init_205 rfl aw_int (Or.inl ⟨rfl, rfl⟩) rfl (by decide) (by decide) (by decide) rfl rfl ?_
  refine CW.putF (j := 42) (ci := 10) (pc := 207) dX10_init_207 ac_10 rfl rfl (by decide) fl_10_87 rfl rfl rfl ?_
  refine CW.aload_n (pc := 210) dX10_init_210 rfl ?_
  refine CW.bipush (pc := 211) dX10_init_211 rfl ?_
  refine CW.newarr' (kd := 0) (N := 6) (t := 111) (pc := 213) dX10_init_213 rfl aw_int (Or.inl ⟨rfl, rfl⟩) rfl (by decide) (by decide) (by decide) rfl rfl ?_
  refine CW.putF (j := 43) (ci := 10) (pc := 215) dX10_init_215 ac_10 rfl rfl (by decide) fl_10_90 rfl rfl rfl ?_
  refine CW.aload_n (pc := 218) dX10_init_218 rfl ?_
  refine CW.iconst (pc := 219) dX10_init_219 ?_
  refine CW.newarr' (kd := 0) (N := 5) (t := 112) (pc := 220) dX10_init_220 rfl aw_int (Or.inl ⟨rfl, rfl⟩) rfl (by decide) (by decide) (by decide) rfl rfl ?_
  refine CW.putF (j := 44) (ci := 10) (pc := 222) dX10_init_222 ac_10 rfl rfl (by decide) fl_10_93 rfl rfl rfl ?_
  refine CW.aload_n (pc := 225) dX10_init_225 rfl ?_
  refine CW.bipush (pc := 226) dX10_init_226 rfl ?_
  refine CW.newarr' (kd := 0) (N := 24) (t := 113) (pc := 228) dX10_init_228 rfl aw_int (Or.inl ⟨rfl, rfl⟩) rfl (by decide) (by decide) (by decide) rfl rfl ?_
  refine CW.putF (j := 45) (ci := 10) (pc := 230) dX10_init_230 ac_10 rfl rfl (by decide) fl_10_96 rfl rfl rfl ?_
  refine CW.aload_n (pc := 233) dX10_init_233 rfl ?_
  refine CW.bipush (pc := 234) dX10_init_234 rfl ?_
  refine CW.newarr' (kd := 0) (N := 24) (t := 114) (pc := 236) dX10_init_236 rfl aw_int (Or.inl ⟨rfl, rfl⟩) rfl (by decide) (by decide) (by decide) rfl rfl ?_
  refine CW.putF (j := 47) (ci := 10) (pc := 238) dX10_init_238 ac_10 rfl rfl (by decide) fl_10_99 rfl rfl rfl ?_
  refine CW.aload_n (pc := 241) dX10_init_241 rfl ?_
  refine CW.sipush (pc := 242) dX10_init_242 rfl ?_
  refine CW.newarr' (kd := 0) (N := 223) (t := 115) (pc := 245) dX10_init_245 rfl aw_int (Or.inl ⟨rfl, rfl⟩) rfl (by decide) (by decide) (by decide) rfl rfl ?_
  refine CW.putF (j := 50) (ci := 10) (pc := 247) dX10_init_247 ac_10 rfl rfl (by decide) fl_10_102 rfl rfl rfl ?_
  refine CW.vret (pc := 250) dX10_init_250 rfl rfl rfl ?_
  exact k
-- (2, 84, 1752, 'ct_0') (1, 30, 3228, 'ct_85')
theorem tB_end : tB_27.map (fun s : cS => match s with | .inl x => (Sum.inl x : aS) | .inr (ci, fs) => .inr (ci, fs.map (fun q => q.bind id))) = a_T := by decide +kernel
theorem tB_full : tB_27.all (fun s : cS => match s with | .inl _ => true | .inr (_, fs) => fs.all (fun q => match q with | some none => false | _ => true)) = true := by decide +kernel
theorem hB_rg : ∀ c i, inR (hB_8 c i) := by
  have h0 : ∀ c i, inR (hB_0 c i) := fun _ _ => (⟨by decide, by decide⟩ : inR 0)
  have h1 : ∀ c i, inR (hB_1 c i) := a_up_r h0 ⟨by decide, by decide⟩
  have h2 : ∀ c i, inR (hB_2 c i) := a_up_r h1 ⟨by decide, by decide⟩
  have h3 : ∀ c i, inR (hB_3 c i) := a_up_r h2 ⟨by decide, by decide⟩
  have h4 : ∀ c i, inR (hB_4 c i) := a_up_r h3 ⟨by decide, by decide⟩
  have h5 : ∀ c i, inR (hB_5 c i) := a_up_r h4 ⟨by decide, by decide⟩
  have h6 : ∀ c i, inR (hB_6 c i) := a_up_r h5 ⟨by decide, by decide⟩
  have h7 : ∀ c i, inR (hB_7 c i) := a_up_r h6 ⟨by decide, by decide⟩
  have h8 : ∀ c i, inR (hB_8 c i) := a_up_r h7 ⟨by decide, by decide⟩
  exact h8
