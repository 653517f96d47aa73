/-! THE CLAIM OUT OF ONE WALK OF THE LAW'S BODY. Your part is whole_start (and what it stands on); all else here is the same for every law, but numbers. -/
def R_law : String := "ShopFloorLaw"
def lw_P (b : Addr) (xs : List Int32) (args : Array Value) (s : State) : Prop := args = #[.ref b] ∧ s.IntsAt b xs ∧ xs.length ≤ 1536 ∧ (Jvm.Cond.and given_1 narrow_1).before args s = true
def lw_Q (_ : Array Value) (s : State) (o : Outcome) (t : State) : Prop := o = .returned (some (.int 1)) ∧ Framed s o t [] 600000 7302250
def lw_Z (below : List Frame) (a : Array Value) (s : State) : State → Prop := fun t => ∃ o, t.status = .running ∧ Ended t below o ∧ lw_Q a s o t
/-- the law's own end, with 1 on the stack, nothing written that was there before, its room as the claim has it -/
theorem lw_ret {p : Program} {l : Launch} {e : Env} {s : State} {m : MethodId} {below : List Frame} {meth : Method} {c : Code} {b : Nat} (hx : p.tables.exec = Jvm.exec) (hb : c.code = code) (hr : meth.sig.returnType = ret) (hlocks : meth.locks = false) {pc : Nat} {H : Heap} {ls : Array Slot} (hdg : decode code pc = .ok (.ireturn, 1)) : W p l e room_1 s m #[Value.ref b] below meth c H [] 600000 7302250 (lw_Z below #[Value.ref b] s) (F0 m pc ls [.int 1]) := by
  intro T hT X
  obtain ⟨fs, hret, hrun, hended, hW, hframe⟩ := X.leave (v := some (.int 1)) (hlocks := hlocks) (fun h => by rw [hr] at h; cases h)
  have hmeth' : T.vm.method? m = some meth := X.method'
  refine ⟨T.setFrames fs, ?_, .returned (some (.int 1)), hrun, hended, rfl, ⟨_, rfl⟩, hW, hframe⟩
  jvm_step X.here [X.here.top, hx, hb, hdg, hmeth', hr, ret, narrow_b1]
  (try refine ⟨rfl, ?_⟩); (try refine ⟨rfl, ?_⟩)
  first | (intro acts; rw [hret _ acts rfl rfl rfl]) | rw [hret _ _ rfl rfl rfl]
  exact Steps.refl _
/-- what holds at the law's entry: the machine, the code, the tables' words (any of lw_tbl by 'hts w (by decide +kernel)'), the script of L ints xs at the cell b, what the Statement gives of the start (any of its parts by flat_of_before) -/
def lw_At (p : Program) (s : State) (m : MethodId) (meth : Method) (c : Code) (b L : Nat) (xs : Nat → Int32) : Prop :=
  p.tables.exec = Jvm.exec ∧ c.code = code ∧ meth.sig.returnType = ret ∧ c.maxLocals = 4 ∧ s.vm.findClass R_law = some m.cls ∧ (∀ w ∈ lw_tbl, w.before #[Value.ref b] s = true) ∧ va_X b L xs s s.heap ∧ b < s.heap.size ∧ meth.locks = false ∧ (Jvm.Cond.and given_1 narrow_1).before #[Value.ref b] s = true
theorem ml_L_9 : Cond.methodLink R_law 9 yX9_init ∈ a_ws := a_in 119 (by decide +kernel) (by decide +kernel)
theorem ml_L_12 : Cond.methodLink R_law 12 yX10_init ∈ a_ws := a_in 884 (by decide +kernel) (by decide +kernel)
theorem ml_L_13 : Cond.methodLink R_law 13 yX9_feed ∈ a_ws := a_in 437 (by decide +kernel) (by decide +kernel)
theorem ml_L_17 : Cond.methodLink R_law 17 yX10_feed ∈ a_ws := a_in 1051 (by decide +kernel) (by decide +kernel)
theorem ml_L_18 : Cond.methodLink R_law 18 yX9_shop ∈ a_ws := a_in 445 (by decide +kernel) (by decide +kernel)
theorem ml_L_22 : Cond.methodLink R_law 22 yX10_shop ∈ a_ws := a_in 1058 (by decide +kernel) (by decide +kernel)
theorem ml_L_23 : Cond.methodLink R_law 23 yX9_task ∈ a_ws := a_in 592 (by decide +kernel) (by decide +kernel)
theorem ml_L_27 : Cond.methodLink R_law 27 yX10_task ∈ a_ws := a_in 1114 (by decide +kernel) (by decide +kernel)
theorem ml_L_28 : Cond.methodLink R_law 28 yX9_order ∈ a_ws := a_in 600 (by decide +kernel) (by decide +kernel)
theorem ml_L_31 : Cond.methodLink R_law 31 yX10_order ∈ a_ws := a_in 1126 (by decide +kernel) (by decide +kernel)
theorem ml_L_32 : Cond.methodLink R_law 32 yX9_turn ∈ a_ws := a_in 615 (by decide +kernel) (by decide +kernel)
theorem ml_L_35 : Cond.methodLink R_law 35 yX10_turn ∈ a_ws := a_in 1133 (by decide +kernel) (by decide +kernel)
theorem ml_L_36 : Cond.methodLink R_law 36 yX9_span ∈ a_ws := a_in 635 (by decide +kernel) (by decide +kernel)
theorem ml_L_39 : Cond.methodLink R_law 39 yX10_span ∈ a_ws := a_in 1178 (by decide +kernel) (by decide +kernel)
theorem ml_L_40 : Cond.methodLink R_law 40 yX9_of ∈ a_ws := a_in 643 (by decide +kernel) (by decide +kernel)
theorem ml_L_43 : Cond.methodLink R_law 43 yX10_of ∈ a_ws := a_in 1182 (by decide +kernel) (by decide +kernel)
theorem ml_L_44 : Cond.methodLink R_law 44 yX9_way ∈ a_ws := a_in 647 (by decide +kernel) (by decide +kernel)
theorem ml_L_47 : Cond.methodLink R_law 47 yX10_way ∈ a_ws := a_in 1190 (by decide +kernel) (by decide +kernel)
theorem ml_L_48 : Cond.methodLink R_law 48 yX9_block ∈ a_ws := a_in 651 (by decide +kernel) (by decide +kernel)
theorem ml_L_51 : Cond.methodLink R_law 51 yX10_block ∈ a_ws := a_in 1213 (by decide +kernel) (by decide +kernel)
theorem ml_L_52 : Cond.methodLink R_law 52 yX9_move ∈ a_ws := a_in 655 (by decide +kernel) (by decide +kernel)
theorem ml_L_55 : Cond.methodLink R_law 55 yX10_move ∈ a_ws := a_in 1221 (by decide +kernel) (by decide +kernel)
theorem ml_L_56 : Cond.methodLink R_law 56 yX9_brings ∈ a_ws := a_in 670 (by decide +kernel) (by decide +kernel)
theorem ml_L_59 : Cond.methodLink R_law 59 yX10_brings ∈ a_ws := a_in 1237 (by decide +kernel) (by decide +kernel)
theorem ml_L_60 : Cond.methodLink R_law 60 yX9_does ∈ a_ws := a_in 698 (by decide +kernel) (by decide +kernel)
theorem ml_L_63 : Cond.methodLink R_law 63 yX10_does ∈ a_ws := a_in 1254 (by decide +kernel) (by decide +kernel)
theorem ml_L_64 : Cond.methodLink R_law 64 yX9_tabu ∈ a_ws := a_in 702 (by decide +kernel) (by decide +kernel)
theorem ml_L_67 : Cond.methodLink R_law 67 yX10_tabu ∈ a_ws := a_in 1258 (by decide +kernel) (by decide +kernel)
theorem ml_L_68 : Cond.methodLink R_law 68 yX9_step ∈ a_ws := a_in 706 (by decide +kernel) (by decide +kernel)
theorem ml_L_71 : Cond.methodLink R_law 71 yX10_step ∈ a_ws := a_in 1262 (by decide +kernel) (by decide +kernel)
theorem ml_L_72 : Cond.methodLink R_law 72 yX9_kept ∈ a_ws := a_in 732 (by decide +kernel) (by decide +kernel)
theorem ml_L_75 : Cond.methodLink R_law 75 yX10_kept ∈ a_ws := a_in 1290 (by decide +kernel) (by decide +kernel)
theorem ml_L_76 : Cond.methodLink R_law 76 yX9_best ∈ a_ws := a_in 736 (by decide +kernel) (by decide +kernel)
theorem ml_L_79 : Cond.methodLink R_law 79 yX10_best ∈ a_ws := a_in 1294 (by decide +kernel) (by decide +kernel)
theorem ml_L_80 : Cond.methodLink R_law 80 yX9_dispatch ∈ a_ws := a_in 740 (by decide +kernel) (by decide +kernel)
theorem ml_L_83 : Cond.methodLink R_law 83 yX10_dispatch ∈ a_ws := a_in 1298 (by decide +kernel) (by decide +kernel)
theorem ml_L_84 : Cond.methodLink R_law 84 yX9_would ∈ a_ws := a_in 777 (by decide +kernel) (by decide +kernel)
theorem ml_L_87 : Cond.methodLink R_law 87 yX10_would ∈ a_ws := a_in 1330 (by decide +kernel) (by decide +kernel)
theorem ml_L_88 : Cond.methodLink R_law 88 yX9_machine ∈ a_ws := a_in 778 (by decide +kernel) (by decide +kernel)
theorem ml_L_91 : Cond.methodLink R_law 91 yX10_machine ∈ a_ws := a_in 1334 (by decide +kernel) (by decide +kernel)
theorem ml_L_92 : Cond.methodLink R_law 92 yX9_bound ∈ a_ws := a_in 813 (by decide +kernel) (by decide +kernel)
theorem ml_L_95 : Cond.methodLink R_law 95 yX10_bound ∈ a_ws := a_in 1366 (by decide +kernel) (by decide +kernel)
theorem ml_L_96 : Cond.methodLink R_law 96 yX9_all ∈ a_ws := a_in 822 (by decide +kernel) (by decide +kernel)
theorem ml_L_99 : Cond.methodLink R_law 99 yX10_all ∈ a_ws := a_in 1370 (by decide +kernel) (by decide +kernel)
theorem ml_L_100 : Cond.methodLink R_law 100 yX9_chart ∈ a_ws := a_in 846 (by decide +kernel) (by decide +kernel)
theorem ml_L_103 : Cond.methodLink R_law 103 yX10_chart ∈ a_ws := a_in 1387 (by decide +kernel) (by decide +kernel)
theorem ml_L_104 : Cond.methodLink R_law 104 yX9_undo ∈ a_ws := a_in 854 (by decide +kernel) (by decide +kernel)
theorem ml_L_107 : Cond.methodLink R_law 107 yX10_undo ∈ a_ws := a_in 1102 (by decide +kernel) (by decide +kernel)
theorem ml_L_108 : Cond.methodLink R_law 108 yX9_redo ∈ a_ws := a_in 862 (by decide +kernel) (by decide +kernel)
theorem ml_L_111 : Cond.methodLink R_law 111 yX10_redo ∈ a_ws := a_in 1110 (by decide +kernel) (by decide +kernel)
theorem ml_L_112 : Cond.methodLink R_law 112 yX9_image ∈ a_ws := a_in 870 (by decide +kernel) (by decide +kernel)
theorem ml_L_115 : Cond.methodLink R_law 115 yX10_image ∈ a_ws := a_in 1395 (by decide +kernel) (by decide +kernel)
theorem ml_L_116 : Cond.methodLink R_law 116 yX9_back ∈ a_ws := a_in 874 (by decide +kernel) (by decide +kernel)
theorem ml_L_119 : Cond.methodLink R_law 119 yX10_back ∈ a_ws := a_in 1411 (by decide +kernel) (by decide +kernel)
theorem ml_L_120 : Cond.methodLink R_law 120 yX9_count ∈ a_ws := a_in 878 (by decide +kernel) (by decide +kernel)
theorem ml_L_123 : Cond.methodLink R_law 123 yX10_count ∈ a_ws := a_in 1415 (by decide +kernel) (by decide +kernel)
theorem cl_L_7 : Cond.classLink R_law 7 RX9 ∈ a_ws := a_in 117 (by decide +kernel) (by decide +kernel)
theorem in_9 : Cond.instantiable RX9 17 ∈ a_ws := a_in 118 (by decide +kernel) (by decide +kernel)
theorem ck_9 : Cond.code mX9_init.1 mX9_init.2.1 mX9_init.2.2.1 mX9_init.2.2.2 ∈ a_ws := a_in 121 (by decide +kernel) (by decide +kernel)
theorem ci_9 : Cond.instanceMethod mX9_init.1 ∈ a_ws := a_in 120 (by decide +kernel) (by decide +kernel)
theorem cl_L_10 : Cond.classLink R_law 10 RX10 ∈ a_ws := a_in 882 (by decide +kernel) (by decide +kernel)
theorem in_10 : Cond.instantiable RX10 54 ∈ a_ws := a_in 883 (by decide +kernel) (by decide +kernel)
theorem ck_10 : Cond.code mX10_init.1 mX10_init.2.1 mX10_init.2.2.1 mX10_init.2.2.2 ∈ a_ws := a_in 886 (by decide +kernel) (by decide +kernel)
theorem ci_10 : Cond.instanceMethod mX10_init.1 ∈ a_ws := a_in 885 (by decide +kernel) (by decide +kernel)
def a_args (k : Nat) (a b : Int) : List aV := match k with
  | 0 => []
  | 1 => [aI a]
  | _ => [aI a, aI b]
/-- one call, on the class and on the reference: both come to their ends, with one answer -/
def a_pair (Inv : Nat → aH → Prop) (M M' : aM) (F F' k : Nat) : Prop := ∀ (n : Nat) (h : aH) (a b : Int), n < 512 → Inv n h → (∀ c i, inR (h c i)) → inR a → inR b → aRun M F (aR 0 :: a_args k a b) h (fun r h1 => aRun M' F' (aR 85 :: a_args k a b) h1 (fun r' h2 => r = r' ∧ Inv (n + 1) h2))
def lw_C (p : Program) (s : State) (m : MethodId) (meth : Method) (c : Code) (b N : Nat) (xs : Nat → Int32) (g : aG) : Prop := lw_At p s m meth c b N xs ∧ a_K g s ∧ ∀ k, k < a_N → s.heap.size ≤ g.1 k
def LW (p : Program) (l : Launch) (e : Env) (s : State) (m : MethodId) (below : List Frame) (meth : Method) (c : Code) (b : Nat) (g : aG) (pc i : Nat) (st : List aV) (h : aH) : Prop :=
  ∀ (H : Heap) (locs : List Loc) (L : Array Slot), va_P g.2.1 vwCl (a_lay g h) H → va_S (fun q => s.heap.size ≤ q) s.heap H locs → lv_has L 4 [(0, .ref b), (1, .ref (g.1 0)), (2, .ref (g.1 85)), (3, .int (nI i))] → W p l e room_1 s m #[Value.ref b] below meth c H locs 116 5051 (lw_Z below #[Value.ref b] s) (F0 m pc L (st.map (a_v g)))
section L1
variable {p : Program} {l : Launch} {e : Env} {s : State} {m : MethodId} {below : List Frame} {meth : Method} {c : Code} {b N : Nat} {xs : Nat → Int32} {g : aG} {pc i : Nat} {st : List aV} {h : aH}
theorem LW.aload1 (C : lw_C p s m meth c b N xs g) (hd : decode code pc = .ok (.aload_n 1, 1)) (k : LW p l e s m below meth c b g (pc + 1) i (aR 0 :: st) h) : LW p l e s m below meth c b g pc i st h := by
  intro H locs L hP hS hl
  obtain ⟨⟨hx, hb, -⟩, -⟩ := C
  exact lv_aload_n hx hb hd rfl (lv_at hl 1 rfl) (k H locs L hP hS hl)
theorem LW.aload2 (C : lw_C p s m meth c b N xs g) (hd : decode code pc = .ok (.aload_n 2, 1)) (k : LW p l e s m below meth c b g (pc + 1) i (aR 85 :: st) h) : LW p l e s m below meth c b g pc i st h := by
  intro H locs L hP hS hl
  obtain ⟨⟨hx, hb, -⟩, -⟩ := C
  exact lv_aload_n hx hb hd rfl (lv_at hl 2 rfl) (k H locs L hP hS hl)
theorem nI_sum (a j : Nat) : nI a + nI j = nI (a + j) := (Int32.ofNat_add a j).symm
theorem nI_tn {a : Nat} (ha : a ≤ 5000) : (nI a).toNatClampNeg = a := Int32.toNatClampNeg_ofNat_of_lt (by omega)
theorem LW.arg (C : lw_C p s m meth c b N xs g) {j : Nat} (hi : i + 3 ≤ N) (hN : N ≤ 1536) (hj : j < 3) (d0 : decode code pc = .ok (.aload_n 0, 1)) (d1 : decode code (pc + 1) = .ok (.iload_n 3, 1)) (d2 : decode code (pc + 1 + 1) = .ok (.iconst (j : Int), 1)) (d3 : decode code (pc + 1 + 1 + 1) = .ok (.iadd, 1)) (d4 : decode code (pc + 1 + 1 + 1 + 1) = .ok (.iaload, 1)) (k : LW p l e s m below meth c b g (pc + 5) i (aI (xs (i + j)).toInt :: st) h) : LW p l e s m below meth c b g pc i st h := by
  intro H locs L hP hS hl
  have hq := k H locs L hP hS hl
  obtain ⟨⟨hx, hb, hr, hml, hown, hts, hX, hbl, -⟩, -⟩ := C
  refine lv_aload_n hx hb d0 rfl (lv_at hl 0 rfl) ?_
  refine lv_iload_n hx hb d1 rfl (lv_at hl 3 rfl) ?_
  refine lv_iconst (v := nI j) hx hb d2 Int32.ofInt_eq_ofNat ?_
  refine lv_iadd hx hb d3 ?_
  rw [nI_sum]
  refine va_sld hx hb hX hbl (Nat.not_le.mpr hbl) hS (vp_in_nI (by omega) (by omega)) d4 ?_
  rw [nI_tn (by omega)]
  simp only [List.map_cons, a_v, Int32.ofInt_toInt] at hq
  exact hq
theorem LW.call (C : lw_C p s m meth c b N xs g) {M' : aM} {F' x ix : Nat} {as : List aV} {ty : FieldType} {Q' : aQ} (hd : decode code pc = .ok (.invokevirtual ix, 3)) (hF : F' ≤ 60) (hk : a_inst M') (hl : Cond.methodLink R_law ix M'.1 ∈ a_ws) (ho : a_obj x M'.1.cls) (hr : M'.2.2.2 = some ty) (hn : a_np M' as.length) (hst : (st.map a_k).sum ≤ 8) (hRa : ∀ v ∈ aR x :: as, a_r v) (hh : ∀ c i, inR (h c i)) (hrun : aRun M' F' (aR x :: as) h Q') (kk : ∀ (r : Int) (h' : aH), inR r → (∀ c i, inR (h' c i)) → Q' r h' → LW p l e s m below meth c b g (pc + 3) i (aI r :: st) h') : LW p l e s m below meth c b g pc i (as.reverse ++ aR x :: st) h := by
  intro H locs L hP hS hl4
  obtain ⟨⟨hx, hb, hrt, hml, hown, hts0, hX, hbl, -⟩, K, hge⟩ := C
  have hts : ∀ w ∈ a_ws, w.before #[Value.ref b] s = true := fun w hw => hts0 w (List.mem_filter.mp hw).1
  have hM := hrun ⟨hh, fun v hv => absurd hv List.not_mem_nil, hRa⟩ l g
  rw [show a_Qc g M' Q' = a_Qi g Q' from by unfold a_Qc; rw [hr]] at hM
  have hA : ∀ q, a_A g q → s.heap.size ≤ q := by
    rintro q ⟨k, hk, rfl⟩
    exact hge k hk
  refine va_calli (va_runV (As := as.map (a_v g)) (rest := st.map (a_v g)) (b := g.1 x) (C := M'.1.cls) (own := R_law) (g := F0 m pc L ((as.reverse ++ aR x :: st).map (a_v g))) ⟨hx, hb, hml, hown, hts⟩ hM ⟨a_callB (R := room_1) (F := 100) (n := as.length) hts hk.1 hk.2.1 hk.2.2.2 hl hn (by omega) (Nat.le_of_ble_eq_true rfl) (Nat.le_of_ble_eq_true rfl), hts _ hk.2.2.1.1, hts _ hk.2.2.1.2⟩ ⟨a_blind, ho.recv K hP, fun U hU hW => a_pre (vs := (aR x :: as).map (a_v g)) K hP hU hW⟩ rfl (by simp) hl4.1 (by simp [a_v]) (lv_room (a_cat hst)) hd ⟨Nat.le_of_ble_eq_true rfl, Nat.le_of_ble_eq_true rfl⟩) hS (fun q _ z => hA q z) (fun q z => hA q z) (fun r u t H1 locs1 ht hvm hp hB hz hk1 hS1 => ?_)
  obtain ⟨z, rfl, hz1, hu, hA1⟩ := hp
  exact kk z u hz1 hu hA1 H1 locs1 L (by rw [← ht]; exact hB) hS1 hl4
theorem LW.cmp (C : lw_C p s m meth c b N xs g) {r r' off : Int} {tgt : Nat} (hd : decode code pc = .ok (.if_icmp .eq off, 3)) (ht : (pc : Int) + off = (tgt : Int)) (he : r = r') (k : LW p l e s m below meth c b g tgt i st h) : LW p l e s m below meth c b g pc i (aI r' :: aI r :: st) h := by
  intro H locs L hP hS hl
  subst he
  obtain ⟨⟨hx, hb, -⟩, -⟩ := C
  exact lv_icmp_eq hx hb hd ht (fun _ => k H locs L hP hS hl) (fun q => absurd rfl q)
theorem LW.goto (C : lw_C p s m meth c b N xs g) {off : Int} {tgt : Nat} (hd : decode code pc = .ok (.goto off, 3)) (ht : (pc : Int) + off = (tgt : Int)) (k : LW p l e s m below meth c b g tgt i st h) : LW p l e s m below meth c b g pc i st h := by
  intro H locs L hP hS hl
  obtain ⟨⟨hx, hb, -⟩, -⟩ := C
  exact lv_goto hx hb hd ht (k H locs L hP hS hl)
theorem LW.next (C : lw_C p s m meth c b N xs g) {off : Int} {tgt : Nat} (hi : i ≤ 5000) (d0 : decode code pc = .ok (.iinc 3 3, 3)) (hd : decode code (pc + 3) = .ok (.goto off, 3)) (ht : ((pc + 3 : Nat) : Int) + off = (tgt : Int)) (k : LW p l e s m below meth c b g tgt (i + 3) st h) : LW p l e s m below meth c b g pc i st h := by
  intro H locs L hP hS hl
  obtain ⟨⟨hx, hb, -⟩, -⟩ := C
  refine lv_iinc (v := nI (i + 3)) (lv' := [(3, .int (nI (i + 3))), (0, .ref b), (1, .ref (g.1 0)), (2, .ref (g.1 85))]) hx hb d0 hl (k := 3) rfl (nI_sum i 3) (by decide) rfl (fun L' hl' => ?_)
  exact lv_goto hx hb hd ht (k H locs L' hP hS (lv_sub hl' [1, 2, 3, 0] rfl))
theorem LW.one (C : lw_C p s m meth c b N xs g) (d0 : decode code pc = .ok (.iconst 1, 1)) (d1 : decode code (pc + 1) = .ok (.ireturn, 1)) : LW p l e s m below meth c b g pc i [] h := by
  intro H locs L hP hS hl
  obtain ⟨⟨hx, hb, hr, hml, hown, hts, hX, hbl, hlocks, -⟩, -⟩ := C
  refine lv_iconst (v := 1) hx hb d0 (by decide) ?_
  refine va_forget (fun q hq => hS.2.2 q hq) ?_
  refine W.widen (k := 600000) (n := 7302250) (Nat.le_of_ble_eq_true rfl) (Nat.le_of_ble_eq_true rfl) ?_
  exact lw_ret hx hb hr hlocks d1
theorem LW.head (C : lw_C p s m meth c b N xs g) {off : Int} {tgt : Nat} (hN : N ≤ 1536) (hi : i ≤ N + 2) (d0 : decode code pc = .ok (.iload_n 3, 1)) (d1 : decode code (pc + 1) = .ok (.aload_n 0, 1)) (d2 : decode code (pc + 1 + 1) = .ok (.arraylength, 1)) (d3 : decode code (pc + 1 + 1 + 1) = .ok (.iconst 3, 1)) (d4 : decode code (pc + 1 + 1 + 1 + 1) = .ok (.isub, 1)) (d5 : decode code (pc + 1 + 1 + 1 + 1 + 1) = .ok (.if_icmp .gt off, 3)) (ht : ((pc + 1 + 1 + 1 + 1 + 1 : Nat) : Int) + off = (tgt : Int)) (k1 : N < i + 3 → LW p l e s m below meth c b g tgt i [] h) (k2 : i + 3 ≤ N → LW p l e s m below meth c b g (pc + 8) i [] h) : LW p l e s m below meth c b g pc i [] h := by
  intro H locs L hP hS hl
  obtain ⟨⟨hx, hb, hr, hml, hown, hts, hX, hbl, hlocks, -⟩, -⟩ := C
  refine lv_iload_n hx hb d0 rfl (lv_at hl 3 rfl) ?_
  refine lv_aload_n hx hb d1 rfl (lv_at hl 0 rfl) ?_
  refine va_slen hx hb hX hbl (Nat.not_le.mpr hbl) hS d2 ?_
  refine lv_iconst (v := nI 3) hx hb d3 (by decide) ?_
  refine lv_isub hx hb d4 ?_
  have e1 : nI i = Int32.ofInt (i : Int) := Int32.ofInt_eq_ofNat.symm
  have e2 : nI N - nI 3 = Int32.ofInt ((N : Int) - 3) := by
    rw [Int32.ofInt_sub]
    show Int32.ofNat N - Int32.ofNat 3 = _
    rw [← Int32.ofInt_eq_ofNat, ← Int32.ofInt_eq_ofNat]
    rfl
  rw [show (Int32.ofNat N) = nI N from rfl, e2, e1]
  have r1 : inR (i : Int) := ⟨by omega, by omega⟩
  have r2 : inR ((N : Int) - 3) := ⟨by omega, by omega⟩
  refine lv_icmp_gt hx hb d5 ht (fun q => ?_) (fun q => ?_)
  · have q := (a_lt_iff r2 r1).mp q
    exact k1 (by omega) H locs L hP hS hl
  · have q : ¬ ((N : Int) - 3 < (i : Int)) := fun z => q ((a_lt_iff r2 r1).mpr z)
    exact k2 (by omega) H locs L hP hS hl
theorem LW.sel (C : lw_C p s m meth c b N xs g) {dd : Int} {offs : Array Int} {len : Nat} (hN : N ≤ 1536) (hi : i + 3 ≤ N) (d0 : decode code pc = .ok (.aload_n 0, 1)) (d1 : decode code (pc + 1) = .ok (.iload_n 3, 1)) (d2 : decode code (pc + 1 + 1) = .ok (.iaload, 1)) (d3 : decode code (pc + 1 + 1 + 1) = .ok (.bipush 31, 2)) (d4 : decode code (pc + 1 + 1 + 1 + 2) = .ok (.iand, 1)) (d5 : decode code (pc + 1 + 1 + 1 + 2 + 1) = .ok (.tableswitch dd 0 26 offs, len)) (kin : ∀ z : Int, 0 ≤ z → z ≤ 26 → ∃ (tgt : Nat) (off : Int), offs[(z - 0).toNat]? = some off ∧ ((pc + 1 + 1 + 1 + 2 + 1 : Nat) : Int) + off = (tgt : Int) ∧ LW p l e s m below meth c b g tgt i [] h) (kout : ∃ tgt : Nat, ((pc + 1 + 1 + 1 + 2 + 1 : Nat) : Int) + dd = (tgt : Int) ∧ LW p l e s m below meth c b g tgt i [] h) : LW p l e s m below meth c b g pc i [] h := by
  intro H locs L hP hS hl
  obtain ⟨⟨hx, hb, hr, hml, hown, hts, hX, hbl, hlocks, -⟩, -⟩ := C
  refine lv_aload_n hx hb d0 rfl (lv_at hl 0 rfl) ?_
  refine lv_iload_n hx hb d1 rfl (lv_at hl 3 rfl) ?_
  refine va_sld hx hb hX hbl (Nat.not_le.mpr hbl) hS (vp_in_nI (by omega) (by omega)) d2 ?_
  refine lv_bipush (v := 31) hx hb d3 (by decide) ?_
  refine lv_iand hx hb d4 ?_
  generalize (xs (nI i).toNatClampNeg &&& 31) = z
  by_cases q : z.toInt < 0 ∨ 26 < z.toInt
  · obtain ⟨tgt, ht, k⟩ := kout
    exact lv_tableOut hx hb d5 q ht (k H locs L hP hS hl)
  · obtain ⟨tgt, off, ho, ht, k⟩ := kin z.toInt (by omega) (by omega)
    exact lv_tableIn hx hb d5 (by omega) (by omega) ho ht (k H locs L hP hS hl)
end L1

def law_pairs (Inv : Nat → aH → Prop) : Prop :=
  a_pair Inv mX9_feed mX10_feed 1 1 1 ∧
  a_pair Inv mX9_shop mX10_shop 5 5 0 ∧
  a_pair Inv mX9_task mX10_task 1 2 2 ∧
  a_pair Inv mX9_order mX10_order 1 2 2 ∧
  a_pair Inv mX9_turn mX10_turn 5 4 2 ∧
  a_pair Inv mX9_span mX10_span 2 4 0 ∧
  a_pair Inv mX9_of mX10_of 2 4 2 ∧
  a_pair Inv mX9_way mX10_way 2 5 1 ∧
  a_pair Inv mX9_block mX10_block 2 5 1 ∧
  a_pair Inv mX9_move mX10_move 2 6 1 ∧
  a_pair Inv mX9_brings mX10_brings 4 6 2 ∧
  a_pair Inv mX9_does mX10_does 5 6 1 ∧
  a_pair Inv mX9_tabu mX10_tabu 1 1 1 ∧
  a_pair Inv mX9_step mX10_step 6 7 1 ∧
  a_pair Inv mX9_kept mX10_kept 0 1 1 ∧
  a_pair Inv mX9_best mX10_best 5 2 1 ∧
  a_pair Inv mX9_dispatch mX10_dispatch 5 4 1 ∧
  a_pair Inv mX9_would mX10_would 4 4 1 ∧
  a_pair Inv mX9_machine mX10_machine 4 22 2 ∧
  a_pair Inv mX9_bound mX10_bound 4 22 0 ∧
  a_pair Inv mX9_all mX10_all 5 51 1 ∧
  a_pair Inv mX9_chart mX10_chart 2 5 1 ∧
  a_pair Inv mX9_undo mX10_undo 4 1 0 ∧
  a_pair Inv mX9_redo mX10_redo 4 1 0 ∧
  a_pair Inv mX9_image mX10_image 3 3 0 ∧
  a_pair Inv mX9_back mX10_back 5 3 0 ∧
  a_pair Inv mX9_count mX10_count 0 0 1
