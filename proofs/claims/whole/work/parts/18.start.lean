section S2
variable {p : Program} {l : Launch} {e : Env} {R : Room} {s : State} {m : MethodId} {args : Array Value} {below : List Frame} {meth : Method} {c : Code} {H : Heap} {locs : List Loc} {k n pc : Nat} {Qf : State → Prop} {cc : ByteArray} {L : Array Slot} {rest : List Value} {B : Nat} {D : va_G} {kI kZ kA : ClassId} {T : List cS} {h : aH} {own : String}
theorem cw_new {ix ci N : Nat} {C0 : String} {T0 : u_T} {ty : Nat → FieldType} {fs : List (Option (Option Nat))} (hx : p.tables.exec = Jvm.exec) (hb : c.code = cc) (hown : s.vm.findClass own = some m.cls) (hts : ∀ w ∈ a_ws, w.before args s = true) (K : c_K (c_g B D kI kZ kA) s) (hsz : H.size = B + T.length) (hP : va_P D vwCl (c_lay (c_g B D kI kZ kA) T h) H) (hS : va_S (c_A B) s.heap H locs) (hd : decode cc pc = .ok (.new ix, 3)) (hc0 : a_cls ci C0 T0 N ty) (hw1 : Cond.classLink own ix C0 ∈ a_ws) (hw2 : Cond.instantiable C0 N ∈ a_ws) (hw3 : Cond.initialized C0 ∈ a_ws) (hfs : ∀ j, j < N → fs[j]? = some (if (ty j) = .int ∨ (ty j) = .boolean then none else some none)) (hdv : ∀ j, j < N → (ty j).isReference = true ∨ ty j = .int ∨ ty j = .boolean) (hc : k + 1 ≤ R.cells) (hs : n + N ≤ R.slots) (h0 : h T.length = fun _ => 0)
    (kk : ∀ H1 : Heap, H1.size = B + (T ++ [Sum.inr (ci, fs)]).length → va_P D vwCl (c_lay (c_g B D kI kZ kA) (T ++ [.inr (ci, fs)]) h) H1 → va_S (c_A B) s.heap H1 locs → W p l e R s m args below meth c H1 locs (k + 1) (n + N) Qf (F0 m (pc + 3) L (.ref (B + T.length) :: rest))) : W p l e R s m args below meth c H locs k n Qf (F0 m pc L rest) := by
  have hKn := K.1.1 ci _ hc0.1
  refine W.newcK hx hb hown (hts _ hw1) (hts _ hw2) (hts _ hw3) rfl hd (by omega) (by omega) hKn.2.1 rfl fun H1 kC hkC e1 z1 o1 => ?_
  have hP1 : va_P D vwCl (c_lay (c_g B D kI kZ kA) (T ++ [.inr (ci, fs)]) h) H1 := by
    rw [c_lay_app]
    refine (hP.kept (fun d x hx => o1 x.1 ((hP d x hx).lt))).app (fun d x hx => ?_)
    have hd0 : d < 1 := by simpa using (List.getElem?_eq_some_iff.mp hx).1
    rw [show d = 0 by omega] at hx
    simp at hx
    subst hx
    rw [h0]
    refine ⟨_, hc0.1, ?_⟩
    rw [hsz] at e1
    refine (u_born ty hts hc0.2.1 hKn hkC e1 hc0.2.2.1).to (fun j hj => ?_)
    show defaultValue (ty j) = vp_V (fs.mapIdx _) j
    simp only [vp_V, List.getD_eq_getElem?_getD, List.getElem?_mapIdx, hfs j hj]
    rcases hdv j hj with q | q | q
    · rw [if_neg (by rintro (z | z) <;> rw [z] at q <;> cases q)]
      cases hty : ty j <;> rw [hty] at q <;> first | rfl | cases q
    · rw [q]; rfl
    · rw [q]; rfl
  have hq := kk H1 (by rw [z1, hsz]; simp; omega) hP1 ⟨Nat.le_trans hS.1 (by omega), fun x q1 q2 => (o1 x (Nat.lt_of_lt_of_le q1 hS.1)).trans (hS.2.1 x q1 q2), hS.2.2⟩
  rw [hsz]
  exact hq
theorem cw_callI {M' : aM} {F F' mc ms x ix nL : Nat} {T1 : List cS} {h1 : aH} (hx : p.tables.exec = Jvm.exec) (hb : c.code = cc) (hml : c.maxLocals = nL) (hown : s.vm.findClass own = some m.cls) (hts : ∀ w ∈ a_ws, w.before args s = true) (K : c_K (c_g B D kI kZ kA) s) (hsz : H.size = B + T.length) (hP : va_P D vwCl (c_lay (c_g B D kI kZ kA) T h) H) (hS : va_S (c_A B) s.heap H locs) (hd : decode cc pc = .ok (.invokespecial ix, 3)) (hF : F' + 1 ≤ F) (q1 : F ≤ R.frames) (q2 : F * 40 ≤ R.locals) (hk1 : Cond.code M'.1 M'.2.1 M'.2.2.1 M'.2.2.2 ∈ a_ws) (hk2 : Cond.initialized M'.1.cls ∈ a_ws) (hk3 : Cond.instanceMethod M'.1 ∈ a_ws) (hk4 : M'.1.cls ≠ "java/lang/invoke/MethodHandle" ∧ M'.1.cls ≠ "java/lang/invoke/VarHandle" ∧ M'.2.2.1 ≤ 20) (hl : Cond.methodLink own ix M'.1 ∈ a_ws) (hnm : M'.1.name = "<init>") (hr : M'.2.2.2 = none) (hn : a_np M' 0) (hL : L.size = nL) (hst : (rest.map fun v => v.category).sum ≤ 8) (hc : k + mc ≤ R.cells) (hs : n + ms ≤ R.slots) (hrun : cRun M' F' mc ms x T h (fun T' h' => T' = T1 ∧ h' = h1))
    (kk : ∀ (H1 : Heap) (locs1 : List Loc), H1.size = B + T1.length → va_P D vwCl (c_lay (c_g B D kI kZ kA) T1 h1) H1 → va_S (c_A B) s.heap H1 locs1 → W p l e R s m args below meth c H1 locs1 (k + mc) (n + ms) Qf (F0 m (pc + 3) L rest)) : W p l e R s m args below meth c H locs k n Qf (F0 m pc L (.ref (B + x) :: rest)) := by
  have hM := hrun l B D kI kZ kA
  have hcode : Cond.code M'.1 M'.2.1 M'.2.2.1 none ∈ a_ws := by rw [← hr]; exact hk1
  refine va_callv (va_runI (As := []) (rest := rest) (b := B + x) (own := own) (bytes := M'.2.1) (maxL := M'.2.2.1) (n := 0) (g := F0 m pc L (.ref (B + x) :: rest)) ⟨hx, hb, hml, hown, hts⟩ hM ⟨⟨rfl, rfl, (a_room hF q1 q2 hk4.2.2).1, (a_room hF q1 q2 hk4.2.2).2, a_pay hk1 hts, by rw [← hr]; exact List.mem_cons_self, hts _ hcode, hts _ hk2, ⟨hk4.1, hk4.2.1⟩, hn.use, hts _ hl⟩, hnm, hts _ hk3⟩ ⟨fun a U f mk q => ⟨q.1, q.2.1.same (U := U.calling f mk a) rfl, q.2.2⟩, fun U hU hW => ⟨rfl, K.warm hW, by rw [hU]; exact hsz, by rw [hU]; exact hP⟩⟩ rfl rfl hL rfl (lv_room hst) hd ⟨hc, hs⟩) hS (fun _ _ q => q) (fun _ q => q) (fun u t H1 locs1 ht hvm hp hB hz1 hk5 hS1 => ?_)
  obtain ⟨e1, e2⟩ := hp
  rw [e1, e2, ht] at hB
  exact kk H1 locs1 hB.1 hB.2 hS1
end S2
theorem c_lay_eq {g : aG} {T : List cS} {h : aH} (hT : T.map (fun s : cS => match s with | .inl x => (Sum.inl x : aS) | .inr (ci, fs) => .inr (ci, fs.map (fun q => q.bind id))) = a_T) (hf : T.all (fun s : cS => match s with | .inl _ => true | .inr (_, fs) => fs.all (fun q => match q with | some none => false | _ => true)) = true) : c_lay g T h = a_lay g h := by
  apply List.ext_getElem?
  intro d
  unfold c_lay a_lay
  rw [← hT]
  simp only [List.getElem?_mapIdx, List.getElem?_map]
  cases hd : T[d]? with
  | none => rfl
  | some s =>
    simp only [Option.map_some, Option.some.injEq, Prod.mk.injEq, true_and]
    have hs := List.all_eq_true.mp hf s (List.mem_of_getElem? hd)
    rcases s with x | ⟨ci, fs⟩
    · rfl
    · have hs : fs.all (fun q => match q with | some none => false | _ => true) = true := hs
      show Sum.inr (ci, fs.mapIdx (c_f g (h d))) = Sum.inr (ci, (fs.map (fun q => q.bind id)).mapIdx (a_f g (h d)))
      congr 2
      apply List.ext_getElem?
      intro j
      simp only [List.getElem?_mapIdx, List.getElem?_map]
      cases hj : fs[j]? with
      | none => rfl
      | some q =>
        have hq := List.all_eq_true.mp hs q (List.mem_of_getElem? hj)
        rcases q with _ | _ | r
        · rfl
        · cases hq
        · rfl
theorem a_arrT {s : State} {cA : ClassId} {kk : Class} {comp : ClassId} {ty : FieldType} (h2 : s.vm.classes[cA]? = some kk) (h3 : kk.kind = .array comp ty) : ArrOfT s cA ty := fun n z => ⟨fun k h => (by cases h), kk, h2, comp, h3⟩
set_option maxRecDepth 100000 in
set_option maxHeartbeats 4000000 in
/-- from the law's entry: with a relation that the start meets and that every pair of calls keeps, the law ends with true -/
theorem law_start {Inv : Nat → aH → Prop} (hI0 : Inv 0 hB_8) (hpr : law_pairs Inv) (hmono : ∀ n h, Inv n h → Inv (n + 1) h) {p : Program} {e : Env} {s : State} {m : MethodId} {below : List Frame} {meth : Method} {c : Code} (l : Launch) {b N : Nat} {xs : Nat → Int32} (hN : N ≤ 1536) (C0 : lw_At p s m meth c b N xs) : W p l e room_1 s m #[Value.ref b] below meth c s.heap [] 0 0 (lw_Z below #[Value.ref b] s) (entryFrame m ([Value.ref b] : List Value).toArray 4) := by
  obtain ⟨hx, hb, hr, hml, hown, hts, hX, hbl, hlocks, hgv⟩ := id C0
  have hws : ∀ w ∈ a_ws, w.before #[Value.ref b] s = true := fun w hw => hts w (List.mem_filter.mp hw).1
  obtain ⟨kI, kkI, compI, fI, gI, tI⟩ := Cond.arrayClass_spec (hws _ aw_int)
  obtain ⟨kZ, kkZ, compZ, fZ, gZ, tZ⟩ := Cond.arrayClass_spec (hws _ aw_boolean)
  have hao : (Cond.arrayOver (.array .int)).before #[Value.ref b] s = true := hts _ (List.mem_of_getElem? (i := 307) (by decide +kernel))
  obtain ⟨compA, kA, kkA, fA0, gA, tA, fA⟩ := Cond.arrayOver_specA hao
  have hex : ∀ ci : Nat, ∃ z : ClassId × (Nat → Nat), ∀ q : vw_C, vwCl[ci]? = some q → u_Kn s q.1 q.2.1 q.2.2 z.1 z.2 := by
    intro ci
    have hk : ∀ (i : Nat) (C : String) (T : u_T) (M : Nat), vwCl[i]? = some (C, T, M) → (∃ (cC : ClassId) (iS : Nat → Nat), u_Kn s C T M cC iS) → ∃ z : ClassId × (Nat → Nat), ∀ q : vw_C, vwCl[i]? = some q → u_Kn s q.1 q.2.1 q.2.2 z.1 z.2 := by
      intro i C T M hi ⟨cC, iS, hK⟩
      refine ⟨(cC, iS), fun q hq => ?_⟩
      cases hi.symm.trans hq
      exact hK
    match ci with
      | 0 => exact hk 0 RX0 TX0 3 rfl (u_known hws uw_0 (hws _ in_0))
      | 1 => exact hk 1 RX1 TX1 6 rfl (u_known hws uw_1 (hws _ in_1))
      | 2 => exact hk 2 RX2 TX2 4 rfl (u_known hws uw_2 (hws _ in_2))
      | 3 => exact hk 3 RX3 TX3 3 rfl (u_known hws uw_3 (hws _ in_3))
      | 4 => exact hk 4 RX4 TX4 3 rfl (u_known hws uw_4 (hws _ in_4))
      | 5 => exact hk 5 RX5 TX5 9 rfl (u_known hws uw_5 (hws _ in_5))
      | 6 => exact hk 6 RX6 TX6 6 rfl (u_known hws uw_6 (hws _ in_6))
      | 7 => exact hk 7 RX7 TX7 2 rfl (u_known hws uw_7 (hws _ in_7))
      | 8 => exact hk 8 RX8 TX8 11 rfl (u_known hws uw_8 (hws _ in_8))
      | 9 => exact hk 9 RX9 TX9 17 rfl (u_known hws uw_9 (hws _ in_9))
      | 10 => exact hk 10 RX10 TX10 54 rfl (u_known hws uw_10 (hws _ in_10))
      | k + 11 => exact ⟨(kI, fun _ => 0), fun q hq => by simp at hq⟩
  obtain ⟨dd, hdd⟩ : ∃ f : Nat → ClassId × (Nat → Nat), ∀ ci (q : vw_C), vwCl[ci]? = some q → u_Kn s q.1 q.2.1 q.2.2 (f ci).1 (f ci).2 := ⟨fun ci => Classical.choose (hex ci), fun ci => Classical.choose_spec (hex ci)⟩
  have hao2 : ∀ a, (Cond.arrayOver (.array .int)).before a s = true := fun a => arrayOver_alikeB (Vm.Alike.refl _) hao
  obtain ⟨D, hD⟩ : ∃ D : va_G, D = (fun ci => (dd ci).1, fun ci => (dd ci).2) := ⟨_, rfl⟩
  have hva : va_K D vwCl [(kI, .int), (kZ, .boolean), (kA, .array .int)] s := by
    rw [hD]
    refine ⟨fun ci q hq => hdd ci q hq, fun k q hq => ?_⟩
    match k, hq with
    | 0, hq => cases hq; exact ⟨a_arrT gI tI, fI⟩
    | 1, hq => cases hq; exact ⟨a_arrT gZ tZ, fZ⟩
    | 2, hq => cases hq; exact ⟨a_arrT gA tA, fA⟩
    | k + 3, hq => simp at hq
  have K : c_K (c_g s.heap.size D kI kZ kA) s := ⟨hva, hao2, fun q hq => va_Nw.of rfl (hts _ (c_nest_in q hq))⟩
  have hl := lv_entry ([.ref b]) (n := 4) (Nat.le_of_ble_eq_true rfl)
  rw [lg_entry_eq]
  generalize (lg_sl ([.ref b]) ++ List.replicate (4 - (lg_sl ([.ref b])).length) Slot.unset).toArray = ls at hl ⊢
  have hl : lv_has ls 4 [(0, .ref b)] := hl
  refine cw_new (B := s.heap.size) (D := D) (kI := kI) (kZ := kZ) (kA := kA) (T := []) (h := hB_0) (fs := [some none, some none, some none, some none, some none, some none, some none, some none, some none, some none, some none, some none, some none, some none, some none, none, none]) hx hb hown hws K rfl (fun k q hq => by simp [c_lay] at hq) va_S.rf dL_law_0 ac_9 cl_L_7 in_9 iw_9 (by decide) (by decide) (Nat.le_of_ble_eq_true rfl) (Nat.le_of_ble_eq_true rfl) rfl (fun H1 z1 hP1 hS1 => ?_)
  have z1 : H1.size = s.heap.size + tB_0.length := z1
  have hP1 : va_P D vwCl (c_lay (c_g s.heap.size D kI kZ kA) tB_0 hB_0) H1 := hP1
  refine lv_dup hx hb dL_law_3 rfl ?_
  refine cw_callI (M' := mX9_init) (F := 100) (F' := 2) (mc := 84) (ms := 1752) (x := 0) hx hb hml hown hws K z1 hP1 hS1 dL_law_4 (by decide) (Nat.le_of_ble_eq_true rfl) (Nat.le_of_ble_eq_true rfl) ck_9 iw_9 ci_9 ⟨by decide +kernel, by decide +kernel, by decide⟩ ml_L_9 rfl rfl npX9_init hl.1 (Nat.le_of_ble_eq_true rfl) (Nat.le_of_ble_eq_true rfl) (Nat.le_of_ble_eq_true rfl) (ct_0 ⟨rfl, rfl⟩) (fun H2 locs2 z2 hP2 hS2 => ?_)
  refine lv_astore_n (lv' := [(1, .ref (s.heap.size + 0)), (0, .ref b)]) hx hb dL_law_7 rfl hl (by decide) rfl (fun ls hl => ?_)
  refine cw_new (B := s.heap.size) (D := D) (kI := kI) (kZ := kZ) (kA := kA) (T := tB_25) (h := hB_7) (fs := [none, none, some none, some none, some none, some none, some none, some none, some none, none, none, none, none, none, some none, some none, some none, some none, none, none, some none, some none, some none, some none, some none, some none, none, some none, none, some none, none, some none, some none, none, none, some none, none, none, none, some none, none, some none, some none, some none, some none, some none, none, some none, none, none, some none, none, none, none]) hx hb hown hws K z2 hP2 hS2 dL_law_8 ac_10 cl_L_10 in_10 iw_10 (by decide) (by decide) (Nat.le_of_ble_eq_true rfl) (Nat.le_of_ble_eq_true rfl) rfl (fun H3 z3 hP3 hS3 => ?_)
  have z3 : H3.size = s.heap.size + tB_26.length := z3
  have hP3 : va_P D vwCl (c_lay (c_g s.heap.size D kI kZ kA) tB_26 hB_7) H3 := hP3
  refine lv_dup hx hb dL_law_11 rfl ?_
  refine cw_callI (M' := mX10_init) (F := 100) (F' := 1) (mc := 30) (ms := 3228) (x := 85) hx hb hml hown hws K z3 hP3 hS3 dL_law_12 (by decide) (Nat.le_of_ble_eq_true rfl) (Nat.le_of_ble_eq_true rfl) ck_10 iw_10 ci_10 ⟨by decide +kernel, by decide +kernel, by decide⟩ ml_L_12 rfl rfl npX10_init hl.1 (Nat.le_of_ble_eq_true rfl) (Nat.le_of_ble_eq_true rfl) (Nat.le_of_ble_eq_true rfl) (ct_85 ⟨rfl, rfl⟩) (fun H4 locs4 z4 hP4 hS4 => ?_)
  refine lv_astore_n (lv' := [(2, .ref (s.heap.size + 85)), (1, .ref (s.heap.size + 0)), (0, .ref b)]) hx hb dL_law_15 rfl hl (by decide) rfl (fun ls hl => ?_)
  refine lv_iconst (v := nI 0) hx hb dL_law_16 (by decide) ?_
  refine lv_istore_n (lv' := [(3, .int (nI 0)), (2, .ref (s.heap.size + 85)), (1, .ref (s.heap.size + 0)), (0, .ref b)]) hx hb dL_law_17 rfl hl (by decide) rfl (fun ls hl => ?_)
  rw [c_lay_eq tB_end tB_full] at hP4
  have Ka : a_K (c_g s.heap.size D kI kZ kA) s := ⟨fun i j _ _ e => by have e : s.heap.size + i = s.heap.size + j := e; omega, hva, fun q hq => va_Nw.of rfl (hts _ (a_nest_in q hq))⟩
  have hC : lw_C p s m meth c b N xs (c_g s.heap.size D kI kZ kA) := ⟨C0, Ka, fun k _ => Nat.le_add_right _ _⟩
  have hz : ∀ c i, inR (hB_8 c i) := hB_rg
  exact lw_loop hC hN hpr hmono (N + 1) 0 hB_8 (by omega) (by omega) hI0 hz H4 locs4 ls hP4 hS4 (lv_sub hl [3, 2, 1, 0] rfl)
