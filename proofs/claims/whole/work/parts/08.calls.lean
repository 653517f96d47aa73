section A3
variable {M M' : aM} {F F' pc : Nat} {ls : List (Option aV)} {st : List aV} {h : aH} {Q : aQ}
theorem a_Rg.args {as rest : List aV} (q : a_Rg h ls (as.reverse ++ rest)) : a_Rg h [] as := ⟨q.1, fun v hv => absurd hv List.not_mem_nil, fun v hv => q.2.2 v (List.mem_append_left _ (List.mem_reverse.mpr hv))⟩
theorem a_Rg.rest {as rest : List aV} (q : a_Rg h ls (as.reverse ++ rest)) : a_Rg h ls rest := ⟨q.1, q.2.1, fun v hv => q.2.2 v (List.mem_append_right _ hv)⟩
theorem a_pay {s : State} {args : Array Value} (hk : Cond.code M'.1 M'.2.1 M'.2.2.1 M'.2.2.2 ∈ a_ws) (hts : ∀ w ∈ a_ws, w.before args s = true) : ∀ w ∈ Cond.code M'.1 M'.2.1 M'.2.2.1 M'.2.2.2 :: a_ws, ∀ (a' : Array Value) (U : State), s.WarmedH U.vm → w.before a' U = true := by
  intro w hw
  have hw : w ∈ a_ws := by
    rcases List.mem_cons.mp hw with rfl | e
    · exact hk
    · exact e
  exact pay_in hts a_ws_good w hw
theorem a_K.warm {g : aG} {s U : State} (K : a_K g s) (hW : s.WarmedH U.vm) : a_K g U := ⟨K.1, va_K.moved hW.alike K.2.1, fun q hq => va_Nw.warmM hW (K.2.2 q hq)⟩
theorem a_K.same {g : aG} {s U : State} (K : a_K g s) (e : s.vm = U.vm) : a_K g U := ⟨K.1, va_K.moved (by rw [e]; exact Vm.Alike.refl _) K.2.1, fun q hq => va_Nw.same rfl e (K.2.2 q hq)⟩
theorem a_blind {g : aG} {vs : List Value} : FrameBlind (va_Pc vs (fun U => a_K g U ∧ va_P g.2.1 vwCl (a_lay g h) U.heap)) := fun a U f mk q => ⟨q.1, q.2.1.same (U := U.calling f mk a) rfl, q.2.2⟩
theorem a_pre {g : aG} {s U : State} {H : Heap} {vs : List Value} (K : a_K g s) (hP : va_P g.2.1 vwCl (a_lay g h) H) (hU : U.heap = H) (hW : s.WarmedH U.vm) : va_Pc vs (fun U => a_K g U ∧ va_P g.2.1 vwCl (a_lay g h) U.heap) vs.toArray U := ⟨rfl, K.warm hW, by rw [hU]; exact hP⟩
theorem a_cat {g : aG} (hst : (st.map a_k).sum ≤ 8) : ((st.map (a_v g)).map fun v => v.category).sum ≤ 8 := by
  rw [List.map_map]
  have : ((fun v : Value => v.category) ∘ a_v g) = a_k := by
    funext v
    exact a_k_ok g v
  rw [this]
  exact hst
def a_np (M : aM) (n : Nat) : Prop := (parseMethodDescriptor M.1.desc).map (fun d => d.parameters.length) = some n
theorem a_np.use {n : Nat} (q : a_np M n) : ∀ sig, parseMethodDescriptor M.1.desc = some sig → n = sig.parameters.length := by
  intro sig e
  unfold a_np at q
  rw [e] at q
  exact (Option.some.inj q).symm
theorem a_room {R : Room} (hF : F' + 1 ≤ F) (h1 : F ≤ R.frames) (h2 : F * 40 ≤ R.locals) (hm : M'.2.2.1 ≤ 20) : F' + 1 ≤ R.frames ∧ 8 + (M'.2.2.1 + 11) + F' * 40 ≤ R.locals := ⟨by omega, by omega⟩
theorem a_callB {R : Room} {s : State} {args : Array Value} {ix n : Nat} {own : String} (hts : ∀ w ∈ a_ws, w.before args s = true) (h1 : Cond.code M'.1 M'.2.1 M'.2.2.1 M'.2.2.2 ∈ a_ws) (h2 : Cond.initialized M'.1.cls ∈ a_ws) (h3 : M'.1.cls ≠ "java/lang/invoke/MethodHandle" ∧ M'.1.cls ≠ "java/lang/invoke/VarHandle" ∧ M'.2.2.1 ≤ 20) (hl : Cond.methodLink own ix M'.1 ∈ a_ws) (hn : a_np M' n) (hF : F' + 1 ≤ F) (q1 : F ≤ R.frames) (q2 : F * 40 ≤ R.locals) :
    CallB R s args own ix M'.1 M'.2.1 M'.2.2.1 M'.2.2.2 (Cond.code M'.1 M'.2.1 M'.2.2.1 M'.2.2.2 :: a_ws) { frames := F', cells := 0, slots := 0, locals := F' * 40 } 0 0 n :=
  ⟨rfl, rfl, (a_room hF q1 q2 h3.2.2).1, (a_room hF q1 q2 h3.2.2).2, a_pay h1 hts, List.mem_cons_self, hts _ h1, hts _ h2, ⟨h3.1, h3.2.1⟩, hn.use, hts _ hl⟩
def a_obj (x : Nat) (C : String) : Prop := ∃ (ci : Nat) (fs : List (Option Nat)) (q : vw_C), a_T[x]? = some (.inr (ci, fs)) ∧ vwCl[ci]? = some q ∧ q.1 = C
theorem a_obj.recv {x : Nat} {C : String} (ho : a_obj x C) {g : aG} {s : State} {H : Heap} (K : a_K g s) (hP : va_P g.2.1 vwCl (a_lay g h) H) : ∃ cell : Cell, H[g.1 x]? = some cell ∧ cell.vm.isStatics = false ∧ s.vm.findClass C = some cell.cls := by
  obtain ⟨ci, fs, q, h1, h2, rfl⟩ := ho
  exact va_recv K.2.1 hP h2 (a_lay_at h1)
/-! calls: the callee's run, with what is behind it as its end -/
theorem AW.callVi {x ix : Nat} {as : List aV} {ty : FieldType} (hd : decode M.2.1 pc = .ok (.invokevirtual ix, 3)) (hF : F' + 1 ≤ F) (hk : a_inst M') (hl : Cond.methodLink M.1.cls ix M'.1 ∈ a_ws) (ho : a_obj x M'.1.cls) (hr : M'.2.2.2 = some ty) (hn : a_np M' as.length) (hst : (st.map a_k).sum ≤ 8) (hrun : aRun M' F' (aR x :: as) h (fun r h' => AW M F (pc + 3) ls (aI r :: st) h' Q)) : AW M F pc ls (as.reverse ++ aR x :: st) h Q := by
  intro hR p l e R s m args below meth c H locs L g C K h1 h2 hP hS hL
  obtain ⟨hx, hb, hrt, hml, hown, hlk, hts⟩ := id C
  have hM := hrun ⟨hR.1, fun v hv => absurd hv List.not_mem_nil, fun v hv => hR.2.2 v (by
    rcases List.mem_cons.mp hv with rfl | e
    · exact List.mem_append_right _ List.mem_cons_self
    · exact List.mem_append_left _ (List.mem_reverse.mpr e))⟩ l g
  rw [show a_Qc g M' (fun r h' => AW M F (pc + 3) ls (aI r :: st) h' Q) = a_Qi g (fun r h' => AW M F (pc + 3) ls (aI r :: st) h' Q) from by unfold a_Qc; rw [hr]] at hM
  refine va_calli (va_runV (As := as.map (a_v g)) (rest := st.map (a_v g)) (b := g.1 x) (C := M'.1.cls) (g := F0 m pc L ((as.reverse ++ aR x :: st).map (a_v g))) ⟨hx, hb, hml, hown, hts⟩ hM ⟨a_callB (n := as.length) hts hk.1 hk.2.1 hk.2.2.2 hl hn hF h1 h2, hts _ hk.2.2.1.1, hts _ hk.2.2.1.2⟩ ⟨a_blind, ho.recv K hP, fun U hU hW => a_pre (vs := (aR x :: as).map (a_v g)) K hP hU hW⟩ rfl (by simp) hL.1 (by simp [a_v]) (lv_room (a_cat hst)) hd ⟨Nat.zero_le _, Nat.zero_le _⟩) hS (fun _ _ q => q) (fun _ q => q) (fun r u t H1 locs1 ht hvm hp hB hz hk1 hS1 => ?_)
  obtain ⟨z, rfl, hz1, hu, hA⟩ := hp
  exact hA ((hR.rest.pop.heap hu).push hz1) p l e R s m args below meth c H1 locs1 L g C K h1 h2 (by rw [← ht]; exact hB) hS1 hL
theorem AW.callVv {x ix : Nat} {as : List aV} (hd : decode M.2.1 pc = .ok (.invokevirtual ix, 3)) (hF : F' + 1 ≤ F) (hk : a_inst M') (hl : Cond.methodLink M.1.cls ix M'.1 ∈ a_ws) (ho : a_obj x M'.1.cls) (hr : M'.2.2.2 = none) (hn : a_np M' as.length) (hst : (st.map a_k).sum ≤ 8) (hrun : aRun M' F' (aR x :: as) h (fun _ h' => AW M F (pc + 3) ls st h' Q)) : AW M F pc ls (as.reverse ++ aR x :: st) h Q := by
  intro hR p l e R s m args below meth c H locs L g C K h1 h2 hP hS hL
  obtain ⟨hx, hb, hrt, hml, hown, hlk, hts⟩ := id C
  have hM := hrun ⟨hR.1, fun v hv => absurd hv List.not_mem_nil, fun v hv => hR.2.2 v (by
    rcases List.mem_cons.mp hv with rfl | e
    · exact List.mem_append_right _ List.mem_cons_self
    · exact List.mem_append_left _ (List.mem_reverse.mpr e))⟩ l g
  rw [show a_Qc g M' (fun _ h' => AW M F (pc + 3) ls st h' Q) = a_Qv g (fun _ h' => AW M F (pc + 3) ls st h' Q) from by unfold a_Qc; rw [hr]] at hM
  refine va_callv (va_runV (As := as.map (a_v g)) (rest := st.map (a_v g)) (b := g.1 x) (C := M'.1.cls) (g := F0 m pc L ((as.reverse ++ aR x :: st).map (a_v g))) ⟨hx, hb, hml, hown, hts⟩ hM ⟨a_callB (n := as.length) hts hk.1 hk.2.1 hk.2.2.2 hl hn hF h1 h2, hts _ hk.2.2.1.1, hts _ hk.2.2.1.2⟩ ⟨a_blind, ho.recv K hP, fun U hU hW => a_pre (vs := (aR x :: as).map (a_v g)) K hP hU hW⟩ rfl (by simp) hL.1 (by simp [a_v]) (lv_room (a_cat hst)) hd ⟨Nat.zero_le _, Nat.zero_le _⟩) hS (fun _ _ q => q) (fun _ q => q) (fun u t H1 locs1 ht hvm hp hB hz hk1 hS1 => ?_)
  obtain ⟨hu, hA⟩ := hp
  exact hA (hR.rest.pop.heap hu) p l e R s m args below meth c H1 locs1 L g C K h1 h2 (by rw [← ht]; exact hB) hS1 hL
theorem AW.callSi {ix : Nat} {as : List aV} {ty : FieldType} (hd : decode M.2.1 pc = .ok (.invokestatic ix, 3)) (hF : F' + 1 ≤ F) (hk : a_stat M') (hl : Cond.methodLink M.1.cls ix M'.1 ∈ a_ws) (hr : M'.2.2.2 = some ty) (hn : a_np M' as.length) (hst : (st.map a_k).sum ≤ 8) (hrun : aRun M' F' as h (fun r h' => AW M F (pc + 3) ls (aI r :: st) h' Q)) : AW M F pc ls (as.reverse ++ st) h Q := by
  intro hR p l e R s m args below meth c H locs L g C K h1 h2 hP hS hL
  obtain ⟨hx, hb, hrt, hml, hown, hlk, hts⟩ := id C
  have hM := hrun hR.args l g
  rw [show a_Qc g M' (fun r h' => AW M F (pc + 3) ls (aI r :: st) h' Q) = a_Qi g (fun r h' => AW M F (pc + 3) ls (aI r :: st) h' Q) from by unfold a_Qc; rw [hr]] at hM
  refine va_calli (va_runS (As := as.map (a_v g)) (rest := st.map (a_v g)) (g := F0 m pc L ((as.reverse ++ st).map (a_v g))) ⟨hx, hb, hml, hown, hts⟩ hM ⟨a_callB (n := as.length) hts hk.1 hk.2.1 hk.2.2.2 hl hn hF h1 h2, hts _ hk.2.2.1⟩ ⟨a_blind, fun U hU hW => a_pre (vs := as.map (a_v g)) K hP hU hW⟩ rfl (by simp) hL.1 (by simp) (lv_room (a_cat hst)) hd ⟨Nat.zero_le _, Nat.zero_le _⟩) hS (fun _ _ q => q) (fun _ q => q) (fun r u t H1 locs1 ht hvm hp hB hz hk1 hS1 => ?_)
  obtain ⟨z, rfl, hz1, hu, hA⟩ := hp
  exact hA ((hR.rest.heap hu).push hz1) p l e R s m args below meth c H1 locs1 L g C K h1 h2 (by rw [← ht]; exact hB) hS1 hL
theorem AW.callSv {ix : Nat} {as : List aV} (hd : decode M.2.1 pc = .ok (.invokestatic ix, 3)) (hF : F' + 1 ≤ F) (hk : a_stat M') (hl : Cond.methodLink M.1.cls ix M'.1 ∈ a_ws) (hr : M'.2.2.2 = none) (hn : a_np M' as.length) (hst : (st.map a_k).sum ≤ 8) (hrun : aRun M' F' as h (fun _ h' => AW M F (pc + 3) ls st h' Q)) : AW M F pc ls (as.reverse ++ st) h Q := by
  intro hR p l e R s m args below meth c H locs L g C K h1 h2 hP hS hL
  obtain ⟨hx, hb, hrt, hml, hown, hlk, hts⟩ := id C
  have hM := hrun hR.args l g
  rw [show a_Qc g M' (fun _ h' => AW M F (pc + 3) ls st h' Q) = a_Qv g (fun _ h' => AW M F (pc + 3) ls st h' Q) from by unfold a_Qc; rw [hr]] at hM
  refine va_callv (va_runS (As := as.map (a_v g)) (rest := st.map (a_v g)) (g := F0 m pc L ((as.reverse ++ st).map (a_v g))) ⟨hx, hb, hml, hown, hts⟩ hM ⟨a_callB (n := as.length) hts hk.1 hk.2.1 hk.2.2.2 hl hn hF h1 h2, hts _ hk.2.2.1⟩ ⟨a_blind, fun U hU hW => a_pre (vs := as.map (a_v g)) K hP hU hW⟩ rfl (by simp) hL.1 (by simp) (lv_room (a_cat hst)) hd ⟨Nat.zero_le _, Nat.zero_le _⟩) hS (fun _ _ q => q) (fun _ q => q) (fun u t H1 locs1 ht hvm hp hB hz hk1 hS1 => ?_)
  obtain ⟨hu, hA⟩ := hp
  exact hA (hR.rest.heap hu) p l e R s m args below meth c H1 locs1 L g C K h1 h2 (by rw [← ht]; exact hB) hS1 hL
theorem a_callN {R : Room} {g : aG} {s : State} {args : Array Value} {ix n : Nat} {own host : String} (K : a_K g s) (hts : ∀ w ∈ a_ws, w.before args s = true) (h1 : Cond.code M'.1 M'.2.1 M'.2.2.1 M'.2.2.2 ∈ a_ws) (h2 : Cond.initialized M'.1.cls ∈ a_ws) (h3 : M'.1.cls ≠ "java/lang/invoke/MethodHandle" ∧ M'.1.cls ≠ "java/lang/invoke/VarHandle" ∧ M'.2.2.1 ≤ 20) (hl : (own, ix, M'.1, host) ∈ a_nest) (hn : a_np M' n) (hF : F' + 1 ≤ F) (q1 : F ≤ R.frames) (q2 : F * 40 ≤ R.locals) :
    va_CN R s args own ix M'.1 host M'.2.1 M'.2.2.1 M'.2.2.2 (Cond.code M'.1 M'.2.1 M'.2.2.1 M'.2.2.2 :: a_ws) { frames := F', cells := 0, slots := 0, locals := F' * 40 } 0 0 n :=
  ⟨⟨rfl, rfl, (a_room hF q1 q2 h3.2.2).1, (a_room hF q1 q2 h3.2.2).2, a_pay h1 hts, List.mem_cons_self⟩, hts _ h1, hts _ h2, ⟨h3.1, h3.2.1⟩, hn.use, va_Nw.use rfl (K.2.2 _ hl)⟩
theorem AW.callNi {ix : Nat} {as : List aV} {ty : FieldType} {host : String} (hd : decode M.2.1 pc = .ok (.invokestatic ix, 3)) (hF : F' + 1 ≤ F) (hk : a_stat M') (hl : (M.1.cls, ix, M'.1, host) ∈ a_nest) (hr : M'.2.2.2 = some ty) (hn : a_np M' as.length) (hst : (st.map a_k).sum ≤ 8) (hrun : aRun M' F' as h (fun r h' => AW M F (pc + 3) ls (aI r :: st) h' Q)) : AW M F pc ls (as.reverse ++ st) h Q := by
  intro hR p l e R s m args below meth c H locs L g C K h1 h2 hP hS hL
  obtain ⟨hx, hb, hrt, hml, hown, hlk, hts⟩ := id C
  have hM := hrun hR.args l g
  rw [show a_Qc g M' (fun r h' => AW M F (pc + 3) ls (aI r :: st) h' Q) = a_Qi g (fun r h' => AW M F (pc + 3) ls (aI r :: st) h' Q) from by unfold a_Qc; rw [hr]] at hM
  refine va_calli (va_runSN (As := as.map (a_v g)) (rest := st.map (a_v g)) (g := F0 m pc L ((as.reverse ++ st).map (a_v g))) ⟨hx, hb, hml, hown, hts⟩ hM ⟨a_callN (n := as.length) K hts hk.1 hk.2.1 hk.2.2.2 hl hn hF h1 h2, hts _ hk.2.2.1, trivial⟩ ⟨a_blind, fun U hU hW => a_pre (vs := as.map (a_v g)) K hP hU hW⟩ rfl (by simp) hL.1 (by simp) (lv_room (a_cat hst)) hd ⟨Nat.zero_le _, Nat.zero_le _⟩) hS (fun _ _ q => q) (fun _ q => q) (fun r u t H1 locs1 ht hvm hp hB hz hk1 hS1 => ?_)
  obtain ⟨z, rfl, hz1, hu, hA⟩ := hp
  exact hA ((hR.rest.heap hu).push hz1) p l e R s m args below meth c H1 locs1 L g C K h1 h2 (by rw [← ht]; exact hB) hS1 hL
theorem AW.callNv {ix : Nat} {as : List aV} {host : String} (hd : decode M.2.1 pc = .ok (.invokestatic ix, 3)) (hF : F' + 1 ≤ F) (hk : a_stat M') (hl : (M.1.cls, ix, M'.1, host) ∈ a_nest) (hr : M'.2.2.2 = none) (hn : a_np M' as.length) (hst : (st.map a_k).sum ≤ 8) (hrun : aRun M' F' as h (fun _ h' => AW M F (pc + 3) ls st h' Q)) : AW M F pc ls (as.reverse ++ st) h Q := by
  intro hR p l e R s m args below meth c H locs L g C K h1 h2 hP hS hL
  obtain ⟨hx, hb, hrt, hml, hown, hlk, hts⟩ := id C
  have hM := hrun hR.args l g
  rw [show a_Qc g M' (fun _ h' => AW M F (pc + 3) ls st h' Q) = a_Qv g (fun _ h' => AW M F (pc + 3) ls st h' Q) from by unfold a_Qc; rw [hr]] at hM
  refine va_callv (va_runSN (As := as.map (a_v g)) (rest := st.map (a_v g)) (g := F0 m pc L ((as.reverse ++ st).map (a_v g))) ⟨hx, hb, hml, hown, hts⟩ hM ⟨a_callN (n := as.length) K hts hk.1 hk.2.1 hk.2.2.2 hl hn hF h1 h2, hts _ hk.2.2.1, trivial⟩ ⟨a_blind, fun U hU hW => a_pre (vs := as.map (a_v g)) K hP hU hW⟩ rfl (by simp) hL.1 (by simp) (lv_room (a_cat hst)) hd ⟨Nat.zero_le _, Nat.zero_le _⟩) hS (fun _ _ q => q) (fun _ q => q) (fun u t H1 locs1 ht hvm hp hB hz hk1 hS1 => ?_)
  obtain ⟨hu, hA⟩ := hp
  exact hA (hR.rest.heap hu) p l e R s m args below meth c H1 locs1 L g C K h1 h2 (by rw [← ht]; exact hB) hS1 hL
/-! Math.max, min; arraycopy -/
theorem AW.mmax {ix : Nat} {a b : Int} (hd : decode M.2.1 pc = .ok (.invokestatic ix, 3)) (hF : 1 ≤ F) (hl : Cond.methodLink M.1.cls ix Lib.Math.max.name ∈ a_ws) (hst : (st.map a_k).sum ≤ 8) (k : AW M F (pc + 3) ls (aI (max a b) :: st) h Q) : AW M F pc ls (aI b :: aI a :: st) h Q := by
  intro hR p l e R s m args below meth c H locs L g C K h1 h2 hP hS hL
  obtain ⟨hx, hb, hrt, hml, hown, hlk, hts⟩ := id C
  have hb' : inR b := hR.top
  have ha' : inR a := hR.pop.top
  refine va_mmax hx hb (hml.trans hL.1.symm) hown (hts _ hl) (hts _ sw_max) (hts _ iw_Math) (hts _ cw_max) (by omega) (by have := a_cat (g := g) hst; omega) (Nat.zero_le _) (Nat.zero_le _) hd ?_
  have e9 : (if Int32.ofInt a < Int32.ofInt b then Int32.ofInt b else Int32.ofInt a) = Int32.ofInt (max a b) := by
    by_cases q : a < b
    · rw [if_pos ((a_lt_iff ha' hb').mpr q), Int.max_eq_right (by omega)]
    · rw [if_neg (fun z => q ((a_lt_iff ha' hb').mp z)), Int.max_eq_left (by omega)]
  rw [e9]
  refine k (hR.pop.pop.push ?_) p l e R s m args below meth c H locs L g C K h1 h2 hP hS hL
  show inR (max a b)
  omega
theorem AW.mmin {ix : Nat} {a b : Int} (hd : decode M.2.1 pc = .ok (.invokestatic ix, 3)) (hF : 1 ≤ F) (hl : Cond.methodLink M.1.cls ix Lib.Math.min.name ∈ a_ws) (hst : (st.map a_k).sum ≤ 8) (k : AW M F (pc + 3) ls (aI (min a b) :: st) h Q) : AW M F pc ls (aI b :: aI a :: st) h Q := by
  intro hR p l e R s m args below meth c H locs L g C K h1 h2 hP hS hL
  obtain ⟨hx, hb, hrt, hml, hown, hlk, hts⟩ := id C
  have hb' : inR b := hR.top
  have ha' : inR a := hR.pop.top
  refine va_mmin hx hb (hml.trans hL.1.symm) hown (hts _ hl) (hts _ sw_min) (hts _ iw_Math) (hts _ cw_min) (by omega) (by have := a_cat (g := g) hst; omega) (Nat.zero_le _) (Nat.zero_le _) hd ?_
  have e9 : (if Int32.ofInt b < Int32.ofInt a then Int32.ofInt b else Int32.ofInt a) = Int32.ofInt (min a b) := by
    by_cases q : b < a
    · rw [if_pos ((a_lt_iff hb' ha').mpr q), Int.min_eq_right (by omega)]
    · rw [if_neg (fun z => q ((a_lt_iff hb' ha').mp z)), Int.min_eq_left (by omega)]
  rw [e9]
  refine k (hR.pop.pop.push ?_) p l e R s m args below meth c H locs L g C K h1 h2 hP hS hL
  show inR (min a b)
  omega
theorem AW.copy {ix x y n n' b b' : Nat} {i j cnt : Int} (hd : decode M.2.1 pc = .ok (.invokestatic ix, 3)) (hF : 1 ≤ F) (hl : Cond.methodLink M.1.cls ix arraycopyName ∈ a_ws) (hst : (st.map a_k).sum ≤ 8) (hs : a_T[x]? = some (.inl (0, n, b))) (hs' : a_T[y]? = some (.inl (0, n', b'))) (hi : 0 ≤ i ∧ 0 ≤ j ∧ 0 ≤ cnt ∧ i + cnt ≤ n ∧ j + cnt ≤ n') (k : AW M F (pc + 3) ls st (a_cp h x i y j cnt) Q) : AW M F pc ls (aI cnt :: aI j :: aR y :: aI i :: aR x :: st) h Q := by
  intro hR p l e R s m args below meth c H locs L g C K h1 h2 hP hS hL
  obtain ⟨hx, hb, hrt, hml, hown, hlk, hts⟩ := id C
  have r1 : inR cnt := hR.top
  have r2 : inR j := hR.pop.top
  have r3 : inR i := hR.pop.pop.pop.top
  have hz : inR 0 := ⟨by decide, by decide⟩
  obtain ⟨q1, q2, q3, q4, q5⟩ := hi
  refine va_copyi (D := g.2.1) (ty := .int) hx hb (hml.trans hL.1.symm) hown (hts _ hl) (hts _ nw_copy) (hts _ sw_copy) (hts _ iw_System) K.2.1 hP (K.D h) hS x y 0 0 (a_lay_at hs) (a_lay_at hs') rfl rfl rfl (fun z => by have := (a_lt_iff r3 hz).mp z; omega) (fun z => by have := (a_lt_iff r2 hz).mp z; omega) (fun z => by have := (a_lt_iff r1 hz).mp z; omega) (by rw [a_tn r3, a_tn r1]; omega) (by rw [a_tn r2, a_tn r1]; omega) (fun _ _ => rfl) (by omega) (by have := a_cat (g := g) hst; have : nativeFrameWords "java/lang/System" "arraycopy" 5 + 11 ≤ 32 := (by decide +kernel); omega) hd (fun H1 locs1 hP1 hD1 hS1 => ?_)
  rw [a_tn r1, a_tn r2, a_tn r3] at hP1
  have e9 : va_cpy (fun (j : Nat) => Int32.ofInt (h x (j : Int))) (fun (j : Nat) => Int32.ofInt (h y (j : Int))) i.toNat j.toNat cnt.toNat = fun (k : Nat) => Int32.ofInt (a_cp h x i y j cnt y (k : Int)) := by
    funext k
    rw [a_cp_at]
    unfold va_cpy
    by_cases z : j ≤ (k : Int) ∧ (k : Int) < j + cnt
    · rw [if_pos (by omega), if_pos z]
      have e8 : ((i.toNat + (k - j.toNat) : Nat) : Int) = i + ((k : Int) - j) := by omega
      show Int32.ofInt (h x ((i.toNat + (k - j.toNat) : Nat) : Int)) = _
      rw [e8]
    · rw [if_neg (by omega), if_neg z]
  have hP1 : va_P g.2.1 vwCl (a_lay g (a_cp h x i y j cnt)) H1 := by
    rw [← a_lay_set (g := g) (h := h) (h' := a_cp h x i y j cnt) hs' rfl (fun d hd => a_cp_ne hd)]
    rw [e9] at hP1
    exact hP1
  exact k (hR.pop.pop.pop.pop.pop.heap (a_cp_r hR.1)) p l e R s m args below meth c H1 locs1 L g C K h1 h2 hP1 hS1 hL
/-! a method's run out of its walk -/
theorem a_nolong {as : List aV} (hn : as.all (fun v => a_k v == 1) = true) (g : aG) : lg_sl (as.map (a_v g)) = (as.map (a_v g)).map Slot.val := by
  induction as with
  | nil => rfl
  | cons v t ih =>
    simp only [List.all_cons, Bool.and_eq_true, beq_iff_eq] at hn
    have := ih hn.2
    unfold lg_sl at this ⊢
    simp only [List.map_cons, List.flatMap_cons, this]
    rw [if_neg (by rw [a_k_ok, hn.1]; decide)]
    rfl
theorem aRun.of {as : List aV} (hp : plainName M.1.cls = true) (hn : as.all (fun v => a_k v == 1) = true) (hle : as.length ≤ M.2.2.1) (k : AW M F 0 (as.map some ++ List.replicate (M.2.2.1 - as.length) none) [] h Q) : aRun M F as h Q := by
  intro hR l g
  refine Met.ofW hp rfl ?_
  intro p e s m args below meth c s₁ B hml hv
  obtain ⟨rfl, hK, hP⟩ := hv
  have hts := atoms_spec (ws := Cond.code M.1 M.2.1 M.2.2.1 M.2.2.2 :: a_ws) B.pre
  have hE := lv_entry (as.map (a_v g)) (n := M.2.2.1) (by rw [a_nolong hn]; simpa using hle)
  rw [lg_entry_eq]
  refine k ⟨hR.1, fun v hv => ?_, fun v hv => absurd hv List.not_mem_nil⟩ p l e _ s m _ below meth c s.heap [] _ g ⟨B.exec, B.bytes, B.returns, hml, findClass_of_methodNamed B.named, B.notSynchronized, fun w hw => hts w (List.mem_cons_of_mem _ hw)⟩ hK (Nat.le_refl _) (Nat.le_refl _) hP va_S.rf ⟨hE.1, hE.2.1, fun i v hi => ?_⟩
  · rcases List.mem_append.mp hv with q | q
    · exact hR.2.2 v (by simpa using q)
    · simp at q
  · have hi' : as[i]? = some v := by
      by_cases q : i < as.length
      · rw [List.getElem?_append_left (by simpa using q)] at hi
        simpa using hi
      · rw [List.getElem?_append_right (by simpa using q)] at hi
        simp [List.getElem?_replicate] at hi
    have hlt : i < as.length := (List.getElem?_eq_some_iff.mp hi').1
    rw [a_nolong hn]
    simp only [List.getElem?_toArray]
    rw [List.getElem?_append_left (by simpa using hlt)]
    simp [hi']
theorem aRun.mono {as : List aV} {Q' : aQ} (hQ : ∀ r u, Q r u → Q' r u) (k : aRun M F as h Q) : aRun M F as h Q' := by
  intro hR l g p e ha hc hk s m args below hf hpre hP hK
  obtain ⟨t, o, a1, a2, a3, a4, a5⟩ := k hR l g p e ha hc hk s m args below hf hpre hP hK
  refine ⟨t, o, a1, a2, a3, ?_, a5⟩
  revert a4
  unfold a_Qc
  cases M.2.2.2 with
  | none =>
    rintro ⟨⟨u, e1, ⟨e2, e3⟩, e4⟩, e5⟩
    exact ⟨⟨u, e1, ⟨e2, hQ _ _ e3⟩, e4⟩, e5⟩
  | some ty =>
    rintro ⟨⟨r, u, e1, ⟨z, e2, e3, e6, e7⟩, e4⟩, e5⟩
    exact ⟨⟨r, u, e1, ⟨z, e2, e3, e6, hQ _ _ e7⟩, e4⟩, e5⟩
end A3
