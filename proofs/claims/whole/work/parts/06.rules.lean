/-! ONE RULE AN INSTRUCTION -/
section A1
variable {M M' : aM} {F F' pc : Nat} {ls : List (Option aV)} {st : List aV} {h : aH} {Q : aQ}
theorem a_Rg.push {v : aV} (q : a_Rg h ls st) (hv : a_r v) : a_Rg h ls (v :: st) := ⟨q.1, q.2.1, List.forall_mem_cons.mpr ⟨hv, q.2.2⟩⟩
theorem a_Rg.pop {v : aV} (q : a_Rg h ls (v :: st)) : a_Rg h ls st := ⟨q.1, q.2.1, (List.forall_mem_cons.mp q.2.2).2⟩
theorem a_Rg.top {v : aV} (q : a_Rg h ls (v :: st)) : a_r v := (List.forall_mem_cons.mp q.2.2).1
theorem a_Rg.loc {v : aV} {k : Nat} (q : a_Rg h ls st) (e : ls[k]? = some (some v)) : a_r v := q.2.1 v (List.mem_of_getElem? e)
theorem a_Rg.setl {v : aV} {k : Nat} (q : a_Rg h ls st) (hv : a_r v) : a_Rg h (ls.set k (some v)) st := ⟨q.1, fun w hw => by
  rcases List.mem_or_eq_of_mem_set hw with e | e
  · exact q.2.1 w e
  · rw [Option.some.inj e]; exact hv, q.2.2⟩
theorem a_Rg.setn {k : Nat} (q : a_Rg h ls st) : a_Rg h (ls.set k none) st := by
  refine ⟨q.1, fun w hw => ?_, q.2.2⟩
  rcases List.mem_or_eq_of_mem_set hw with e | e
  · exact q.2.1 w e
  · cases e
theorem a_Rg.heap {h' : aH} (q : a_Rg h ls st) (hh : ∀ c i, inR (h' c i)) : a_Rg h' ls st := ⟨hh, q.2⟩
/-! locals -/
def a_lvs (g : aG) (ls : List (Option aV)) : List (Nat × Value) := ls.zipIdx.filterMap (fun q => q.1.map (fun v => (q.2, a_v g v)))
theorem a_lvs_mem {g : aG} {k : Nat} {x : Value} : (k, x) ∈ a_lvs g ls ↔ ∃ v, ls[k]? = some (some v) ∧ x = a_v g v := by
  unfold a_lvs
  rw [List.mem_filterMap]
  constructor
  · rintro ⟨⟨o, j⟩, h1, h2⟩
    have h1 := List.mem_zipIdx_iff_getElem?.mp h1
    cases o with
    | none => simp at h2
    | some v =>
      simp at h2
      obtain ⟨rfl, rfl⟩ := h2
      exact ⟨v, h1, rfl⟩
  · rintro ⟨v, h1, rfl⟩
    exact ⟨(some v, k), List.mem_zipIdx_iff_getElem?.mpr h1, rfl⟩
theorem a_L.has {g : aG} {nL : Nat} {L : Array Slot} (q : a_L g nL L ls) : lv_has L nL (a_lvs g ls) := ⟨q.1, q.2.1, fun x hx => by
  obtain ⟨k, y⟩ := x
  obtain ⟨v, h1, rfl⟩ := a_lvs_mem.mp hx
  exact q.2.2 k v h1⟩
def a_nl (ls : List (Option aV)) (i : Nat) : Bool := match i with
  | 0 => true
  | j + 1 => match ls[j]? with
    | some (some (.inr (.inr _))) => false
    | _ => true
theorem a_nl_no {i j : Nat} {v : aV} (q : a_nl ls i = true) (e : j + 1 = i) (hv : ls[j]? = some (some v)) : a_k v = 1 := by
  subst e
  simp only [a_nl, hv] at q
  rcases v with z | n | z
  · rfl
  · rfl
  · simp at q
theorem a_L.st1 {g : aG} {nL i : Nat} {v : aV} {L : Array Slot} (hq : lv_has L nL ((i, a_v g v) :: (a_lvs g ls).filter (fun q => !(q.1 == i) && !(q.1 + 1 == i && q.2.category == 2)))) (hnl : a_nl ls i = true) : a_L g nL L (ls.set i (some v)) := by
  refine ⟨hq.1, hq.2.1, fun k w hw => ?_⟩
  by_cases e : k = i
  · subst e
    rw [List.getElem?_set] at hw
    simp at hw
    obtain ⟨-, rfl⟩ := hw
    exact hq.2.2 (k, _) List.mem_cons_self
  · rw [List.getElem?_set_ne (fun x => e x.symm)] at hw
    refine hq.2.2 (k, a_v g w) (List.mem_cons_of_mem _ (List.mem_filter.mpr ⟨a_lvs_mem.mpr ⟨w, hw, rfl⟩, ?_⟩))
    by_cases e2 : k + 1 = i
    · have := a_nl_no hnl e2 hw
      simp [e, a_k_ok, this]
    · simp [e, e2]
theorem a_L.st2 {g : aG} {nL i : Nat} {v : aV} {L : Array Slot} (hq : lv_has L nL ((i, a_v g v) :: (a_lvs g ls).filter (fun q => !(q.1 == i) && (!(q.1 == i + 1) && !(q.1 + 1 == i && q.2.category == 2))))) (hnl : a_nl ls i = true) : a_L g nL L ((ls.set i (some v)).set (i + 1) none) := by
  refine ⟨hq.1, hq.2.1, fun k w hw => ?_⟩
  by_cases e1 : k = i + 1
  · subst e1
    rw [List.getElem?_set] at hw
    simp at hw
  rw [List.getElem?_set_ne (fun x => e1 x.symm)] at hw
  by_cases e : k = i
  · subst e
    rw [List.getElem?_set] at hw
    simp at hw
    obtain ⟨-, rfl⟩ := hw
    exact hq.2.2 (k, _) List.mem_cons_self
  · rw [List.getElem?_set_ne (fun x => e x.symm)] at hw
    refine hq.2.2 (k, a_v g w) (List.mem_cons_of_mem _ (List.mem_filter.mpr ⟨a_lvs_mem.mpr ⟨w, hw, rfl⟩, ?_⟩))
    by_cases e2 : k + 1 = i
    · have := a_nl_no hnl e2 hw
      simp [e, e1, a_k_ok, this]
    · simp [e, e1, e2]
/-! constants, locals, arithmetic -/
theorem AW.iconst {n : Int} (hd : decode M.2.1 pc = .ok (.iconst n, 1)) (hn : inR n) (k : AW M F (pc + 1) ls (aI n :: st) h Q) : AW M F pc ls st h Q := by
  intro hR p l e R s m args below meth c H locs L g C K h1 h2 hP hS hL
  exact lv_iconst C.1 C.2.1 hd rfl (k (hR.push hn) p l e R s m args below meth c H locs L g C K h1 h2 hP hS hL)
theorem AW.bipush {n : Int} (hd : decode M.2.1 pc = .ok (.bipush n, 2)) (hv : (Int8.ofInt n).toInt32 = Int32.ofInt n) (hn : inR n) (k : AW M F (pc + 2) ls (aI n :: st) h Q) : AW M F pc ls st h Q := by
  intro hR p l e R s m args below meth c H locs L g C K h1 h2 hP hS hL
  exact lv_bipush C.1 C.2.1 hd hv (k (hR.push hn) p l e R s m args below meth c H locs L g C K h1 h2 hP hS hL)
theorem AW.sipush {n : Int} (hd : decode M.2.1 pc = .ok (.sipush n, 3)) (hv : (Int16.ofInt n).toInt32 = Int32.ofInt n) (hn : inR n) (k : AW M F (pc + 3) ls (aI n :: st) h Q) : AW M F pc ls st h Q := by
  intro hR p l e R s m args below meth c H locs L g C K h1 h2 hP hS hL
  exact lv_sipush C.1 C.2.1 hd hv (k (hR.push hn) p l e R s m args below meth c H locs L g C K h1 h2 hP hS hL)
theorem AW.iload_n {i : Fin 4} {z : Int} (hd : decode M.2.1 pc = .ok (.iload_n i, 1)) (hl : ls[i.val]? = some (some (aI z))) (k : AW M F (pc + 1) ls (aI z :: st) h Q) : AW M F pc ls st h Q := by
  intro hR p l e R s m args below meth c H locs L g C K h1 h2 hP hS hL
  exact lv_iload_n C.1 C.2.1 hd rfl (hL.2.2 _ _ hl) (k (hR.push (hR.loc hl)) p l e R s m args below meth c H locs L g C K h1 h2 hP hS hL)
theorem AW.iload {i : Nat} {z : Int} (hd : decode M.2.1 pc = .ok (.iload i, 2)) (hl : ls[i]? = some (some (aI z))) (k : AW M F (pc + 2) ls (aI z :: st) h Q) : AW M F pc ls st h Q := by
  intro hR p l e R s m args below meth c H locs L g C K h1 h2 hP hS hL
  exact lv_iload C.1 C.2.1 hd (hL.2.2 _ _ hl) (k (hR.push (hR.loc hl)) p l e R s m args below meth c H locs L g C K h1 h2 hP hS hL)
theorem AW.aload_n {i : Fin 4} {z : Nat} (hd : decode M.2.1 pc = .ok (.aload_n i, 1)) (hl : ls[i.val]? = some (some (aR z))) (k : AW M F (pc + 1) ls (aR z :: st) h Q) : AW M F pc ls st h Q := by
  intro hR p l e R s m args below meth c H locs L g C K h1 h2 hP hS hL
  exact lv_aload_n C.1 C.2.1 hd rfl (hL.2.2 _ _ hl) (k (hR.push trivial) p l e R s m args below meth c H locs L g C K h1 h2 hP hS hL)
theorem AW.lload_n {i : Fin 4} {z : Int} (hd : decode M.2.1 pc = .ok (.lload_n i, 1)) (hl : ls[i.val]? = some (some (aJ z))) (k : AW M F (pc + 1) ls (aJ z :: st) h Q) : AW M F pc ls st h Q := by
  intro hR p l e R s m args below meth c H locs L g C K h1 h2 hP hS hL
  exact lv_lload_n C.1 C.2.1 hd rfl (hL.2.2 _ _ hl) (k (hR.push trivial) p l e R s m args below meth c H locs L g C K h1 h2 hP hS hL)
theorem AW.istore_n {i : Fin 4} {z : Int} (hd : decode M.2.1 pc = .ok (.istore_n i, 1)) (hi : i.val < M.2.2.1) (hnl : a_nl ls i.val = true) (k : AW M F (pc + 1) (ls.set i.val (some (aI z))) st h Q) : AW M F pc ls (aI z :: st) h Q := by
  intro hR p l e R s m args below meth c H locs L g C K h1 h2 hP hS hL
  exact lv_istore_n C.1 C.2.1 hd rfl hL.has hi rfl (fun L' hL' => k (hR.pop.setl hR.top) p l e R s m args below meth c H locs L' g C K h1 h2 hP hS (a_L.st1 hL' hnl))
theorem AW.istore {i : Nat} {z : Int} (hd : decode M.2.1 pc = .ok (.istore i, 2)) (hi : i < M.2.2.1) (hnl : a_nl ls i = true) (k : AW M F (pc + 2) (ls.set i (some (aI z))) st h Q) : AW M F pc ls (aI z :: st) h Q := by
  intro hR p l e R s m args below meth c H locs L g C K h1 h2 hP hS hL
  exact lv_istore C.1 C.2.1 hd hL.has hi rfl (fun L' hL' => k (hR.pop.setl hR.top) p l e R s m args below meth c H locs L' g C K h1 h2 hP hS (a_L.st1 hL' hnl))
theorem AW.lstore_n {i : Fin 4} {z : Int} (hd : decode M.2.1 pc = .ok (.lstore_n i, 1)) (hi : i.val + 1 < M.2.2.1) (hnl : a_nl ls i.val = true) (k : AW M F (pc + 1) ((ls.set i.val (some (aJ z))).set (i.val + 1) none) st h Q) : AW M F pc ls (aJ z :: st) h Q := by
  intro hR p l e R s m args below meth c H locs L g C K h1 h2 hP hS hL
  exact lv_lstore_n C.1 C.2.1 hd rfl hL.has hi rfl (fun L' hL' => k ((hR.pop.setl (v := aJ z) trivial).setn) p l e R s m args below meth c H locs L' g C K h1 h2 hP hS (a_L.st2 hL' hnl))
theorem AW.iinc {i : Nat} {n z : Int} (hd : decode M.2.1 pc = .ok (.iinc i n, 3)) (hl : ls[i]? = some (some (aI z))) (hi : i < M.2.2.1) (hnl : a_nl ls i = true) (hz : inR (z + n)) (k : AW M F (pc + 3) (ls.set i (some (aI (z + n)))) st h Q) : AW M F pc ls st h Q := by
  intro hR p l e R s m args below meth c H locs L g C K h1 h2 hP hS hL
  obtain ⟨kk, hkk⟩ := List.getElem?_of_mem (a_lvs_mem (g := g) (k := i) (x := a_v g (aI z)) |>.mpr ⟨_, hl, rfl⟩)
  exact lv_iinc (v := Int32.ofInt (z + n)) C.1 C.2.1 hd hL.has hkk (Int32.ofInt_add z n).symm hi rfl (fun L' hL' => k (hR.setl hz) p l e R s m args below meth c H locs L' g C K h1 h2 hP hS (a_L.st1 (v := aI (z + n)) hL' hnl))
theorem AW.iadd {a b : Int} (hd : decode M.2.1 pc = .ok (.iadd, 1)) (hz : inR (a + b)) (k : AW M F (pc + 1) ls (aI (a + b) :: st) h Q) : AW M F pc ls (aI b :: aI a :: st) h Q := by
  intro hR p l e R s m args below meth c H locs L g C K h1 h2 hP hS hL
  refine lv_iadd C.1 C.2.1 hd ?_
  rw [← Int32.ofInt_add]
  exact k (hR.pop.pop.push hz) p l e R s m args below meth c H locs L g C K h1 h2 hP hS hL
theorem AW.isub {a b : Int} (hd : decode M.2.1 pc = .ok (.isub, 1)) (hz : inR (a - b)) (k : AW M F (pc + 1) ls (aI (a - b) :: st) h Q) : AW M F pc ls (aI b :: aI a :: st) h Q := by
  intro hR p l e R s m args below meth c H locs L g C K h1 h2 hP hS hL
  refine lv_isub C.1 C.2.1 hd ?_
  rw [← Int32.ofInt_sub]
  exact k (hR.pop.pop.push hz) p l e R s m args below meth c H locs L g C K h1 h2 hP hS hL
theorem AW.imul {a b : Int} (hd : decode M.2.1 pc = .ok (.imul, 1)) (hz : inR (a * b)) (k : AW M F (pc + 1) ls (aI (a * b) :: st) h Q) : AW M F pc ls (aI b :: aI a :: st) h Q := by
  intro hR p l e R s m args below meth c H locs L g C K h1 h2 hP hS hL
  refine lv_imul C.1 C.2.1 hd ?_
  rw [← Int32.ofInt_mul]
  exact k (hR.pop.pop.push hz) p l e R s m args below meth c H locs L g C K h1 h2 hP hS hL
theorem AW.ineg {a : Int} (hd : decode M.2.1 pc = .ok (.ineg, 1)) (hz : inR (-a)) (k : AW M F (pc + 1) ls (aI (-a) :: st) h Q) : AW M F pc ls (aI a :: st) h Q := by
  intro hR p l e R s m args below meth c H locs L g C K h1 h2 hP hS hL
  refine lv_ineg C.1 C.2.1 hd ?_
  rw [← Int32.ofInt_neg]
  exact k (hR.pop.push hz) p l e R s m args below meth c H locs L g C K h1 h2 hP hS hL
theorem a_div {a b : Int} (ha : inR a) (hb : inR b) (h0 : 0 ≤ a) (h1 : 0 < b) : Int32.ofInt a / Int32.ofInt b = Int32.ofInt (a / b) := by
  rw [← Int.tdiv_eq_ediv_of_nonneg h0]
  refine (Int32.ofInt_tdiv ?_ ?_ ?_ ?_).symm
  · show (-2147483648 : Int) ≤ a; exact ha.1
  · show a ≤ (2147483647 : Int); exact ha.2
  · show (-2147483648 : Int) ≤ b; exact hb.1
  · show b ≤ (2147483647 : Int); exact hb.2
theorem AW.idiv {a b : Int} (hd : decode M.2.1 pc = .ok (.idiv, 1)) (h0 : 0 ≤ a) (h1 : 0 < b) (k : AW M F (pc + 1) ls (aI (a / b) :: st) h Q) : AW M F pc ls (aI b :: aI a :: st) h Q := by
  intro hR p l e R s m args below meth c H locs L g C K h1' h2 hP hS hL
  have hb : inR b := hR.top
  have ha : inR a := hR.pop.top
  refine lv_idiv C.1 C.2.1 hd (fun e => ?_) ?_
  · have := (a_eq_iff hb (b := 0) ⟨by decide, by decide⟩).mp e
    omega
  rw [a_div ha hb h0 h1]
  refine k (hR.pop.pop.push ?_) p l e R s m args below meth c H locs L g C K h1' h2 hP hS hL
  have q1 := Int.ediv_nonneg h0 (by omega : 0 ≤ b)
  have q2 := Int.ediv_le_self b h0
  exact ⟨by omega, by have := ha.2; omega⟩
theorem AW.irem {a b : Int} (hd : decode M.2.1 pc = .ok (.irem, 1)) (h0 : 0 ≤ a) (h1 : 0 < b) (k : AW M F (pc + 1) ls (aI (a % b) :: st) h Q) : AW M F pc ls (aI b :: aI a :: st) h Q := by
  intro hR p l e R s m args below meth c H locs L g C K h1' h2 hP hS hL
  have hb : inR b := hR.top
  have ha : inR a := hR.pop.top
  refine lv_irem C.1 C.2.1 hd (fun e => ?_) ?_
  · have := (a_eq_iff hb (b := 0) ⟨by decide, by decide⟩).mp e
    omega
  rw [a_div ha hb h0 h1, ← Int32.ofInt_mul, ← Int32.ofInt_sub]
  have e' : a - a / b * b = a % b := by
    have := Int.mul_ediv_add_emod a b
    rw [Int.mul_comm] at this
    omega
  rw [e']
  refine k (hR.pop.pop.push ?_) p l e R s m args below meth c H locs L g C K h1' h2 hP hS hL
  have q1 := Int.emod_nonneg a (by omega : b ≠ 0)
  have q2 := Int.emod_lt_of_pos a h1
  exact ⟨by omega, by have := hb.2; omega⟩
theorem AW.iand {a b : Int} (hd : decode M.2.1 pc = .ok (.iand, 1)) (k : AW M F (pc + 1) ls (aI (Int32.ofInt a &&& Int32.ofInt b).toInt :: st) h Q) : AW M F pc ls (aI b :: aI a :: st) h Q := by
  intro hR p l e R s m args below meth c H locs L g C K h1 h2 hP hS hL
  refine lv_iand C.1 C.2.1 hd ?_
  have q := k (hR.pop.pop.push (a_32 _)) p l e R s m args below meth c H locs L g C K h1 h2 hP hS hL
  simp only [List.map_cons, a_v, Int32.ofInt_toInt] at q
  exact q
theorem AW.ixor {a b : Int} (hd : decode M.2.1 pc = .ok (.ixor, 1)) (k : AW M F (pc + 1) ls (aI (Int32.ofInt a ^^^ Int32.ofInt b).toInt :: st) h Q) : AW M F pc ls (aI b :: aI a :: st) h Q := by
  intro hR p l e R s m args below meth c H locs L g C K h1 h2 hP hS hL
  refine lv_ixor C.1 C.2.1 hd ?_
  have q := k (hR.pop.pop.push (a_32 _)) p l e R s m args below meth c H locs L g C K h1 h2 hP hS hL
  simp only [List.map_cons, a_v, Int32.ofInt_toInt] at q
  exact q
theorem AW.ishl {a b : Int} (hd : decode M.2.1 pc = .ok (.ishl, 1)) (k : AW M F (pc + 1) ls (aI (Int32.ofInt a <<< (Int32.ofInt b &&& 31)).toInt :: st) h Q) : AW M F pc ls (aI b :: aI a :: st) h Q := by
  intro hR p l e R s m args below meth c H locs L g C K h1 h2 hP hS hL
  refine lv_ishl C.1 C.2.1 hd ?_
  have q := k (hR.pop.pop.push (a_32 _)) p l e R s m args below meth c H locs L g C K h1 h2 hP hS hL
  simp only [List.map_cons, a_v, Int32.ofInt_toInt] at q
  exact q
theorem AW.ishr {a b : Int} (hd : decode M.2.1 pc = .ok (.ishr, 1)) (k : AW M F (pc + 1) ls (aI (Int32.ofInt a >>> (Int32.ofInt b &&& 31)).toInt :: st) h Q) : AW M F pc ls (aI b :: aI a :: st) h Q := by
  intro hR p l e R s m args below meth c H locs L g C K h1 h2 hP hS hL
  refine lv_ishr C.1 C.2.1 hd ?_
  have q := k (hR.pop.pop.push (a_32 _)) p l e R s m args below meth c H locs L g C K h1 h2 hP hS hL
  simp only [List.map_cons, a_v, Int32.ofInt_toInt] at q
  exact q
theorem AW.dup {v : aV} (hd : decode M.2.1 pc = .ok (.dup, 1)) (hv : a_k v = 1) (k : AW M F (pc + 1) ls (v :: v :: st) h Q) : AW M F pc ls (v :: st) h Q := by
  intro hR p l e R s m args below meth c H locs L g C K h1 h2 hP hS hL
  exact lv_dup C.1 C.2.1 hd ((a_k_ok g v).trans hv) (k (hR.push hR.top) p l e R s m args below meth c H locs L g C K h1 h2 hP hS hL)
theorem AW.dup2 {v w : aV} (hd : decode M.2.1 pc = .ok (.dup2, 1)) (hv : a_k v = 1) (hw : a_k w = 1) (k : AW M F (pc + 1) ls (v :: w :: v :: w :: st) h Q) : AW M F pc ls (v :: w :: st) h Q := by
  intro hR p l e R s m args below meth c H locs L g C K h1 h2 hP hS hL
  exact lv_dup2_11 C.1 C.2.1 hd ((a_k_ok g v).trans hv) ((a_k_ok g w).trans hw) (k ((hR.push hR.pop.top).push hR.top) p l e R s m args below meth c H locs L g C K h1 h2 hP hS hL)
theorem AW.pop {v : aV} (hd : decode M.2.1 pc = .ok (.pop, 1)) (hv : a_k v = 1) (k : AW M F (pc + 1) ls st h Q) : AW M F pc ls (v :: st) h Q := by
  intro hR p l e R s m args below meth c H locs L g C K h1 h2 hP hS hL
  exact lv_pop C.1 C.2.1 hd ((a_k_ok g v).trans hv) (k hR.pop p l e R s m args below meth c H locs L g C K h1 h2 hP hS hL)
theorem AW.goto {off : Int} {tgt : Nat} (hd : decode M.2.1 pc = .ok (.goto off, 3)) (ht : (pc : Int) + off = (tgt : Int)) (k : AW M F tgt ls st h Q) : AW M F pc ls st h Q := by
  intro hR p l e R s m args below meth c H locs L g C K h1 h2 hP hS hL
  exact lv_goto C.1 C.2.1 hd ht (k hR p l e R s m args below meth c H locs L g C K h1 h2 hP hS hL)
/-! longs (one method of the reference) -/
theorem AW.lconst {n : Fin 2} (hd : decode M.2.1 pc = .ok (.lconst n, 1)) (k : AW M F (pc + 1) ls (aJ (n.val : Int) :: st) h Q) : AW M F pc ls st h Q := by
  intro hR p l e R s m args below meth c H locs L g C K h1 h2 hP hS hL
  exact lv_lconst (v := Int64.ofInt (n.val : Int)) C.1 C.2.1 hd (by match n with | 0 => rfl | 1 => rfl) (k (hR.push trivial) p l e R s m args below meth c H locs L g C K h1 h2 hP hS hL)
theorem AW.lmul {a b : Int} (hd : decode M.2.1 pc = .ok (.lmul, 1)) (k : AW M F (pc + 1) ls (aJ (a * b) :: st) h Q) : AW M F pc ls (aJ b :: aJ a :: st) h Q := by
  intro hR p l e R s m args below meth c H locs L g C K h1 h2 hP hS hL
  refine lv_lmul C.1 C.2.1 hd ?_
  rw [← Int64.ofInt_mul]
  exact k (hR.pop.pop.push trivial) p l e R s m args below meth c H locs L g C K h1 h2 hP hS hL
theorem AW.i2l {a : Int} (hd : decode M.2.1 pc = .ok (.i2l, 1)) (k : AW M F (pc + 1) ls (aJ a :: st) h Q) : AW M F pc ls (aI a :: st) h Q := by
  intro hR p l e R s m args below meth c H locs L g C K h1 h2 hP hS hL
  have ha : inR a := hR.top
  refine lv_i2l C.1 C.2.1 hd (Int32.toInt64_ofInt ?_ ?_) (k (hR.pop.push trivial) p l e R s m args below meth c H locs L g C K h1 h2 hP hS hL)
  · show (-2147483648 : Int) ≤ a; exact ha.1
  · show a ≤ (2147483647 : Int); exact ha.2
theorem AW.l2i {a : Int} (hd : decode M.2.1 pc = .ok (.l2i, 1)) (k : AW M F (pc + 1) ls (aI (Int64.ofInt a).toInt32.toInt :: st) h Q) : AW M F pc ls (aJ a :: st) h Q := by
  intro hR p l e R s m args below meth c H locs L g C K h1 h2 hP hS hL
  refine lv_l2i (v := (Int64.ofInt a).toInt32) C.1 C.2.1 hd rfl ?_
  have q := k (hR.pop.push (a_32 _)) p l e R s m args below meth c H locs L g C K h1 h2 hP hS hL
  simp only [List.map_cons, a_v, Int32.ofInt_toInt] at q
  exact q
theorem AW.lcmp {a b : Int} (hd : decode M.2.1 pc = .ok (.lcmp, 1)) (k : AW M F (pc + 1) ls (aI (lg_cmp (Int64.ofInt a) (Int64.ofInt b)).toInt :: st) h Q) : AW M F pc ls (aJ b :: aJ a :: st) h Q := by
  intro hR p l e R s m args below meth c H locs L g C K h1 h2 hP hS hL
  refine W.lcmp C.1 C.2.1 hd ?_
  have q := k (hR.pop.pop.push (a_32 _)) p l e R s m args below meth c H locs L g C K h1 h2 hP hS hL
  simp only [List.map_cons, a_v, Int32.ofInt_toInt] at q
  exact q
theorem AW.ldc2 {ix : Nat} {n : Int} (hd : decode M.2.1 pc = .ok (.ldc2_w ix, 3)) (hw : Cond.constantLong M.1.cls ix (Int64.ofInt n) ∈ a_ws) (k : AW M F (pc + 3) ls (aJ n :: st) h Q) : AW M F pc ls st h Q := by
  intro hR p l e R s m args below meth c H locs L g C K h1 h2 hP hS hL
  obtain ⟨hx, hb, hr, hml, hown, hlk, hts⟩ := id C
  exact W.ldc2 hx hb hown (hts _ hw) rfl hd (k (hR.push trivial) p l e R s m args below meth c H locs L g C K h1 h2 hP hS hL)
end A1
