theorem ow_inst : Cond.instanceMethod Lib.objectInit ∈ a_ws := a_in 123 (by decide +kernel) (by decide +kernel)
theorem ow_code : Cond.code Lib.objectInit ⟨#[0xb1]⟩ 1 none ∈ a_ws := a_in 124 (by decide +kernel) (by decide +kernel)
theorem aw_int : Cond.arrayClass .int ∈ a_ws := a_in 139 (by decide +kernel) (by decide +kernel)
theorem aw_boolean : Cond.arrayClass .boolean ∈ a_ws := a_in 347 (by decide +kernel) (by decide +kernel)
/-! CONSTRUCTORS: the table of cells grows; addresses are side by side from B on. -/
abbrev cS : Type := (Nat × Nat × Nat) ⊕ (Nat × List (Option (Option Nat)))
abbrev cQ : Type := List cS → aH → Prop
def c_g (B : Nat) (D : va_G) (kI kZ kA : ClassId) : aG := (fun c => B + c, D, kI, kZ, kA)
def c_f (g : aG) (h : Int → Int) (i : Nat) (o : Option (Option Nat)) : Value := match o with
  | none => .int (Int32.ofInt (h i))
  | some none => .null
  | some (some r) => .ref (g.1 r)
def c_c (g : aG) (h : Int → Int) (s : cS) : va_E := match s with
  | .inl x => a_c g h (.inl x)
  | .inr (ci, fs) => .inr (ci, fs.mapIdx (c_f g h))
def c_lay (g : aG) (T : List cS) (h : aH) : va_W := T.mapIdx (fun c s => (g.1 c, c_c g (h c) s))
theorem c_lay_at {g : aG} {T : List cS} {h : aH} {c : Nat} {s : cS} (hs : T[c]? = some s) : (c_lay g T h)[c]? = some (g.1 c, c_c g (h c) s) := by
  simp [c_lay, hs]
theorem c_lay_inv {g : aG} {T : List cS} {h : aH} {c : Nat} {q : Nat × va_E} (hq : (c_lay g T h)[c]? = some q) : ∃ s, T[c]? = some s ∧ q = (g.1 c, c_c g (h c) s) := by
  simp only [c_lay, List.getElem?_mapIdx, Option.map_eq_some_iff] at hq
  obtain ⟨s, h1, h2⟩ := hq
  exact ⟨s, h1, h2.symm⟩
theorem c_lay_set {g : aG} {T : List cS} {h h' : aH} {c : Nat} {s s' : cS} {x : Nat × va_E} (hs : T[c]? = some s) (hx : x = (g.1 c, c_c g (h' c) s')) (ho : ∀ d, d ≠ c → h' d = h d) : (c_lay g T h).set c x = c_lay g (T.set c s') h' := by
  apply List.ext_getElem?
  intro d
  by_cases e : d = c
  · subst e
    have hlt := (List.getElem?_eq_some_iff.mp hs).1
    rw [List.getElem?_set_self (by simpa [c_lay] using hlt), c_lay_at (s := s') (by rw [List.getElem?_set_self hlt]), hx]
  · rw [List.getElem?_set_ne (fun q => e q.symm)]
    simp only [c_lay, List.getElem?_mapIdx, ho d e]
    rw [List.getElem?_set_ne (fun q => e q.symm)]
theorem c_lay_app {g : aG} {T T2 : List cS} {h : aH} : c_lay g (T ++ T2) h = c_lay g T h ++ T2.mapIdx (fun c s => (g.1 (T.length + c), c_c g (h (T.length + c)) s)) := by
  unfold c_lay
  rw [List.mapIdx_append]
  congr 1
  apply List.ext_getElem?
  intro d
  simp [Nat.add_comm]
def c_A (B : Nat) : Nat → Prop := fun q => B ≤ q
theorem c_D {B : Nat} {D : va_G} {kI kZ kA : ClassId} {T : List cS} {h : aH} : va_D (c_A B) (c_lay (c_g B D kI kZ kA) T h) := by
  refine ⟨fun i j p q hp hq e => ?_, fun k q hq => ?_⟩
  · obtain ⟨s1, h1, rfl⟩ := c_lay_inv hp
    obtain ⟨s2, h2, rfl⟩ := c_lay_inv hq
    have e : B + i = B + j := e
    omega
  · obtain ⟨s1, h1, rfl⟩ := c_lay_inv hq
    show B ≤ B + k
    omega
def c_nest : List (String × Nat × MethodName × String) := [(RX9, 9, yX7_init, "ShopFloor"), (RX9, 18, yX5_init, "ShopFloor"), (RX9, 32, yX8_init, "ShopFloor"), (RX9, 42, yX6_init, "ShopFloor"), (RX9, 49, yX3_init, "ShopFloor"), (RX9, 56, yX4_init, "ShopFloor"), (RX9, 63, yX1_init, "ShopFloor"), (RX9, 70, yX0_init, "ShopFloor"), (RX9, 77, yX2_init, "ShopFloor")]
theorem c_nest_in : ∀ q ∈ c_nest, Cond.methodLinkNest q.1 q.2.1 q.2.2.1 q.2.2.2 ∈ lw_tbl := List.forall_mem_cons.mpr ⟨List.mem_of_getElem? (i := 127) (by decide +kernel), List.forall_mem_cons.mpr ⟨List.mem_of_getElem? (i := 142) (by decide +kernel), List.forall_mem_cons.mpr ⟨List.mem_of_getElem? (i := 202) (by decide +kernel), List.forall_mem_cons.mpr ⟨List.mem_of_getElem? (i := 253) (by decide +kernel), List.forall_mem_cons.mpr ⟨List.mem_of_getElem? (i := 283) (by decide +kernel), List.forall_mem_cons.mpr ⟨List.mem_of_getElem? (i := 302) (by decide +kernel), List.forall_mem_cons.mpr ⟨List.mem_of_getElem? (i := 322) (by decide +kernel), List.forall_mem_cons.mpr ⟨List.mem_of_getElem? (i := 350) (by decide +kernel), List.forall_mem_cons.mpr ⟨List.mem_of_getElem? (i := 366) (by decide +kernel), fun _ h => absurd h List.not_mem_nil⟩⟩⟩⟩⟩⟩⟩⟩⟩
def c_K (g : aG) (s : State) : Prop := va_K g.2.1 vwCl [(g.2.2.1, .int), (g.2.2.2.1, .boolean), (g.2.2.2.2, .array .int)] s ∧ (∀ a, (Cond.arrayOver (.array .int)).before a s = true) ∧ ∀ q ∈ c_nest, va_Nw (.methodLinkNest q.1 q.2.1 q.2.2.1 q.2.2.2) s
theorem c_K.warm {g : aG} {s U : State} (K : c_K g s) (hW : s.WarmedH U.vm) : c_K g U := ⟨va_K.moved hW.alike K.1, fun a => arrayOver_alikeB hW.alike (K.2.1 #[]), fun q hq => va_Nw.warmM hW (K.2.2 q hq)⟩
theorem c_K.same {g : aG} {s U : State} (K : c_K g s) (e : s.vm = U.vm) : c_K g U := ⟨va_K.moved (by rw [e]; exact Vm.Alike.refl _) K.1, fun a => arrayOver_alikeB (by rw [e]; exact Vm.Alike.refl _) (K.2.1 #[]), fun q hq => va_Nw.same rfl e (K.2.2 q hq)⟩
def c_Qc (B : Nat) (D : va_G) (kI kZ kA : ClassId) (Q : cQ) : Array Value → State → Outcome → State → Prop := va_Qv (fun (u : List cS × aH) => Q u.1 u.2) (fun u t => t.heap.size = B + u.1.length ∧ va_P D vwCl (c_lay (c_g B D kI kZ kA) u.1 u.2) t.heap) (c_A B)
def CW (M : aM) (F mc ms : Nat) (pc : Nat) (ls : List (Option aV)) (st : List aV) (T : List cS) (h : aH) (k n : Nat) (Q : cQ) : Prop :=
  ∀ (p : Program) (l : Launch) (e : Env) (R : Room) (s : State) (m : MethodId) (args : Array Value) (below : List Frame) (meth : Method) (c : Code) (H : Heap) (locs : List Loc) (L : Array Slot) (B : Nat) (D : va_G) (kI kZ kA : ClassId),
    a_C M p s m args meth c → meth.name = "<init>" → c_K (c_g B D kI kZ kA) s → F ≤ R.frames → F * 40 ≤ R.locals → mc ≤ R.cells → ms ≤ R.slots → B ≤ s.heap.size → (s.heap.size + k = B + T.length ∧ 0 < T.length) → va_P D vwCl (c_lay (c_g B D kI kZ kA) T h) H → va_S (c_A B) s.heap H locs → a_L (c_g B D kI kZ kA) M.2.2.1 L ls →
    W p l e R s m args below meth c H locs k n (MQ below (c_Qc B D kI kZ kA Q) args s mc ms (c_A B)) (F0 m pc L (st.map (a_v (c_g B D kI kZ kA))))
def cRun (M : aM) (F mc ms i : Nat) (T : List cS) (h : aH) (Q : cQ) : Prop :=
  ∀ (l : Launch) (B : Nat) (D : va_G) (kI kZ kA : ClassId), Met l M.1 (Cond.code M.1 M.2.1 M.2.2.1 M.2.2.2 :: a_ws) { frames := F, cells := mc, slots := ms, locals := F * 40 } (va_Pc [.ref (B + i)] (fun U => c_K (c_g B D kI kZ kA) U ∧ U.heap.size = B + T.length ∧ va_P D vwCl (c_lay (c_g B D kI kZ kA) T h) U.heap)) (c_Qc B D kI kZ kA Q) mc ms (c_A B)
theorem c_set_self {T : List cS} {c : Nat} {s : cS} (hs : T[c]? = some s) : T.set c s = T := by
  apply List.ext_getElem?
  intro d
  by_cases e : d = c
  · subst e
    rw [List.getElem?_set_self (List.getElem?_eq_some_iff.mp hs).1, hs]
  · rw [List.getElem?_set_ne (fun q => e q.symm)]
theorem c_low {B : Nat} {D : va_G} {kI kZ kA : ClassId} {T : List cS} {h : aH} {H : Heap} (hP : va_P D vwCl (c_lay (c_g B D kI kZ kA) T h) H) (h0 : 0 < T.length) : B + T.length ≤ H.size := by
  obtain ⟨s, hs⟩ : ∃ s, T[T.length - 1]? = some s := ⟨T[T.length - 1]'(by omega), List.getElem?_eq_getElem _⟩
  have q := (hP _ _ (c_lay_at hs)).lt
  have q : B + (T.length - 1) < H.size := q
  omega
theorem c_sz {p : Program} {l : Launch} {e : Env} {R : Room} {s : State} {m : MethodId} {args : Array Value} {below : List Frame} {meth : Method} {c : Code} {H : Heap} {locs : List Loc} {k n N : Nat} {Qf : State → Prop} {g : JFrame} (hcnt : s.heap.size + k = N) (hlow : N ≤ H.size) (hW : H.size = N → W p l e R s m args below meth c H locs k n Qf g) : W p l e R s m args below meth c H locs k n Qf g := by
  intro T0 hT X
  refine hW ?_ T0 hT X
  have q : T0.heap.size ≤ s.heap.size + k := X.same.2.2.1
  rw [hT] at q
  omega
section C1
variable {M M' : aM} {F F' pc mc ms mc' ms' k n : Nat} {ls : List (Option aV)} {st : List aV} {T : List cS} {h : aH} {Q : cQ}
theorem CW.aload_n {i : Fin 4} {z : Nat} (hd : decode M.2.1 pc = .ok (.aload_n i, 1)) (hl : ls[i.val]? = some (some (aR z))) (kk : CW M F mc ms (pc + 1) ls (aR z :: st) T h k n Q) : CW M F mc ms pc ls st T h k n Q := by
  intro p l e R s m args below meth c H locs L B D kI kZ kA C hi K h1 h2 h3 h4 h5 hz hP hS hL
  exact lv_aload_n C.1 C.2.1 hd rfl (hL.2.2 _ _ hl) (kk p l e R s m args below meth c H locs L B D kI kZ kA C hi K h1 h2 h3 h4 h5 hz hP hS hL)
theorem CW.iconst {z : Int} (hd : decode M.2.1 pc = .ok (.iconst z, 1)) (kk : CW M F mc ms (pc + 1) ls (aI z :: st) T h k n Q) : CW M F mc ms pc ls st T h k n Q := by
  intro p l e R s m args below meth c H locs L B D kI kZ kA C hi K h1 h2 h3 h4 h5 hz hP hS hL
  exact lv_iconst C.1 C.2.1 hd rfl (kk p l e R s m args below meth c H locs L B D kI kZ kA C hi K h1 h2 h3 h4 h5 hz hP hS hL)
theorem CW.bipush {z : Int} (hd : decode M.2.1 pc = .ok (.bipush z, 2)) (hv : (Int8.ofInt z).toInt32 = Int32.ofInt z) (kk : CW M F mc ms (pc + 2) ls (aI z :: st) T h k n Q) : CW M F mc ms pc ls st T h k n Q := by
  intro p l e R s m args below meth c H locs L B D kI kZ kA C hi K h1 h2 h3 h4 h5 hz hP hS hL
  exact lv_bipush C.1 C.2.1 hd hv (kk p l e R s m args below meth c H locs L B D kI kZ kA C hi K h1 h2 h3 h4 h5 hz hP hS hL)
theorem CW.sipush {z : Int} (hd : decode M.2.1 pc = .ok (.sipush z, 3)) (hv : (Int16.ofInt z).toInt32 = Int32.ofInt z) (kk : CW M F mc ms (pc + 3) ls (aI z :: st) T h k n Q) : CW M F mc ms pc ls st T h k n Q := by
  intro p l e R s m args below meth c H locs L B D kI kZ kA C hi K h1 h2 h3 h4 h5 hz hP hS hL
  exact lv_sipush C.1 C.2.1 hd hv (kk p l e R s m args below meth c H locs L B D kI kZ kA C hi K h1 h2 h3 h4 h5 hz hP hS hL)
theorem CW.dup {v : aV} (hd : decode M.2.1 pc = .ok (.dup, 1)) (hv : a_k v = 1) (kk : CW M F mc ms (pc + 1) ls (v :: v :: st) T h k n Q) : CW M F mc ms pc ls (v :: st) T h k n Q := by
  intro p l e R s m args below meth c H locs L B D kI kZ kA C hi K h1 h2 h3 h4 h5 hz hP hS hL
  exact lv_dup C.1 C.2.1 hd ((a_k_ok _ v).trans hv) (kk p l e R s m args below meth c H locs L B D kI kZ kA C hi K h1 h2 h3 h4 h5 hz hP hS hL)
theorem CW.objInit {ix x : Nat} (hd : decode M.2.1 pc = .ok (.invokespecial ix, 3)) (hF : 1 ≤ F) (hl : Cond.methodLink M.1.cls ix Lib.objectInit ∈ a_ws) (hst : (st.map a_k).sum ≤ 8) (kk : CW M F mc ms (pc + 3) ls st T h k n Q) : CW M F mc ms pc ls (aR x :: st) T h k n Q := by
  intro p l e R s m args below meth c H locs L B D kI kZ kA C hi K h1 h2 h3 h4 h5 hz hP hS hL
  obtain ⟨hx, hb, hr, hml, hown, hlk, hts⟩ := id C
  exact W.objInit hx hb hown (hts _ hl) (hts _ ow_inst) (hts _ ow_code) rfl (by rw [hml]; exact hL.1) rfl hd (by omega) (by have := a_cat (g := c_g B D kI kZ kA) hst; have := lv_room (m := m) (pc := pc) (ls := L) (rest := []) this; show 2 * (F0 m pc L _).monitorRoom + _ + 12 ≤ _; have e0 : (F0 m pc L ((aR x :: st).map (a_v (c_g B D kI kZ kA)))).monitorRoom = (F0 m pc L ([] : List Value)).monitorRoom := rfl; omega) (kk p l e R s m args below meth c H locs L B D kI kZ kA C hi K h1 h2 h3 h4 h5 hz hP hS hL)
theorem CW.newarr {kd N : Nat} {z : Int} {at_ : ArrayType} {ty : FieldType} (hd : decode M.2.1 pc = .ok (.newarray at_, 2)) (ha : newarray.typeOf at_ = ty) (hw : Cond.arrayClass ty ∈ a_ws) (hkd : (kd = 0 ∧ ty = .int) ∨ (kd = 1 ∧ ty = .boolean)) (hz1 : z = (N : Int)) (hN : N ≤ 100000) (hc : k + 1 ≤ mc) (hs : n + N ≤ ms) (h0 : h T.length = fun _ => 0) (kk : CW M F mc ms (pc + 2) ls (aR T.length :: st) (T ++ [.inl (kd, N, 0)]) h (k + 1) (n + N) Q) : CW M F mc ms pc ls (aI z :: st) T h k n Q := by
  intro p l e R s m args below meth c H locs L B D kI kZ kA C hi K h1 h2 h3 h4 h5 hz hP hS hL
  refine c_sz hz.1 (c_low hP hz.2) (fun hsz => ?_)
  subst ha
  have hr : inR z := ⟨by omega, by omega⟩
  refine va_newaK C.1 C.2.1 (C.2.2.2.2.2.2 _ hw) rfl hd rfl (fun q => by have := (a_lt_iff hr (b := 0) ⟨by decide, by decide⟩).mp q; omega) (N := N) (by rw [a_tn hr]; omega) (by rcases hkd with ⟨-, q⟩ | ⟨-, q⟩ <;> rw [q] <;> (show N * _ ≤ 536870912) <;> simp [componentBytes] <;> omega) (by omega) (by omega) rfl fun H1 cA e1 z1 o1 hAr hNm => ?_
  have hA : ∀ q, s.heap.size ≤ q → c_A B q := fun q hq => Nat.le_trans h5 hq
  have hP1 : va_P D vwCl (c_lay (c_g B D kI kZ kA) (T ++ [.inl (kd, N, 0)]) h) H1 := by
    rw [c_lay_app]
    refine (hP.kept (fun d x hx => o1 x.1 ((hP d x hx).lt))).app (fun d x hx => ?_)
    have hd0 : d < 1 := by simpa using (List.getElem?_eq_some_iff.mp hx).1
    rw [show d = 0 by omega] at hx
    simp at hx
    subst hx
    rw [h0]
    rcases hkd with ⟨rfl, q⟩ | ⟨rfl, q⟩
    · have e9 : cA = kI := by
        have q1 := (K.1.2 0 _ rfl).2
        rw [q] at hNm
        exact Option.some.inj (hNm.symm.trans q1)
      subst e9
      rw [q] at e1
      show H1[B + T.length]? = _
      rw [← hsz, e1]
      rfl
    · have e9 : cA = kZ := by
        have q1 := (K.1.2 1 _ rfl).2
        rw [q] at hNm
        exact Option.some.inj (hNm.symm.trans q1)
      subst e9
      rw [q] at e1
      show H1[B + T.length]? = _
      rw [← hsz, e1]
      rfl
  have hq := kk p l e R s m args below meth c H1 locs L B D kI kZ kA C hi K h1 h2 h3 h4 h5 ⟨by simp; omega, by simp⟩ hP1 ⟨Nat.le_trans hS.1 (by omega), fun x q1 q2 => (o1 x (Nat.lt_of_lt_of_le q1 hS.1)).trans (hS.2.1 x q1 q2), hS.2.2⟩ hL
  rw [hsz]
  exact hq
theorem CW.new {ix ci N : Nat} {C0 : String} {T0 : u_T} {ty : Nat → FieldType} {fs : List (Option (Option Nat))} (hd : decode M.2.1 pc = .ok (.new ix, 3)) (hc0 : a_cls ci C0 T0 N ty) (hw1 : Cond.classLink M.1.cls ix C0 ∈ a_ws) (hw2 : Cond.instantiable C0 N ∈ a_ws) (hw3 : Cond.initialized C0 ∈ a_ws) (hfs : ∀ j, j < N → fs[j]? = some (if (ty j) = .int ∨ (ty j) = .boolean then none else some none)) (hdv : ∀ j, j < N → (ty j).isReference = true ∨ ty j = .int ∨ ty j = .boolean) (hc : k + 1 ≤ mc) (hs : n + N ≤ ms) (h0 : h T.length = fun _ => 0) (kk : CW M F mc ms (pc + 3) ls (aR T.length :: st) (T ++ [.inr (ci, fs)]) h (k + 1) (n + N) Q) : CW M F mc ms pc ls st T h k n Q := by
  intro p l e R s m args below meth c H locs L B D kI kZ kA C hi K h1 h2 h3 h4 h5 hz hP hS hL
  refine c_sz hz.1 (c_low hP hz.2) (fun hsz => ?_)
  obtain ⟨hx, hb, hr, hml, hown, hlk, hts⟩ := id C
  have hKn := K.1.1 ci _ hc0.1
  refine W.newcK hx hb hown (hts _ hw1) (hts _ hw2) (hts _ hw3) rfl hd (by omega) (by omega) hKn.2.1 rfl fun H1 kC hkC e1 z1 o1 => ?_
  have hP1 : va_P D vwCl (c_lay (c_g B D kI kZ kA) (T ++ [.inr (ci, fs)]) h) H1 := by
    rw [c_lay_app]
    refine (hP.kept (fun d x hx => o1 x.1 ((hP d x hx).lt))).app (fun d x hx => ?_)
    have hd0 : d < 1 := by simpa using (List.getElem?_eq_some_iff.mp hx).1
    rw [show d = 0 by omega] at hx
    simp at hx
    subst hx
    rw [h0]
    refine ⟨_, hc0.1, ?_⟩
    rw [hsz] at e1
    refine (u_born ty hts hc0.2.1 hKn hkC e1 hc0.2.2.1).to (fun j hj => ?_)
    show defaultValue (ty j) = vp_V (fs.mapIdx _) j
    simp only [vp_V, List.getD_eq_getElem?_getD, List.getElem?_mapIdx, hfs j hj]
    rcases hdv j hj with q | q | q
    · rw [if_neg (by rintro (z | z) <;> rw [z] at q <;> cases q)]
      cases hty : ty j <;> rw [hty] at q <;> first | rfl | cases q
    · rw [q]; rfl
    · rw [q]; rfl
  have hq := kk p l e R s m args below meth c H1 locs L B D kI kZ kA C hi K h1 h2 h3 h4 h5 ⟨by simp; omega, by simp⟩ hP1 ⟨Nat.le_trans hS.1 (by omega), fun x q1 q2 => (o1 x (Nat.lt_of_lt_of_le q1 hS.1)).trans (hS.2.1 x q1 q2), hS.2.2⟩ hL
  rw [hsz]
  exact hq
theorem CW.putF {ci x ix j r N : Nat} {C0 : String} {T0 : u_T} {ty : Nat → FieldType} {fs : List (Option (Option Nat))} (hd : decode M.2.1 pc = .ok (.putfield ix, 3)) (hc0 : a_cls ci C0 T0 N ty) (hs : T[x]? = some (.inr (ci, fs))) (hf : fs[j]? = some (some none)) (hj : j < N) (hl : Cond.fieldLink M.1.cls ix (T0 j).1 (T0 j).2.1 (T0 j).2.2.1 ∈ a_ws) (hfin : (T0 j).2.2.2 = true) (hdecl : (T0 j).1 = M.1.cls) (hty : (ty j).isReference = true) (kk : CW M F mc ms (pc + 3) ls st (T.set x (.inr (ci, fs.set j (some (some r))))) h k n Q) : CW M F mc ms pc ls (aR r :: aR x :: st) T h k n Q := by
  intro p l e R s m args below meth c H locs L B D kI kZ kA C hi K h1 h2 h3 h4 h5 hz hP hS hL
  obtain ⟨hx, hb, hr, hml, hown, hlk, hts⟩ := id C
  refine va_putF (D := D) (v := .ref (B + r)) (ref := (T0 j).1) hx hb hts hc0.2.1 ty hc0.2.2.1 hc0.2.2.2 hown K.1 hP c_D hS x (c_lay_at hs) hc0.1 j hj (hts _ hl) (fun _ q => q) hfin hi hdecl (hc0.2.2.1 j hj) ?_ ?_ ?_ hd (fun H1 locs1 hP1 hD1 hS1 => ?_)
  · cases hq : ty j <;> rw [hq] at hty <;> first | rfl | cases hty
  · cases hq : ty j <;> rw [hq] at hty <;> first | rfl | cases hty
  · simpa using (List.getElem?_eq_some_iff.mp hf).1
  · have e9 : (fs.mapIdx (c_f (c_g B D kI kZ kA) (h x))).set j (.ref (B + r)) = (fs.set j (some (some r))).mapIdx (c_f (c_g B D kI kZ kA) (h x)) := by
      apply List.ext_getElem?
      intro d
      have hlt := (List.getElem?_eq_some_iff.mp hf).1
      by_cases e : d = j
      · subst e
        rw [List.getElem?_set_self (by simpa using hlt), List.getElem?_mapIdx, List.getElem?_set_self hlt]
        rfl
      · rw [List.getElem?_set_ne (fun q => e q.symm)]
        simp only [List.getElem?_mapIdx]
        rw [List.getElem?_set_ne (fun q => e q.symm)]
    rw [e9] at hP1
    have hP1 : va_P D vwCl (c_lay (c_g B D kI kZ kA) (T.set x (.inr (ci, fs.set j (some (some r))))) h) H1 := by
      rw [← c_lay_set (g := c_g B D kI kZ kA) (h := h) (h' := h) (s' := .inr (ci, fs.set j (some (some r)))) hs rfl (fun _ _ => rfl)]
      exact hP1
    exact kk p l e R s m args below meth c H1 locs1 L B D kI kZ kA C hi K h1 h2 h3 h4 h5 ⟨by simpa using hz.1, by simpa using hz.2⟩ hP1 hS1 hL
theorem CW.puti {ci x ix j N : Nat} {v jj : Int} {C0 : String} {T0 : u_T} {ty : Nat → FieldType} {fs : List (Option (Option Nat))} (hd : decode M.2.1 pc = .ok (.putfield ix, 3)) (hc0 : a_cls ci C0 T0 N ty) (hs : T[x]? = some (.inr (ci, fs))) (hf : fs[j]? = some none) (hj : j < N) (hl : Cond.fieldLink M.1.cls ix (T0 j).1 (T0 j).2.1 (T0 j).2.2.1 ∈ a_ws) (hjj : (j : Int) = jj) (hfin : (T0 j).2.2.2 = false) (hn : ty j = .int ∨ (ty j = .boolean ∧ (v = 0 ∨ v = 1))) (kk : CW M F mc ms (pc + 3) ls st T (a_up h x jj v) k n Q) : CW M F mc ms pc ls (aI v :: aR x :: st) T h k n Q := by
  subst hjj
  intro p l e R s m args below meth c H locs L B D kI kZ kA C hi K h1 h2 h3 h4 h5 hz hP hS hL
  obtain ⟨hx, hb, hr, hml, hown, hlk, hts⟩ := id C
  refine va_put (D := D) (v := .int (Int32.ofInt v)) (ref := (T0 j).1) hx hb hts hc0.2.1 ty hc0.2.2.1 hc0.2.2.2 hown K.1 hP c_D hS x (c_lay_at hs) hc0.1 j hj (hts _ hl) (fun _ q => q) hfin (hc0.2.2.1 j hj) ?_ ?_ ?_ hd (fun H1 locs1 hP1 hD1 hS1 => ?_)
  · rcases hn with q | ⟨q, rfl | rfl⟩ <;> rw [q] <;> rfl
  · rcases hn with q | ⟨q, rfl | rfl⟩ <;> rw [q] <;> rfl
  · simpa using (List.getElem?_eq_some_iff.mp hf).1
  · have e9 : (fs.mapIdx (c_f (c_g B D kI kZ kA) (h x))).set j (.int (Int32.ofInt v)) = fs.mapIdx (c_f (c_g B D kI kZ kA) (a_up h x (j : Int) v x)) := by
      apply List.ext_getElem?
      intro d
      by_cases e : d = j
      · subst e
        rw [List.getElem?_set_self (by simpa using (List.getElem?_eq_some_iff.mp hf).1)]
        simp [hf, c_f, a_up_eq]
      · rw [List.getElem?_set_ne (fun q => e q.symm)]
        have e2 : ((d : Int) = (j : Int)) = False := by simp; omega
        simp only [List.getElem?_mapIdx]
        congr 1
        funext o
        rcases o with _ | _ | o <;> simp [c_f, a_up_at, e2]
    rw [e9] at hP1
    have hP1 : va_P D vwCl (c_lay (c_g B D kI kZ kA) T (a_up h x (j : Int) v)) H1 := by
      have e8 := c_lay_set (g := c_g B D kI kZ kA) (h := h) (h' := a_up h x (j : Int) v) (s' := .inr (ci, fs)) hs rfl (fun d hd => a_up_ne hd)
      rw [c_set_self hs] at e8
      rw [← e8]
      exact hP1
    exact kk p l e R s m args below meth c H1 locs1 L B D kI kZ kA C hi K h1 h2 h3 h4 h5 hz hP1 hS1 hL
theorem CW.iast {x N b : Nat} {i v : Int} (hd : decode M.2.1 pc = .ok (.iastore, 1)) (hs : T[x]? = some (.inl (0, N, b))) (hi0 : 0 ≤ i ∧ i < N) (hr : inR i) (kk : CW M F mc ms (pc + 1) ls st T (a_up h x i v) k n Q) : CW M F mc ms pc ls (aI v :: aI i :: aR x :: st) T h k n Q := by
  intro p l e R s m args below meth c H locs L B D kI kZ kA C hi K h1 h2 h3 h4 h5 hz hP hS hL
  refine va_iast (D := D) C.1 C.2.1 K.1 hP c_D hS x 0 (c_lay_at hs) rfl (a_vin hr hi0.1 hi0.2) hd (fun H1 locs1 hP1 hD1 hS1 => ?_)
  rw [a_tn hr, a_upd hi0.1] at hP1
  have hP1 : va_P D vwCl (c_lay (c_g B D kI kZ kA) T (a_up h x i v)) H1 := by
    have e8 := c_lay_set (g := c_g B D kI kZ kA) (h := h) (h' := a_up h x i v) (s' := .inl (0, N, b)) hs rfl (fun d hd => a_up_ne hd)
    rw [c_set_self hs] at e8
    rw [← e8]
    exact hP1
  exact kk p l e R s m args below meth c H1 locs1 L B D kI kZ kA C hi K h1 h2 h3 h4 h5 hz hP1 hS1 hL
theorem CW.vret (hd : decode M.2.1 pc = .ok (.return_, 1)) (ht : M.2.2.2 = none) (hk : k = mc) (hn : n = ms) (kk : Q T h) : CW M F mc ms pc ls [] T h k n Q := by
  subst hk
  subst hn
  intro p l e R s m args below meth c H locs L B D kI kZ kA C hi K h1 h2 h3 h4 h5 hz hP hS hL
  refine c_sz hz.1 (c_low hP hz.2) (fun hsz => ?_)
  exact W.vret C.1 C.2.1 (C.2.2.1.trans ht) (fun t ht' hW => ⟨⟨(T, h), rfl, kk, by rw [ht']; exact hsz, (congrArg (va_P D vwCl (c_lay (c_g B D kI kZ kA) T h)) ht').mpr hP⟩, hS.F ht'⟩) hS.2.2 hd C.2.2.2.2.2.1
theorem cRun.of {i : Nat} (hp : plainName M.1.cls = true) (hn : M.1.name = "<init>") (hle : 1 ≤ M.2.2.1) (h0 : 0 < T.length) (kk : CW M F mc ms 0 (some (aR i) :: List.replicate (M.2.2.1 - 1) none) [] T h 0 0 Q) : cRun M F mc ms i T h Q := by
  intro l B D kI kZ kA
  refine Met.ofW hp rfl ?_
  intro p e s m args below meth c s₁ Bd hml hv
  obtain ⟨rfl, hK, hsz, hP⟩ := hv
  have hts := atoms_spec (ws := Cond.code M.1 M.2.1 M.2.2.1 M.2.2.2 :: a_ws) Bd.pre
  have hE := lv_entry ([.ref (B + i)] : List Value) (n := M.2.2.1) hle
  rw [lg_entry_eq]
  refine kk p l e _ s m _ below meth c s.heap [] _ B D kI kZ kA ⟨Bd.exec, Bd.bytes, Bd.returns, hml, findClass_of_methodNamed Bd.named, Bd.notSynchronized, fun w hw => hts w (List.mem_cons_of_mem _ hw)⟩ ((name_of_methodNamed Bd.named Bd.method).1.trans hn) hK (Nat.le_refl _) (Nat.le_refl _) (Nat.le_refl _) (Nat.le_refl _) (by omega) ⟨by omega, h0⟩ hP va_S.rf ⟨hE.1, hE.2.1, fun j v hj => ?_⟩
  match j, hj with
  | 0, hj => simp at hj; subst hj; exact hE.2.2 (0, _) List.mem_cons_self
  | j + 1, hj => simp [List.getElem?_replicate] at hj
theorem CW.callI {x ix : Nat} {host : String} (hd : decode M.2.1 pc = .ok (.invokespecial ix, 3)) (hF : F' + 1 ≤ F) (hk1 : Cond.code M'.1 M'.2.1 M'.2.2.1 M'.2.2.2 ∈ a_ws) (hk2 : Cond.initialized M'.1.cls ∈ a_ws) (hk3 : Cond.instanceMethod M'.1 ∈ a_ws) (hk4 : M'.1.cls ≠ "java/lang/invoke/MethodHandle" ∧ M'.1.cls ≠ "java/lang/invoke/VarHandle" ∧ M'.2.2.1 ≤ 20) (hl : (M.1.cls, ix, M'.1, host) ∈ c_nest) (hnm : M'.1.name = "<init>") (hr : M'.2.2.2 = none) (hn : a_np M' 0) (hst : (st.map a_k).sum ≤ 8) (hc : k + mc' ≤ mc) (hs : n + ms' ≤ ms) (hrun : cRun M' F' mc' ms' x T h (fun T' h' => T'.length = T.length + mc' ∧ CW M F mc ms (pc + 3) ls st T' h' (k + mc') (n + ms') Q)) : CW M F mc ms pc ls (aR x :: st) T h k n Q := by
  intro p l e R s m args below meth c H locs L B D kI kZ kA C hi K h1 h2 h3 h4 h5 hz hP hS hL
  refine c_sz hz.1 (c_low hP hz.2) (fun hsz => ?_)
  obtain ⟨hx, hb, hrt, hml, hown, hlk, hts⟩ := id C
  have hM := hrun l B D kI kZ kA
  have hcode : Cond.code M'.1 M'.2.1 M'.2.2.1 none ∈ a_ws := by rw [← hr]; exact hk1
  refine va_callv (va_runIN (As := []) (rest := st.map (a_v (c_g B D kI kZ kA))) (b := B + x) (own := M.1.cls) (host := host) (bytes := M'.2.1) (maxL := M'.2.2.1) (n := 0) (g := F0 m pc L ((aR x :: st).map (a_v (c_g B D kI kZ kA)))) ⟨hx, hb, hml, hown, hts⟩ hM ⟨⟨⟨rfl, rfl, (a_room hF h1 h2 hk4.2.2).1, (a_room hF h1 h2 hk4.2.2).2, a_pay hk1 hts, by rw [← hr]; exact List.mem_cons_self⟩, hts _ hcode, hts _ hk2, ⟨hk4.1, hk4.2.1⟩, hn.use, va_Nw.use rfl (K.2.2 _ hl)⟩, hnm, hts _ hk3⟩ ⟨fun a U f mk q => ⟨q.1, q.2.1.same (U := U.calling f mk a) rfl, q.2.2⟩, fun U hU hW => ⟨rfl, K.warm hW, by rw [hU]; exact hsz, by rw [hU]; exact hP⟩⟩ rfl rfl hL.1 rfl (lv_room (a_cat hst)) hd ⟨by omega, by omega⟩) hS (fun _ _ q => q) (fun _ q => q) (fun u t H1 locs1 ht hvm hp hB hz1 hk5 hS1 => ?_)
  obtain ⟨hlen, hA⟩ := hp
  have hP1 := hB.2
  rw [ht] at hP1
  exact hA p l e R s m args below meth c H1 locs1 L B D kI kZ kA C hi K h1 h2 h3 h4 h5 ⟨by omega, by omega⟩ hP1 hS1 hL
end C1
