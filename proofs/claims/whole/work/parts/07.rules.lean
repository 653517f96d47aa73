section A2
variable {M M' : aM} {F F' pc : Nat} {ls : List (Option aV)} {st : List aV} {h : aH} {Q : aQ}
/-! branches -/
theorem AW.icmp_eq {a b off : Int} {tgt : Nat} (hd : decode M.2.1 pc = .ok (.if_icmp .eq off, 3)) (ht : (pc : Int) + off = (tgt : Int)) (kt : a = b → AW M F tgt ls st h Q) (kf : ¬ (a = b) → AW M F (pc + 3) ls st h Q) : AW M F pc ls (aI b :: aI a :: st) h Q := by
  intro hR p l e R s m args below meth c H locs L g C K h1 h2 hP hS hL
  have hb : inR b := hR.top
  have ha : inR a := hR.pop.top
  exact lv_icmp_eq C.1 C.2.1 hd ht (fun q => kt ((a_eq_iff ha hb).mp q) hR.pop.pop p l e R s m args below meth c H locs L g C K h1 h2 hP hS hL) (fun q => kf (fun q' => q ((a_eq_iff ha hb).mpr q')) hR.pop.pop p l e R s m args below meth c H locs L g C K h1 h2 hP hS hL)
theorem AW.if_eq {a off : Int} {tgt : Nat} (hd : decode M.2.1 pc = .ok (.ifCond .eq off, 3)) (ht : (pc : Int) + off = (tgt : Int)) (kt : a = 0 → AW M F tgt ls st h Q) (kf : ¬ (a = 0) → AW M F (pc + 3) ls st h Q) : AW M F pc ls (aI a :: st) h Q := by
  intro hR p l e R s m args below meth c H locs L g C K h1 h2 hP hS hL
  have hb : inR 0 := ⟨by decide, by decide⟩
  have ha : inR a := hR.top
  exact lv_if_eq C.1 C.2.1 hd ht (fun q => kt ((a_eq_iff ha hb).mp q) hR.pop p l e R s m args below meth c H locs L g C K h1 h2 hP hS hL) (fun q => kf (fun q' => q ((a_eq_iff ha hb).mpr q')) hR.pop p l e R s m args below meth c H locs L g C K h1 h2 hP hS hL)
theorem AW.icmp_ne {a b off : Int} {tgt : Nat} (hd : decode M.2.1 pc = .ok (.if_icmp .ne off, 3)) (ht : (pc : Int) + off = (tgt : Int)) (kt : ¬ a = b → AW M F tgt ls st h Q) (kf : ¬ (¬ a = b) → AW M F (pc + 3) ls st h Q) : AW M F pc ls (aI b :: aI a :: st) h Q := by
  intro hR p l e R s m args below meth c H locs L g C K h1 h2 hP hS hL
  have hb : inR b := hR.top
  have ha : inR a := hR.pop.top
  exact lv_icmp_ne C.1 C.2.1 hd ht (fun q => kt ((not_congr (a_eq_iff ha hb)).mp q) hR.pop.pop p l e R s m args below meth c H locs L g C K h1 h2 hP hS hL) (fun q => kf (fun q' => q' ((a_eq_iff ha hb).mp q)) hR.pop.pop p l e R s m args below meth c H locs L g C K h1 h2 hP hS hL)
theorem AW.if_ne {a off : Int} {tgt : Nat} (hd : decode M.2.1 pc = .ok (.ifCond .ne off, 3)) (ht : (pc : Int) + off = (tgt : Int)) (kt : ¬ a = 0 → AW M F tgt ls st h Q) (kf : ¬ (¬ a = 0) → AW M F (pc + 3) ls st h Q) : AW M F pc ls (aI a :: st) h Q := by
  intro hR p l e R s m args below meth c H locs L g C K h1 h2 hP hS hL
  have hb : inR 0 := ⟨by decide, by decide⟩
  have ha : inR a := hR.top
  exact lv_if_ne C.1 C.2.1 hd ht (fun q => kt ((not_congr (a_eq_iff ha hb)).mp q) hR.pop p l e R s m args below meth c H locs L g C K h1 h2 hP hS hL) (fun q => kf (fun q' => q' ((a_eq_iff ha hb).mp q)) hR.pop p l e R s m args below meth c H locs L g C K h1 h2 hP hS hL)
theorem AW.icmp_lt {a b off : Int} {tgt : Nat} (hd : decode M.2.1 pc = .ok (.if_icmp .lt off, 3)) (ht : (pc : Int) + off = (tgt : Int)) (kt : a < b → AW M F tgt ls st h Q) (kf : ¬ (a < b) → AW M F (pc + 3) ls st h Q) : AW M F pc ls (aI b :: aI a :: st) h Q := by
  intro hR p l e R s m args below meth c H locs L g C K h1 h2 hP hS hL
  have hb : inR b := hR.top
  have ha : inR a := hR.pop.top
  exact lv_icmp_lt C.1 C.2.1 hd ht (fun q => kt ((a_lt_iff ha hb).mp q) hR.pop.pop p l e R s m args below meth c H locs L g C K h1 h2 hP hS hL) (fun q => kf (fun q' => q ((a_lt_iff ha hb).mpr q')) hR.pop.pop p l e R s m args below meth c H locs L g C K h1 h2 hP hS hL)
theorem AW.if_lt {a off : Int} {tgt : Nat} (hd : decode M.2.1 pc = .ok (.ifCond .lt off, 3)) (ht : (pc : Int) + off = (tgt : Int)) (kt : a < 0 → AW M F tgt ls st h Q) (kf : ¬ (a < 0) → AW M F (pc + 3) ls st h Q) : AW M F pc ls (aI a :: st) h Q := by
  intro hR p l e R s m args below meth c H locs L g C K h1 h2 hP hS hL
  have hb : inR 0 := ⟨by decide, by decide⟩
  have ha : inR a := hR.top
  exact lv_if_lt C.1 C.2.1 hd ht (fun q => kt ((a_lt_iff ha hb).mp q) hR.pop p l e R s m args below meth c H locs L g C K h1 h2 hP hS hL) (fun q => kf (fun q' => q ((a_lt_iff ha hb).mpr q')) hR.pop p l e R s m args below meth c H locs L g C K h1 h2 hP hS hL)
theorem AW.icmp_ge {a b off : Int} {tgt : Nat} (hd : decode M.2.1 pc = .ok (.if_icmp .ge off, 3)) (ht : (pc : Int) + off = (tgt : Int)) (kt : b ≤ a → AW M F tgt ls st h Q) (kf : ¬ (b ≤ a) → AW M F (pc + 3) ls st h Q) : AW M F pc ls (aI b :: aI a :: st) h Q := by
  intro hR p l e R s m args below meth c H locs L g C K h1 h2 hP hS hL
  have hb : inR b := hR.top
  have ha : inR a := hR.pop.top
  exact lv_icmp_ge C.1 C.2.1 hd ht (fun q => kt ((a_le_iff hb ha).mp q) hR.pop.pop p l e R s m args below meth c H locs L g C K h1 h2 hP hS hL) (fun q => kf (fun q' => q ((a_le_iff hb ha).mpr q')) hR.pop.pop p l e R s m args below meth c H locs L g C K h1 h2 hP hS hL)
theorem AW.if_ge {a off : Int} {tgt : Nat} (hd : decode M.2.1 pc = .ok (.ifCond .ge off, 3)) (ht : (pc : Int) + off = (tgt : Int)) (kt : 0 ≤ a → AW M F tgt ls st h Q) (kf : ¬ (0 ≤ a) → AW M F (pc + 3) ls st h Q) : AW M F pc ls (aI a :: st) h Q := by
  intro hR p l e R s m args below meth c H locs L g C K h1 h2 hP hS hL
  have hb : inR 0 := ⟨by decide, by decide⟩
  have ha : inR a := hR.top
  exact lv_if_ge C.1 C.2.1 hd ht (fun q => kt ((a_le_iff hb ha).mp q) hR.pop p l e R s m args below meth c H locs L g C K h1 h2 hP hS hL) (fun q => kf (fun q' => q ((a_le_iff hb ha).mpr q')) hR.pop p l e R s m args below meth c H locs L g C K h1 h2 hP hS hL)
theorem AW.icmp_gt {a b off : Int} {tgt : Nat} (hd : decode M.2.1 pc = .ok (.if_icmp .gt off, 3)) (ht : (pc : Int) + off = (tgt : Int)) (kt : b < a → AW M F tgt ls st h Q) (kf : ¬ (b < a) → AW M F (pc + 3) ls st h Q) : AW M F pc ls (aI b :: aI a :: st) h Q := by
  intro hR p l e R s m args below meth c H locs L g C K h1 h2 hP hS hL
  have hb : inR b := hR.top
  have ha : inR a := hR.pop.top
  exact lv_icmp_gt C.1 C.2.1 hd ht (fun q => kt ((a_lt_iff hb ha).mp q) hR.pop.pop p l e R s m args below meth c H locs L g C K h1 h2 hP hS hL) (fun q => kf (fun q' => q ((a_lt_iff hb ha).mpr q')) hR.pop.pop p l e R s m args below meth c H locs L g C K h1 h2 hP hS hL)
theorem AW.if_gt {a off : Int} {tgt : Nat} (hd : decode M.2.1 pc = .ok (.ifCond .gt off, 3)) (ht : (pc : Int) + off = (tgt : Int)) (kt : 0 < a → AW M F tgt ls st h Q) (kf : ¬ (0 < a) → AW M F (pc + 3) ls st h Q) : AW M F pc ls (aI a :: st) h Q := by
  intro hR p l e R s m args below meth c H locs L g C K h1 h2 hP hS hL
  have hb : inR 0 := ⟨by decide, by decide⟩
  have ha : inR a := hR.top
  exact lv_if_gt C.1 C.2.1 hd ht (fun q => kt ((a_lt_iff hb ha).mp q) hR.pop p l e R s m args below meth c H locs L g C K h1 h2 hP hS hL) (fun q => kf (fun q' => q ((a_lt_iff hb ha).mpr q')) hR.pop p l e R s m args below meth c H locs L g C K h1 h2 hP hS hL)
theorem AW.icmp_le {a b off : Int} {tgt : Nat} (hd : decode M.2.1 pc = .ok (.if_icmp .le off, 3)) (ht : (pc : Int) + off = (tgt : Int)) (kt : a ≤ b → AW M F tgt ls st h Q) (kf : ¬ (a ≤ b) → AW M F (pc + 3) ls st h Q) : AW M F pc ls (aI b :: aI a :: st) h Q := by
  intro hR p l e R s m args below meth c H locs L g C K h1 h2 hP hS hL
  have hb : inR b := hR.top
  have ha : inR a := hR.pop.top
  exact lv_icmp_le C.1 C.2.1 hd ht (fun q => kt ((a_le_iff ha hb).mp q) hR.pop.pop p l e R s m args below meth c H locs L g C K h1 h2 hP hS hL) (fun q => kf (fun q' => q ((a_le_iff ha hb).mpr q')) hR.pop.pop p l e R s m args below meth c H locs L g C K h1 h2 hP hS hL)
theorem AW.if_le {a off : Int} {tgt : Nat} (hd : decode M.2.1 pc = .ok (.ifCond .le off, 3)) (ht : (pc : Int) + off = (tgt : Int)) (kt : a ≤ 0 → AW M F tgt ls st h Q) (kf : ¬ (a ≤ 0) → AW M F (pc + 3) ls st h Q) : AW M F pc ls (aI a :: st) h Q := by
  intro hR p l e R s m args below meth c H locs L g C K h1 h2 hP hS hL
  have hb : inR 0 := ⟨by decide, by decide⟩
  have ha : inR a := hR.top
  exact lv_if_le C.1 C.2.1 hd ht (fun q => kt ((a_le_iff ha hb).mp q) hR.pop p l e R s m args below meth c H locs L g C K h1 h2 hP hS hL) (fun q => kf (fun q' => q ((a_le_iff ha hb).mpr q')) hR.pop p l e R s m args below meth c H locs L g C K h1 h2 hP hS hL)
theorem AW.tsw {a d lo hi : Int} {offs : Array Int} {len : Nat} (hd : decode M.2.1 pc = .ok (.tableswitch d lo hi offs, len)) (kin : lo ≤ a → a ≤ hi → ∃ (tgt : Nat) (off : Int), offs[(a - lo).toNat]? = some off ∧ (pc : Int) + off = (tgt : Int) ∧ AW M F tgt ls st h Q) (kout : (a < lo ∨ hi < a) → ∃ tgt : Nat, (pc : Int) + d = (tgt : Int) ∧ AW M F tgt ls st h Q) : AW M F pc ls (aI a :: st) h Q := by
  intro hR p l e R s m args below meth c H locs L g C K h1 h2 hP hS hL
  have ha : inR a := hR.top
  by_cases q : a < lo ∨ hi < a
  · obtain ⟨tgt, ht, k⟩ := kout q
    exact lv_tableOut C.1 C.2.1 hd (by rw [a_ti ha]; exact q) ht (k hR.pop p l e R s m args below meth c H locs L g C K h1 h2 hP hS hL)
  · obtain ⟨tgt, off, ho, ht, k⟩ := kin (by omega) (by omega)
    exact lv_tableIn C.1 C.2.1 hd (by rw [a_ti ha]; omega) (by rw [a_ti ha]; omega) (by rw [a_ti ha]; exact ho) ht (k hR.pop p l e R s m args below meth c H locs L g C K h1 h2 hP hS hL)
/-! fields -/
def a_cls (ci : Nat) (C : String) (T : u_T) (N : Nat) (ty : Nat → FieldType) : Prop := vwCl[ci]? = some (C, T, N) ∧ (∀ w ∈ u_ws C T N, w ∈ a_ws) ∧ (∀ k, k < N → parseFieldDescriptor (T k).2.2.1 = some (ty k)) ∧ ∀ a, a < N → ∀ b, b < N → a ≠ b → (T a).2.1 ≠ (T b).2.1
theorem AW.getr {ci x ix k r N : Nat} {C : String} {T : u_T} {ty : Nat → FieldType} {fs : List (Option Nat)} (hd : decode M.2.1 pc = .ok (.getfield ix, 3)) (hc : a_cls ci C T N ty) (hs : a_T[x]? = some (.inr (ci, fs))) (hf : fs[k]? = some (some r)) (hk : k < N) (hl : Cond.fieldLink M.1.cls ix (T k).1 (T k).2.1 (T k).2.2.1 ∈ a_ws) (kk : AW M F (pc + 3) ls (aR r :: st) h Q) : AW M F pc ls (aR x :: st) h Q := by
  intro hR p l e R s m args below meth c H locs L g C K h1 h2 hP hS hL
  obtain ⟨hx, hb, hr, hml, hown, hlk, hts⟩ := id C
  refine va_get (D := g.2.1) (v := .ref (g.1 r)) (ref := (T k).1) hx hb hts hc.2.1 hown K.2.1 hP x (a_lay_at hs) hc.1 k hk (hts _ hl) (fun _ q => q) ?_ hd (kk (hR.pop.push trivial) p l e R s m args below meth c H locs L g C K h1 h2 hP hS hL)
  simp [hf, a_f]
theorem AW.geti {ci x ix k N : Nat} {v : Int} {C : String} {T : u_T} {ty : Nat → FieldType} {fs : List (Option Nat)} (hd : decode M.2.1 pc = .ok (.getfield ix, 3)) (hc : a_cls ci C T N ty) (hs : a_T[x]? = some (.inr (ci, fs))) (hf : fs[k]? = some none) (hk : k < N) (hl : Cond.fieldLink M.1.cls ix (T k).1 (T k).2.1 (T k).2.2.1 ∈ a_ws) (hv : h x (k : Int) = v) (kk : AW M F (pc + 3) ls (aI v :: st) h Q) : AW M F pc ls (aR x :: st) h Q := by
  subst hv
  intro hR p l e R s m args below meth c H locs L g C K h1 h2 hP hS hL
  obtain ⟨hx, hb, hr, hml, hown, hlk, hts⟩ := id C
  refine va_get (D := g.2.1) (v := .int (Int32.ofInt (h x (k : Int)))) (ref := (T k).1) hx hb hts hc.2.1 hown K.2.1 hP x (a_lay_at hs) hc.1 k hk (hts _ hl) (fun _ q => q) ?_ hd (kk (hR.pop.push (hR.1 _ _)) p l e R s m args below meth c H locs L g C K h1 h2 hP hS hL)
  simp [hf, a_f]
theorem a_mapIdx_set {g : aG} {h : aH} {x k : Nat} {v : Int} {fs : List (Option Nat)} (hf : fs[k]? = some none) : (fs.mapIdx (a_f g (h x))).set k (.int (Int32.ofInt v)) = fs.mapIdx (a_f g (a_up h x (k : Int) v x)) := by
  apply List.ext_getElem?
  intro d
  by_cases e : d = k
  · subst e
    rw [List.getElem?_set_self (by simpa using (List.getElem?_eq_some_iff.mp hf).1)]
    simp [hf, a_f, a_up_eq]
  · rw [List.getElem?_set_ne (fun q => e q.symm)]
    have e2 : ((d : Int) = (k : Int)) = False := by simp; omega
    simp only [List.getElem?_mapIdx]
    congr 1
    funext o
    cases o <;> simp [a_f, a_up_at, e2]
theorem AW.puti {ci x ix k N : Nat} {v : Int} {C : String} {T : u_T} {ty : Nat → FieldType} {fs : List (Option Nat)} {fty : FieldType} (hd : decode M.2.1 pc = .ok (.putfield ix, 3)) (hc : a_cls ci C T N ty) (hs : a_T[x]? = some (.inr (ci, fs))) (hf : fs[k]? = some none) (hk : k < N) (hl : Cond.fieldLink M.1.cls ix (T k).1 (T k).2.1 (T k).2.2.1 ∈ a_ws) (hfin : (T k).2.2.2 = false) (hty : parseFieldDescriptor (T k).2.2.1 = some fty) (hn : fty = .int ∨ (fty = .boolean ∧ (v = 0 ∨ v = 1))) (kk : AW M F (pc + 3) ls st (a_up h x (k : Int) v) Q) : AW M F pc ls (aI v :: aR x :: st) h Q := by
  intro hR p l e R s m args below meth c H locs L g C K h1 h2 hP hS hL
  obtain ⟨hx, hb, hr, hml, hown, hlk, hts⟩ := id C
  refine va_put (D := g.2.1) (v := .int (Int32.ofInt v)) (ref := (T k).1) hx hb hts hc.2.1 ty hc.2.2.1 hc.2.2.2 hown K.2.1 hP (K.D h) hS x (a_lay_at hs) hc.1 k hk (hts _ hl) (fun _ q => q) hfin hty ?_ ?_ ?_ hd (fun H1 locs1 hP1 hD1 hS1 => ?_)
  · rcases hn with rfl | ⟨rfl, rfl | rfl⟩ <;> rfl
  · rcases hn with rfl | ⟨rfl, rfl | rfl⟩ <;> rfl
  · simpa using (List.getElem?_eq_some_iff.mp hf).1
  · rw [a_lay_set (h' := a_up h x (k : Int) v) hs (by rw [a_mapIdx_set hf]; rfl) (fun d hd => a_up_ne hd)] at hP1
    exact kk (hR.pop.pop.heap (a_up_r hR.1 hR.top)) p l e R s m args below meth c H1 locs1 L g C K h1 h2 hP1 hS1 hL
/-! arrays -/
theorem a_tn2 {i : Int} (h0 : 0 ≤ i) : ((i.toNat : Nat) : Int) = i := Int.toNat_of_nonneg h0
theorem AW.iald {x n b : Nat} {i v : Int} (hd : decode M.2.1 pc = .ok (.iaload, 1)) (hs : a_T[x]? = some (.inl (0, n, b))) (hi : 0 ≤ i ∧ i < n) (hv : h x i = v) (kk : AW M F (pc + 1) ls (aI v :: st) h Q) : AW M F pc ls (aI i :: aR x :: st) h Q := by
  subst hv
  intro hR p l e R s m args below meth c H locs L g C K h1 h2 hP hS hL
  have hr : inR i := hR.top
  refine va_iald (D := g.2.1) C.1 C.2.1 K.2.1 hP x 0 (a_lay_at hs) rfl (a_vin hr hi.1 hi.2) hd ?_
  rw [a_tn hr]
  have q := kk (hR.pop.pop.push (hR.1 _ _)) p l e R s m args below meth c H locs L g C K h1 h2 hP hS hL
  rw [← a_tn2 hi.1] at q
  exact q
theorem AW.zald {x n b : Nat} {i v : Int} (hd : decode M.2.1 pc = .ok (.baload, 1)) (hs : a_T[x]? = some (.inl (1, n, b))) (hi : 0 ≤ i ∧ i < n) (hv : h x i = v) (kk : AW M F (pc + 1) ls (aI v :: st) h Q) : AW M F pc ls (aI i :: aR x :: st) h Q := by
  subst hv
  intro hR p l e R s m args below meth c H locs L g C K h1 h2 hP hS hL
  have hr : inR i := hR.top
  refine va_zald (D := g.2.1) C.1 C.2.1 K.2.1 hP x 1 (a_lay_at hs) rfl (a_vin hr hi.1 hi.2) hd ?_
  rw [a_tn hr]
  have q := kk (hR.pop.pop.push (hR.1 _ _)) p l e R s m args below meth c H locs L g C K h1 h2 hP hS hL
  rw [← a_tn2 hi.1] at q
  exact q
theorem a_upd {h : aH} {x : Nat} {i v : Int} (h0 : 0 ≤ i) : upd (fun (j : Nat) => Int32.ofInt (h x (j : Int))) i.toNat (Int32.ofInt v) = fun (j : Nat) => Int32.ofInt (a_up h x i v x (j : Int)) := by
  funext j
  rw [a_up_at]
  unfold upd
  by_cases e : j = i.toNat
  · rw [if_pos e, if_pos (by omega)]
  · rw [if_neg e, if_neg (by omega)]
theorem AW.iast {x n b : Nat} {i v : Int} (hd : decode M.2.1 pc = .ok (.iastore, 1)) (hs : a_T[x]? = some (.inl (0, n, b))) (hi : 0 ≤ i ∧ i < n) (kk : AW M F (pc + 1) ls st (a_up h x i v) Q) : AW M F pc ls (aI v :: aI i :: aR x :: st) h Q := by
  intro hR p l e R s m args below meth c H locs L g C K h1 h2 hP hS hL
  have hr : inR i := hR.pop.top
  refine va_iast (D := g.2.1) C.1 C.2.1 K.2.1 hP (K.D h) hS x 0 (a_lay_at hs) rfl (a_vin hr hi.1 hi.2) hd (fun H1 locs1 hP1 hD1 hS1 => ?_)
  rw [a_tn hr, a_upd hi.1] at hP1
  have hP1 : va_P g.2.1 vwCl (a_lay g (a_up h x i v)) H1 := by
    rw [← a_lay_set (g := g) (h := h) (h' := a_up h x i v) hs rfl (fun d hd => a_up_ne hd)]
    exact hP1
  exact kk (hR.pop.pop.pop.heap (a_up_r hR.1 hR.top)) p l e R s m args below meth c H1 locs1 L g C K h1 h2 hP1 hS1 hL
theorem AW.zast {x n b : Nat} {i v : Int} (hd : decode M.2.1 pc = .ok (.bastore, 1)) (hs : a_T[x]? = some (.inl (1, n, b))) (hi : 0 ≤ i ∧ i < n) (hv : v = 0 ∨ v = 1) (kk : AW M F (pc + 1) ls st (a_up h x i v) Q) : AW M F pc ls (aI v :: aI i :: aR x :: st) h Q := by
  intro hR p l e R s m args below meth c H locs L g C K h1 h2 hP hS hL
  have hr : inR i := hR.pop.top
  refine va_zast (D := g.2.1) C.1 C.2.1 K.2.1 hP (K.D h) hS x 1 (a_lay_at hs) rfl (a_vin hr hi.1 hi.2) hd (fun H1 locs1 hP1 hD1 hS1 => ?_)
  have hz : vp_nar .boolean (Int32.ofInt v) = Int32.ofInt v := by rcases hv with rfl | rfl <;> rfl
  rw [hz, a_tn hr, a_upd hi.1] at hP1
  have hP1 : va_P g.2.1 vwCl (a_lay g (a_up h x i v)) H1 := by
    rw [← a_lay_set (g := g) (h := h) (h' := a_up h x i v) hs rfl (fun d hd => a_up_ne hd)]
    exact hP1
  exact kk (hR.pop.pop.pop.heap (a_up_r hR.1 hR.top)) p l e R s m args below meth c H1 locs1 L g C K h1 h2 hP1 hS1 hL
theorem AW.alen {x n b : Nat} (hd : decode M.2.1 pc = .ok (.arraylength, 1)) (hs : a_T[x]? = some (.inl (0, n, b))) (hn : inR (n : Int)) (kk : AW M F (pc + 1) ls (aI (n : Int) :: st) h Q) : AW M F pc ls (aR x :: st) h Q := by
  intro hR p l e R s m args below meth c H locs L g C K h1 h2 hP hS hL
  exact va_alen (D := g.2.1) C.1 C.2.1 K.2.1 hP x 0 (a_lay_at hs) rfl (v := Int32.ofInt (n : Int)) Int32.ofInt_eq_ofNat.symm hd (kk (hR.pop.push hn) p l e R s m args below meth c H locs L g C K h1 h2 hP hS hL)
theorem AW.aald {x n b : Nat} {i : Int} (hd : decode M.2.1 pc = .ok (.aaload, 1)) (hs : a_T[x]? = some (.inl (2, n, b))) (hi : 0 ≤ i ∧ i < n) (kk : AW M F (pc + 1) ls (aR (b + i.toNat) :: st) h Q) : AW M F pc ls (aI i :: aR x :: st) h Q := by
  intro hR p l e R s m args below meth c H locs L g C K h1 h2 hP hS hL
  have hr : inR i := hR.top
  have hlt : i.toNat < n := by omega
  have hcell := hP x _ (a_lay_at hs)
  refine W.aald (v := .ref (g.1 (b + i.toNat))) (ty := .array .int) C.1 C.2.1 hcell ((K.2.1.2 2 _ rfl).1 n _) rfl (fun q => by cases q) ?_ ?_ rfl rfl hd (kk (hR.pop.pop.push trivial) p l e R s m args below meth c H locs L g C K h1 h2 hP hS hL)
  · show ¬ (_ ∨ (arrV _ _ _).slots.size ≤ _)
    rw [arrV_size]
    exact a_vin hr hi.1 hi.2
  · show (arrV _ _ _).slots[_]? = _
    rw [a_tn hr, arrV_read _ _ hlt]
    simp [hlt, va_rf]
/-! the end -/
theorem AW.iret {z : Int} (hd : decode M.2.1 pc = .ok (.ireturn, 1)) (ht : M.2.2.2 = some .int) (k : Q z h) : AW M F pc ls [aI z] h Q := by
  intro hR p l e R s m args below meth c H locs L g C K h1 h2 hP hS hL
  have hQ : a_Qc g M Q = a_Qi g Q := by unfold a_Qc; rw [ht]
  rw [hQ]
  exact W.iret (v := Int32.ofInt z) C.1 C.2.1 (C.2.2.1.trans ht) (fun t ht' hW => ⟨⟨_, h, rfl, ⟨z, rfl, hR.top, hR.1, k⟩, (congrArg (va_P g.2.1 vwCl (a_lay g h)) ht').mpr hP⟩, hS.F ht'⟩) hS.2.2 hd C.2.2.2.2.2.1
theorem AW.zret {z : Int} (hd : decode M.2.1 pc = .ok (.ireturn, 1)) (ht : M.2.2.2 = some .boolean) (hz : z = 0 ∨ z = 1) (k : Q z h) : AW M F pc ls [aI z] h Q := by
  intro hR p l e R s m args below meth c H locs L g C K h1 h2 hP hS hL
  have hQ : a_Qc g M Q = a_Qi g Q := by unfold a_Qc; rw [ht]
  rw [hQ]
  exact W.zret (v := Int32.ofInt z) (ty := .boolean) C.1 C.2.1 (C.2.2.1.trans ht) (by rcases hz with rfl | rfl <;> rfl) (fun t ht' hW => ⟨⟨_, h, rfl, ⟨z, rfl, hR.top, hR.1, k⟩, (congrArg (va_P g.2.1 vwCl (a_lay g h)) ht').mpr hP⟩, hS.F ht'⟩) hS.2.2 hd C.2.2.2.2.2.1
theorem AW.vret (hd : decode M.2.1 pc = .ok (.return_, 1)) (ht : M.2.2.2 = none) (k : Q 0 h) : AW M F pc ls [] h Q := by
  intro hR p l e R s m args below meth c H locs L g C K h1 h2 hP hS hL
  have hQ : a_Qc g M Q = a_Qv g Q := by unfold a_Qc; rw [ht]
  rw [hQ]
  exact W.vret C.1 C.2.1 (C.2.2.1.trans ht) (fun t ht' hW => ⟨⟨h, rfl, ⟨hR.1, k⟩, (congrArg (va_P g.2.1 vwCl (a_lay g h)) ht').mpr hP⟩, hS.F ht'⟩) hS.2.2 hd C.2.2.2.2.2.1
end A2
