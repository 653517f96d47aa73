/-! THE ABSTRACT MACHINE. All cells stand in one table a_T; a heap is a function: cell, place ↦ a whole number. AW: the method M, at pc, with locals ls, stack st, heap h comes to its end with Q (answer, heap). -/
abbrev aV : Type := Int ⊕ (Nat ⊕ Int)
abbrev aH : Type := Nat → Int → Int
abbrev aG : Type := (Nat → Nat) × va_G × ClassId × ClassId × ClassId
abbrev aQ : Type := Int → aH → Prop
abbrev aI (z : Int) : aV := Sum.inl z
abbrev aR (n : Nat) : aV := Sum.inr (Sum.inl n)
abbrev aJ (z : Int) : aV := Sum.inr (Sum.inr z)
abbrev inR (z : Int) : Prop := -2147483648 ≤ z ∧ z ≤ 2147483647
def a_v (g : aG) (v : aV) : Value := match v with
  | .inl z => .int (Int32.ofInt z)
  | .inr (.inl n) => .ref (g.1 n)
  | .inr (.inr z) => .long (Int64.ofInt z)
def a_r (v : aV) : Prop := match v with
  | .inl z => inR z
  | _ => True
def a_k (v : aV) : Nat := match v with
  | .inr (.inr _) => 2
  | _ => 1
theorem a_k_ok (g : aG) (v : aV) : (a_v g v).category = a_k v := by
  rcases v with z | n | z <;> rfl
def a_f (g : aG) (h : Int → Int) (i : Nat) (o : Option Nat) : Value := match o with
  | none => .int (Int32.ofInt (h i))
  | some r => .ref (g.1 r)
def a_c (g : aG) (h : Int → Int) (s : aS) : va_E := match s with
  | .inl (0, n, _) => .inl (g.2.2.1, n, .inl (fun j => Int32.ofInt (h j)))
  | .inl (1, n, _) => .inl (g.2.2.2.1, n, .inl (fun j => Int32.ofInt (h j)))
  | .inl (_, n, b) => .inl (g.2.2.2.2, n, .inr (.inr (.inr (.inr (fun j => if j < n then some (g.1 (b + j)) else none)))))
  | .inr (ci, fs) => .inr (ci, fs.mapIdx (a_f g h))
def a_lay (g : aG) (h : aH) : va_W := a_T.mapIdx (fun c s => (g.1 c, a_c g (h c) s))
def a_up (h : aH) (c : Nat) (i v : Int) : aH := fun c' => bif Nat.beq c' c then (fun i' => if i' = i then v else h c' i') else h c'
theorem a_up_ne {h : aH} {c : Nat} {i v : Int} {c' : Nat} (hc : c' ≠ c) : a_up h c i v c' = h c' := by
  unfold a_up
  rw [show Nat.beq c' c = false from Bool.eq_false_iff.mpr (fun e => hc (Nat.eq_of_beq_eq_true e))]
  rfl
theorem a_up_at {h : aH} {c : Nat} {i v i' : Int} : a_up h c i v c i' = if i' = i then v else h c i' := by
  unfold a_up
  rw [show Nat.beq c c = true from Nat.beq_refl c]
  rfl
theorem a_up_eq {h : aH} {c : Nat} {i v : Int} : a_up h c i v c i = v := by rw [a_up_at, if_pos rfl]
theorem a_up_off {h : aH} {c : Nat} {i v i' : Int} (hi : i' ≠ i) : a_up h c i v c i' = h c i' := by rw [a_up_at, if_neg hi]
theorem a_up_r {h : aH} {c : Nat} {i v : Int} (hh : ∀ c i, inR (h c i)) (hv : inR v) : ∀ c' i', inR (a_up h c i v c' i') := by
  intro c' i'
  by_cases e : c' = c
  · subst e
    rw [a_up_at]
    split
    · exact hv
    · exact hh _ _
  · rw [a_up_ne e]
    exact hh _ _
/-- a row copied: n places of cell a from i on to cell b from j on -/
def a_cp (h : aH) (a : Nat) (i : Int) (b : Nat) (j n : Int) : aH := fun c' => bif Nat.beq c' b then (fun k => if j ≤ k ∧ k < j + n then h a (i + (k - j)) else h c' k) else h c'
theorem a_cp_ne {h : aH} {a b : Nat} {i j n : Int} {c' : Nat} (hc : c' ≠ b) : a_cp h a i b j n c' = h c' := by
  unfold a_cp
  rw [show Nat.beq c' b = false from Bool.eq_false_iff.mpr (fun e => hc (Nat.eq_of_beq_eq_true e))]
  rfl
theorem a_cp_at {h : aH} {a b : Nat} {i j n k : Int} : a_cp h a i b j n b k = if j ≤ k ∧ k < j + n then h a (i + (k - j)) else h b k := by
  unfold a_cp
  rw [show Nat.beq b b = true from Nat.beq_refl b]
  rfl
theorem a_cp_r {h : aH} {a b : Nat} {i j n : Int} (hh : ∀ c i, inR (h c i)) : ∀ c' k, inR (a_cp h a i b j n c' k) := by
  intro c' k
  by_cases e : c' = b
  · subst e
    rw [a_cp_at]
    split <;> exact hh _ _
  · rw [a_cp_ne e]
    exact hh _ _
theorem a_lay_at {g : aG} {h : aH} {c : Nat} {s : aS} (hs : a_T[c]? = some s) : (a_lay g h)[c]? = some (g.1 c, a_c g (h c) s) := by
  simp [a_lay, hs]
theorem a_lay_inv {g : aG} {h : aH} {c : Nat} {q : Nat × va_E} (hq : (a_lay g h)[c]? = some q) : ∃ s, a_T[c]? = some s ∧ q = (g.1 c, a_c g (h c) s) := by
  simp only [a_lay, List.getElem?_mapIdx, Option.map_eq_some_iff] at hq
  obtain ⟨s, h1, h2⟩ := hq
  exact ⟨s, h1, h2.symm⟩
theorem a_lt {c : Nat} {s : aS} (hs : a_T[c]? = some s) : c < a_N := by
  rw [← a_T_len]
  exact (List.getElem?_eq_some_iff.mp hs).1
/-- one cell changed: the layout with it set -/
theorem a_lay_set {g : aG} {h h' : aH} {c : Nat} {s : aS} {x : Nat × va_E} (hs : a_T[c]? = some s) (hx : x = (g.1 c, a_c g (h' c) s)) (ho : ∀ d, d ≠ c → h' d = h d) : (a_lay g h).set c x = a_lay g h' := by
  apply List.ext_getElem?
  intro d
  by_cases e : d = c
  · subst e
    rw [List.getElem?_set_self (by simpa [a_lay] using (List.getElem?_eq_some_iff.mp hs).1), a_lay_at hs, hx]
  · rw [List.getElem?_set_ne (fun q => e q.symm)]
    simp only [a_lay, List.getElem?_mapIdx, ho d e]
def a_A (g : aG) : Nat → Prop := fun q => ∃ c, c < a_N ∧ q = g.1 c
def a_K (g : aG) (s : State) : Prop := (∀ c d, c < a_N → d < a_N → g.1 c = g.1 d → c = d) ∧ va_K g.2.1 vwCl [(g.2.2.1, .int), (g.2.2.2.1, .boolean), (g.2.2.2.2, .array .int)] s ∧ ∀ q ∈ a_nest, va_Nw (.methodLinkNest q.1 q.2.1 q.2.2.1 q.2.2.2) s
theorem a_K.D {g : aG} {s : State} (K : a_K g s) (h : aH) : va_D (a_A g) (a_lay g h) := by
  refine ⟨fun i j p q hp hq e => ?_, fun k q hq => ?_⟩
  · obtain ⟨s1, h1, rfl⟩ := a_lay_inv hp
    obtain ⟨s2, h2, rfl⟩ := a_lay_inv hq
    exact K.1 i j (a_lt h1) (a_lt h2) e
  · obtain ⟨s1, h1, rfl⟩ := a_lay_inv hq
    exact ⟨k, a_lt h1, rfl⟩
def a_C (M : aM) (p : Program) (s : State) (m : MethodId) (args : Array Value) (meth : Method) (c : Code) : Prop :=
  p.tables.exec = Jvm.exec ∧ c.code = M.2.1 ∧ meth.sig.returnType = M.2.2.2 ∧ c.maxLocals = M.2.2.1 ∧ s.vm.findClass M.1.cls = some m.cls ∧ meth.locks = false ∧ ∀ w ∈ a_ws, w.before args s = true
def a_Rg (h : aH) (ls : List (Option aV)) (st : List aV) : Prop := (∀ c i, inR (h c i)) ∧ (∀ v, some v ∈ ls → a_r v) ∧ ∀ v ∈ st, a_r v
def a_Qi (g : aG) (Q : aQ) : Array Value → State → Outcome → State → Prop := va_Qi (fun (r : Int32) (u : aH) => ∃ z : Int, r = Int32.ofInt z ∧ inR z ∧ (∀ c i, inR (u c i)) ∧ Q z u) (fun u t => va_P g.2.1 vwCl (a_lay g u) t.heap) (a_A g)
def a_Qv (g : aG) (Q : aQ) : Array Value → State → Outcome → State → Prop := va_Qv (fun (u : aH) => (∀ c i, inR (u c i)) ∧ Q 0 u) (fun u t => va_P g.2.1 vwCl (a_lay g u) t.heap) (a_A g)
def a_Qc (g : aG) (M : aM) (Q : aQ) : Array Value → State → Outcome → State → Prop := match M.2.2.2 with
  | none => a_Qv g Q
  | some _ => a_Qi g Q
def a_L (g : aG) (nL : Nat) (L : Array Slot) (ls : List (Option aV)) : Prop := L.size = nL ∧ lv_wf L ∧ ∀ (k : Nat) (v : aV), ls[k]? = some (some v) → L[k]? = some (Slot.val (a_v g v))
def AW (M : aM) (F : Nat) (pc : Nat) (ls : List (Option aV)) (st : List aV) (h : aH) (Q : aQ) : Prop :=
  a_Rg h ls st → ∀ (p : Program) (l : Launch) (e : Env) (R : Room) (s : State) (m : MethodId) (args : Array Value) (below : List Frame) (meth : Method) (c : Code) (H : Heap) (locs : List Loc) (L : Array Slot) (g : aG),
    a_C M p s m args meth c → a_K g s → F ≤ R.frames → F * 40 ≤ R.locals → va_P g.2.1 vwCl (a_lay g h) H → va_S (a_A g) s.heap H locs → a_L g M.2.2.1 L ls →
    W p l e R s m args below meth c H locs 0 0 (MQ below (a_Qc g M Q) args s 0 0 (a_A g)) (F0 m pc L (st.map (a_v g)))
def aRun (M : aM) (F : Nat) (as : List aV) (h : aH) (Q : aQ) : Prop :=
  a_Rg h [] as → ∀ (l : Launch) (g : aG), Met l M.1 (Cond.code M.1 M.2.1 M.2.2.1 M.2.2.2 :: a_ws) { frames := F, cells := 0, slots := 0, locals := F * 40 } (va_Pc (as.map (a_v g)) (fun U => a_K g U ∧ va_P g.2.1 vwCl (a_lay g h) U.heap)) (a_Qc g M Q) 0 0 (a_A g)
theorem AW.mono {M : aM} {F pc : Nat} {ls : List (Option aV)} {st : List aV} {h : aH} {Q Q' : aQ} (hQ : ∀ r u, Q r u → Q' r u) (k : AW M F pc ls st h Q) : AW M F pc ls st h Q' := by
  intro hR p l e R s m args below meth c H locs L g C K h1 h2 hP hS hL T hT X
  obtain ⟨t, a, o, b1, b2, b3, b4⟩ := k hR p l e R s m args below meth c H locs L g C K h1 h2 hP hS hL T hT X
  refine ⟨t, a, o, b1, b2, ?_, b4⟩
  revert b3
  unfold a_Qc
  cases M.2.2.2 with
  | none =>
    rintro ⟨⟨u, e1, ⟨e2, e3⟩, e4⟩, e5⟩
    exact ⟨⟨u, e1, ⟨e2, hQ _ _ e3⟩, e4⟩, e5⟩
  | some ty =>
    rintro ⟨⟨r, u, e1, ⟨z, e2, e3, e6, e7⟩, e4⟩, e5⟩
    exact ⟨⟨r, u, e1, ⟨z, e2, e3, e6, hQ _ _ e7⟩, e4⟩, e5⟩
theorem AW.rg {M : aM} {F pc : Nat} {ls : List (Option aV)} {st : List aV} {h : aH} {Q : aQ} (k : a_Rg h ls st → AW M F pc ls st h Q) : AW M F pc ls st h Q := fun hR => k hR hR
/-! numbers -/
theorem a_ti {z : Int} (h : inR z) : (Int32.ofInt z).toInt = z := Int32.toInt_ofInt_of_le (by omega) (by omega)
theorem a_lt_iff {a b : Int} (ha : inR a) (hb : inR b) : Int32.ofInt a < Int32.ofInt b ↔ a < b := by rw [Int32.lt_iff_toInt_lt, a_ti ha, a_ti hb]
theorem a_le_iff {a b : Int} (ha : inR a) (hb : inR b) : Int32.ofInt a ≤ Int32.ofInt b ↔ a ≤ b := by rw [Int32.le_iff_toInt_le, a_ti ha, a_ti hb]
theorem a_eq_iff {a b : Int} (ha : inR a) (hb : inR b) : Int32.ofInt a = Int32.ofInt b ↔ a = b := by
  constructor
  · intro e
    rw [← a_ti ha, ← a_ti hb, e]
  · intro e
    rw [e]
theorem a_tn {z : Int} (h : inR z) : (Int32.ofInt z).toNatClampNeg = z.toNat := by
  show (Int32.ofInt z).toInt.toNat = _
  rw [a_ti h]
theorem a_32 (x : Int32) : inR x.toInt := ⟨by have := x.le_toInt; omega, by have := x.toInt_lt; omega⟩
theorem a_vin {z : Int} {n : Nat} (hz : inR z) (h0 : 0 ≤ z) (h1 : z < n) : vp_in (Int32.ofInt z) n := by
  intro q
  rcases q with q | q
  · have := (a_lt_iff hz (b := 0) ⟨by decide, by decide⟩).mp q
    omega
  · rw [a_tn hz] at q
    omega
