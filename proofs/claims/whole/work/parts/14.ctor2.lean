theorem vr_outer (c : ClassId) (N h0 : Nat) : ∀ i : Nat, Jvm.Free.Multi.outerC c N h0 i = arrV c N (fun j => va_rf (if j < i then some (h0 + 1 + j) else none))
  | 0 => by
    show ({ cls := c, slots := Array.replicate N .null, vm := .none } : Cell) = _
    rw [arrV_new]
    refine congrArg (arrV c N) (funext fun j => ?_)
    simp [va_rf]
  | i + 1 => by
    show (Jvm.Free.Multi.outerC c N h0 i).setSlot i (.ref (h0 + 1 + i)) = _
    rw [vr_outer c N h0 i, arrV_store]
    refine congrArg (arrV c N) (funext fun j => ?_)
    by_cases e : j = i
    · subst e
      simp [updV, va_rf]
    · by_cases h : j < i
      · simp [updV, e, h, Nat.lt_succ_of_lt h]
      · simp [updV, e, h, show ¬ j < i + 1 by omega]
theorem c_mna_P {B : Nat} {D : va_G} {comp kZ cA : ClassId} {T : List cS} {h : aH} {H FH : Heap} {N K : Nat} (hsz : H.size = B + T.length) (hP : va_P D vwCl (c_lay (c_g B D comp kZ cA) T h) H) (hold : ∀ x : Nat, x < H.size → FH[x]? = H[x]?) (f2 : FH[H.size]? = some (arrV cA N (fun j => va_rf (if j < N then some (H.size + 1 + j) else none)))) (hrow : ∀ j : Nat, j < N → FH[H.size + 1 + j]? = some (arrV comp K (fun _ => .int 0))) (h0 : ∀ c, T.length ≤ c → h c = fun _ => 0) : va_P D vwCl (c_lay (c_g B D comp kZ cA) (T ++ (.inl (2, N, T.length + 1) :: List.replicate N (.inl (0, K, 0)))) h) FH := by
  rw [c_lay_app]
  refine (hP.kept (fun d x hx => hold x.1 ((hP d x hx).lt))).app (fun d x hx => ?_)
  cases d with
  | zero =>
    simp at hx
    subst hx
    show FH[B + T.length]? = some (vp_cell cA (N, .inr (.inr (.inr (.inr (fun j => if j < N then some (B + (T.length + 1 + j)) else none))))))
    rw [← hsz, f2, vp_cell_q]
    congr 2
    funext i
    by_cases hi : i < N
    · simp only [hi, if_true]
      show va_rf (some (H.size + 1 + i)) = va_rf (some (B + (T.length + 1 + i)))
      rw [hsz]
      congr 2
      omega
    · simp only [hi, if_false]
  | succ d =>
    rw [List.mapIdx_cons, List.getElem?_cons_succ] at hx
    simp only [List.getElem?_mapIdx, List.getElem?_replicate] at hx
    by_cases hd1 : d < N
    · simp only [hd1, if_true, Option.map_some, Option.some.injEq] at hx
      subst hx
      rw [h0 _ (by omega)]
      show FH[B + (T.length + (d + 1))]? = some (vp_cell comp (K, .inl (fun _ => Int32.ofInt 0)))
      rw [show B + (T.length + (d + 1)) = H.size + 1 + d by omega, hrow d hd1]
      rfl
    · simp [hd1] at hx
section C2
variable {M M' : aM} {F F' pc mc ms mc' ms' k n t : Nat} {ls : List (Option aV)} {st : List aV} {T : List cS} {h : aH} {Q : cQ}
theorem CW.newarr' {kd N : Nat} {z : Int} {at_ : ArrayType} {ty : FieldType} (hd : decode M.2.1 pc = .ok (.newarray at_, 2)) (ha : newarray.typeOf at_ = ty) (hw : Cond.arrayClass ty ∈ a_ws) (hkd : (kd = 0 ∧ ty = .int) ∨ (kd = 1 ∧ ty = .boolean)) (hz1 : z = (N : Int)) (hN : N ≤ 100000) (hc : k + 1 ≤ mc) (hs : n + N ≤ ms) (ht : T.length = t) (h0 : h t = fun _ => 0) (kk : CW M F mc ms (pc + 2) ls (aR t :: st) (T ++ [.inl (kd, N, 0)]) h (k + 1) (n + N) Q) : CW M F mc ms pc ls (aI z :: st) T h k n Q := by
  subst ht
  exact CW.newarr hd ha hw hkd hz1 hN hc hs h0 kk
theorem CW.new' {ix ci N : Nat} {C0 : String} {T0 : u_T} {ty : Nat → FieldType} {fs : List (Option (Option Nat))} (hd : decode M.2.1 pc = .ok (.new ix, 3)) (hc0 : a_cls ci C0 T0 N ty) (hw1 : Cond.classLink M.1.cls ix C0 ∈ a_ws) (hw2 : Cond.instantiable C0 N ∈ a_ws) (hw3 : Cond.initialized C0 ∈ a_ws) (hfs : ∀ j, j < N → fs[j]? = some (if (ty j) = .int ∨ (ty j) = .boolean then none else some none)) (hdv : ∀ j, j < N → (ty j).isReference = true ∨ ty j = .int ∨ ty j = .boolean) (hc : k + 1 ≤ mc) (hs : n + N ≤ ms) (ht : T.length = t) (h0 : h t = fun _ => 0) (kk : CW M F mc ms (pc + 3) ls (aR t :: st) (T ++ [.inr (ci, fs)]) h (k + 1) (n + N) Q) : CW M F mc ms pc ls st T h k n Q := by
  subst ht
  exact CW.new hd hc0 hw1 hw2 hw3 hfs hdv hc hs h0 kk
theorem CW.mna {ix : Nat} (hd : decode M.2.1 pc = .ok (.multianewarray ix 2, 4)) (hw : Cond.classLink M.1.cls ix ("[" ++ (FieldType.array .int).toString) ∈ a_ws) (hc : k + 18 ≤ mc) (hs : n + 425 ≤ ms) (ht : T.length = t) (h0 : ∀ c, t ≤ c → h c = fun _ => 0) (kk : CW M F mc ms (pc + 4) ls (aR t :: st) (T ++ (.inl (2, 17, t + 1) :: List.replicate 17 (.inl (0, 24, 0)))) h (k + 18) (n + 425) Q) : CW M F mc ms pc ls (aI 24 :: aI 17 :: st) T h k n Q := by
  subst ht
  intro p l e R s m args below meth c H locs L B D kI kZ kA C hi K h1 h2 h3 h4 h5 hz hP hS hL
  refine c_sz hz.1 (c_low hP hz.2) (fun hsz => ?_)
  obtain ⟨hx, hb, hr, hml, hown, hlk, hts⟩ := id C
  intro T1 hT Xs
  obtain ⟨vm₁, cA, comp, -, fA, fC, hO, -, X', step⟩ := Xs.multianewarray2F (n := 17) (k := 24) (rest := st.map (a_v (c_g B D kI kZ kA))) hx hown (hts _ hw) (K.2.1 args) (hts _ aw_int) (g := F0 m pc L (.int 24 :: .int 17 :: st.map (a_v (c_g B D kI kZ kA)))) rfl (by rw [hb]; exact hd) rfl (by decide) (by decide) (by decide) (by decide) (by decide) rfl rfl (by show k + (1 + 17) ≤ R.cells; omega) (by show n + (17 + 17 * 24) ≤ R.slots; omega)
  have e17 : (17 : Int32).toNatClampNeg = 17 := by decide
  have e24 : (24 : Int32).toNatClampNeg = 24 := by decide
  rw [e17, e24] at X' step
  have hkI : comp = kI := Option.some.inj (fC.symm.trans (K.1.2 0 _ rfl).2)
  have hkA : cA = kA := Option.some.inj (fA.symm.trans (K.1.2 2 _ rfl).2)
  subst hkI
  subst hkA
  have hTh : (T1.setVm vm₁).heap = H := hT
  obtain ⟨f1, f2, -, -⟩ := Jvm.Free.Multi.fill_facts (T1.setVm vm₁) cA comp 17 24 (defaultValue .int) 17
  have hold : ∀ x : Nat, x < H.size → (Jvm.Free.Multi.fill (T1.setVm vm₁) cA comp 17 24 (defaultValue .int) 17).heap[x]? = H[x]? := fun x hx => by
    have := Jvm.Free.Multi.fill_old (T1.setVm vm₁) cA comp 17 24 (defaultValue .int) (a := x) (by rw [hTh]; exact hx) 17
    rw [hTh] at this
    exact this
  have hrow : ∀ j : Nat, j < 17 → (Jvm.Free.Multi.fill (T1.setVm vm₁) cA comp 17 24 (defaultValue .int) 17).heap[H.size + 1 + j]? = some (Jvm.Free.Multi.innerC comp 24 (defaultValue .int)) := fun j hj => by
    have := Jvm.Free.Multi.fill_inner (T1.setVm vm₁) cA comp 17 24 (defaultValue .int) 17 j hj
    rw [hTh] at this
    exact this
  rw [hTh] at f1 f2
  rw [vr_outer] at f2
  generalize Jvm.Free.Multi.fill (T1.setVm vm₁) cA comp 17 24 (defaultValue .int) 17 = FS at X' step f1 f2 hold hrow
  have hP1 := c_mna_P (D := D) (kZ := kZ) (K := 24) hsz hP hold f2 (fun j hj => (hrow j hj).trans (congrArg some (arrV_new comp 24 (.int 0)))) h0
  have hq := kk p l e R s m args below meth c FS.heap locs L B D comp kZ cA C hi K h1 h2 h3 h4 h5 ⟨by simp; omega, by simp⟩ hP1 ⟨Nat.le_trans hS.1 (by omega), fun x q1 q2 => (hold x (Nat.lt_of_lt_of_le q1 hS.1)).trans (hS.2.1 x q1 q2), hS.2.2⟩ hL
  obtain ⟨t2, a1, b1⟩ := hq _ rfl X'
  refine ⟨t2, step t2 ?_, b1⟩
  rw [hT, hsz]
  exact a1
theorem cRun.mono {i : Nat} {Q' : cQ} (hQ : ∀ T' h', Q T' h' → Q' T' h') (kk : cRun M F mc ms i T h Q) : cRun M F mc ms i T h Q' := by
  intro l B D kI kZ kA p e ha hc hk s m args below hf hpre hP hK
  obtain ⟨t, o, a1, a2, a3, ⟨⟨u, e1, e2, e4⟩, e5⟩, a5⟩ := kk l B D kI kZ kA p e ha hc hk s m args below hf hpre hP hK
  exact ⟨t, o, a1, a2, a3, ⟨⟨u, e1, hQ _ _ e2, e4⟩, e5⟩, a5⟩
end C2
