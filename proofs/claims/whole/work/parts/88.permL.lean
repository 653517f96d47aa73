/-! ALL ORDERS: lists of them, up to their row -/
theorem fm_left {α β : Type} {f : α → List β} {l l' : List α} (h : l.Perm l') : (l.flatMap f).Perm (l'.flatMap f) := by
  induction h with
  | nil => exact List.Perm.refl _
  | cons x _ ih => exact List.Perm.append_left _ ih
  | swap x y t =>
    show (f y ++ (f x ++ t.flatMap f)).Perm (f x ++ (f y ++ t.flatMap f))
    rw [← List.append_assoc, ← List.append_assoc]
    exact List.Perm.append_right _ List.perm_append_comm
  | trans _ _ ih1 ih2 => exact ih1.trans ih2
theorem fm_right {α β : Type} {f g : α → List β} : ∀ (l : List α), (∀ a ∈ l, (f a).Perm (g a)) → (l.flatMap f).Perm (l.flatMap g) := by
  intro l
  induction l with
  | nil => intro _; exact List.Perm.refl _
  | cons a l ih =>
    intro h
    exact List.Perm.append (h a List.mem_cons_self) (ih (fun b hb => h b (List.mem_cons_of_mem _ hb)))
/-- one element taken out, each in turn -/
def slF {β : Type} (F : Int → List Int → List β) (l : List Int) : List β := (List.range l.length).flatMap (fun i => F (l.getD i 0) (l.eraseIdx i))
theorem slF_cons {β : Type} (F : Int → List Int → List β) (x : Int) (l : List Int) : slF F (x :: l) = F x l ++ slF (fun y r => F y (x :: r)) l := by
  show (List.range (l.length + 1)).flatMap (fun i => F ((x :: l).getD i 0) ((x :: l).eraseIdx i)) = _
  rw [List.range_succ_eq_map]
  show F x l ++ ((List.range l.length).map Nat.succ).flatMap (fun i => F ((x :: l).getD i 0) ((x :: l).eraseIdx i)) = _
  rw [List.flatMap_map]
  rfl
theorem slF_right {β : Type} {F G : Int → List Int → List β} {N : Nat} (l : List Int) (hN : l.length = N + 1) (h : ∀ y r, r.length = N → (F y r).Perm (G y r)) : (slF F l).Perm (slF G l) :=
  fm_right _ (fun i hi => h _ _ (by rw [List.mem_range] at hi; rw [List.length_eraseIdx_of_lt hi]; omega))
theorem slF_left {β : Type} {l l' : List Int} (p : l.Perm l') : ∀ (F : Int → List Int → List β) (N : Nat), l.length = N + 1 → (∀ y r r', r.length = N → r.Perm r' → (F y r).Perm (F y r')) → (slF F l).Perm (slF F l') := by
  induction p with
  | nil => intro F N e; exact absurd e (by show ¬ (0 = N + 1); omega)
  | @cons x l l' p ih =>
    intro F N e h
    rw [slF_cons, slF_cons]
    have el : l.length = N := by
      have : l.length + 1 = N + 1 := e
      omega
    refine List.Perm.append (h x l l' el p) ?_
    rcases N with _ | N
    · have : l = [] := List.length_eq_zero_iff.1 el
      subst this
      have : l' = [] := List.Perm.nil_eq p |>.symm
      subst this
      exact List.Perm.refl _
    · exact ih (fun y r => F y (x :: r)) N el (fun y r r' er pr => h y (x :: r) (x :: r') (by show r.length + 1 = N + 1; omega) (List.Perm.cons x pr))
  | swap x y t =>
    intro F N e h
    rw [slF_cons, slF_cons, slF_cons, slF_cons]
    have et : t.length + 1 = N := by
      have : t.length + 1 + 1 = N + 1 := e
      omega
    rw [← List.append_assoc, ← List.append_assoc]
    refine List.Perm.append List.perm_append_comm ?_
    rcases t with _ | ⟨z, t⟩
    · exact List.Perm.refl _
    · refine slF_right (N := t.length) (z :: t) rfl (fun u r er => h u _ _ ?_ (List.Perm.swap x y r))
      have : t.length + 1 + 1 = N := et
      show r.length + 1 + 1 = N
      omega
  | trans p1 p2 ih1 ih2 =>
    intro F N e h
    exact (ih1 F N e h).trans (ih2 F N (by rw [← p1.length_eq]; exact e) h)
theorem pmL_sl {l : List Int} (hl : l ≠ []) : pmL l = slF (fun y r => (pmL r).map (fun q => y :: q)) l := by
  have e : ∃ k, l.length = k + 1 := ⟨l.length - 1, by have := List.length_pos_iff.2 hl; omega⟩
  obtain ⟨k, e⟩ := e
  unfold slF
  have : pmL l = pmF (k + 1) l := by unfold pmL; rw [e]
  rw [this]
  show (List.range l.length).flatMap (fun i => (pmF k (l.eraseIdx i)).map (fun r => (l.getD i 0) :: r)) = _
  rw [List.flatMap_def, List.flatMap_def]
  refine congrArg List.flatten (List.map_congr_left (fun i hi => ?_))
  rw [List.mem_range] at hi
  show _ = (pmF (l.eraseIdx i).length (l.eraseIdx i)).map (fun q => l.getD i 0 :: q)
  rw [List.length_eraseIdx_of_lt hi, e]
  rfl
theorem pmL_perm : ∀ (N : Nat) (l l' : List Int), l.length = N → l.Perm l' → (pmL l).Perm (pmL l') := by
  intro N
  induction N with
  | zero =>
    intro l l' e p
    have : l = [] := List.length_eq_zero_iff.1 e
    subst this
    have : l' = [] := List.Perm.nil_eq p |>.symm
    subst this
    exact List.Perm.refl _
  | succ N ih =>
    intro l l' e p
    have ne : l ≠ [] := fun w => by rw [w] at e; exact absurd e (by show ¬ (0 = N + 1); omega)
    have ne' : l' ≠ [] := fun w => by
      have := p.length_eq
      rw [w] at this
      rw [e] at this
      exact absurd this (by show ¬ (N + 1 = 0); omega)
    rw [pmL_sl ne, pmL_sl ne']
    exact slF_left p _ N e (fun y r r' er pr => List.Perm.map _ (ih r r' er pr))
theorem prL_perm : ∀ (A B : List (List (List Int))), A.length = B.length → (∀ i : Nat, i < A.length → (A.getD i []).Perm (B.getD i [])) → (prL A).Perm (prL B) := by
  intro A
  induction A with
  | nil =>
    intro B e _
    have : B = [] := List.length_eq_zero_iff.1 e.symm
    subst this
    exact List.Perm.refl _
  | cons X A ih =>
    intro B e h
    rcases B with _ | ⟨Y, B⟩
    · exact absurd e (by show ¬ (A.length + 1 = 0); omega)
    have e' : A.length = B.length := by
      have : A.length + 1 = B.length + 1 := e
      omega
    have r := ih B e' (fun i hi => h (i + 1) (by show i + 1 < A.length + 1; omega))
    have x : X.Perm Y := h 0 (by show 0 < A.length + 1; omega)
    show (X.flatMap (fun x => (prL A).map (fun r => x :: r))).Perm (Y.flatMap (fun x => (prL B).map (fun r => x :: r)))
    exact (fm_left x).trans (fm_right _ (fun a _ => List.Perm.map _ r))
/-! counted like figures -/
theorem fm_snoc {α β : Type} {A : α → List β} {b : α → β} : ∀ l : List α, (l.flatMap (fun i => A i ++ [b i])).Perm (l.flatMap A ++ l.map b) := by
  intro l
  induction l with
  | nil => exact List.Perm.refl _
  | cons a l ih =>
    show (A a ++ [b a] ++ l.flatMap (fun i => A i ++ [b i])).Perm (A a ++ l.flatMap A ++ (b a :: l.map b))
    rw [List.append_assoc, List.append_assoc]
    refine List.Perm.append_left _ ?_
    show (b a :: l.flatMap (fun i => A i ++ [b i])).Perm (l.flatMap A ++ (b a :: l.map b))
    exact (List.Perm.cons _ ih).trans List.perm_middle.symm
theorem range_figs {β : Type} {a : Nat} (ha : 0 < a) (g : Nat → Nat → β) : ∀ N : Nat, ((List.range (a * N)).map (fun w => g (w % a) (w / a))).Perm ((List.range a).flatMap (fun i => (List.range N).map (fun q => g i q))) := by
  intro N
  induction N with
  | zero =>
    have : (List.range a).flatMap (fun i => (List.range 0).map (fun q => g i q)) = [] := by
      rw [List.flatMap_eq_nil_iff]
      intro i _
      rfl
    rw [this]
    exact List.Perm.refl _
  | succ N ih =>
    have e : List.range (a * (N + 1)) = List.range (a * N) ++ (List.range a).map (fun i => a * N + i) := by
      rw [Nat.mul_succ, List.range_add]
    rw [e, List.map_append, List.map_map]
    have e2 : (List.range a).map ((fun w => g (w % a) (w / a)) ∘ fun i => a * N + i) = (List.range a).map (fun i => g i N) := by
      refine List.map_congr_left (fun i hi => ?_)
      rw [List.mem_range] at hi
      show g ((a * N + i) % a) ((a * N + i) / a) = g i N
      rw [Nat.mul_add_mod, Nat.mod_eq_of_lt hi, Nat.mul_add_div ha, Nat.div_eq_of_lt hi, Nat.add_zero]
    rw [e2]
    have e3 : (List.range a).flatMap (fun i => (List.range (N + 1)).map (fun q => g i q)) = (List.range a).flatMap (fun i => (List.range N).map (fun q => g i q) ++ [g i N]) := by
      rw [List.flatMap_def, List.flatMap_def]
      refine congrArg List.flatten (List.map_congr_left (fun i _ => ?_))
      rw [List.range_succ, List.map_append]
      rfl
    rw [e3]
    exact (List.Perm.append_right _ ih).trans (fm_snoc _).symm
/-- the w-th of all, the first figure the fastest -/
def decL : List (List (List Int)) → Nat → List (List Int)
  | [], _ => []
  | P :: Ps, w => P.getD (w % P.length) [] :: decL Ps (w / P.length)
def szL : List (List (List Int)) → Nat
  | [] => 1
  | P :: Ps => P.length * szL Ps
theorem decL_perm : ∀ Ps : List (List (List Int)), (∀ P ∈ Ps, 0 < P.length) → ((List.range (szL Ps)).map (decL Ps)).Perm (prL Ps) := by
  intro Ps
  induction Ps with
  | nil => intro _; exact List.Perm.refl _
  | cons P Ps ih =>
    intro h
    have hP := h P List.mem_cons_self
    have r := ih (fun Q hQ => h Q (List.mem_cons_of_mem _ hQ))
    have f := range_figs (β := List (List Int)) hP (fun i q => P.getD i [] :: decL Ps q) (szL Ps)
    show ((List.range (P.length * szL Ps)).map (fun w => P.getD (w % P.length) [] :: decL Ps (w / P.length))).Perm (P.flatMap (fun x => (prL Ps).map (fun r => x :: r)))
    refine f.trans ?_
    have e : P.flatMap (fun x => (prL Ps).map (fun r => x :: r)) = (List.range P.length).flatMap (fun i => (prL Ps).map (fun r => P.getD i [] :: r)) := by
      have eP : P = (List.range P.length).map (fun i => P.getD i []) := by
        apply List.ext_getElem?
        intro i
        rw [List.getElem?_map]
        by_cases z : i < P.length
        · rw [List.getElem?_range z, List.getElem?_eq_getElem z]
          show _ = some (P.getD i [])
          rw [List.getD_eq_getElem?_getD, List.getElem?_eq_getElem z]
          rfl
        · rw [List.getElem?_eq_none (by omega), List.getElem?_eq_none (by rw [List.length_range]; omega)]
          rfl
      conv => lhs; rw [eP]
      rw [List.flatMap_map]
    rw [e]
    refine fm_right _ (fun i _ => ?_)
    have e2 : (List.range (szL Ps)).map (fun q => P.getD i [] :: decL Ps q) = ((List.range (szL Ps)).map (decL Ps)).map (fun r => P.getD i [] :: r) := by
      rw [List.map_map]
      rfl
    rw [e2]
    exact List.Perm.map _ r
