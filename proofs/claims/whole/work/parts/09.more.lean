section A4
variable {M M' : aM} {F F' pc : Nat} {ls : List (Option aV)} {st : List aV} {h : aH} {Q : aQ}
def a_mask : List Bool → List (Option aV) → List (Option aV)
  | b :: bs, o :: os => (bif b then o else none) :: a_mask bs os
  | _, os => os
theorem a_mask_at : ∀ (bs : List Bool) (ls : List (Option aV)) (k : Nat) (v : aV), (a_mask bs ls)[k]? = some (some v) → ls[k]? = some (some v)
  | [], ls, k, v, e => by simpa [a_mask] using e
  | b :: bs, [], k, v, e => by simp [a_mask] at e
  | b :: bs, o :: os, 0, v, e => by
    cases b <;> simp [a_mask] at e ⊢
    exact e
  | b :: bs, o :: os, k + 1, v, e => by
    simp only [a_mask, List.getElem?_cons_succ] at e ⊢
    exact a_mask_at bs os k v e
theorem AW.mask (bs : List Bool) (k : AW M F pc (a_mask bs ls) st h Q) : AW M F pc ls st h Q := by
  intro hR p l e R s m args below meth c H locs L g C K h1 h2 hP hS hL
  refine k ⟨hR.1, fun v hv => ?_, hR.2.2⟩ p l e R s m args below meth c H locs L g C K h1 h2 hP hS ⟨hL.1, hL.2.1, fun i v hv => hL.2.2 i v (a_mask_at bs ls i v hv)⟩
  obtain ⟨i, hi⟩ := List.getElem?_of_mem hv
  exact hR.loc (a_mask_at bs ls i v hi)
theorem AW.geti' {ci x ix k N : Nat} {v j : Int} {C : String} {T : u_T} {ty : Nat → FieldType} {fs : List (Option Nat)} (hd : decode M.2.1 pc = .ok (.getfield ix, 3)) (hc : a_cls ci C T N ty) (hs : a_T[x]? = some (.inr (ci, fs))) (hf : fs[k]? = some none) (hk : k < N) (hl : Cond.fieldLink M.1.cls ix (T k).1 (T k).2.1 (T k).2.2.1 ∈ a_ws) (hj : (k : Int) = j) (hv : h x j = v) (kk : AW M F (pc + 3) ls (aI v :: st) h Q) : AW M F pc ls (aR x :: st) h Q :=
  AW.geti hd hc hs hf hk hl (by rw [hj]; exact hv) kk
theorem AW.puti' {ci x ix k N : Nat} {v j : Int} {C : String} {T : u_T} {ty : Nat → FieldType} {fs : List (Option Nat)} {fty : FieldType} (hd : decode M.2.1 pc = .ok (.putfield ix, 3)) (hc : a_cls ci C T N ty) (hs : a_T[x]? = some (.inr (ci, fs))) (hf : fs[k]? = some none) (hk : k < N) (hl : Cond.fieldLink M.1.cls ix (T k).1 (T k).2.1 (T k).2.2.1 ∈ a_ws) (hj : (k : Int) = j) (hfin : (T k).2.2.2 = false) (hty : parseFieldDescriptor (T k).2.2.1 = some fty) (hn : fty = .int ∨ (fty = .boolean ∧ (v = 0 ∨ v = 1))) (kk : AW M F (pc + 3) ls st (a_up h x j v) Q) : AW M F pc ls (aI v :: aR x :: st) h Q := by
  subst hj
  exact AW.puti hd hc hs hf hk hl hfin hty hn kk
end A4
theorem a_ite01 {c : Prop} [Decidable c] {a b : Int} (ha : a = 0 ∨ a = 1) (hb : b = 0 ∨ b = 1) : (if c then a else b) = 0 ∨ (if c then a else b) = 1 := by
  split
  · exact ha
  · exact hb
theorem lw_720 : Cond.constantLong RX10 366 (Int64.ofInt 720) ∈ a_ws := a_in 1378 (by decide +kernel) (by decide +kernel)
