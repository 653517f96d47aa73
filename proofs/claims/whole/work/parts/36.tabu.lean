/-! what TABU keeps: a list on both sides -/
def isIx (L : List Int) (v r : Int) : Prop := (r = -1 ∧ ∀ i : Nat, L[i]? ≠ some v) ∨ (∃ i : Nat, r = (i : Int) ∧ L[i]? = some v ∧ ∀ j : Nat, j < i → L[j]? ≠ some v)
theorem isIx.unique {L : List Int} {v r r' : Int} (h : isIx L v r) (h' : isIx L v r') : r = r' := by
  rcases h with ⟨a, b⟩ | ⟨i, a, b, c⟩ <;> rcases h' with ⟨a', b'⟩ | ⟨i', a', b', c'⟩
  · omega
  · exact absurd b' (b i')
  · exact absurd b (b' i)
  · by_cases z : i < i'
    · exact absurd b (c' i z)
    · by_cases z2 : i' < i
      · exact absurd b' (c i' z2)
      · omega
theorem okMv.get {L : List Int} {f : Int → Int} {n : Int} (h : okMv L f n) {i : Int} (i0 : 0 ≤ i) (i1 : i < n) : L[i.toNat]? = some (f i) := by
  have := h.2 i.toNat (by have := h.1; omega)
  rw [show ((i.toNat : Nat) : Int) = i by omega] at this
  exact this
theorem okMv.ix {L : List Int} {f : Int → Int} {n v : Int} (h : okMv L f n) {r : Int} (hr : (r = -1 ∧ ∀ i, 0 ≤ i → i < n → f i ≠ v) ∨ ((0 ≤ r ∧ r < n) ∧ f r = v ∧ ∀ i, 0 ≤ i → i < r → f i ≠ v)) : isIx L v r := by
  rcases hr with ⟨a, b⟩ | ⟨a, b, c⟩
  · left
    refine ⟨a, fun i hi => ?_⟩
    have hl : i < L.length := (List.getElem?_eq_some_iff.mp hi).1
    have := h.2 i hl
    rw [hi] at this
    exact b i (by omega) (by have := h.1; omega) (Option.some.inj this).symm
  · right
    refine ⟨r.toNat, by omega, ?_, fun j hj => ?_⟩
    · rw [h.get a.1 a.2, b]
    · intro hi
      have := h.2 j (by have := h.1; omega)
      rw [hi] at this
      exact c j (by omega) (by omega) (Option.some.inj this).symm
theorem r_fFind {h : aH} {Q : aQ} {v : Int} {L : List Int} (hL : okMv L (h 43) (h 42 1)) (h9 : h 42 1 ≤ 9) (k : ∀ r, isIx L v r → Q r h) : aRun mX3_find 0 [aR 42, aI v] h Q := by
  refine e_X3_find ?_
  have hn := hL.1
  suffices H : ∀ (d : Nat) (i : Int), 0 ≤ i → i ≤ h 42 1 → h 42 1 - i ≤ d → (∀ j, 0 ≤ j → j < i → h 43 j ≠ v) → AW mX3_find 0 2 [some (aR 42), some (aI v), some (aI i)] [] h Q from
    H 9 0 (by omega) (by omega) (by omega) (fun j a b => by omega)
  intro d
  induction d with
  | zero =>
    intro i i0 i1 hd hv
    exact s_X3_find_2 ⟨fun q => k _ (hL.ix (Or.inl ⟨rfl, fun j a b => hv j a (by omega)⟩)), fun q => absurd q (by omega)⟩
  | succ d ih =>
    intro i i0 i1 hd hv
    refine s_X3_find_2 ⟨fun q => k _ (hL.ix (Or.inl ⟨rfl, fun j a b => hv j a (by omega)⟩)), fun q => ⟨by omega, fun q1 => k _ (hL.ix (Or.inr ⟨by omega, q1, hv⟩)), fun q1 => ⟨by omega, ih (i + 1) (by omega) (by omega) (by omega) (fun j a b => ?_)⟩⟩⟩
    by_cases z : j = i
    · rw [z]; exact q1
    · exact hv j a (by omega)
theorem r_tabuAt {h : aH} {Q : aQ} {v : Int} {L : List Int} (hL : okMv L (h 107) (h 85 36)) (h9 : h 85 36 ≤ 10) (k : ∀ r, isIx L v r → Q r h) : aRun mX10_tabuAt 0 [aR 85, aI v] h Q := by
  refine e_X10_tabuAt ?_
  have hn := hL.1
  suffices H : ∀ (d : Nat) (i : Int), 0 ≤ i → i ≤ h 85 36 → h 85 36 - i ≤ d → (∀ j, 0 ≤ j → j < i → h 107 j ≠ v) → AW mX10_tabuAt 0 2 [some (aR 85), some (aI v), some (aI i)] [] h Q from
    H 10 0 (by omega) (by omega) (by omega) (fun j a b => by omega)
  intro d
  induction d with
  | zero =>
    intro i i0 i1 hd hv
    exact s_X10_tabuAt_2 ⟨fun q => k _ (hL.ix (Or.inl ⟨rfl, fun j a b => hv j a (by omega)⟩)), fun q => absurd q (by omega)⟩
  | succ d ih =>
    intro i i0 i1 hd hv
    refine s_X10_tabuAt_2 ⟨fun q => k _ (hL.ix (Or.inl ⟨rfl, fun j a b => hv j a (by omega)⟩)), fun q => ⟨by omega, fun q1 => k _ (hL.ix (Or.inr ⟨by omega, q1, hv⟩)), fun q1 => ⟨by omega, ih (i + 1) (by omega) (by omega) (by omega) (fun j a b => ?_)⟩⟩⟩
    by_cases z : j = i
    · rw [z]; exact q1
    · exact hv j a (by omega)
/-- one taken off, those behind it move up -/
theorem okMv.erase {L : List Int} {f g : Int → Int} {n : Int} {i : Nat} (h : okMv L f n) (hi : i < L.length) (hg : ∀ j, 0 ≤ j → j < n - 1 → g j = if j < i then f j else f (j + 1)) : okMv (L.eraseIdx i) g (n - 1) := by
  have hl : (L.eraseIdx i).length = L.length - 1 := List.length_eraseIdx_of_lt hi
  have h1 := h.1
  refine ⟨by rw [hl]; omega, fun j hj => ?_⟩
  rw [hl] at hj
  rw [List.getElem?_eraseIdx, hg j (by omega) (by omega)]
  by_cases z : j < i
  · rw [if_pos z, if_pos (by omega)]; exact h.2 j (by omega)
  · rw [if_neg z, if_neg (by omega)]
    have := h.2 (j + 1) (by omega)
    rw [this]
    rfl
theorem r_takeOff {h : aH} {Q : aQ} {L : List Int} {i : Nat} (hL : okMv L (h 43) (h 42 1)) (h9 : h 42 1 ≤ 9) (hi : i < L.length) (k : ∀ g, (∀ c, c ≠ 42 → c ≠ 43 → g c = h c) → (∀ j, j ≠ 1 → g 42 j = h 42 j) → okMv (L.eraseIdx i) (g 43) (g 42 1) → Q 0 g) : aRun mX3_takeOff 0 [aR 42, aI (i : Int)] h Q := by
  refine e_X3_takeOff ?_
  have hn := hL.1
  suffices H : ∀ (d : Nat) (p : Int) (g : aH), (i : Int) ≤ p → p < h 42 1 → h 42 1 - p ≤ d → (∀ c, c ≠ 43 → g c = h c) → (∀ j, 0 ≤ j → g 43 j = if j < i then h 43 j else if j < p then h 43 (j + 1) else h 43 j) → AW mX3_takeOff 0 2 [some (aR 42), none, some (aI p)] [] g Q from
    H 9 i h (by omega) (by omega) (by omega) (fun _ _ => rfl) (fun j a => by
      by_cases z : j < i
      · rw [if_pos z]
      · rw [if_neg z, if_neg z])
  intro d
  induction d with
  | zero => intro p g a b c; omega
  | succ d ih =>
    intro p g p0 p1 hd hf hg
    have e : g 42 = h 42 := hf 42 (by decide)
    refine s_X3_takeOff_2 ⟨by omega, fun q => ⟨by rw [e]; omega, ?_⟩, fun q => ?_⟩
    · rw [e] at q ⊢
      refine k _ (fun c a b => by rw [a_up_ne a]; exact hf c b) (fun j hj => by rw [a_up_fn, up1_ne hj, e]) ?_
      rw [a_up_ne (by decide), a_up_fn, up1_eq]
      refine hL.erase hi (fun j a b => ?_)
      rw [hg j a]
      by_cases z : j < i
      · rw [if_pos z, if_pos z]
      · rw [if_neg z, if_neg z, if_pos (by omega)]
    · rw [e] at q
      refine ⟨by omega, by omega, ?_⟩
      refine ih (p + 1) _ (by omega) (by omega) (by omega) (fun c hc => by rw [a_up_ne hc]; exact hf c hc) (fun j a => ?_)
      rw [a_up_fn]
      by_cases y : j = p
      · rw [y, up1_eq, hg (p + 1) (by omega), if_neg (by omega), if_neg (by omega), if_neg (by omega), if_pos (by omega)]
      · rw [up1_ne y, hg j a]
        by_cases z : j < i
        · rw [if_pos z, if_pos z]
        · rw [if_neg z, if_neg z]
          by_cases w : j < p
          · rw [if_pos w, if_pos (by omega)]
          · rw [if_neg w, if_neg (by omega)]
