theorem r_takesOff {h : aH} {Q : aQ} {L : List Int} {i : Nat} (hL : okMv L (h 107) (h 85 36)) (h9 : h 85 36 ≤ 10) (hi : i < L.length) (k : ∀ g, (∀ c, c ≠ 85 → c ≠ 107 → g c = h c) → (∀ j, j ≠ 36 → g 85 j = h 85 j) → okMv (L.eraseIdx i) (g 107) (g 85 36) → Q 0 g) : aRun mX10_takesOff 0 [aR 85, aI (i : Int)] h Q := by
  have hn := hL.1
  refine e_X10_takesOff ⟨by omega, ?_⟩
  suffices H : ∀ (d : Nat) (p : Int) (g : aH), (i : Int) ≤ p → p ≤ h 85 36 - 1 → h 85 36 - 1 - p ≤ d → (∀ c, c ≠ 107 → g c = (a_up h 85 36 (h 85 36 - 1)) c) → (∀ j, 0 ≤ j → g 107 j = if j < i then h 107 j else if j < p then h 107 (j + 1) else h 107 j) → AW mX10_takesOff 0 12 [some (aR 85), none, some (aI p)] [] g Q from
    H 10 i _ (by omega) (by omega) (by omega) (fun _ _ => rfl) (fun j a => by
      rw [a_up_ne (by decide)]
      by_cases z : j < i
      · rw [if_pos z]
      · rw [if_neg z, if_neg z])
  have fin : ∀ (p : Int) (g : aH), p = h 85 36 - 1 → (∀ c, c ≠ 107 → g c = (a_up h 85 36 (h 85 36 - 1)) c) → (∀ j, 0 ≤ j → g 107 j = if j < i then h 107 j else if j < p then h 107 (j + 1) else h 107 j) → Q 0 g := by
    intro p g ep hf hg
    refine k g (fun c a b => by rw [hf c b, a_up_ne a]) (fun j hj => by rw [hf 85 (by decide), a_up_fn, up1_ne hj]) ?_
    rw [hf 85 (by decide), a_up_fn, up1_eq]
    refine hL.erase hi (fun j a b => ?_)
    rw [hg j a]
    by_cases z : j < i
    · rw [if_pos z, if_pos z]
    · rw [if_neg z, if_neg z, if_pos (by omega)]
  intro d
  induction d with
  | zero =>
    intro p g p0 p1 hd hf hg
    have e : g 85 36 = h 85 36 - 1 := by rw [hf 85 (by decide), a_up_fn, up1_eq]
    exact s_X10_takesOff_12 ⟨fun q => fin p g (by omega) hf hg, fun q => absurd q (by omega)⟩
  | succ d ih =>
    intro p g p0 p1 hd hf hg
    have e : g 85 36 = h 85 36 - 1 := by rw [hf 85 (by decide), a_up_fn, up1_eq]
    refine s_X10_takesOff_12 ⟨fun q => fin p g (by omega) hf hg, fun q => ⟨by omega, by omega, by omega, ?_⟩⟩
    refine ih (p + 1) _ (by omega) (by omega) (by omega) (fun c hc => by rw [a_up_ne hc]; exact hf c hc) (fun j a => ?_)
    rw [a_up_fn]
    by_cases y : j = p
    · rw [y, up1_eq, hg (p + 1) (by omega), if_neg (by omega), if_neg (by omega), if_neg (by omega), if_pos (by omega)]
    · rw [up1_ne y, hg j a]
      by_cases z : j < i
      · rw [if_pos z, if_pos z]
      · rw [if_neg z, if_neg z]
        by_cases w : j < p
        · rw [if_pos w, if_pos (by omega)]
        · rw [if_neg w, if_neg (by omega)]
/-- L with v kept anew, most at the most; r: where v stands in L -/
def keepL (most : Int) (L : List Int) (v r : Int) : List Int := if most = 0 then L else if r = -1 then (if (L.length : Int) < most then L ++ [v] else L.eraseIdx 0 ++ [v]) else L.eraseIdx r.toNat ++ [v]
theorem keepL_len {most : Int} {L : List Int} {v r : Int} (hL : (L.length : Int) ≤ most) (hr : isIx L v r) : ((keepL most L v r).length : Int) ≤ most := by
  unfold keepL
  split
  · exact hL
  · split
    · split
      · simp; omega
      · by_cases z : L.length = 0
        · have := List.eq_nil_of_length_eq_zero z
          subst this
          simp at *; omega
        · have := List.length_eraseIdx_of_lt (i := 0) (l := L) (by omega)
          simp [this]; omega
    · rcases hr with ⟨a, b⟩ | ⟨i, a, b, c⟩
      · contradiction
      · have hi : i < L.length := (List.getElem?_eq_some_iff.mp b).1
        subst a
        have := List.length_eraseIdx_of_lt (i := i) (l := L) hi
        simp [this]; omega
theorem r_keep {h : aH} {Q : aQ} {v : Int} {L : List Int} (hL : okMv L (h 43) (h 42 1)) (hm : 0 ≤ h 42 2 ∧ h 42 2 ≤ 9) (hc : h 42 1 ≤ h 42 2) (k : ∀ r g, isIx L v r → (∀ c, c ≠ 42 → c ≠ 43 → g c = h c) → (∀ j, j ≠ 1 → g 42 j = h 42 j) → okMv (keepL (h 42 2) L v r) (g 43) (g 42 1) → Q 0 g) : aRun mX3_keep 1 [aR 42, aI v] h Q := by
  have hn := hL.1
  have hix : ∃ r, isIx L v r := by
    by_cases z : ∃ i : Nat, L[i]? = some v
    · obtain ⟨i, hi⟩ := z
      have key : ∀ (d i : Nat), i < d → L[i]? = some v → ∃ r, isIx L v r := by
        intro d
        induction d with
        | zero => intro i a; omega
        | succ d ih =>
          intro i a b
          by_cases y : ∃ j, j < i ∧ L[j]? = some v
          · obtain ⟨j, y1, y2⟩ := y
            exact ih j (by omega) y2
          · exact ⟨i, Or.inr ⟨i, rfl, b, fun j hj hb => y ⟨j, hj, hb⟩⟩⟩
      exact key (i + 1) i (by omega) hi
    · exact ⟨-1, Or.inl ⟨rfl, fun i hi => z ⟨i, hi⟩⟩⟩
  have push : ∀ (r : Int) (g : aH) (L1 : List Int), isIx L v r → okMv L1 (g 43) (g 42 1) → (L1.length : Int) < 9 → L1 ++ [v] = keepL (h 42 2) L v r → (∀ c, c ≠ 42 → c ≠ 43 → g c = h c) → (∀ j, j ≠ 1 → g 42 j = h 42 j) → (0 ≤ g 42 1 ∧ g 42 1 < 9) ∧ inR (g 42 1 + 1) ∧ Q 0 (a_up (a_up g 43 (g 42 1) v) 42 1 (g 42 1 + 1)) := by
    intro r g L1 hr hg hl he hf hfi
    have := hg.1
    refine ⟨by omega, by omega, ?_⟩
    refine k r _ hr (fun c a b => by rw [a_up_ne a, a_up_ne b]; exact hf c a b) (fun j hj => by rw [a_up_fn, up1_ne hj, a_up_ne (by decide)]; exact hfi j hj) ?_
    rw [a_up_ne (by decide), a_up_fn, a_up_fn, up1_eq, ← he]
    exact hg.push
  refine e_X3_keep ⟨fun q => ?_, fun q => ?_⟩
  · obtain ⟨r, hr⟩ := hix
    refine k r h hr (fun _ _ _ => rfl) (fun _ _ => rfl) ?_
    unfold keepL
    rw [if_pos q]; exact hL
  · refine r_fFind hL (by omega) (fun r hr => ⟨fun q1 => ⟨fun q2 => ?_, fun q2 => ?_⟩, fun q1 => ?_⟩)
    · refine push r h L hr hL (by omega) ?_ (fun _ _ _ => rfl) (fun _ _ => rfl)
      unfold keepL
      rw [if_neg q, if_pos q1, if_pos (by omega)]
    · have l0 : 0 < L.length := by omega
      refine r_takeOff (i := 0) hL (by omega) l0 (fun g f1 f2 f3 => ?_)
      have := List.length_eraseIdx_of_lt (i := 0) (l := L) l0
      refine push r g (L.eraseIdx 0) hr f3 (by omega) ?_ f1 f2
      unfold keepL
      rw [if_neg q, if_pos q1, if_neg (by omega)]
    · rcases id hr with ⟨a, b⟩ | ⟨i, a, b, c⟩
      · exact absurd a q1
      · have hi : i < L.length := (List.getElem?_eq_some_iff.mp b).1
        rw [a]
        refine r_takeOff (i := i) hL (by omega) hi (fun g f1 f2 f3 => ?_)
        have := List.length_eraseIdx_of_lt (i := i) (l := L) hi
        refine push r g (L.eraseIdx i) hr f3 (by omega) ?_ f1 f2
        unfold keepL
        rw [if_neg q, if_neg q1, a]
        rfl
theorem r_keepsMove {h : aH} {Q : aQ} {v : Int} {L : List Int} (hL : okMv L (h 107) (h 85 36)) (hm : 0 ≤ h 85 34 ∧ h 85 34 ≤ 9) (hc : h 85 36 ≤ h 85 34) (k : ∀ r g, isIx L v r → (∀ c, c ≠ 85 → c ≠ 107 → g c = h c) → (∀ j, j ≠ 36 → g 85 j = h 85 j) → okMv (keepL (h 85 34) L v r) (g 107) (g 85 36) → Q 0 g) : aRun mX10_keepsMove 1 [aR 85, aI v] h Q := by
  have hn := hL.1
  refine e_X10_keepsMove (r_tabuAt hL (by omega) (fun r hr => ⟨fun q1 => ?_, fun q1 => ?_⟩))
  · have hr1 : r = -1 := by rcases id hr with ⟨a, b⟩ | ⟨i, a, b, c⟩ <;> omega
    have hp := hL.push (a := v)
    have x107 : (a_up (a_up h 107 (h 85 36) v) 85 36 (h 85 36 + 1)) 107 = up1 (h 107) (h 85 36) v := by rw [a_up_ne (by decide), a_up_fn]
    have x85 : (a_up (a_up h 107 (h 85 36) v) 85 36 (h 85 36 + 1)) 85 = up1 (h 85) 36 (h 85 36 + 1) := by rw [a_up_fn, a_up_ne (by decide)]
    refine ⟨by omega, by omega, fun q2 => ?_, fun q2 => ?_⟩
    · refine k r _ hr (fun c a b => by rw [a_up_ne a, a_up_ne b]) (fun j hj => by rw [x85, up1_ne hj]) ?_
      rw [x107, x85, up1_eq]
      unfold keepL
      rw [if_neg (by omega), if_pos hr1, if_pos (by omega)]
      exact hp
    · refine r_takesOff (i := 0) (L := L ++ [v]) (by rw [x107, x85, up1_eq]; exact hp) (by rw [x85, up1_eq]; omega) (by simp) (fun g f1 f2 f3 => ?_)
      refine k r g hr (fun c a b => by rw [f1 c a b, a_up_ne a, a_up_ne b]) (fun j hj => by rw [f2 j hj, x85, up1_ne hj]) ?_
      have : (L ++ [v]).eraseIdx 0 = keepL (h 85 34) L v r := by
        unfold keepL
        by_cases z : h 85 34 = 0
        · rw [if_pos z]
          have : L = [] := List.eq_nil_of_length_eq_zero (by omega)
          subst this
          rfl
        · rw [if_neg z, if_pos hr1, if_neg (by omega)]
          cases L with
          | nil => simp at hn; omega
          | cons a t => rfl
      rw [← this]; exact f3
  · rcases id hr with ⟨a, b⟩ | ⟨i, a, b, c⟩
    · omega
    refine r_tabuAt hL (by omega) (fun r' hr' => ?_)
    have hrr : r' = (i : Int) := by rw [← a]; exact hr'.unique hr
    rw [hrr]
    have hi : i < L.length := (List.getElem?_eq_some_iff.mp b).1
    have hle := List.length_eraseIdx_of_lt (i := i) (l := L) hi
    refine r_takesOff (i := i) hL (by omega) hi (fun g f1 f2 f3 => ?_)
    have g1 := f3.1
    have hp := f3.push (a := v)
    have x107 : (a_up (a_up g 107 (g 85 36) v) 85 36 (g 85 36 + 1)) 107 = up1 (g 107) (g 85 36) v := by rw [a_up_ne (by decide), a_up_fn]
    have x85 : (a_up (a_up g 107 (g 85 36) v) 85 36 (g 85 36 + 1)) 85 = up1 (g 85) 36 (g 85 36 + 1) := by rw [a_up_fn, a_up_ne (by decide)]
    have e34 : g 85 34 = h 85 34 := f2 34 (by decide)
    refine ⟨by omega, by omega, fun q2 => ?_, fun q2 => absurd q2 (by omega)⟩
    refine k r _ hr (fun c x y => by rw [a_up_ne x, a_up_ne y]; exact f1 c x y) (fun j hj => by rw [x85, up1_ne hj]; exact f2 j hj) ?_
    rw [x107, x85, up1_eq]
    unfold keepL
    rw [if_neg (by omega), if_neg (by omega), a]
    exact hp
