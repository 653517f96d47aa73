/-! THE INVARIANT, in pieces: c is read below cell 85 only (the class), m from there on (the reference) -/
def sTape (c m : aH) : Prop := (0 ≤ c 1 1 ∧ c 1 1 ≤ 140) ∧ m 85 9 = c 1 1 ∧ ∀ i, 0 ≤ i → i < c 1 1 → (32 ≤ c 2 i ∧ c 2 i ≤ 126) ∧ m 92 i = c 2 i
def sShop (c m : aH) : Prop := cShop c ∧ mShop m ∧ m 85 0 = c 3 0 ∧ m 85 1 = c 3 1 ∧ (∀ t, 0 ≤ t → t < c 3 1 → m 86 t = c 4 t ∧ m 87 t = c 5 t ∧ m 88 t = c 6 t ∧ m 89 t = c 7 t) ∧ ∀ M, 0 ≤ M → M < 5 → m 91 M = cSz c M
def sOrd (c m : aH) : Prop := okOrd (c 3 1) (c 6) (cSz c) (cO c 19) ∧ sameO (cSz c) (cO c 19) (mO m)
def sSet (c : aH) : Prop := 0 < c 3 1 → Settled c
def sTabu (c m : aH) : Prop := ∃ L : List Int, okMv L (c 43) (c 42 1) ∧ okMv L (m 107) (m 85 36) ∧ c 42 1 ≤ c 42 2 ∧ m 85 34 = c 42 2 ∧ 0 ≤ c 42 2 ∧ c 42 2 ≤ 9
def sLeast (c m : aH) : Prop := (c 0 15 = -1 ∧ m 85 37 = 0) ∨ (m 85 37 = 1 ∧ m 85 38 = c 0 15 ∧ (0 ≤ c 0 15 ∧ c 0 15 ≤ 2376) ∧ okOrd (c 3 1) (c 6) (cSz c) (cO c 84) ∧ sameO (cSz c) (cO c 84) (fun M k => m 108 (24 * M + k)) ∧ spanIs (c 3 1) (jA (c 5)) (c 7) (cSz c) (cO c 84) (c 0 15))
def sHist (c m : aH) : Prop := (0 ≤ c 44 1 ∧ c 44 1 ≤ c 44 2 ∧ c 44 2 ≤ 16) ∧ m 85 18 = c 44 1 ∧ m 85 19 = c 44 2 - c 44 1 ∧ ∀ j : Nat, (j : Int) ≤ c 44 2 → okOrd (c 3 1) (c 6) (cSz c) (cO c (46 + j)) ∧ sameO (cSz c) (cO c (46 + j)) (fun M k => m 96 (120 * (j : Int) + (24 * M + k)))
/-- feed: a byte more on both tapes, or the same refusal -/
theorem r_feed {h : aH} {Q : Int → Int → aH → Prop} {a : Int} (hT : sTape h h)
    (k1 : ∀ r, Q r r h)
    (k2 : ∀ r g, (∀ c, c ≠ 1 → c ≠ 2 → c ≠ 85 → c ≠ 92 → g c = h c) → (∀ i, i ≠ 1 → g 1 i = h 1 i) → (∀ i, i ≠ 9 → g 85 i = h 85 i) → sTape g g → Q r r g) :
    aRun mX9_feed 1 [aR 0, aI a] h (fun r h1 => aRun mX10_feed 1 [aR 85, aI a] h1 (fun r' h2 => Q r r' h2)) := by
  obtain ⟨t1, t2, t3⟩ := hT
  have in0 : ∀ g : aH, (a < 32 ∨ 126 < a) → f_X10_in g a 32 126 = 0 := by
    intro g z
    unfold f_X10_in
    by_cases y : a < 32
    · rw [if_pos y]
    · rw [if_neg y, if_pos (by omega)]
  have in1 : ∀ g : aH, 32 ≤ a → a ≤ 126 → ¬ f_X10_in g a 32 126 = 0 := by
    intro g y z
    unfold f_X10_in
    rw [if_neg (by omega), if_neg (by omega)]
    omega
  refine e_X9_feed ⟨fun z => ?_, fun z => ⟨fun y => ⟨fun x => ?_, fun x => ?_⟩, fun y => ?_⟩⟩
  · exact e_X10_feed ⟨fun _ => k1 _, fun w => absurd (in0 h (by omega)) w⟩
  · refine e_X7_put ⟨fun w => by omega, fun _ => ⟨by omega, by unfold inR; omega, ?_⟩⟩
    refine e_X10_feed ⟨fun w => absurd w (in1 _ (by omega) y), fun _ => ?_⟩
    rw [show a_up (a_up h 2 (h 1 1) a) 1 1 (h 1 1 + 1) 85 9 = h 85 9 from rfl, show a_up (a_up h 2 (h 1 1) a) 1 1 (h 1 1 + 1) 1 1 = h 1 1 + 1 from a_up_eq, t2]
    refine ⟨fun w => by omega, fun _ => ⟨by omega, by unfold inR; omega, ?_⟩⟩
    refine k2 _ _ (fun c c1 c2 c3 c4 => ?_) (fun i i1 => ?_) (fun i i1 => ?_) ?_
    · rw [a_up_ne c3, a_up_ne c4, a_up_ne c1, a_up_ne c2]
    · rw [a_up_ne (by omega), a_up_ne (by omega), a_up_off i1, a_up_ne (by omega)]
    · rw [a_up_off i1, a_up_ne (by omega), a_up_ne (by omega), a_up_ne (by omega)]
    · unfold sTape
      have e1 : a_up (a_up (a_up (a_up h 2 (h 1 1) a) 1 1 (h 1 1 + 1)) 92 (h 1 1) a) 85 9 (h 1 1 + 1) 1 1 = h 1 1 + 1 := by
        rw [a_up_ne (by omega), a_up_ne (by omega), a_up_eq]
      rw [e1, a_up_eq]
      refine ⟨by omega, rfl, fun i i0 i1 => ?_⟩
      rw [a_up_ne (by omega : (2 : Nat) ≠ 85), a_up_ne (by omega : (2 : Nat) ≠ 92), a_up_ne (by omega : (2 : Nat) ≠ 1), a_up_ne (by omega : (92 : Nat) ≠ 85), a_up_at, a_up_at]
      by_cases u : i = h 1 1
      · rw [if_pos u, if_pos u]
        omega
      · rw [if_neg u, if_neg u, a_up_ne (by omega), a_up_ne (by omega)]
        exact t3 i i0 (by omega)
  · refine e_X10_feed ⟨fun w => absurd w (in1 h (by omega) y), fun _ => ⟨fun _ => k1 _, fun w => by omega⟩⟩
  · exact e_X10_feed ⟨fun _ => k1 _, fun w => absurd (in0 h (by omega)) w⟩
