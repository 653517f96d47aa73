/-! the history of changes -/
theorem r_mChanged {h : aH} {Q : aQ} (hD : 0 ≤ h 85 18 ∧ h 85 18 ≤ 16)
    (k1 : h 85 18 < 16 → Q 0 (a_cp (a_up (a_up h 85 18 (h 85 18 + 1)) 85 19 0) 90 0 96 (120 * (h 85 18 + 1)) 120))
    (k2 : h 85 18 = 16 → Q 0 (a_cp (a_up (a_cp h 96 120 96 0 1920) 85 19 0) 90 0 96 1920 120)) : aRun mX10_changed 1 [aR 85] h Q := by
  refine e_X10_changed ⟨fun z => ?_, fun z => ⟨by unfold inR; omega, ?_⟩⟩
  · suffices H : ∀ (d : Nat) (i : Int), 0 ≤ i → i ≤ 1920 → 1920 - i ≤ d → AW mX10_changed 1 11 [some (aR 85), some (aI i)] [] (a_cp h 96 120 96 0 i) Q from by
      have := H 1920 0 (by omega) (by omega) (by omega)
      rw [a_cp_zero] at this
      exact this
    have fin : AW mX10_changed 1 11 [some (aR 85), some (aI 1920)] [] (a_cp h 96 120 96 0 1920) Q := by
      refine s_X10_changed_11 ⟨fun _ => ?_, fun y => by omega⟩
      rw [show a_cp h 96 120 96 0 1920 85 18 = h 85 18 from rfl, z]
      refine ⟨by unfold inR; omega, by unfold inR; omega, ?_⟩
      have e : a_up (a_up (a_up (a_cp h 96 120 96 0 1920) 85 18 (16 - 1)) 85 18 (16 - 1 + 1)) 85 19 0 = a_up (a_cp h 96 120 96 0 1920) 85 19 0 := by
        refine congrArg (fun x => a_up x 85 19 0) ?_
        funext c x
        by_cases e : c = 85
        · rw [e, a_up_at]
          by_cases y : x = 18
          · rw [if_pos y, y]
            exact z.symm
          · rw [if_neg y, a_up_off y]
        · rw [a_up_ne e, a_up_ne e]
      rw [e]
      have e18 : a_up (a_cp h 96 120 96 0 1920) 85 19 0 85 18 = 16 := by
        rw [a_up_off (by omega)]
        exact z
      refine r_lays (by rw [e18]; omega) ?_
      rw [e18]
      exact k2 z
    intro d
    induction d with
    | zero =>
      intro i i0 i1 hd
      rw [show i = 1920 by omega]
      exact fin
    | succ d ih =>
      intro i i0 i1 hd
      by_cases y : i = 1920
      · rw [y]; exact fin
      refine s_X10_changed_11 ⟨fun w => by omega, fun w => ⟨by unfold inR; omega, by omega, by omega, by unfold inR; omega, ?_⟩⟩
      have e := a_cp_step (h := h) (s := 96) (t := 96) (i := 120) (j := 0) (n := i) i0
      rw [show (0 : Int) + i = i by omega] at e
      rw [show a_cp h 96 120 96 0 i 96 (i + 120) = h 96 (120 + i) by rw [a_cp_at, if_neg (by omega), show i + 120 = 120 + i by omega], e]
      exact ih (i + 1) (by omega) (by omega) (by omega)
  · have e18 : a_up (a_up h 85 18 (h 85 18 + 1)) 85 19 0 85 18 = h 85 18 + 1 := by
      rw [a_up_off (by omega), a_up_eq]
    refine r_lays (by rw [e18]; omega) ?_
    rw [e18]
    exact k1 (by omega)
theorem r_cNote {h : aH} {Q : aQ} (hD : 0 ≤ h 44 1 ∧ h 44 1 ≤ 16)
    (k1 : h 44 1 < 16 → Q 0 (a_cp (a_up (a_up h 44 1 (h 44 1 + 1)) 44 2 (h 44 1 + 1)) 19 0 (46 + (h 44 1 + 1).toNat) 0 24))
    (k2 : h 44 1 = 16 → ∀ g, (∀ c, (c < 46 ∨ 61 < c) → g c = h c) → (∀ j : Nat, j < 16 → ∀ x, 0 ≤ x → x < 24 → g (46 + j) x = h (46 + (j + 1)) x) → Q 0 (a_cp (a_up (a_up g 44 1 16) 44 2 16) 19 0 62 0 24)) : aRun mX4_note 2 [aR 44, aR 19] h Q := by
  refine e_X4_note ⟨fun z => ⟨by unfold inR; omega, by omega, k1 z⟩, fun z => ?_⟩
  suffices H : ∀ (d i : Nat) (g : aH), i ≤ 16 → 16 - i ≤ d → (∀ c, (c < 46 ∨ 45 + i < c) → g c = h c) → (∀ j : Nat, j < i → ∀ x, 0 ≤ x → x < 24 → g (46 + j) x = h (46 + (j + 1)) x) → AW mX4_note 2 11 [some (aR 44), some (aR 19), some (aI (i : Int))] [] g Q from
    H 16 0 h (by omega) (by omega) (fun _ _ => rfl) (fun j a => by omega)
  have fin : ∀ g : aH, (∀ c, (c < 46 ∨ 61 < c) → g c = h c) → (∀ j : Nat, j < 16 → ∀ x, 0 ≤ x → x < 24 → g (46 + j) x = h (46 + (j + 1)) x) → AW mX4_note 2 11 [some (aR 44), some (aR 19), some (aI ((16 : Nat) : Int))] [] g Q := by
    intro g hf hg
    refine s_X4_note_11 ⟨fun _ => ⟨by omega, ?_⟩, fun y => by omega⟩
    have e : a_up (a_up (a_up g 44 1 15) 44 1 (15 + 1)) 44 2 (15 + 1) = a_up (a_up g 44 1 16) 44 2 16 := by
      refine congrArg (fun x => a_up x 44 2 16) ?_
      funext c x
      by_cases e : c = 44
      · rw [e]
        by_cases y : x = 1
        · rw [y, a_up_eq, a_up_eq]; rfl
        · rw [a_up_off y, a_up_off y, a_up_off y]
      · rw [a_up_ne e, a_up_ne e, a_up_ne e]
    rw [e]
    exact k2 (by omega) g hf hg
  intro d
  induction d with
  | zero =>
    intro i g i1 hd hf hg
    have e : i = 16 := by omega
    subst e
    exact fin g (fun c hc => hf c (by omega)) hg
  | succ d ih =>
    intro i g i1 hd hf hg
    by_cases y : i = 16
    · subst y
      exact fin g (fun c hc => hf c (by omega)) hg
    refine s_X4_note_11 ⟨fun w => by omega, fun w => ⟨by unfold inR; omega, by omega, by omega, ?_⟩⟩
    rw [show ((i : Int) + 1).toNat = i + 1 by omega, show (i : Int).toNat = i by omega]
    refine ih (i + 1) _ (by omega) (by omega) (fun c hc => ?_) (fun j hj x x0 x1 => ?_)
    · rw [a_cp_ne (by omega)]
      exact hf c (by omega)
    · by_cases u : j = i
      · rw [u, a_cp_at, if_pos (by omega), hf (46 + (i + 1)) (by omega), show 0 + (x - 0) = x by omega]
      · rw [a_cp_ne (by omega)]
        exact hg j (by omega) x x0 x1
