/-! copies, on the reference -/
theorem a_cp_zero {h : aH} {s t : Nat} {i j : Int} : a_cp h s i t j 0 = h := by
  funext c x
  by_cases e : c = t
  · rw [e, a_cp_at, if_neg (by omega)]
  · rw [a_cp_ne e]
theorem a_cp_step {h : aH} {s t : Nat} {i j n : Int} (hn : 0 ≤ n) : a_up (a_cp h s i t j n) t (j + n) (h s (i + n)) = a_cp h s i t j (n + 1) := by
  funext c x
  by_cases e : c = t
  · rw [e, a_up_at, a_cp_at, a_cp_at]
    by_cases z : x = j + n
    · rw [if_pos z, if_pos (by omega), z, show i + (j + n - j) = i + n by omega]
    · rw [if_neg z]
      by_cases y : j ≤ x ∧ x < j + n
      · rw [if_pos y, if_pos (by omega)]
      · rw [if_neg y, if_neg (by omega)]
  · rw [a_up_ne e, a_cp_ne e, a_cp_ne e]
theorem r_lays {h : aH} {Q : aQ} (hD : 0 ≤ h 85 18 ∧ h 85 18 ≤ 16) (k : Q 0 (a_cp h 90 0 96 (120 * h 85 18) 120)) : aRun mX10_lays 0 [aR 85] h Q := by
  refine e_X10_lays ?_
  suffices H : ∀ (d : Nat) (i : Int), 0 ≤ i → i ≤ 120 → 120 - i ≤ d → AW mX10_lays 0 2 [some (aR 85), some (aI i)] [] (a_cp h 90 0 96 (120 * h 85 18) i) Q from by
    have := H 120 0 (by omega) (by omega) (by omega)
    rw [a_cp_zero] at this
    exact this
  intro d
  induction d with
  | zero =>
    intro i i0 i1 hd
    refine s_X10_lays_2 ⟨fun _ => ?_, fun z => by omega⟩
    rw [show i = 120 by omega]
    exact k
  | succ d ih =>
    intro i i0 i1 hd
    refine s_X10_lays_2 ⟨fun z => ?_, fun z => ?_⟩
    · rw [show i = 120 by omega]
      exact k
    · rw [show a_cp h 90 0 96 (120 * h 85 18) i 85 18 = h 85 18 from rfl, show a_cp h 90 0 96 (120 * h 85 18) i 90 = h 90 from rfl]
      refine ⟨by unfold inR; omega, by unfold inR; omega, by omega, by omega, by unfold inR; omega, ?_⟩
      have e := a_cp_step (h := h) (s := 90) (t := 96) (i := 0) (j := 120 * h 85 18) (n := i) i0
      rw [show (0 : Int) + i = i by omega] at e
      rw [e]
      exact ih (i + 1) (by omega) (by omega) (by omega)
theorem r_fetches {h : aH} {Q : aQ} (hD : 0 ≤ h 85 18 ∧ h 85 18 ≤ 16) (k : Q 0 (a_cp h 96 (120 * h 85 18) 90 0 120)) : aRun mX10_fetches 0 [aR 85] h Q := by
  refine e_X10_fetches ?_
  suffices H : ∀ (d : Nat) (i : Int), 0 ≤ i → i ≤ 120 → 120 - i ≤ d → AW mX10_fetches 0 2 [some (aR 85), some (aI i)] [] (a_cp h 96 (120 * h 85 18) 90 0 i) Q from by
    have := H 120 0 (by omega) (by omega) (by omega)
    rw [a_cp_zero] at this
    exact this
  intro d
  induction d with
  | zero =>
    intro i i0 i1 hd
    refine s_X10_fetches_2 ⟨fun _ => ?_, fun z => by omega⟩
    rw [show i = 120 by omega]
    exact k
  | succ d ih =>
    intro i i0 i1 hd
    refine s_X10_fetches_2 ⟨fun z => ?_, fun z => ?_⟩
    · rw [show i = 120 by omega]
      exact k
    · rw [show a_cp h 96 (120 * h 85 18) 90 0 i 85 18 = h 85 18 from rfl, show a_cp h 96 (120 * h 85 18) 90 0 i 96 = h 96 from rfl]
      refine ⟨by unfold inR; omega, by unfold inR; omega, by omega, by omega, by unfold inR; omega, ?_⟩
      have e := a_cp_step (h := h) (s := 96) (t := 90) (i := 120 * h 85 18) (j := 0) (n := i) i0
      rw [show (0 : Int) + i = i by omega] at e
      rw [e]
      exact ih (i + 1) (by omega) (by omega) (by omega)
theorem r_notesL {h : aH} {Q : aQ} (k : Q 0 (a_cp h 90 0 108 0 120)) : AW mX10_notes 0 28 [some (aR 85), none, some (aI 0)] [] h Q := by
  suffices H : ∀ (d : Nat) (i : Int), 0 ≤ i → i ≤ 120 → 120 - i ≤ d → AW mX10_notes 0 28 [some (aR 85), none, some (aI i)] [] (a_cp h 90 0 108 0 i) Q from by
    have := H 120 0 (by omega) (by omega) (by omega)
    rw [a_cp_zero] at this
    exact this
  intro d
  induction d with
  | zero =>
    intro i i0 i1 hd
    refine s_X10_notes_28 ⟨fun _ => ?_, fun z => by omega⟩
    rw [show i = 120 by omega]
    exact k
  | succ d ih =>
    intro i i0 i1 hd
    refine s_X10_notes_28 ⟨fun z => ?_, fun z => ?_⟩
    · rw [show i = 120 by omega]
      exact k
    · rw [show a_cp h 90 0 108 0 i 90 = h 90 from rfl]
      refine ⟨by omega, by unfold inR; omega, ?_⟩
      have e := a_cp_step (h := h) (s := 90) (t := 108) (i := 0) (j := 0) (n := i) i0
      rw [show (0 : Int) + i = i by omega] at e
      rw [e]
      exact ih (i + 1) (by omega) (by omega) (by omega)
/-- notes: a new least, or nothing -/
theorem r_notes {h : aH} {Q : aQ} {s : Int} (k1 : (h 85 37 = 0 ∨ s < h 85 38) → Q 0 (a_cp (a_up (a_up h 85 37 1) 85 38 s) 90 0 108 0 120)) (k2 : ¬ h 85 37 = 0 → ¬ s < h 85 38 → Q 0 h) : aRun mX10_notes 0 [aR 85, aI s] h Q :=
  e_X10_notes ⟨fun z => r_notesL (k1 (Or.inl z)), fun z => ⟨fun y => r_notesL (k1 (Or.inr y)), fun y => k2 z y⟩⟩
