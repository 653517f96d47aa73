/-! a new pair of objects meets the invariant -/
theorem inv_zero : Inv 0 hB_8 := by
  have e3 : hB_8 3 1 = 0 := rfl
  have e31 : hB_8 85 1 = 0 := rfl
  have z : ∀ M, cSz hB_8 M = 0 := fun M => rfl
  have shp : ∀ a b c d : Int → Int, okShop 0 0 a b c d := fun a b c d => ⟨by omega, by omega, fun t x y => by omega, fun t x y => by omega, fun x => by omega, fun _ => rfl⟩
  have ord : ∀ (ma : Int → Int) (o : Int → Int → Int), okOrd 0 ma (cSz hB_8) o := fun ma o => ⟨fun M k a b c d => by rw [z] at d; omega, fun M k k' a b c d => by rw [z] at d; omega, fun t a b => by omega⟩
  have sam : ∀ o o' : Int → Int → Int, sameO (cSz hB_8) o o' := fun o o' M k a b c d => by rw [z] at d; omega
  refine ⟨⟨?_, ⟨⟨⟨shp _ _ _ _, ⟨rfl, rfl, fun m a b => Int.le_refl _⟩⟩, ⟨shp _ _ _ _, fun m a b => ⟨Int.le_refl 0, by show (0 : Int) ≤ 24; omega⟩⟩, rfl, rfl, fun t a b => ?_, fun M a b => rfl⟩, ⟨ord _ _, sam _ _⟩, fun t a b => ?_, fun M a b => rfl⟩, fun w => ?_, ?_, Or.inl ⟨rfl, rfl⟩, ?_, ⟨sam _ _, fun w => ?_⟩, Or.inl ⟨rfl, rfl⟩, fun M a b => Or.inl ?_, Or.inl rfl⟩, rfl, Int.le_refl 0, ?_⟩
  · refine ⟨⟨Int.le_refl 0, by show (0 : Int) ≤ 140; omega⟩, rfl, fun i a b => ?_⟩
    have b : i < 0 := b
    omega
  · have b : t < 0 := b
    omega
  · have b : t < 0 := b
    omega
  · have w : (0 : Int) < 0 := w
    omega
  · exact ⟨[], ⟨rfl, fun i hi => absurd hi (by simp)⟩, ⟨rfl, fun i hi => absurd hi (by simp)⟩, by show (0 : Int) ≤ 4; omega, rfl, by show (0 : Int) ≤ 4; omega, by show (4 : Int) ≤ 9; omega⟩
  · refine ⟨⟨Int.le_refl 0, Int.le_refl 0, by show (0 : Int) ≤ 16; omega⟩, rfl, rfl, fun j hj => ⟨ord _ _, sam _ _⟩⟩
  · have w : (0 : Int) < 0 := w
    omega
  · have : M = 0 ∨ M = 1 ∨ M = 2 ∨ M = 3 ∨ M = 4 := by omega
    rcases this with rfl | rfl | rfl | rfl | rfl <;> rfl
  · show (0 : Int) ≤ 30 * ((0 : Nat) : Int)
    omega
