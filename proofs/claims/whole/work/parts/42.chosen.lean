/-! which move a step takes -/
def chOk (v q : Int → Int) (L : Int) (i : Int) : Prop := q i = -1 ∨ v i < L
def chB (N : Int) (v q : Int → Int) (L r : Int) : Prop := (0 ≤ r ∧ r < N) ∧ chOk v q L r ∧ (∀ i, 0 ≤ i → i < N → chOk v q L i → v r ≤ v i) ∧ ∀ i, 0 ≤ i → i < r → chOk v q L i → v r < v i
def chL (N : Int) (q : Int → Int) (r : Int) : Prop := (0 ≤ r ∧ r < N) ∧ (∀ i, 0 ≤ i → i < N → q r ≤ q i) ∧ ∀ i, 0 ≤ i → i < r → q r < q i
def chP (N : Int) (v q : Int → Int) (L r : Int) : Prop := chB N v q L r ∨ ((∀ i, 0 ≤ i → i < N → ¬ chOk v q L i) ∧ chL N q r)
theorem chB.unique {N : Int} {v q : Int → Int} {L r r' : Int} (h : chB N v q L r) (h' : chB N v q L r') : r = r' := by
  obtain ⟨a1, a2, a3, a4⟩ := h
  obtain ⟨b1, b2, b3, b4⟩ := h'
  have c1 := a3 r' b1.1 b1.2 b2
  have c2 := b3 r a1.1 a1.2 a2
  by_cases z : r < r'
  · have := b4 r a1.1 z a2
    omega
  · by_cases y : r' < r
    · have := a4 r' b1.1 y b2
      omega
    · omega
theorem chL.unique {N : Int} {q : Int → Int} {r r' : Int} (h : chL N q r) (h' : chL N q r') : r = r' := by
  obtain ⟨a1, a3, a4⟩ := h
  obtain ⟨b1, b3, b4⟩ := h'
  have c1 := a3 r' b1.1 b1.2
  have c2 := b3 r a1.1 a1.2
  by_cases z : r < r'
  · have := b4 r a1.1 z
    omega
  · by_cases y : r' < r
    · have := a4 r' b1.1 y
      omega
    · omega
theorem chP.unique {N : Int} {v q : Int → Int} {L r r' : Int} (h : chP N v q L r) (h' : chP N v q L r') : r = r' := by
  rcases h with a | ⟨a, b⟩ <;> rcases h' with a' | ⟨a', b'⟩
  · exact a.unique a'
  · exact absurd a.2.1 (a' r a.1.1 a.1.2)
  · exact absurd a'.2.1 (a r' a'.1.1 a'.1.2)
  · exact b.unique b'
theorem chB.keep {N : Int} {v q : Int → Int} {L r : Int} (h : chB N v q L r) (hn : ¬ chOk v q L N ∨ v r ≤ v N) : chB (N + 1) v q L r := by
  obtain ⟨a1, a2, a3, a4⟩ := h
  refine ⟨by omega, a2, fun i x y z => ?_, a4⟩
  by_cases w : i = N
  · rw [w] at z ⊢
    rcases hn with hn | hn
    · exact absurd z hn
    · exact hn
  · exact a3 i x (by omega) z
theorem chB.take {N : Int} {v q : Int → Int} {L : Int} (h0 : 0 ≤ N) (ho : chOk v q L N) (h : (∀ i, 0 ≤ i → i < N → ¬ chOk v q L i) ∨ ∃ r, chB N v q L r ∧ v N < v r) : chB (N + 1) v q L N := by
  refine ⟨by omega, ho, fun i x y z => ?_, fun i x y z => ?_⟩
  · by_cases w : i = N
    · rw [w]; omega
    · rcases h with h | ⟨r, h, h1⟩
      · exact absurd z (h i x (by omega))
      · have := h.2.2.1 i x (by omega) z
        omega
  · rcases h with h | ⟨r, h, h1⟩
    · exact absurd z (h i x y)
    · have := h.2.2.1 i x y z
      omega
theorem chNo.succ {N : Int} {v q : Int → Int} {L : Int} (h : ∀ i, 0 ≤ i → i < N → ¬ chOk v q L i) (hn : ¬ chOk v q L N) : ∀ i, 0 ≤ i → i < N + 1 → ¬ chOk v q L i := by
  intro i a b
  by_cases w : i = N
  · rw [w]; exact hn
  · exact h i a (by omega)
