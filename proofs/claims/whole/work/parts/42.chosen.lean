/-! which move a step takes -/
def chOk (v q : Int → Int) (L : Int) (i : Int) : Prop := q i = -1 ∨ v i < L
def chB (N : Int) (v q : Int → Int) (L r : Int) : Prop := (0 ≤ r ∧ r < N) ∧ chOk v q L r ∧ (∀ i, 0 ≤ i → i < N → chOk v q L i → v r ≤ v i) ∧ ∀ i, 0 ≤ i → i < r → chOk v q L i → v r < v i
def chL (N : Int) (q : Int → Int) (r : Int) : Prop := (0 ≤ r ∧ r < N) ∧ (∀ i, 0 ≤ i → i < N → q r ≤ q i) ∧ ∀ i, 0 ≤ i → i < r → q r < q i
def chP (N : Int) (v q : Int → Int) (L r : Int) : Prop := chB N v q L r ∨ ((∀ i, 0 ≤ i → i < N → ¬ chOk v q L i) ∧ chL N q r)
theorem chB.unique {N : Int} {v q : Int → Int} {L r r' : Int} (h : chB N v q L r) (h' : chB N v q L r') : r = r' := by
  obtain ⟨a1, a2, a3, a4⟩ := h
  obtain ⟨b1, b2, b3, b4⟩ := h'
  have c1 := a3 r' b1.1 b1.2 b2
  have c2 := b3 r a1.1 a1.2 a2
  by_cases z : r < r'
  · have := b4 r a1.1 z a2
    omega
  · by_cases y : r' < r
    · have := a4 r' b1.1 y b2
      omega
    · omega
theorem chL.unique {N : Int} {q : Int → Int} {r r' : Int} (h : chL N q r) (h' : chL N q r') : r = r' := by
  obtain ⟨a1, a3, a4⟩ := h
  obtain ⟨b1, b3, b4⟩ := h'
  have c1 := a3 r' b1.1 b1.2
  have c2 := b3 r a1.1 a1.2
  by_cases z : r < r'
  · have := b4 r a1.1 z
    omega
  · by_cases y : r' < r
    · have := a4 r' b1.1 y
      omega
    · omega
theorem chP.unique {N : Int} {v q : Int → Int} {L r r' : Int} (h : chP N v q L r) (h' : chP N v q L r') : r = r' := by
  rcases h with a | ⟨a, b⟩ <;> rcases h' with a' | ⟨a', b'⟩
  · exact a.unique a'
  · exact absurd a.2.1 (a' r a.1.1 a.1.2)
  · exact absurd a'.2.1 (a r' a'.1.1 a'.1.2)
  · exact b.unique b'
theorem chB.keep {N : Int} {v q : Int → Int} {L r : Int} (h : chB N v q L r) (hn : ¬ chOk v q L N ∨ v r ≤ v N) : chB (N + 1) v q L r := by
  obtain ⟨a1, a2, a3, a4⟩ := h
  refine ⟨by omega, a2, fun i x y z => ?_, a4⟩
  by_cases w : i = N
  · rw [w] at z ⊢
    rcases hn with hn | hn
    · exact absurd z hn
    · exact hn
  · exact a3 i x (by omega) z
theorem chB.take {N : Int} {v q : Int → Int} {L : Int} (h0 : 0 ≤ N) (ho : chOk v q L N) (h : (∀ i, 0 ≤ i → i < N → ¬ chOk v q L i) ∨ ∃ r, chB N v q L r ∧ v N < v r) : chB (N + 1) v q L N := by
  refine ⟨by omega, ho, fun i x y z => ?_, fun i x y z => ?_⟩
  · by_cases w : i = N
    · rw [w]; omega
    · rcases h with h | ⟨r, h, h1⟩
      · exact absurd z (h i x (by omega))
      · have := h.2.2.1 i x (by omega) z
        omega
  · rcases h with h | ⟨r, h, h1⟩
    · exact absurd z (h i x y)
    · have := h.2.2.1 i x y z
      omega
theorem chNo.succ {N : Int} {v q : Int → Int} {L : Int} (h : ∀ i, 0 ≤ i → i < N → ¬ chOk v q L i) (hn : ¬ chOk v q L N) : ∀ i, 0 ≤ i → i < N + 1 → ¬ chOk v q L i := by
  intro i a b
  by_cases w : i = N
  · rw [w]; exact hn
  · exact h i a (by omega)
theorem chL.keep {N : Int} {q : Int → Int} {r : Int} (h : chL N q r) (hn : q r ≤ q N) : chL (N + 1) q r := by
  obtain ⟨a1, a3, a4⟩ := h
  refine ⟨by omega, fun i x y => ?_, a4⟩
  by_cases w : i = N
  · rw [w]; exact hn
  · exact a3 i x (by omega)
theorem chL.take {N : Int} {q : Int → Int} (h0 : 0 ≤ N) (h : N = 0 ∨ ∃ r, chL N q r ∧ q N < q r) : chL (N + 1) q N := by
  refine ⟨by omega, fun i x y => ?_, fun i x y => ?_⟩
  · by_cases w : i = N
    · rw [w]; omega
    · rcases h with h | ⟨r, h, h1⟩
      · omega
      · have := h.2.1 i x (by omega)
        omega
  · rcases h with h | ⟨r, h, h1⟩
    · omega
    · have := h.2.1 i x y
      omega
def chI (N : Int) (v q : Int → Int) (L l1 l2 l3 l4 : Int) : Prop := (l1 = -1 ∧ (∀ i, 0 ≤ i → i < N → ¬ chOk v q L i) ∧ ((N = 0 ∧ l4 = 9) ∨ (chL N q l3 ∧ l4 = q l3))) ∨ (chB N v q L l1 ∧ l2 = v l1)
theorem r_cChosen {h : aH} {Q : aQ} {v q : Int → Int} (hN : 0 < h 38 5 ∧ h 38 5 ≤ 24) (hq : ∀ i, 0 ≤ i → i < h 38 5 → -1 ≤ q i ∧ q i < 9)
    (hsp : ∀ (g : aH) (i : Int) (Q' : aQ), (∀ c, (c < 29 ∨ 37 < c) → g c = h c) → 0 ≤ i → i < h 38 5 → (∀ g', (∀ c, (c < 29 ∨ 37 < c) → g' c = h c) → Q' (v i) g') → aRun mX9_spanBehind 3 [aR 0, aI i] g Q')
    (hks : ∀ (g : aH) (i : Int) (Q' : aQ), (∀ c, (c < 29 ∨ 37 < c) → g c = h c) → 0 ≤ i → i < h 38 5 → Q' (q i) g → aRun mX9_keptSince 1 [aR 0, aI i] g Q')
    (k : ∀ g r, (∀ c, (c < 29 ∨ 37 < c) → g c = h c) → chP (h 38 5) v q (h 0 15) r → Q r g) : aRun mX9_chosen 4 [aR 0] h Q := by
  refine e_X9_chosen ?_
  suffices H : ∀ (d : Nat) (g : aH) (l1 l2 l3 l4 i : Int), (∀ c, (c < 29 ∨ 37 < c) → g c = h c) → 0 ≤ i → i ≤ h 38 5 → h 38 5 - i ≤ d → chI i v q (h 0 15) l1 l2 l3 l4 → AW mX9_chosen 4 13 [some (aR 0), some (aI l1), some (aI l2), some (aI l3), some (aI l4), some (aI i), none, none] [] g Q from
    H (h 38 5).toNat h (-1) 0 0 9 0 (fun _ _ => rfl) (by omega) (by omega) (by omega) (Or.inl ⟨rfl, fun i a b => by omega, Or.inl ⟨rfl, rfl⟩⟩)
  intro d
  induction d with
  | zero =>
    intro g l1 l2 l3 l4 i hf i0 i1 hd hI
    refine s_X9_chosen_13 ⟨fun _ => ?_, fun z => ?_⟩
    · have e : i = h 38 5 := by omega
      rw [e] at hI
      rcases hI with ⟨x, y, z⟩ | ⟨x, y⟩
      · rw [if_pos x]
        refine k g _ hf (Or.inr ⟨y, ?_⟩)
        rcases z with z | z
        · omega
        · exact z.1
      · rw [if_neg (by have := x.1; omega)]
        exact k g _ hf (Or.inl x)
    · rw [hf 38 (by omega)] at z
      omega
  | succ d ih =>
    intro g l1 l2 l3 l4 i hf i0 i1 hd hI
    refine s_X9_chosen_13 ⟨fun z => ?_, fun z => ?_⟩
    · rw [hf 38 (by omega)] at z
      have e : i = h 38 5 := by omega
      rw [e] at hI
      rcases hI with ⟨x, y, z⟩ | ⟨x, y⟩
      · rw [if_pos x]
        refine k g _ hf (Or.inr ⟨y, ?_⟩)
        rcases z with z | z
        · omega
        · exact z.1
      · rw [if_neg (by have := x.1; omega)]
        exact k g _ hf (Or.inl x)
    · rw [hf 38 (by omega)] at z
      have z : i < h 38 5 := by omega
      refine hsp g i _ hf i0 z (fun g' hf' => ?_)
      refine hks g' i _ hf' i0 z ?_
      have inr : inR (i + 1) := by unfold inR; omega
      have hqi := hq i i0 z
      have go : ∀ l1 l2 l3 l4, chI (i + 1) v q (h 0 15) l1 l2 l3 l4 → inR (i + 1) ∧ AW mX9_chosen 4 13 [some (aR 0), some (aI l1), some (aI l2), some (aI l3), some (aI l4), some (aI (i + 1)), none, none] [] g' Q := fun l1 l2 l3 l4 hI' => ⟨inr, ih g' l1 l2 l3 l4 (i + 1) hf' (by omega) (by omega) (by omega) hI'⟩
      have hok : chOk v q (h 0 15) i → (l1 = -1 → chI (i + 1) v q (h 0 15) i (v i) l3 l4) ∧ (¬ l1 = -1 → (l2 ≤ v i → chI (i + 1) v q (h 0 15) l1 l2 l3 l4) ∧ (¬ l2 ≤ v i → chI (i + 1) v q (h 0 15) i (v i) l3 l4)) := by
        intro ok
        refine ⟨fun x => ?_, fun x => ⟨fun y => ?_, fun y => ?_⟩⟩
        · rcases hI with ⟨-, w, -⟩ | ⟨w, -⟩
          · exact Or.inr ⟨chB.take i0 ok (Or.inl w), rfl⟩
          · have := w.1; omega
        · rcases hI with ⟨w, -⟩ | ⟨w, w2⟩
          · exact absurd w x
          · exact Or.inr ⟨w.keep (Or.inr (by omega)), w2⟩
        · rcases hI with ⟨w, -⟩ | ⟨w, w2⟩
          · exact absurd w x
          · exact Or.inr ⟨chB.take i0 ok (Or.inr ⟨l1, w, by omega⟩), rfl⟩
      refine ⟨fun x => ?_, fun x => ⟨fun y => ?_, fun y => ?_⟩⟩
      · have hok := hok (Or.inl x)
        exact ⟨fun a => go _ _ _ _ (hok.1 a), fun a => ⟨fun b => go _ _ _ _ ((hok.2 a).1 b), fun b => go _ _ _ _ ((hok.2 a).2 b)⟩⟩
      · rw [hf' 0 (by omega)] at y
        have hok := hok (Or.inr y)
        exact ⟨fun a => go _ _ _ _ (hok.1 a), fun a => ⟨fun b => go _ _ _ _ ((hok.2 a).1 b), fun b => go _ _ _ _ ((hok.2 a).2 b)⟩⟩
      · rw [hf' 0 (by omega)] at y
        have nok : ¬ chOk v q (h 0 15) i := fun w => by
          rcases w with w | w
          · exact x w
          · exact y w
        refine ⟨fun a => go _ _ _ _ ?_, fun a => go _ _ _ _ ?_⟩
        · rcases hI with ⟨w1, w2, w3⟩ | ⟨w, w2⟩
          · refine Or.inl ⟨w1, chNo.succ w2 nok, ?_⟩
            rcases w3 with w3 | w3
            · omega
            · exact Or.inr ⟨w3.1.keep (by omega), w3.2⟩
          · exact Or.inr ⟨w.keep (Or.inl nok), w2⟩
        · rcases hI with ⟨w1, w2, w3⟩ | ⟨w, w2⟩
          · refine Or.inl ⟨w1, chNo.succ w2 nok, Or.inr ⟨chL.take i0 ?_, rfl⟩⟩
            rcases w3 with w3 | w3
            · exact Or.inl w3.1
            · exact Or.inr ⟨l3, w3.1, by omega⟩
          · exact Or.inr ⟨w.keep (Or.inl nok), w2⟩
