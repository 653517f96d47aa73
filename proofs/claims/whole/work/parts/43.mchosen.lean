/-! chosen on the reference -/
def chF (h g : aH) : Prop := (∀ c, c ≠ 85 → (c < 97 ∨ 102 < c) → c ≠ 109 → g c = h c) ∧ ∀ i, i ≠ 26 → g 85 i = h 85 i
theorem r_isLongest {h : aH} {Q : aQ} {q : Int → Int} {i : Int} (hN : h 85 33 ≤ 48) (hi : 0 ≤ i ∧ i < h 85 33)
    (hta : ∀ (j : Int) (Q' : aQ), 0 ≤ j → j < h 85 33 → Q' (q j) h → aRun mX10_tabuAt 0 [aR 85, aI (h 105 j)] h Q')
    (k : ∀ r, (r = 0 ∨ r = 1) → (r = 1 ↔ ∀ j, 0 ≤ j → j < h 85 33 → q i ≤ q j) → Q r h) : aRun mX10_isLongest 1 [aR 85, aI i] h Q := by
  refine e_X10_isLongest ?_
  suffices H : ∀ (d : Nat) (l2 j : Int), 0 ≤ j → j ≤ h 85 33 → h 85 33 - j ≤ d → (l2 = 0 ∨ l2 = 1) → (l2 = 1 ↔ ∀ j', 0 ≤ j' → j' < j → q i ≤ q j') → AW mX10_isLongest 1 4 [some (aR 85), some (aI i), some (aI l2), some (aI j)] [] h Q from
    H (h 85 33).toNat 1 0 (by omega) (by omega) (by omega) (Or.inr rfl) ⟨fun _ j' a b => by omega, fun _ => rfl⟩
  intro d
  induction d with
  | zero =>
    intro l2 j j0 j1 hd hl hI
    refine s_X10_isLongest_4 ⟨fun _ => ⟨hl, ?_⟩, fun z => by omega⟩
    have e : j = h 85 33 := by omega
    rw [e] at hI
    exact k l2 hl hI
  | succ d ih =>
    intro l2 j j0 j1 hd hl hI
    refine s_X10_isLongest_4 ⟨fun z => ⟨hl, ?_⟩, fun z => ⟨fun y => ⟨by unfold inR; omega, ?_⟩, fun y => ⟨by omega, ?_⟩⟩⟩
    · have e : j = h 85 33 := by omega
      rw [e] at hI
      exact k l2 hl hI
    · refine ih 0 (j + 1) (by omega) (by omega) (by omega) (Or.inl rfl) ⟨fun w => by omega, fun w => ?_⟩
      have := hI.2 (fun j' a b => w j' a (by omega))
      omega
    · refine hta j _ j0 (by omega) ⟨by omega, ?_⟩
      refine hta i _ hi.1 hi.2 ⟨by unfold inR; omega, ?_⟩
      have hI := hI.1 (by omega)
      refine ih _ (j + 1) (by omega) (by omega) (by omega) ?_ ?_
      · by_cases w : q j < q i
        · rw [if_pos w]; exact Or.inl rfl
        · rw [if_neg w]; exact Or.inr rfl
      · by_cases w : q j < q i
        · rw [if_pos w]
          refine ⟨fun u => by omega, fun u => ?_⟩
          have := u j j0 (by omega)
          omega
        · rw [if_neg w]
          refine ⟨fun _ j' a b => ?_, fun _ => rfl⟩
          by_cases u : j' = j
          · rw [u]; omega
          · exact hI j' a (by omega)
theorem minEx {q : Int → Int} : ∀ (N : Nat), 0 < N → ∃ j, (0 ≤ j ∧ j < (N : Int)) ∧ ∀ j', 0 ≤ j' → j' < (N : Int) → q j ≤ q j' := by
  intro N
  induction N with
  | zero => intro h; omega
  | succ N ih =>
    intro _
    by_cases z : N = 0
    · refine ⟨0, by omega, fun j' a b => ?_⟩
      rw [show j' = 0 by omega]
      omega
    · obtain ⟨j, a, b⟩ := ih (by omega)
      by_cases y : q j ≤ q N
      · refine ⟨j, by omega, fun j' c d => ?_⟩
        by_cases x : j' = N
        · rw [x]; exact y
        · exact b j' c (by omega)
      · refine ⟨N, by omega, fun j' c d => ?_⟩
        by_cases x : j' = N
        · rw [x]; omega
        · have := b j' c (by omega)
          omega
def chJ (N i : Int) (v q : Int → Int) (L l1 : Int) : Prop := chB N v q L l1 ∨ ((∀ j, 0 ≤ j → j < N → ¬ chOk v q L j) ∧ ((l1 = -1 ∧ ∀ j, 0 ≤ j → j < i → ∃ j', (0 ≤ j' ∧ j' < N) ∧ q j' < q j) ∨ chL N q l1))
theorem chF.trans {h g g' : aH} (a : chF h g) (b : rkF g g') : chF h g' := ⟨fun c x y z => (b.1 c x y).trans (a.1 c x y z), fun i x => (b.2 i x).trans (a.2 i x)⟩
theorem r_mChosen {h : aH} {Q : aQ} {v q : Int → Int} (hN : 0 ≤ h 85 33 ∧ h 85 33 ≤ 48) (hq : ∀ i, 0 ≤ i → i < h 85 33 → -1 ≤ q i)
    (hsp : ∀ (g : aH) (i : Int) (Q' : aQ), chF h g → 0 ≤ i → i < h 85 33 → (∀ g', rkF g g' → Q' (v i) g') → aRun mX10_spanBehind 4 [aR 85, aI (h 105 i)] g Q')
    (hta : ∀ (g : aH) (i : Int) (Q' : aQ), chF h g → 0 ≤ i → i < h 85 33 → Q' (q i) g → aRun mX10_tabuAt 0 [aR 85, aI (h 105 i)] g Q')
    (k : ∀ g r, chF h g → (∀ j, 0 ≤ j → j < h 85 33 → g 109 j = v j) → ((h 85 33 = 0 ∧ r = -1) ∨ (0 < h 85 33 ∧ chP (h 85 33) v q (h 85 38) r)) → Q r g) : aRun mX10_chosen 5 [aR 85] h Q := by
  refine e_X10_chosen ?_
  have fin : ∀ (g : aH) (l1 i : Int), chF h g → (∀ j, 0 ≤ j → j < h 85 33 → g 109 j = v j) → (0 ≤ l1 ∨ h 85 33 ≤ i) → chJ (h 85 33) i v q (h 85 38) l1 → Q l1 g := by
    intro g l1 i hf hv hl hI
    refine k g l1 hf hv ?_
    rcases hI with a | ⟨a, b | b⟩
    · have := a.1; exact Or.inr ⟨by omega, Or.inl a⟩
    · by_cases z : h 85 33 = 0
      · exact Or.inl ⟨z, b.1⟩
      · exfalso
        obtain ⟨j, c, d⟩ := minEx (q := q) (h 85 33).toNat (by omega)
        obtain ⟨b1, b2⟩ := b
        obtain ⟨j', e, f⟩ := b2 j c.1 (by omega)
        have := d j' e.1 (by omega)
        omega
    · have := b.1; exact Or.inr ⟨by omega, Or.inr ⟨a, b⟩⟩
  have H2 : ∀ (d : Nat) (g : aH) (l1 i : Int), chF h g → (∀ j, 0 ≤ j → j < h 85 33 → g 109 j = v j) → 0 ≤ i → i ≤ h 85 33 → h 85 33 - i ≤ d → chJ (h 85 33) i v q (h 85 38) l1 → AW mX10_chosen 5 93 [some (aR 85), some (aI l1), some (aI i), none] [] g Q := by
    intro d
    induction d with
    | zero =>
      intro g l1 i hf hv i0 i1 hd hI
      refine s_X10_chosen_93 ⟨fun _ => fin g l1 i hf hv (by omega) hI, fun z => ?_⟩
      rw [hf.2 33 (by omega)] at z
      omega
    | succ d ih =>
      intro g l1 i hf hv i0 i1 hd hI
      refine s_X10_chosen_93 ⟨fun z => ?_, fun z => ⟨fun y => fin g l1 i hf hv (Or.inl y) hI, fun y => ?_⟩⟩
      · rw [hf.2 33 (by omega)] at z
        exact fin g l1 i hf hv (by omega) hI
      · rw [hf.2 33 (by omega)] at z
        have e33 : g 85 33 = h 85 33 := hf.2 33 (by omega)
        have e105 : g 105 = h 105 := hf.1 105 (by omega) (by omega) (by omega)
        refine r_isLongest (q := q) (by omega) (by omega) (fun j Q' a b c => ?_) (fun r hr hr2 => ⟨by unfold inR; omega, ?_⟩)
        · rw [e105]
          exact hta g j Q' hf a (by omega) c
        · rw [e33] at hr2
          rcases hI with a | ⟨a, b | b⟩
          · have := a.1; omega
          · refine ih g _ (i + 1) hf hv (by omega) (by omega) (by omega) ?_
            by_cases w : r = 0
            · rw [if_pos w]
              refine Or.inr ⟨a, Or.inl ⟨b.1, fun j x y => ?_⟩⟩
              by_cases u : j = i
              · rw [u]
                refine Classical.byContradiction (fun n => ?_)
                have : r = 1 := hr2.2 (fun j' c d => Classical.byContradiction (fun m => n ⟨j', ⟨c, d⟩, by omega⟩))
                omega
              · exact b.2 j x (by omega)
            · rw [if_neg w]
              have hm := hr2.1 (by omega)
              refine Or.inr ⟨a, Or.inr ⟨by omega, hm, fun j x y => ?_⟩⟩
              obtain ⟨j', c, d⟩ := b.2 j x y
              have := hm j' c.1 c.2
              omega
          · have := b.1; omega
  suffices H : ∀ (d : Nat) (g : aH) (l1 i : Int), chF h g → (∀ j, 0 ≤ j → j < i → g 109 j = v j) → 0 ≤ i → i ≤ h 85 33 → h 85 33 - i ≤ d → ((l1 = -1 ∧ ∀ j, 0 ≤ j → j < i → ¬ chOk v q (h 85 38) j) ∨ chB i v q (h 85 38) l1) → AW mX10_chosen 5 4 [some (aR 85), some (aI l1), some (aI i), none] [] g Q from
    H (h 85 33).toNat h (-1) 0 ⟨fun _ _ _ _ => rfl, fun _ _ => rfl⟩ (fun j a b => by omega) (by omega) (by omega) (by omega) (Or.inl ⟨rfl, fun j a b => by omega⟩)
  have fin2 : ∀ (g : aH) (l1 i : Int), chF h g → (∀ j, 0 ≤ j → j < i → g 109 j = v j) → i = h 85 33 → ((l1 = -1 ∧ ∀ j, 0 ≤ j → j < i → ¬ chOk v q (h 85 38) j) ∨ chB i v q (h 85 38) l1) → AW mX10_chosen 5 93 [some (aR 85), some (aI l1), some (aI 0), none] [] g Q := by
    intro g l1 i hf hv hi hI
    rw [hi] at hv hI
    refine H2 (h 85 33).toNat g l1 0 hf hv (by omega) (by omega) (by omega) ?_
    rcases hI with a | a
    · exact Or.inr ⟨a.2, Or.inl ⟨a.1, fun j x y => by omega⟩⟩
    · exact Or.inl a
  intro d
  induction d with
  | zero =>
    intro g l1 i hf hv i0 i1 hd hI
    refine s_X10_chosen_4 ⟨fun _ => fin2 g l1 i hf hv (by omega) hI, fun z => ?_⟩
    rw [hf.2 33 (by omega)] at z
    omega
  | succ d ih =>
    intro g l1 i hf hv i0 i1 hd hI
    refine s_X10_chosen_4 ⟨fun z => ?_, fun z => ⟨?_, ?_⟩⟩
    · rw [hf.2 33 (by omega)] at z
      exact fin2 g l1 i hf hv (by omega) hI
    · rw [hf.2 33 (by omega)] at z
      omega
    · rw [hf.2 33 (by omega)] at z
      have z : i < h 85 33 := by omega
      rw [hf.1 105 (by omega) (by omega) (by omega)]
      refine hsp g i _ hf i0 z (fun g2 hf2 => ?_)
      have hf3 : chF h (a_up g2 109 i (v i)) := ⟨fun c x y w => (a_up_ne w).trans ((hf.trans hf2).1 c x y w), fun j x => (congrFun (a_up_ne (by omega)) j).trans ((hf.trans hf2).2 j x)⟩
      have e105 : g2 105 = h 105 := (hf.trans hf2).1 105 (by omega) (by omega) (by omega)
      rw [e105]
      have hv3 : ∀ j, 0 ≤ j → j < i + 1 → a_up g2 109 i (v i) 109 j = v j := by
        intro j x y
        by_cases w : j = i
        · rw [w, a_up_eq]
        · rw [a_up_off w, hf2.1 109 (by omega) (by omega)]
          exact hv j x (by omega)
      refine hta _ i _ hf3 i0 z ?_
      generalize a_up g2 109 i (v i) = g3 at hf3 hv3
      have e38 : g3 85 38 = h 85 38 := hf3.2 38 (by omega)
      have ei := hv3 i i0 (by omega)
      have hqi := hq i i0 z
      rw [e38, ei]
      have inr : inR (i + 1) := by unfold inR; omega
      have go : ∀ l1, ((l1 = -1 ∧ ∀ j, 0 ≤ j → j < i + 1 → ¬ chOk v q (h 85 38) j) ∨ chB (i + 1) v q (h 85 38) l1) → inR (i + 1) ∧ AW mX10_chosen 5 4 [some (aR 85), some (aI l1), some (aI (i + 1)), none] [] g3 Q := fun l1 hI' => ⟨inr, ih g3 l1 (i + 1) hf3 hv3 (by omega) (by omega) (by omega) hI'⟩
      have hc : ((if q i < 0 then (1 : Int) else (if h 85 38 ≤ v i then (0 : Int) else (1 : Int))) = 0) ↔ ¬ chOk v q (h 85 38) i := by
        unfold chOk
        by_cases w : q i < 0
        · rw [if_pos w]; omega
        · rw [if_neg w]
          by_cases u : h 85 38 ≤ v i
          · rw [if_pos u]; omega
          · rw [if_neg u]; omega
      refine ⟨fun x => go l1 ?_, fun x => ?_⟩
      · have nok := hc.1 x
        rcases hI with a | a
        · exact Or.inl ⟨a.1, chNo.succ a.2 nok⟩
        · exact Or.inr (a.keep (Or.inl nok))
      · have ok : chOk v q (h 85 38) i := Classical.byContradiction (fun n => x (hc.2 n))
        refine ⟨fun y => go i ?_, fun y => ⟨?_, fun w => go l1 ?_, fun w => go i ?_⟩⟩
        · rcases hI with a | a
          · exact Or.inr (chB.take i0 ok (Or.inl a.2))
          · have := a.1; omega
        · rcases hI with a | a
          · have := a.1; omega
          · have := a.1; omega
        · rcases hI with a | a
          · have := a.1; omega
          · have a1 := a.1
            rw [hv3 l1 a1.1 (by omega)] at w
            exact Or.inr (a.keep (Or.inr w))
        · rcases hI with a | a
          · have := a.1; omega
          · have a1 := a.1
            rw [hv3 l1 a1.1 (by omega)] at w
            exact Or.inr (chB.take i0 ok (Or.inr ⟨l1, a, by omega⟩))
