theorem r_addMove {h : aH} {Q : aQ} {p to : Int} {L : List Int} (hp : 0 ≤ p ∧ p ≤ 24) (hto : to ≤ 24) (hw : ∀ i, 0 ≤ i → i < to → 0 ≤ h 39 i ∧ h 39 i < 24) (hL : okMv L (h 41) (h 38 5)) (hlen : L.length < 24)
    (k : ∀ g, (∀ c, c ≠ 38 → c ≠ 41 → g c = h c) → (∀ i, i ≠ 5 → g 38 i = h 38 i) → okMv (mvAdd (h 4) (h 39) p to L) (g 41) (g 38 5) → Q 0 g) : aRun mX6_addMove 0 [aR 38, aR 3, aI p, aI to] h Q := by
  refine e_X6_addMove ⟨by omega, fun q => ?_, fun q => ?_⟩
  · refine k h (fun _ _ _ => rfl) (fun _ _ => rfl) ?_
    unfold mvAdd
    rw [if_neg (by omega)]
    exact hL
  · have w1 := hw p hp.1 (by omega)
    have w2 := hw (p + 1) (by omega) (by omega)
    refine ⟨by omega, by omega, by omega, by omega, fun q1 => ?_, fun q1 => ?_⟩
    · refine k h (fun _ _ _ => rfl) (fun _ _ => rfl) ?_
      unfold mvAdd
      rw [if_neg (fun z => z.2 q1)]
      exact hL
    · have h5 := hL.1
      refine ⟨by omega, by omega, ?_⟩
      refine k _ (fun c a b => by rw [a_up_ne a, a_up_ne b]) (fun i hi => by rw [a_up_fn, up1_ne hi, a_up_ne (by decide)]) ?_
      rw [a_up_ne (by decide), a_up_fn, a_up_fn, up1_eq]
      unfold mvAdd
      rw [if_pos ⟨by omega, q1⟩]
      exact hL.push
set_option maxHeartbeats 2000000 in
theorem r_findMoves {h : aH} {Q : aQ} (hwl : h 38 1 ≤ 24) (hr : ∀ i, 0 ≤ i → i < h 38 1 → 0 ≤ h 39 i ∧ h 39 i < 24) (hb : okBlocks (h 6) (h 39) (h 38 1) (h 40) (h 38 3))
    (k : ∀ g, (∀ c, c ≠ 38 → c ≠ 41 → g c = h c) → (∀ i, i ≠ 5 → g 38 i = h 38 i) → okMv (mvF (h 38 3) (h 40) (h 4) (h 39)) (g 41) (g 38 5) → Q 0 g) : aRun mX6_findMoves 1 [aR 38, aR 3] h Q := by
  have z5 : (a_up h 38 5 0) 38 = up1 (h 38) 5 0 := a_up_fn
  have zo : ∀ c, c ≠ 38 → (a_up h 38 5 0) c = h c := fun c hc => a_up_ne hc
  have b1 := hb.1
  refine e_X6_findMoves ⟨fun q => ?_, fun q => ?_⟩
  rotate_left
  · refine k _ (fun c a _ => zo c a) (fun i hi => by rw [z5, up1_ne hi]) ?_
    unfold mvF
    rw [if_pos (by omega), z5, up1_eq, zo 41 (by decide)]
    exact ⟨rfl, fun i hi => absurd hi (Nat.not_lt_zero i)⟩
  suffices H : ∀ (d : Nat) (b : Nat) (g : aH), (b : Int) ≤ h 38 3 → h 38 3 - b ≤ d → (∀ c, c ≠ 38 → c ≠ 41 → g c = h c) → (∀ i, i ≠ 5 → g 38 i = h 38 i) → okMv (mvL (h 38 3) (h 40) (h 4) (h 39) b) (g 41) (g 38 5) → ((mvL (h 38 3) (h 40) (h 4) (h 39) b).length : Int) ≤ h 40 b → AW mX6_findMoves 1 16 [some (aR 38), some (aR 3), some (aI (b : Int)), none, none, none] [] g Q by
    refine H 24 0 _ (by omega) (by omega) (fun c a _ => zo c a) (fun i hi => by rw [z5, up1_ne hi]) ?_ ?_
    · rw [z5, up1_eq, zo 41 (by decide)]
      exact ⟨rfl, fun i hi => absurd hi (Nat.not_lt_zero i)⟩
    · have := (hb.at (b := 0) (by omega) (by omega)).1
      exact this
  have hfin : ∀ (b : Nat) (g : aH), (b : Int) = h 38 3 → (∀ c, c ≠ 38 → c ≠ 41 → g c = h c) → (∀ i, i ≠ 5 → g 38 i = h 38 i) → okMv (mvL (h 38 3) (h 40) (h 4) (h 39) b) (g 41) (g 38 5) → Q 0 g := by
    intro b g e hf hfi ho
    refine k g hf hfi ?_
    unfold mvF
    rw [if_neg (by omega), show (h 38 3).toNat = b by omega]
    exact ho
  intro d
  induction d with
  | zero =>
    intro b g hb1 hd hf hfi ho hlen
    have e3 : g 38 3 = h 38 3 := hfi 3 (by decide)
    exact s_X6_findMoves_16 ⟨fun _ => hfin b g (by omega) hf hfi ho, fun q => absurd q (by omega)⟩
  | succ d ih =>
    intro b g hb1 hd hf hfi ho hlen
    have e3 : g 38 3 = h 38 3 := hfi 3 (by decide)
    refine s_X6_findMoves_16 ⟨fun _ => hfin b g (by omega) hf hfi ho, fun q => ?_⟩
    rw [e3] at q
    have c0 := hb.at (b := b) (by omega) (by omega)
    have c1 := hb.at (b := (b : Int) + 1) (by omega) (by omega)
    have c2 := hb.2.2.2.1 b (by omega) (by omega)
    have hgo : ∀ g1 : aH, (∀ c, c ≠ 38 → c ≠ 41 → g1 c = h c) → (∀ i, i ≠ 5 → g1 38 i = h 38 i) → okMv (mvStep (h 38 3) (h 40) (h 4) (h 39) b (mvL (h 38 3) (h 40) (h 4) (h 39) b)) (g1 41) (g1 38 5) → AW mX6_findMoves 1 16 [some (aR 38), some (aR 3), some (aI ((b : Int) + 1)), none, none, none] [] g1 Q := by
      intro g1 f1 f2 f3
      exact ih (b + 1) g1 (by omega) (by omega) f1 f2 f3 (by
        have := mvStep_len (nb := h 38 3) (e := h 40) (job := h 4) (w := h 39) (b := b) (L := mvL (h 38 3) (h 40) (h 4) (h 39) b) (by omega) c2 hlen
        exact this)
    rw [hf 40 (by decide) (by decide)]
    refine ⟨by omega, by omega, by omega, fun q1 => ?_, fun q1 => ?_⟩
    · rw [e3, if_pos q1]
      have l0 : (mvL (h 38 3) (h 40) (h 4) (h 39) b).length = 0 := by
        have : (b : Int) = 0 := by omega
        rw [this] at hlen
        have := hb.2.1
        omega
      have skip : ¬ ((b : Int) < h 38 3 - 1 ∧ h 40 b ≤ h 40 ((b : Int) + 1) - 2) → okMv (mvStep (h 38 3) (h 40) (h 4) (h 39) b (mvL (h 38 3) (h 40) (h 4) (h 39) b)) (g 41) (g 38 5) := fun z => by
        unfold mvStep
        rw [if_neg (fun y => z ⟨y.1, y.2.1⟩), if_neg (by omega)]
        exact ho
      refine ⟨fun z => by omega, by omega, fun q2 => hgo g hf hfi (skip (by omega)), fun q2 => ⟨by omega, fun q3 => hgo g hf hfi (skip (by omega)), fun q3 => ⟨fun _ => ?_, fun q4 => absurd rfl q4⟩⟩⟩
      refine r_addMove (L := mvL (h 38 3) (h 40) (h 4) (h 39) b) (by omega) (by omega) (fun i a c => by rw [hf 39 (by decide) (by decide)]; exact hr i a (by omega)) ho (by omega) (fun g1 f1 f2 f3 => ?_)
      refine hgo g1 (fun c a b => (f1 c a b).trans (hf c a b)) (fun i hi => (f2 i hi).trans (hfi i hi)) ?_
      rw [hf 4 (by decide) (by decide), hf 39 (by decide) (by decide)] at f3
      unfold mvStep
      rw [if_pos ⟨by omega, by omega, by omega⟩, if_neg (by omega)]
      exact f3
    · refine r_addMove (L := mvL (h 38 3) (h 40) (h 4) (h 39) b) (by omega) (by omega) (fun i a c => by rw [hf 39 (by decide) (by decide)]; exact hr i a (by omega)) ho (by omega) (fun g1 f1 f2 f3 => ?_)
      rw [hf 4 (by decide) (by decide), hf 39 (by decide) (by decide)] at f3
      have F1 : ∀ c, c ≠ 38 → c ≠ 41 → g1 c = h c := fun c a b => (f1 c a b).trans (hf c a b)
      have F2 : ∀ i, i ≠ 5 → g1 38 i = h 38 i := fun i hi => (f2 i hi).trans (hfi i hi)
      rw [F2 3 (by decide), if_neg q1]
      have a1 := mvAdd_len (job := h 4) (w := h 39) (p := h 40 b) (to := h 40 ((b : Int) + 1)) (L := mvL (h 38 3) (h 40) (h 4) (h 39) b)
      have skip : ¬ ((b : Int) < h 38 3 - 1 ∧ h 40 b ≤ h 40 ((b : Int) + 1) - 2 ∧ ¬ (0 < (b : Int) ∧ h 40 ((b : Int) + 1) - h 40 b = 2)) → okMv (mvStep (h 38 3) (h 40) (h 4) (h 39) b (mvL (h 38 3) (h 40) (h 4) (h 39) b)) (g1 41) (g1 38 5) := fun z => by
        unfold mvStep
        rw [if_neg z, if_pos (by omega)]
        exact f3
      refine ⟨fun z => by omega, by omega, fun q2 => hgo g1 F1 F2 (skip (by omega)), fun q2 => ⟨by omega, fun q3 => hgo g1 F1 F2 (skip (by omega)), fun q3 => ⟨fun q4 => ?_, fun q4 => ?_⟩⟩⟩
      · have h2 : ¬ (h 40 ((b : Int) + 1) - h 40 b = 2) := fun y => by rw [if_pos y] at q4; omega
        refine r_addMove (L := mvAdd (h 4) (h 39) (h 40 b) (h 40 ((b : Int) + 1)) (mvL (h 38 3) (h 40) (h 4) (h 39) b)) (by omega) (by omega) (fun i a c => by rw [F1 39 (by decide) (by decide)]; exact hr i a (by omega)) f3 (by omega) (fun g2 f4 f5 f6 => ?_)
        rw [F1 4 (by decide) (by decide), F1 39 (by decide) (by decide)] at f6
        refine hgo g2 (fun c a b => (f4 c a b).trans (F1 c a b)) (fun i hi => (f5 i hi).trans (F2 i hi)) ?_
        unfold mvStep
        rw [if_pos ⟨by omega, by omega, by omega⟩, if_pos (by omega)]
        exact f6
      · have h2 : h 40 ((b : Int) + 1) - h 40 b = 2 := by
          by_cases y : h 40 ((b : Int) + 1) - h 40 b = 2
          · exact y
          · rw [if_neg y] at q4; exact absurd rfl q4
        exact hgo g1 F1 F2 (skip (by omega))
