set_option maxHeartbeats 2000000 in
theorem r_findsMoves {h : aH} {Q : aQ} (hn : 0 < h 85 1 ∧ h 85 1 ≤ 24) (ht : rkT h)
    (k : ∀ g, (∀ c, c ≠ 85 → (c < 103 ∨ 106 < c) → g c = h c) → (∀ i, i ≠ 28 → i ≠ 30 → i ≠ 33 → g 85 i = h 85 i) → okWay (h 85 1) (jN (h 85 1) (h 86)) (h 98) (h 89) (h 99) (mcr h) (h 85 26) (g 103) (g 85 28) → okBlocks (h 88) (g 103) (g 85 28) (g 104) (g 85 30) → okMM (mvF (g 85 30) (g 104) (h 86) (g 103)) (g 103) (mLB h) (g 105) (g 106) (g 85 33) → Q 0 g) : aRun mX10_findsMoves 5 [aR 85] h Q := by
  refine e_X10_findsMoves (r_parts hn ht (fun h2 f1 f2 hw hb => ?_))
  have b1 := hb.1
  have hw1 := hw.1
  have z5 : (a_up h2 85 33 0) 85 = up1 (h2 85) 33 0 := a_up_fn
  have zo : ∀ c, c ≠ 85 → (a_up h2 85 33 0) c = h2 c := fun c hc => a_up_ne hc
  have gLB : ∀ g : aH, (∀ c, c ≠ 85 → c ≠ 105 → c ≠ 106 → g c = h2 c) → (∀ i, i ≠ 33 → g 85 i = h2 85 i) → mLB g = mLB h := by
    intro g hf hfi
    unfold mLB
    rw [hf 87 (by decide) (by decide) (by decide), hf 86 (by decide) (by decide) (by decide), hf 97 (by decide) (by decide) (by decide), hf 98 (by decide) (by decide) (by decide), hf 89 (by decide) (by decide) (by decide), hf 99 (by decide) (by decide) (by decide), hf 100 (by decide) (by decide) (by decide), hfi 1 (by decide), f1 87 (by decide) (by decide) (by decide), f1 86 (by decide) (by decide) (by decide), f1 97 (by decide) (by decide) (by decide), f1 98 (by decide) (by decide) (by decide), f1 89 (by decide) (by decide) (by decide), f1 99 (by decide) (by decide) (by decide), f1 100 (by decide) (by decide) (by decide), f2 1 (by decide) (by decide)]
  have gT : ∀ g : aH, (∀ c, c ≠ 85 → c ≠ 105 → c ≠ 106 → g c = h2 c) → (∀ i, i ≠ 33 → g 85 i = h2 85 i) → rkT g := by
    intro g hf hfi
    exact rkT_congr (fun c a b => by rw [hf c (by omega) (by omega) (by omega)]; exact f1 c (by omega) (by omega) (by omega)) (by rw [hfi 1 (by decide)]; exact f2 1 (by decide) (by decide)) (by rw [hfi 26 (by decide)]; exact f2 26 (by decide) (by decide)) ht
  have fin : ∀ g : aH, (∀ c, c ≠ 85 → c ≠ 105 → c ≠ 106 → g c = h2 c) → (∀ i, i ≠ 33 → g 85 i = h2 85 i) → okMM (mvF (h2 85 30) (h2 104) (h 86) (h2 103)) (h2 103) (mLB h) (g 105) (g 106) (g 85 33) → Q 0 g := by
    intro g hf hfi ho
    refine k g (fun c a b => by rw [hf c a (by omega) (by omega)]; exact f1 c a (by omega) (by omega)) (fun i a b c => by rw [hfi i c]; exact f2 i a b) ?_ ?_ ?_
    · rw [hf 103 (by decide) (by decide) (by decide), hfi 28 (by decide)]; exact hw
    · rw [hf 103 (by decide) (by decide) (by decide), hf 104 (by decide) (by decide) (by decide), hfi 28 (by decide), hfi 30 (by decide)]; exact hb
    · rw [hf 103 (by decide) (by decide) (by decide), hf 104 (by decide) (by decide) (by decide), hfi 30 (by decide)]; exact ho
  suffices H : ∀ (d : Nat) (b : Nat) (g : aH), (b : Int) ≤ h2 85 30 → h2 85 30 - b ≤ d → (∀ c, c ≠ 85 → c ≠ 105 → c ≠ 106 → g c = h2 c) → (∀ i, i ≠ 33 → g 85 i = h2 85 i) → (h2 85 30 ≤ 1 → g 85 33 = 0) → (2 ≤ h2 85 30 → okMM (mvL (h2 85 30) (h2 104) (h 86) (h2 103) b) (h2 103) (mLB h) (g 105) (g 106) (g 85 33)) → ((mvL (h2 85 30) (h2 104) (h 86) (h2 103) b).length : Int) ≤ h2 104 b → AW mX10_findsMoves 5 11 [some (aR 85), some (aI (b : Int)), none, none] [] g Q by
    refine H 24 0 _ (by omega) (by omega) (fun c a _ _ => zo c a) (fun i hi => by rw [z5, up1_ne hi]) (fun _ => by rw [z5, up1_eq]) (fun _ => ?_) ?_
    · rw [z5, up1_eq]
      exact ⟨rfl, fun i hi => absurd hi (Nat.not_lt_zero i)⟩
    · have := (hb.at (b := 0) (by omega) (by omega)).1
      exact this
  have fin1 : ∀ g : aH, (∀ c, c ≠ 85 → c ≠ 105 → c ≠ 106 → g c = h2 c) → (∀ i, i ≠ 33 → g 85 i = h2 85 i) → h2 85 30 ≤ 1 → g 85 33 = 0 → Q 0 g := by
    intro g hf hfi h1 h0
    refine fin g hf hfi ?_
    unfold mvF
    rw [if_pos (by omega), h0]
    exact ⟨rfl, fun i hi => absurd hi (Nat.not_lt_zero i)⟩
  have fin2 : ∀ (b : Nat) (g : aH), (b : Int) = h2 85 30 → (∀ c, c ≠ 85 → c ≠ 105 → c ≠ 106 → g c = h2 c) → (∀ i, i ≠ 33 → g 85 i = h2 85 i) → (h2 85 30 ≤ 1 → g 85 33 = 0) → (2 ≤ h2 85 30 → okMM (mvL (h2 85 30) (h2 104) (h 86) (h2 103) b) (h2 103) (mLB h) (g 105) (g 106) (g 85 33)) → Q 0 g := by
    intro b g e hf hfi h1 ho
    by_cases z : h2 85 30 ≤ 1
    · exact fin1 g hf hfi z (h1 z)
    · refine fin g hf hfi ?_
      unfold mvF
      rw [if_neg (by omega), show (h2 85 30).toNat = b by omega]
      exact ho (by omega)
  intro d
  induction d with
  | zero =>
    intro b g hb1 hd hf hfi h1 ho hlen
    have e3 : g 85 30 = h2 85 30 := hfi 30 (by decide)
    exact s_X10_findsMoves_11 ⟨fun _ => fin2 b g (by omega) hf hfi h1 ho, fun q => absurd q (by omega)⟩
  | succ d ih =>
    intro b g hb1 hd hf hfi h1 ho hlen
    have e3 : g 85 30 = h2 85 30 := hfi 30 (by decide)
    refine s_X10_findsMoves_11 ⟨fun _ => fin2 b g (by omega) hf hfi h1 ho, fun q => ⟨fun q1 => fin1 g hf hfi (by omega) (h1 (by omega)), fun q1 => ?_⟩⟩
    rw [e3] at q q1
    have ho := ho (by omega)
    have c0 := hb.at (b := b) (by omega) (by omega)
    have c1 := hb.at (b := (b : Int) + 1) (by omega) (by omega)
    have c2 := hb.2.2.2.1 b (by omega) (by omega)
    have hr : ∀ i, 0 ≤ i → i < h2 104 ((b : Int) + 1) → 0 ≤ h2 103 i ∧ h2 103 i < h 85 1 := fun i a c => (hw.2.2.2.2 i a (by omega)).1
    have hgo : ∀ g1 : aH, (∀ c, c ≠ 85 → c ≠ 105 → c ≠ 106 → g1 c = h2 c) → (∀ i, i ≠ 33 → g1 85 i = h2 85 i) → okMM (mvStep (h2 85 30) (h2 104) (h 86) (h2 103) b (mvL (h2 85 30) (h2 104) (h 86) (h2 103) b)) (h2 103) (mLB h) (g1 105) (g1 106) (g1 85 33) → AW mX10_findsMoves 5 11 [some (aR 85), some (aI ((b : Int) + 1)), none, none] [] g1 Q := by
      intro g1 t1 t2 t3
      exact ih (b + 1) g1 (by omega) (by omega) t1 t2 (fun z => by omega) (fun _ => t3) (by
        have := mvStep_len (nb := h2 85 30) (e := h2 104) (job := h 86) (w := h2 103) (b := b) (L := mvL (h2 85 30) (h2 104) (h 86) (h2 103) b) (by omega) c2 hlen
        exact this)
    have cm : ∀ (p : Int) (L : List Int) (g1 : aH) (Q1 : aQ), (0 ≤ p ∧ p + 1 < h2 104 ((b : Int) + 1)) → (∀ c, c ≠ 85 → c ≠ 105 → c ≠ 106 → g1 c = h2 c) → (∀ i, i ≠ 33 → g1 85 i = h2 85 i) → okMM L (h2 103) (mLB h) (g1 105) (g1 106) (g1 85 33) → L.length < 24 → (∀ g2 : aH, (∀ c, c ≠ 85 → c ≠ 105 → c ≠ 106 → g2 c = h2 c) → (∀ i, i ≠ 33 → g2 85 i = h2 85 i) → okMM (mvAdd (h 86) (h2 103) p (h2 104 ((b : Int) + 1)) L) (h2 103) (mLB h) (g2 105) (g2 106) (g2 85 33) → Q1 0 g2) → aRun mX10_comesMove 2 [aR 85, aI p] g1 Q1 := by
      intro p L g1 Q1 hp t1 t2 t3 t4 kk
      have e1 : g1 85 1 = h 85 1 := by rw [t2 1 (by decide)]; exact f2 1 (by decide) (by decide)
      refine r_comesMove (to := h2 104 ((b : Int) + 1)) (gT g1 t1 t2) (by omega) (by omega) (by rw [t1 103 (by decide) (by decide) (by decide), e1]; exact hr) (by rw [t1 103 (by decide) (by decide) (by decide), gLB g1 t1 t2]; exact t3) t4 (fun g2 s1 s2 s3 => ?_)
      rw [t1 103 (by decide) (by decide) (by decide), t1 86 (by decide) (by decide) (by decide), f1 86 (by decide) (by decide) (by decide), gLB g1 t1 t2] at s3
      exact kk g2 (fun c a b d => (s1 c a b d).trans (t1 c a b d)) (fun i hi => (s2 i hi).trans (t2 i hi)) s3
    rw [hf 104 (by decide) (by decide) (by decide)]
    refine ⟨by omega, by omega, by omega, by omega, fun q2 => ⟨fun q3 => ?_, fun q3 => absurd q2 q3⟩, fun q2 => ⟨fun q3 => ?_, fun q3 => ?_⟩⟩
    · refine hgo g hf hfi ?_
      unfold mvStep
      have a1 := mvAdd_len (job := h 86) (w := h2 103) (p := h2 104 b) (to := h2 104 ((b : Int) + 1)) (L := mvL (h2 85 30) (h2 104) (h 86) (h2 103) b)
      rw [if_neg (by omega), a1.2 (by omega)]
      split <;> exact ho
    · have hb0 : (b : Int) = 0 := by omega
      refine ⟨fun q4 => absurd q4 q2, fun _ => ⟨by omega, fun q4 => ?_, fun q4 => ⟨fun q5 => ⟨by omega, ?_⟩, fun q5 => absurd hb0 q5⟩⟩⟩
      · refine hgo g hf hfi ?_
        unfold mvStep
        rw [if_neg (by omega), if_neg (by omega)]
        exact ho
      · refine cm _ (mvL (h2 85 30) (h2 104) (h 86) (h2 103) b) g _ (by omega) hf hfi ho (by have := hb.2.1; rw [hb0] at hlen; omega) (fun g2 s1 s2 s3 => ?_)
        refine hgo g2 s1 s2 ?_
        unfold mvStep
        rw [if_pos ⟨by omega, by omega, by omega⟩, if_neg (by omega)]
        rw [show h2 104 ((b : Int) + 1) - 1 - 1 = h2 104 ((b : Int) + 1) - 2 by omega] at s3
        exact s3
    · refine cm _ (mvL (h2 85 30) (h2 104) (h 86) (h2 103) b) g _ (by omega) hf hfi ho (by omega) (fun g2 s1 s2 s3 => ?_)
      have a1 := mvAdd_len (job := h 86) (w := h2 103) (p := h2 104 b) (to := h2 104 ((b : Int) + 1)) (L := mvL (h2 85 30) (h2 104) (h 86) (h2 103) b)
      rw [s2 30 (by decide)]
      have skip : ¬ ((b : Int) < h2 85 30 - 1 ∧ h2 104 b ≤ h2 104 ((b : Int) + 1) - 2 ∧ ¬ (0 < (b : Int) ∧ h2 104 ((b : Int) + 1) - h2 104 b = 2)) → okMM (mvStep (h2 85 30) (h2 104) (h 86) (h2 103) b (mvL (h2 85 30) (h2 104) (h 86) (h2 103) b)) (h2 103) (mLB h) (g2 105) (g2 106) (g2 85 33) := fun z => by
        unfold mvStep
        rw [if_neg z, if_pos (by omega)]
        exact s3
      refine ⟨fun q4 => absurd q4 q2, fun _ => ⟨by omega, fun q4 => hgo g2 s1 s2 (skip (by omega)), fun q4 => ⟨fun q5 => by omega, fun q5 => ⟨by omega, fun q6 => hgo g2 s1 s2 (skip (by omega)), fun q6 => ?_⟩⟩⟩⟩
      refine cm _ _ g2 _ (by omega) s1 s2 s3 (by omega) (fun g3 u1 u2 u3 => ?_)
      refine hgo g3 u1 u2 ?_
      unfold mvStep
      rw [if_pos ⟨by omega, by omega, by omega⟩, if_pos (by omega)]
      rw [show h2 104 ((b : Int) + 1) - 1 - 1 = h2 104 ((b : Int) + 1) - 2 by omega] at u3
      exact u3
