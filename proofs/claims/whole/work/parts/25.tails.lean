/-- who waits for the i-th stands behind it -/
theorem layQ.behind {n : Int} {ja jn pa pn q : Int → Int} (hn : 0 ≤ n) (h : layQ n ja pa q) (hj : dual n ja jn) (hp : dual n pa pn) {i u : Int} (i0 : 0 ≤ i) (i1 : i < n) (hu : 0 ≤ u) (he : jn (q i) = u ∨ pn (q i) = u) : ∃ j, i < j ∧ j < n ∧ q j = u := by
  obtain ⟨h1, h2, h3⟩ := h
  have hq := h1 i i0 i1
  rcases he with e | e
  · rcases (hj _ hq.1 hq.2).2 with z | ⟨z, z2⟩
    · omega
    · rw [e] at z z2
      obtain ⟨j, p0, p1, p2⟩ := pigeonS hn h1 h2 z
      obtain ⟨j', r0, r1, r2⟩ := (h3 j p0 p1).1 (by rw [p2, z2]; exact hq.1)
      rw [p2, z2] at r2
      have := h2 j' i r0 (by omega) i0 i1 r2
      exact ⟨j, by omega, p1, p2⟩
  · rcases (hp _ hq.1 hq.2).2 with z | ⟨z, z2⟩
    · omega
    · rw [e] at z z2
      obtain ⟨j, p0, p1, p2⟩ := pigeonS hn h1 h2 z
      obtain ⟨j', r0, r1, r2⟩ := (h3 j p0 p1).2 (by rw [p2, z2]; exact hq.1)
      rw [p2, z2] at r2
      have := h2 j' i r0 (by omega) i0 i1 r2
      exact ⟨j, by omega, p1, p2⟩
theorem f_toCome {h : aH} {u : Int} (hu : u = -1 ∨ 0 ≤ u) : f_X8_toCome h u = ro (h 25) (h 7) u := by
  unfold f_X8_toCome ro
  rcases hu with z | z
  · rw [if_pos z, if_pos (by omega)]
  · rw [if_neg (by omega), if_neg (by omega)]
theorem o_toCome {h : aH} {u : Int} (hu : u = -1 ∨ (0 ≤ u ∧ u < 24)) (hb : 0 ≤ u → inR (h 7 u + h 25 u)) : o_X8_toCome h u := by
  unfold o_X8_toCome
  exact (fun q => ⟨by omega, hb (by omega)⟩)
set_option maxHeartbeats 2000000 in
theorem r_layTails {h : aH} {Q : aQ} {ja pa : Int → Int} (hn : 0 ≤ h 3 1 ∧ h 3 1 ≤ 24) (hl : ∀ t, 0 ≤ t → t < h 3 1 → 1 ≤ h 7 t ∧ h 7 t ≤ 99) (hS : ∀ t, 0 ≤ t → t < h 3 1 → 0 ≤ h 24 t ∧ h 24 t ≤ 2376) (hsp : 0 ≤ h 20 9 ∧ h 20 9 ≤ 2376) (hLQ : layQ (h 3 1) ja pa (h 28)) (hj : dual (h 3 1) ja (jN (h 3 1) (h 4))) (hp : dual (h 3 1) pa (h 23))
    (k : ∀ g, (∀ c, c ≠ 25 → c ≠ 26 → g c = h c) → okT (h 3 1) (jN (h 3 1) (h 4)) (h 23) (h 7) (g 25) → (∀ t, 0 ≤ t → t < h 3 1 → g 26 t = h 20 9 - h 24 t - h 7 t - g 25 t ∧ 0 ≤ g 25 t ∧ g 25 t ≤ 2376) → Q 0 g) : aRun mX8_layTails 1 [aR 20, aR 3] h Q := by
  refine e_X8_layTails ⟨by omega, ?_⟩
  suffices H : ∀ (d : Nat) (i : Int) (g : aH), -1 ≤ i → i < h 3 1 → i + 1 ≤ d → (∀ c, c ≠ 25 → c ≠ 26 → g c = h c) → (∀ j, i < j → j < h 3 1 → g 25 (h 28 j) = max (ro (g 25) (h 7) (jN (h 3 1) (h 4) (h 28 j))) (ro (g 25) (h 7) (h 23 (h 28 j)))) → (∀ j, i < j → j < h 3 1 → g 26 (h 28 j) = h 20 9 - h 24 (h 28 j) - h 7 (h 28 j) - g 25 (h 28 j) ∧ 0 ≤ g 25 (h 28 j) ∧ g 25 (h 28 j) ≤ 99 * (h 3 1 - 1 - j)) → AW mX8_layTails 1 7 [some (aR 20), some (aR 3), some (aI i), none] [] g Q from
    H 24 (h 3 1 - 1) h (by omega) (by omega) (by omega) (fun _ _ _ => rfl) (fun j a b => by omega) (fun j a b => by omega)
  intro d
  induction d with
  | zero =>
    intro i g i0 i1 hd hf he hs
    refine s_X8_layTails_7 ⟨fun q => ?_, fun q => absurd q (by omega)⟩
    refine k g hf (fun t a b => ?_) (fun t a b => ?_)
    · obtain ⟨j, p0, p1, p2⟩ := pigeonS hn.1 hLQ.1 hLQ.2.1 ⟨a, b⟩
      rw [← p2]; exact he j (by omega) p1
    · obtain ⟨j, p0, p1, p2⟩ := pigeonS hn.1 hLQ.1 hLQ.2.1 ⟨a, b⟩
      have := hs j (by omega) p1
      rw [← p2]; omega
  | succ d ih =>
    intro i g i0 i1 hd hf he hs
    refine s_X8_layTails_7 ⟨fun q => ?_, fun q => ?_⟩
    · refine k g hf (fun t a b => ?_) (fun t a b => ?_)
      · obtain ⟨j, p0, p1, p2⟩ := pigeonS hn.1 hLQ.1 hLQ.2.1 ⟨a, b⟩
        rw [← p2]; exact he j (by omega) p1
      · obtain ⟨j, p0, p1, p2⟩ := pigeonS hn.1 hLQ.1 hLQ.2.1 ⟨a, b⟩
        have := hs j (by omega) p1
        rw [← p2]; omega
    rw [hf 28 (by decide) (by decide), hf 20 (by decide) (by decide), hf 24 (by decide) (by decide), hf 7 (by decide) (by decide), hf 23 (by decide) (by decide)]
    have hq := hLQ.1 i (by omega) i1
    have hb := fun u hu he => hLQ.behind hn.1 hj hp (i := i) (u := u) (by omega) i1 hu he
    have huniq := hLQ.2.1
    generalize htt : h 28 i = t at hq hb
    have eJ : f_X5_jobNext g 3 t = jN (h 3 1) (h 4) t := by rw [f_JN, hf 3 (by decide) (by decide), hf 4 (by decide) (by decide)]
    have e7 : g 7 = h 7 := hf 7 (by decide) (by decide)
    have rj : jN (h 3 1) (h 4) t = -1 ∨ (0 ≤ jN (h 3 1) (h 4) t ∧ jN (h 3 1) (h 4) t < h 3 1) := by
      rcases (hj t hq.1 hq.2).2 with z | ⟨z, -⟩
      · exact Or.inl z
      · exact Or.inr z
    have rp : h 23 t = -1 ∨ (0 ≤ h 23 t ∧ h 23 t < h 3 1) := by
      rcases (hp t hq.1 hq.2).2 with z | ⟨z, -⟩
      · exact Or.inl z
      · exact Or.inr z
    have hbd : ∀ u, (u = -1 ∨ (0 ≤ u ∧ u < h 3 1)) → (jN (h 3 1) (h 4) t = u ∨ h 23 t = u) → (0 ≤ ro (g 25) (h 7) u ∧ ro (g 25) (h 7) u ≤ 99 * (h 3 1 - 1 - i)) ∧ (0 ≤ u → inR (h 7 u + g 25 u)) := by
      intro u hu hw
      rcases hu with z | z
      · rw [ro_neg (by omega)]; omega
      · obtain ⟨j, p0, p1, p2⟩ := hb u z.1 hw
        have s1 := hs j p0 p1
        rw [p2] at s1
        have l1 := hl u z.1 z.2
        rw [ro_pos z.1]
        omega
    rw [eJ]
    have f1 : f_X8_toCome g (jN (h 3 1) (h 4) t) = ro (g 25) (h 7) (jN (h 3 1) (h 4) t) := by rw [f_toCome (by omega), e7]
    have f2 : f_X8_toCome g (h 23 t) = ro (g 25) (h 7) (h 23 t) := by rw [f_toCome (by omega), e7]
    have b1 := hbd _ rj (Or.inl rfl)
    have b2 := hbd _ rp (Or.inr rfl)
    have hSt := hS t hq.1 hq.2
    have hlt := hl t hq.1 hq.2
    rw [f1, f2]
    generalize hmx : max (ro (g 25) (h 7) (jN (h 3 1) (h 4) t)) (ro (g 25) (h 7) (h 23 t)) = T
    have hT : 0 ≤ T ∧ T ≤ 99 * (h 3 1 - 1 - i) := by omega
    refine ⟨by omega, o_JN hq.1 (by omega) (by rw [hf 3 (by decide) (by decide)]; omega), o_toCome (by omega) (by rw [e7]; exact b1.2), by omega, o_toCome (by omega) (by rw [e7]; exact b2.2), by omega, by omega, by omega, by omega, ?_⟩
    have e25 : (a_up (a_up g 25 t T) 26 t (h 20 9 - h 24 t - h 7 t - T)) 25 = up1 (g 25) t T := by rw [a_up_ne (by decide), a_up_fn]
    have e26 : (a_up (a_up g 25 t T) 26 t (h 20 9 - h 24 t - h 7 t - T)) 26 = up1 (g 26) t (h 20 9 - h 24 t - h 7 t - T) := by rw [a_up_fn, a_up_ne (by decide)]
    have hne : ∀ j, i < j → j < h 3 1 → h 28 j ≠ t := fun j a b c => by
      have := huniq j i (by omega) b (by omega) i1 (by rw [c, htt])
      omega
    have hro : ∀ j u, i ≤ j → j < h 3 1 → 0 ≤ j → (jN (h 3 1) (h 4) (h 28 j) = u ∨ h 23 (h 28 j) = u) → ro (up1 (g 25) t T) (h 7) u = ro (g 25) (h 7) u := by
      intro j u a b c hw
      by_cases z : u < 0
      · rw [ro_neg z, ro_neg z]
      · obtain ⟨j', p0, p1, p2⟩ := hLQ.behind hn.1 hj hp (i := j) (u := u) c b (by omega) hw
        rw [ro_pos (by omega), ro_pos (by omega), up1_ne (by rw [← p2]; exact hne j' (by omega) p1)]
    refine ih (i + -1) _ (by omega) (by omega) (by omega) (fun c a b => by rw [a_up_ne b, a_up_ne a]; exact hf c a b) (fun j a b => ?_) (fun j a b => ?_)
    · rw [e25, hro j _ (by omega) b (by omega) (Or.inl rfl), hro j _ (by omega) b (by omega) (Or.inr rfl)]
      by_cases z : j = i
      · rw [z, htt, up1_eq, hmx]
      · rw [up1_ne (hne j (by omega) b)]; exact he j (by omega) b
    · rw [e25, e26]
      by_cases z : j = i
      · rw [z, htt, up1_eq, up1_eq]; omega
      · rw [up1_ne (hne j (by omega) b), up1_ne (hne j (by omega) b)]
        exact hs j (by omega) b
