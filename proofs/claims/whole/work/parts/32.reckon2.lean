/-- i tasks are set, in the order q; D tells which -/
def seqI (n : Int) (ja pa l S D q : Int → Int) (i : Int) : Prop :=
  (∀ j, 0 ≤ j → j < i → 0 ≤ q j ∧ q j < n) ∧ (∀ j j', 0 ≤ j → j < i → 0 ≤ j' → j' < i → q j = q j' → j = j') ∧
  (∀ t, 0 ≤ t → t < n → (D t = 0 ∨ D t = 1) ∧ (D t = 1 ↔ ∃ j, 0 ≤ j ∧ j < i ∧ q j = t)) ∧
  (∀ j, 0 ≤ j → j < i → (0 ≤ ja (q j) → ∃ j', 0 ≤ j' ∧ j' < j ∧ q j' = ja (q j)) ∧ (0 ≤ pa (q j) → ∃ j', 0 ≤ j' ∧ j' < j ∧ q j' = pa (q j))) ∧
  (∀ j, 0 ≤ j → j < i → S (q j) = max (eo S l (ja (q j))) (eo S l (pa (q j))) ∧ 0 ≤ S (q j) ∧ S (q j) ≤ 99 * j)
theorem seqI.stuck {n : Int} {ja pa l S D q : Int → Int} {i : Int} (hn : 0 ≤ n) (h : seqI n ja pa l S D q i) (hi : 0 ≤ i ∧ i < n) (hr : ∀ t, 0 ≤ t → t < n → ja t < n ∧ pa t < n) (hno : ∀ t, 0 ≤ t → t < n → ¬ ready ja pa D t) : ¬ acyc n ja pa := by
  rintro ⟨pos, hpos⟩
  obtain ⟨h1, h2, h3, h4, h5⟩ := h
  have key : ∀ (k : Nat) (t : Int), 0 ≤ t → t < n → pos t < k → D t = 1 := by
    intro k
    induction k with
    | zero => intro t a b c; have := (hpos t a b).1; omega
    | succ k ih =>
      intro t a b c
      rcases (h3 t a b).1 with z | z
      · exfalso
        have hp := hpos t a b
        have hrt := hr t a b
        refine hno t a b ⟨z, ?_, ?_⟩
        · by_cases y : ja t < 0
          · exact Or.inl y
          · have := hp.2.1 (by omega)
            have := ih (ja t) (by omega) hrt.1 (by omega)
            exact Or.inr (by omega)
        · by_cases y : pa t < 0
          · exact Or.inl y
          · have := hp.2.2 (by omega)
            have := ih (pa t) (by omega) hrt.2 (by omega)
            exact Or.inr (by omega)
      · exact z
  have hs : ∀ t, ∃ j, (0 ≤ t ∧ t < n) → (0 ≤ j ∧ j < i ∧ q j = t) := fun t => by
    by_cases z : 0 ≤ t ∧ t < n
    · obtain ⟨j, a, b, c⟩ := (h3 t z.1 z.2).2.mp (key 24 t z.1 z.2 (hpos t z.1 z.2).1.2)
      exact ⟨j, fun _ => ⟨a, b, c⟩⟩
    · exact ⟨0, fun y => absurd y z⟩
  have := pigeon (n := i) (k := n) (f := fun t => Classical.choose (hs t)) hn hi.1 (fun t a b => by
    have := Classical.choose_spec (hs t) ⟨a, b⟩
    exact ⟨this.1, this.2.1⟩) (fun t t' a b c d e => by
    have p1 := Classical.choose_spec (hs t) ⟨a, b⟩
    have p2 := Classical.choose_spec (hs t') ⟨c, d⟩
    rw [← p1.2.2, ← p2.2.2, e])
  omega
theorem seqI.push {n : Int} {ja pa l S D q : Int → Int} {i t v : Int} (hl : ∀ t, 0 ≤ t → t < n → 1 ≤ l t ∧ l t ≤ 99) (h : seqI n ja pa l S D q i) (hi : 0 ≤ i) (hr : ∀ t, 0 ≤ t → t < n → ja t < n ∧ pa t < n) (ht : 0 ≤ t ∧ t < n) (hrd : ready ja pa D t) (hv : v = max (eo S l (ja t)) (eo S l (pa t))) : seqI n ja pa l (up1 S t v) (up1 D t 1) (up1 q i t) (i + 1) ∧ (0 ≤ v ∧ v ≤ 99 * i) := by
  obtain ⟨h1, h2, h3, h4, h5⟩ := id h
  have hnq : ∀ j, 0 ≤ j → j < i → q j ≠ t := fun j a b c => by
    have := (h3 t ht.1 ht.2).2.mpr ⟨j, a, b, c⟩
    have := hrd.1
    omega
  have hdone : ∀ u, u < n → 0 ≤ u → ¬ D u = 0 → ∃ j, 0 ≤ j ∧ j < i ∧ q j = u := fun u a b c => by
    rcases (h3 u b a).1 with z | z
    · exact absurd z c
    · exact (h3 u b a).2.mp z
  have hrt := hr t ht.1 ht.2
  have pj : 0 ≤ ja t → ∃ j, 0 ≤ j ∧ j < i ∧ q j = ja t := fun a => hdone _ hrt.1 a (hrd.2.1.elim (fun z => absurd a (by omega)) id)
  have pp : 0 ≤ pa t → ∃ j, 0 ≤ j ∧ j < i ∧ q j = pa t := fun a => hdone _ hrt.2 a (hrd.2.2.elim (fun z => absurd a (by omega)) id)
  have bE : ∀ u, (0 ≤ u → ∃ j, 0 ≤ j ∧ j < i ∧ q j = u) → 0 ≤ eo S l u ∧ eo S l u ≤ 99 * i := fun u hu => by
    by_cases z : u < 0
    · rw [eo_neg z]; omega
    · obtain ⟨j, a, b, c⟩ := hu (by omega)
      have := (h5 j a b).2
      have r := h1 j a b
      have := hl _ r.1 r.2
      rw [eo_pos (by omega), ← c]; omega
  have b1 := bE _ pj
  have b2 := bE _ pp
  have hvb : 0 ≤ v ∧ v ≤ 99 * i := by clear pj pp; omega
  have eE : ∀ u, u ≠ t → eo (up1 S t v) l u = eo S l u := fun u hu => by
    unfold eo
    rw [up1_ne hu]
  refine ⟨⟨fun j a b => ?_, fun j j' a b c d e => ?_, fun u a b => ⟨?_, ?_⟩, fun j a b => ?_, fun j a b => ?_⟩, hvb⟩
  · by_cases z : j = i
    · rw [z, up1_eq]; exact ht
    · rw [up1_ne z]; exact h1 j a (by omega)
  · rw [up1_at, up1_at] at e
    split at e <;> split at e
    · omega
    · exact absurd e.symm (hnq j' c (by omega))
    · exact absurd e (hnq j a (by omega))
    · exact h2 j j' a (by omega) c (by omega) e
  · by_cases z : u = t
    · rw [z, up1_eq]; omega
    · rw [up1_ne z]; exact (h3 u a b).1
  · by_cases z : u = t
    · rw [z, up1_eq]
      exact ⟨fun _ => ⟨i, hi, by omega, up1_eq⟩, fun _ => rfl⟩
    · rw [up1_ne z, (h3 u a b).2]
      constructor
      · rintro ⟨j, x, y, w⟩
        exact ⟨j, x, by omega, by rw [up1_ne (by omega)]; exact w⟩
      · rintro ⟨j, x, y, w⟩
        by_cases e : j = i
        · rw [e, up1_eq] at w; exact absurd w.symm z
        · rw [up1_ne e] at w; exact ⟨j, x, by omega, w⟩
  · by_cases z : j = i
    · rw [z, up1_eq]
      constructor
      · intro y
        obtain ⟨j', x, w, r⟩ := pj y
        exact ⟨j', x, w, by rw [up1_ne (by omega)]; exact r⟩
      · intro y
        obtain ⟨j', x, w, r⟩ := pp y
        exact ⟨j', x, w, by rw [up1_ne (by omega)]; exact r⟩
    · rw [up1_ne z]
      have q4 := h4 j a (by omega)
      constructor
      · intro y
        obtain ⟨j', x, w, r⟩ := q4.1 y
        exact ⟨j', x, w, by rw [up1_ne (by omega)]; exact r⟩
      · intro y
        obtain ⟨j', x, w, r⟩ := q4.2 y
        exact ⟨j', x, w, by rw [up1_ne (by omega)]; exact r⟩
  · by_cases z : j = i
    · rw [z, up1_eq, up1_eq]
      have n1 : ja t ≠ t := fun y => by
        obtain ⟨j', x, w, r⟩ := pj (by omega)
        exact hnq j' x w (by rw [r, y])
      have n2 : pa t ≠ t := fun y => by
        obtain ⟨j', x, w, r⟩ := pp (by omega)
        exact hnq j' x w (by rw [r, y])
      rw [eE _ n1, eE _ n2]
      exact ⟨hv, hvb⟩
    · have hji : j < i := by clear pj pp; omega
      rw [up1_ne z, up1_ne (hnq j a hji)]
      have q4 := h4 j a hji
      have n1 : ja (q j) ≠ t := fun y => by
        obtain ⟨j', x, w, r⟩ := q4.1 (by omega)
        exact hnq j' x (by omega) (by rw [r, y])
      have n2 : pa (q j) ≠ t := fun y => by
        obtain ⟨j', x, w, r⟩ := q4.2 (by omega)
        exact hnq j' x (by omega) (by rw [r, y])
      rw [eE _ n1, eE _ n2]
      exact h5 j a hji
def rkF (h g : aH) : Prop := (∀ c, c ≠ 85 → (c < 97 ∨ 102 < c) → g c = h c) ∧ ∀ i, i ≠ 26 → g 85 i = h 85 i
def rkT (h : aH) : Prop := grT (h 85 1) (jA (h 87)) (jN (h 85 1) (h 86)) (h 97) (h 98) (h 89) (h 99) (h 100) (h 85 26) ∧ (0 ≤ h 85 26 ∧ h 85 26 ≤ 2376) ∧ ∀ t, 0 ≤ t → t < h 85 1 → (0 ≤ h 99 t ∧ h 99 t ≤ 2376) ∧ 0 ≤ h 100 t ∧ h 100 t ≤ 2376
set_option maxHeartbeats 4000000 in
theorem r_reckons {h : aH} {Q : aQ} (hs : mShop h) (ho : okOrd (h 85 1) (h 88) (h 91) (mO h))
    (k : ∀ r g, rkF h g → lnkN (h 91) (mO h) (g 97) (g 98) → ((r = 0 ∧ ¬ acyc (h 85 1) (jA (h 87)) (g 97)) ∨ (r = 1 ∧ rkT g)) → Q r g) : aRun mX10_reckons 3 [aR 85] h Q := by
  have hn := hs.1.1
  have hl : ∀ t, 0 ≤ t → t < h 85 1 → 1 ≤ h 89 t ∧ h 89 t ≤ 99 := fun t a b => (hs.1.2.2.1 t a b).2.2.2
  refine e_X10_reckons ?_
  refine r_neighbours hs ho (fun h2 hf2 hlN => ?_)
  have hdj := hs.1.dual
  have hdp := ho.dual hs.mach hlN
  have hrg : ∀ t, 0 ≤ t → t < h 85 1 → jA (h 87) t < h 85 1 ∧ h2 97 t < h 85 1 := fun t a b => by
    have x := hdj t a b
    have y := hdp t a b
    omega
  -- the third loop: tails
  have T3 : ∀ (d : Nat) (i : Int) (g : aH), -1 ≤ i → i < h 85 1 → i + 1 ≤ d → rkF h g → g 97 = h2 97 → g 98 = h2 98 → layQ (h 85 1) (jA (h 87)) (h2 97) (g 101) → okS (h 85 1) (jA (h 87)) (h2 97) (h 89) (g 99) → okSpan (h 85 1) (h 89) (g 99) (g 85 26) → (0 ≤ g 85 26 ∧ g 85 26 ≤ 2376) → (∀ t, 0 ≤ t → t < h 85 1 → 0 ≤ g 99 t ∧ g 99 t ≤ 2376) → (∀ j, i < j → j < h 85 1 → g 100 (g 101 j) = max (ro (g 100) (h 89) (jN (h 85 1) (h 86) (g 101 j))) (ro (g 100) (h 89) (h2 98 (g 101 j))) ∧ 0 ≤ g 100 (g 101 j) ∧ g 100 (g 101 j) ≤ 99 * (h 85 1 - 1 - j)) → AW mX10_reckons 3 124 [some (aR 85), some (aI i), none] [] g Q := by
    have fin : ∀ (i : Int) (g : aH), i < 0 → rkF h g → g 97 = h2 97 → g 98 = h2 98 → layQ (h 85 1) (jA (h 87)) (h2 97) (g 101) → okS (h 85 1) (jA (h 87)) (h2 97) (h 89) (g 99) → okSpan (h 85 1) (h 89) (g 99) (g 85 26) → (0 ≤ g 85 26 ∧ g 85 26 ≤ 2376) → (∀ t, 0 ≤ t → t < h 85 1 → 0 ≤ g 99 t ∧ g 99 t ≤ 2376) → (∀ j, i < j → j < h 85 1 → g 100 (g 101 j) = max (ro (g 100) (h 89) (jN (h 85 1) (h 86) (g 101 j))) (ro (g 100) (h 89) (h2 98 (g 101 j))) ∧ 0 ≤ g 100 (g 101 j) ∧ g 100 (g 101 j) ≤ 99 * (h 85 1 - 1 - j)) → Q 1 g := by
      intro i g i0 hf e97 e98 hLQ hS hsp hb hSb ht
      refine k 1 g hf (by rw [e97, e98]; exact hlN) (Or.inr ⟨rfl, ?_⟩)
      unfold rkT
      rw [hf.2 1 (by decide), hf.1 87 (by decide) (by omega), hf.1 86 (by decide) (by omega), hf.1 89 (by decide) (by omega), e97, e98]
      have hto : ∀ t, 0 ≤ t → t < h 85 1 → g 100 t = max (ro (g 100) (h 89) (jN (h 85 1) (h 86) t)) (ro (g 100) (h 89) (h2 98 t)) ∧ 0 ≤ g 100 t ∧ g 100 t ≤ 2376 := fun t a b => by
        obtain ⟨j, p0, p1, p2⟩ := pigeonS hn.1 hLQ.1 hLQ.2.1 ⟨a, b⟩
        have := ht j (by omega) p1
        rw [p2] at this
        exact ⟨this.1, this.2.1, by omega⟩
      exact ⟨⟨hdj, hdp, hLQ.acyc hn, hS, fun t a b => (hto t a b).1, hsp, hl⟩, hb, fun t a b => ⟨hSb t a b, (hto t a b).2⟩⟩
    intro d
    induction d with
    | zero =>
      intro i g i0 i1 hd hf e97 e98 hLQ hS hsp hb hSb ht
      exact s_X10_reckons_124 ⟨fun q => fin i g q hf e97 e98 hLQ hS hsp hb hSb ht, fun q => absurd q (by omega)⟩
    | succ d ih =>
      intro i g i0 i1 hd hf e97 e98 hLQ hS hsp hb hSb ht
      refine s_X10_reckons_124 ⟨fun q => fin i g q hf e97 e98 hLQ hS hsp hb hSb ht, fun q => ?_⟩
      have hq := hLQ.1 i (by omega) i1
      have hbh := fun u hu he => hLQ.behind hn.1 hdj hdp (i := i) (u := u) (by omega) i1 hu he
      have huniq := hLQ.2.1
      rw [e98]
      generalize htt : g 101 i = t at hq hbh
      have e1 : g 85 1 = h 85 1 := hf.2 1 (by decide)
      have e89 : g 89 = h 89 := hf.1 89 (by decide) (by omega)
      have eJ : f_X10_jobBehind g t = jN (h 85 1) (h 86) t := by rw [f_mJN, e1, hf.1 86 (by decide) (by omega)]
      rw [eJ, f_mR, f_mR, e89]
      have rj := hdj t hq.1 hq.2
      have rp := hdp t hq.1 hq.2
      have hbd : ∀ u, (u = -1 ∨ (0 ≤ u ∧ u < h 85 1)) → (jN (h 85 1) (h 86) t = u ∨ h2 98 t = u) → (0 ≤ ro (g 100) (h 89) u ∧ ro (g 100) (h 89) u ≤ 99 * (h 85 1 - 1 - i)) ∧ o_X10_restOf g u := by
        intro u hu hw
        rcases hu with z | z
        · rw [ro_neg (by omega)]
          exact ⟨by omega, fun y => by omega⟩
        · obtain ⟨j, p0, p1, p2⟩ := hbh u z.1 hw
          have s1 := (ht j p0 p1).2
          rw [p2] at s1
          have l1 := hl u z.1 z.2
          rw [ro_pos z.1]
          refine ⟨by omega, fun y => ⟨by omega, ?_⟩⟩
          rw [e89]; omega
      have b1 := hbd (jN (h 85 1) (h 86) t) (by omega) (Or.inl rfl)
      have b2 := hbd (h2 98 t) (by omega) (Or.inr rfl)
      generalize hmx : max (ro (g 100) (h 89) (jN (h 85 1) (h 86) t)) (ro (g 100) (h 89) (h2 98 t)) = T
      refine ⟨by omega, o_mJN hq.1 (by omega) (by omega), b1.2, by omega, b2.2, by omega, ?_⟩
      have xo : ∀ c, c ≠ 100 → (a_up g 100 t T) c = g c := fun c hc => a_up_ne hc
      have hne : ∀ j, i < j → j < h 85 1 → g 101 j ≠ t := fun j a b c => by
        have := huniq j i (by omega) b (by omega) i1 (by rw [c, htt])
        omega
      have hro : ∀ j u, i ≤ j → j < h 85 1 → 0 ≤ j → (jN (h 85 1) (h 86) (g 101 j) = u ∨ h2 98 (g 101 j) = u) → ro (up1 (g 100) t T) (h 89) u = ro (g 100) (h 89) u := by
        intro j u a b c hw
        by_cases z : u < 0
        · rw [ro_neg z, ro_neg z]
        · obtain ⟨j', p0, p1, p2⟩ := hLQ.behind hn.1 hdj hdp (i := j) (u := u) c b (by omega) hw
          rw [ro_pos (by omega), ro_pos (by omega), up1_ne (by rw [← p2]; exact hne j' (by omega) p1)]
      refine ih (i + -1) _ (by omega) (by omega) (by omega) ⟨fun c a b => by rw [xo c (by omega)]; exact hf.1 c a b, fun j hj => by rw [xo 85 (by decide)]; exact hf.2 j hj⟩ (by rw [xo 97 (by decide)]; exact e97) (by rw [xo 98 (by decide)]; exact e98) (by rw [xo 101 (by decide)]; exact hLQ) (by rw [xo 99 (by decide)]; exact hS) (by rw [xo 99 (by decide), xo 85 (by decide)]; exact hsp) (by rw [xo 85 (by decide)]; exact hb) (by rw [xo 99 (by decide)]; exact hSb) (fun j a b => ?_)
      rw [xo 101 (by decide), a_up_fn, hro j _ (by omega) b (by omega) (Or.inl rfl), hro j _ (by omega) b (by omega) (Or.inr rfl)]
      by_cases z : j = i
      · rw [z, htt, up1_eq]; exact ⟨hmx.symm, by omega⟩
      · rw [up1_ne (hne j (by omega) b)]; exact ht j (by omega) b
  -- the second loop: one after the other
  have T2 : ∀ (d : Nat) (i : Int) (g : aH), 0 ≤ i → i ≤ h 85 1 → h 85 1 - i ≤ d → rkF h g → g 97 = h2 97 → g 98 = h2 98 → seqI (h 85 1) (jA (h 87)) (h2 97) (h 89) (g 99) (g 102) (g 101) i → (∀ j, 0 ≤ j → j < i → g 99 (g 101 j) + h 89 (g 101 j) ≤ g 85 26) → ((i = 0 ∧ g 85 26 = 0) ∨ ∃ j, 0 ≤ j ∧ j < i ∧ g 99 (g 101 j) + h 89 (g 101 j) = g 85 26) → AW mX10_reckons 3 34 [some (aR 85), some (aI i), none] [] g Q := by
    have fin : ∀ (g : aH), rkF h g → g 97 = h2 97 → g 98 = h2 98 → seqI (h 85 1) (jA (h 87)) (h2 97) (h 89) (g 99) (g 102) (g 101) (h 85 1) → (∀ j, 0 ≤ j → j < h 85 1 → g 99 (g 101 j) + h 89 (g 101 j) ≤ g 85 26) → ((h 85 1 = 0 ∧ g 85 26 = 0) ∨ ∃ j, 0 ≤ j ∧ j < h 85 1 ∧ g 99 (g 101 j) + h 89 (g 101 j) = g 85 26) → inR (g 85 1 - 1) ∧ AW mX10_reckons 3 124 [some (aR 85), some (aI (g 85 1 - 1)), none] [] g Q := by
      intro g hf e97 e98 hq hsp hex
      have e1 : g 85 1 = h 85 1 := hf.2 1 (by decide)
      rw [e1]
      have hLQ : layQ (h 85 1) (jA (h 87)) (h2 97) (g 101) := ⟨hq.1, hq.2.1, hq.2.2.2.1⟩
      have hS : ∀ t, 0 ≤ t → t < h 85 1 → g 99 t = max (eo (g 99) (h 89) (jA (h 87) t)) (eo (g 99) (h 89) (h2 97 t)) ∧ 0 ≤ g 99 t ∧ g 99 t ≤ 2376 ∧ g 99 t + h 89 t ≤ g 85 26 := fun t a b => by
        obtain ⟨j, p0, p1, p2⟩ := pigeonS hn.1 hLQ.1 hLQ.2.1 ⟨a, b⟩
        have x := hq.2.2.2.2 j p0 p1
        have y := hsp j p0 p1
        rw [p2] at x y
        exact ⟨x.1, x.2.1, by omega, y⟩
      refine ⟨by omega, T3 24 (h 85 1 - 1) g (by omega) (by omega) (by omega) hf e97 e98 hLQ (fun t a b => (hS t a b).1) ⟨fun t a b => (hS t a b).2.2.2, fun hp => ?_⟩ ?_ (fun t a b => ⟨(hS t a b).2.1, (hS t a b).2.2.1⟩) (fun j a b => by omega)⟩
      · rcases hex with z | ⟨j, p0, p1, p2⟩
        · omega
        · exact ⟨_, (hLQ.1 j p0 p1).1, (hLQ.1 j p0 p1).2, p2⟩
      · rcases hex with z | ⟨j, p0, p1, p2⟩
        · omega
        · have x := (hq.2.2.2.2 j p0 p1).2
          have y := hl _ (hLQ.1 j p0 p1).1 (hLQ.1 j p0 p1).2
          omega
    intro d
    induction d with
    | zero =>
      intro i g i0 i1 hd hf e97 e98 hq hsp hex
      have e1 : g 85 1 = h 85 1 := hf.2 1 (by decide)
      have ei : i = h 85 1 := by omega
      subst ei
      exact s_X10_reckons_34 ⟨fun _ => fin g hf e97 e98 hq hsp hex, fun q => absurd q (by omega)⟩
    | succ d ih =>
      intro i g i0 i1 hd hf e97 e98 hq hsp hex
      have e1 : g 85 1 = h 85 1 := hf.2 1 (by decide)
      have e87 : g 87 = h 87 := hf.1 87 (by decide) (by omega)
      have e89 : g 89 = h 89 := hf.1 89 (by decide) (by omega)
      refine s_X10_reckons_34 ⟨fun q => ?_, fun q => ?_⟩
      · have ei : i = h 85 1 := by omega
        subst ei
        exact fin g hf e97 e98 hq hsp hex
      rw [e1] at q
      refine r_nextReady (by omega) (fun t a b => by rw [e87, e97]; have := hrg t a (by omega); omega) (fun r hr => ?_)
      rw [e1, e87, e97] at hr
      refine ⟨fun r0 => ?_, fun r0 => ?_⟩
      · rcases hr with ⟨z, -⟩ | ⟨hrr, hrd⟩
        · omega
        obtain ⟨hp1, hp2⟩ := hq.push hl i0 hrg hrr hrd rfl
        have hne : ∀ a1 : Int → Int, (a1 r < 0 ∨ ¬ g 102 (a1 r) = 0) → a1 r ≠ r := fun a1 z y => by
          rcases z with z | z
          · omega
          · rw [y] at z; exact z hrd.1
        have nJ := hne _ hrd.2.1
        have nP := hne _ hrd.2.2
        have y1 : ∀ c, c ≠ 102 → c ≠ 101 → (a_up (a_up g 102 r 1) 101 i r) c = g c := fun c a b => by rw [a_up_ne b, a_up_ne a]
        have hor : ∀ u, (u = jA (h 87) r ∨ u = h2 97 r) → o_X10_endOf (a_up (a_up g 102 r 1) 101 i r) u := fun u hu y => by
          have hrg2 := hrg r hrr.1 hrr.2
          have hu2 : u < h 85 1 := by omega
          have hd1 : g 102 u = 1 := by
            have hx := (hq.2.2.1 u y hu2).1
            have hy : ¬ g 102 u = 0 := by
              rcases hu with e | e
              · rcases hrd.2.1 with z | z
                · omega
                · rw [e]; exact z
              · rcases hrd.2.2 with z | z
                · omega
                · rw [e]; exact z
            omega
          obtain ⟨j, p0, p1, p2⟩ := (hq.2.2.1 u y hu2).2.mp hd1
          have x := (hq.2.2.2.2 j p0 p1).2
          rw [p2] at x
          have x2 := hl u y hu2
          refine ⟨by omega, ?_⟩
          rw [y1 99 (by decide) (by decide), y1 89 (by decide) (by decide), e89]
          omega
        rw [f_mJA, f_mE, f_mE, f_mE, y1 87 (by decide) (by decide), y1 99 (by decide) (by decide), y1 89 (by decide) (by decide), e87, e89, e97]
        generalize hv : max (eo (g 99) (h 89) (jA (h 87) r)) (eo (g 99) (h 89) (h2 97 r)) = v at hp1 hp2
        have z99 : (a_up (a_up (a_up g 102 r 1) 101 i r) 99 r v) 99 = up1 (g 99) r v := by rw [a_up_fn, y1 99 (by decide) (by decide)]
        have z89 : (a_up (a_up (a_up g 102 r 1) 101 i r) 99 r v) 89 = h 89 := by rw [a_up_ne (by decide), y1 89 (by decide) (by decide), e89]
        have hlr := hl r hrr.1 hrr.2
        rw [z99, z89, eo_pos r0, up1_eq]
        refine ⟨by omega, by omega, o_mJA r0 (by omega), hor _ (Or.inl rfl), hor _ (Or.inr rfl), fun y => ⟨by omega, by rw [z99, z89, up1_eq]; omega⟩, by omega, ?_⟩
        have w : ∀ c, c ≠ 85 → (a_up (a_up (a_up (a_up g 102 r 1) 101 i r) 99 r v) 85 26 (max (g 85 26) (v + h 89 r))) c = (a_up (a_up (a_up g 102 r 1) 101 i r) 99 r v) c := fun c hc => a_up_ne hc
        have w85 : (a_up (a_up (a_up (a_up g 102 r 1) 101 i r) 99 r v) 85 26 (max (g 85 26) (v + h 89 r))) 85 = up1 (g 85) 26 (max (g 85 26) (v + h 89 r)) := by
          rw [a_up_fn, a_up_ne (by decide), y1 85 (by decide) (by decide)]
        have w102 : (a_up (a_up (a_up (a_up g 102 r 1) 101 i r) 99 r v) 85 26 (max (g 85 26) (v + h 89 r))) 102 = up1 (g 102) r 1 := by
          rw [w 102 (by decide), a_up_ne (by decide), a_up_ne (by decide), a_up_fn]
        have w101 : (a_up (a_up (a_up (a_up g 102 r 1) 101 i r) 99 r v) 85 26 (max (g 85 26) (v + h 89 r))) 101 = up1 (g 101) i r := by
          rw [w 101 (by decide), a_up_ne (by decide), a_up_fn, a_up_ne (by decide)]
        have w99 : (a_up (a_up (a_up (a_up g 102 r 1) 101 i r) 99 r v) 85 26 (max (g 85 26) (v + h 89 r))) 99 = up1 (g 99) r v := by
          rw [w 99 (by decide), z99]
        have hnq : ∀ j, 0 ≤ j → j < i → g 101 j ≠ r := fun j a b c => by
          have := (hq.2.2.1 r hrr.1 hrr.2).2.mpr ⟨j, a, b, c⟩
          have := hrd.1
          omega
        refine ih (i + 1) _ (by omega) (by omega) (by omega) ⟨fun c a b => ?_, fun j hj => by rw [w85, up1_ne hj]; exact hf.2 j hj⟩ ?_ ?_ (by rw [w99, w102, w101]; exact hp1) (fun j a b => ?_) (Or.inr ?_)
        · rw [w c a, a_up_ne (by omega), y1 c (by omega) (by omega)]; exact hf.1 c a b
        · rw [w 97 (by decide), a_up_ne (by decide), y1 97 (by decide) (by decide)]; exact e97
        · rw [w 98 (by decide), a_up_ne (by decide), y1 98 (by decide) (by decide)]; exact e98
        · rw [w99, w101, w85, up1_eq]
          by_cases z : j = i
          · rw [z, up1_eq, up1_eq]; omega
          · rw [up1_ne z, up1_ne (hnq j a (by omega))]
            have := hsp j a (by omega)
            omega
        · rw [w99, w101, w85, up1_eq]
          by_cases z : g 85 26 ≤ v + h 89 r
          · exact ⟨i, i0, by omega, by rw [up1_eq, up1_eq]; omega⟩
          · rcases hex with y | ⟨j, p0, p1, p2⟩
            · omega
            · have e9 : max (g 85 26) (v + h 89 r) = g 85 26 := Int.max_eq_left (by omega)
              exact ⟨j, p0, by omega, by rw [show up1 (g 101) i r j = g 101 j from up1_ne (by omega), up1_ne (hnq j p0 p1), e9]; exact p2⟩
      · rcases hr with ⟨z, hno⟩ | ⟨hrr, -⟩
        · exact k 0 g hf (by rw [e97, e98]; exact hlN) (Or.inl ⟨rfl, by rw [e97]; exact hq.stuck hn.1 ⟨i0, by omega⟩ hrg hno⟩)
        · omega
  -- the first loop: nothing is set
  have x0 : (a_up h2 85 26 0) 85 = up1 (h2 85) 26 0 := a_up_fn
  have xo : ∀ c, c ≠ 85 → (a_up h2 85 26 0) c = h2 c := fun c hc => a_up_ne hc
  have T1 : ∀ (d : Nat) (i : Int) (g : aH), 0 ≤ i → i ≤ h 85 1 → h 85 1 - i ≤ d → (∀ c, c ≠ 102 → g c = (a_up h2 85 26 0) c) → (∀ j, 0 ≤ j → j < i → g 102 j = 0) → AW mX10_reckons 3 11 [some (aR 85), some (aI i), none] [] g Q := by
    have fin : ∀ g : aH, (∀ c, c ≠ 102 → g c = (a_up h2 85 26 0) c) → (∀ j, 0 ≤ j → j < h 85 1 → g 102 j = 0) → AW mX10_reckons 3 34 [some (aR 85), some (aI 0), none] [] g Q := by
      intro g hf hz
      refine T2 24 0 g (by omega) (by omega) (by omega) ⟨fun c a b => by rw [hf c (by omega), xo c a]; exact hf2 c (by omega) (by omega), fun j hj => by rw [hf 85 (by decide), x0, up1_ne hj, hf2 85 (by decide) (by decide)]⟩ (by rw [hf 97 (by decide), xo 97 (by decide)]) (by rw [hf 98 (by decide), xo 98 (by decide)]) ⟨fun j a b => by omega, fun j j' a b => by omega, fun t a b => ⟨Or.inl (hz t a b), ⟨fun z => by rw [hz t a b] at z; omega, fun ⟨j, x, y, _⟩ => by omega⟩⟩, fun j a b => by omega, fun j a b => by omega⟩ (fun j a b => by omega) (Or.inl ⟨rfl, by rw [hf 85 (by decide), x0, up1_eq]⟩)
    intro d
    induction d with
    | zero =>
      intro i g i0 i1 hd hf hz
      have e1 : g 85 1 = h 85 1 := by rw [hf 85 (by decide), x0, up1_ne (by decide), hf2 85 (by decide) (by decide)]
      exact s_X10_reckons_11 ⟨fun _ => fin g hf (fun j a b => hz j a (by omega)), fun q => absurd q (by omega)⟩
    | succ d ih =>
      intro i g i0 i1 hd hf hz
      have e1 : g 85 1 = h 85 1 := by rw [hf 85 (by decide), x0, up1_ne (by decide), hf2 85 (by decide) (by decide)]
      refine s_X10_reckons_11 ⟨fun _ => fin g hf (fun j a b => hz j a (by omega)), fun q => ⟨by omega, by omega, ?_⟩⟩
      refine ih (i + 1) _ (by omega) (by omega) (by omega) (fun c hc => by rw [a_up_ne hc]; exact hf c hc) (fun j a b => ?_)
      rw [a_up_fn]
      by_cases z : j = i
      · rw [z, up1_eq]
      · rw [up1_ne z]; exact hz j a (by omega)
  exact T1 24 0 _ (by omega) (by omega) (by omega) (fun _ _ => rfl) (fun j a b => by omega)
