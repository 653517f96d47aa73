/-! Path: the class's way, blocks, moves -/
theorem r_beginning {h : aH} {Q : aQ} (hn : 0 ≤ h 3 1 ∧ h 3 1 ≤ 24) (hex : ∃ t, (0 ≤ t ∧ t < h 3 1) ∧ h 24 t = 0 ∧ h 26 t = 0) (k : ∀ t, isFst (h 3 1) (h 24) (fun t => h 26 t = 0) t → Q t h) : aRun mX6_beginning 0 [aR 3, aR 20] h Q := by
  refine e_X6_beginning ?_
  suffices H : ∀ (d : Nat) (i : Int), 0 ≤ i → i ≤ h 3 1 → h 3 1 - i ≤ d → (∀ v, 0 ≤ v → v < i → ¬ (h 24 v = 0 ∧ h 26 v = 0)) → AW mX6_beginning 0 2 [some (aR 3), some (aR 20), some (aI i)] [] h Q from
    H 24 0 (by omega) (by omega) (by omega) (fun v a b => by omega)
  have hend : ∀ i : Int, h 3 1 ≤ i → (∀ v, 0 ≤ v → v < i → ¬ (h 24 v = 0 ∧ h 26 v = 0)) → False := fun i a b => by
    obtain ⟨t, c, d, e⟩ := hex
    exact b t c.1 (by omega) ⟨d, e⟩
  intro d
  induction d with
  | zero =>
    intro i i0 i1 hd hv
    exact s_X6_beginning_2 ⟨fun q => (hend i q hv).elim, fun q => absurd q (by omega)⟩
  | succ d ih =>
    intro i i0 i1 hd hv
    have go : ¬ (h 24 i = 0 ∧ h 26 i = 0) → i < h 3 1 → AW mX6_beginning 0 2 [some (aR 3), some (aR 20), some (aI (i + 1))] [] h Q := fun hne hlt =>
      ih (i + 1) (by omega) (by omega) (by omega) (fun v a b => by
        by_cases z : v = i
        · rw [z]; exact hne
        · exact hv v a (by omega))
    refine s_X6_beginning_2 ⟨fun q => (hend i q hv).elim, fun q => ⟨by omega, fun q1 => ⟨fun q2 => k i ⟨by omega, q1, q2, hv⟩, fun q2 => ⟨by omega, go (by omega) (by omega)⟩⟩, fun q1 => ⟨by omega, go (by omega) (by omega)⟩⟩⟩
theorem goesOn_cases {h : aH} {u e : Int} (hu : u = -1 ∨ 0 ≤ u) : (0 ≤ u ∧ h 24 u = e ∧ h 26 u = 0 ∧ f_X6_goesOn h u e = u) ∨ (¬ (0 ≤ u ∧ h 24 u = e ∧ h 26 u = 0) ∧ f_X6_goesOn h u e = -1) := by
  unfold f_X6_goesOn
  split
  · exact Or.inr ⟨by omega, rfl⟩
  · split
    · split
      · exact Or.inl ⟨by omega, by assumption, by assumption, rfl⟩
      · exact Or.inr ⟨by omega, rfl⟩
    · exact Or.inr ⟨by omega, rfl⟩
/-- what of the way is filled, i long -/
def wayPre (n : Int) (jn pn l S : Int → Int) (cr : Int → Prop) (w : Int → Int) (i : Int) : Prop :=
  (0 < i → isFst n S cr (w 0)) ∧ (∀ j, 0 ≤ j → j + 1 < i → isNx n jn pn l S cr (w j) (w (j + 1))) ∧ (∀ j, 0 ≤ j → j < i → (0 ≤ w j ∧ w j < n) ∧ cr (w j)) ∧ (∀ j j', 0 ≤ j → j < j' → j' < i → S (w j) < S (w j'))
theorem wayPre.len {n : Int} {jn pn l S : Int → Int} {cr : Int → Prop} {w : Int → Int} {i : Int} (hn : 0 ≤ n) (hi : 0 ≤ i) (h : wayPre n jn pn l S cr w i) : i ≤ n := by
  refine pigeon hi hn (fun j a b => (h.2.2.1 j a b).1) (fun j j' a b c d e => ?_)
  by_cases z : j < j'
  · have := h.2.2.2 j j' a z d; rw [e] at this; omega
  · by_cases z2 : j' < j
    · have := h.2.2.2 j' j c z2 b; rw [e] at this; omega
    · omega
/-- one more -/
theorem wayPre.push {n : Int} {jn pn l S : Int → Int} {cr : Int → Prop} {w : Int → Int} {i t : Int} (hl : ∀ t, 0 ≤ t → t < n → 1 ≤ l t) (hi : 0 ≤ i) (h : wayPre n jn pn l S cr w i) (h0 : i = 0 → isFst n S cr t) (h1 : 0 < i → isNx n jn pn l S cr (w (i - 1)) t) : wayPre n jn pn l S cr (up1 w i t) (i + 1) := by
  have ht : (0 ≤ t ∧ t < n) ∧ cr t := by
    by_cases z : i = 0
    · exact ⟨(h0 z).1, (h0 z).2.2.1⟩
    · exact ⟨(h1 (by omega)).1, (h1 (by omega)).2.2.2.1⟩
  refine ⟨fun _ => ?_, fun j a b => ?_, fun j a b => ?_, fun j j' a b c => ?_⟩
  · by_cases z : i = 0
    · rw [z, up1_eq]; exact h0 z
    · rw [up1_ne (by omega)]; exact h.1 (by omega)
  · by_cases z : j + 1 = i
    · rw [z, up1_eq, up1_ne (by omega)]
      have := h1 (by omega)
      rw [show i - 1 = j by omega] at this
      exact this
    · rw [up1_ne z, up1_ne (by omega)]; exact h.2.1 j a (by omega)
  · by_cases z : j = i
    · rw [z, up1_eq]; exact ht
    · rw [up1_ne z]; exact h.2.2.1 j a (by omega)
  · by_cases z : j' = i
    · rw [z, up1_eq, up1_ne (by omega)]
      have q := h1 (by omega)
      have q3 := (h.2.2.1 (i - 1) (by omega) (by omega)).1
      have := hl _ q3.1 q3.2
      have := q.2.2.1
      by_cases y : j = i - 1
      · rw [y]; omega
      · have := h.2.2.2 j (i - 1) a (by omega) (by omega); omega
    · rw [up1_ne z, up1_ne (by omega)]; exact h.2.2.2 j j' a b (by omega)
set_option maxHeartbeats 2000000 in
theorem r_walk {h : aH} {Q : aQ} {ja pa T : Int → Int} (hn : 0 < h 3 1 ∧ h 3 1 ≤ 24) (hg : grT (h 3 1) ja (jN (h 3 1) (h 4)) pa (h 23) (h 7) (h 24) T (h 20 9)) (hS : ∀ t, 0 ≤ t → t < h 3 1 → h 24 t ≤ 2376) (hsl : ∀ t, 0 ≤ t → t < h 3 1 → (h 26 t = 0 ↔ crit (h 7) (h 24) T (h 20 9) t))
    (k : ∀ g, (∀ c, c ≠ 38 → c ≠ 39 → g c = h c) → (∀ i, i ≠ 1 → g 38 i = h 38 i) → okWay (h 3 1) (jN (h 3 1) (h 4)) (h 23) (h 7) (h 24) (fun t => h 26 t = 0) (h 20 9) (g 39) (g 38 1) → Q 0 g) : aRun mX6_walk 1 [aR 38, aR 3, aR 20] h Q := by
  refine e_X6_walk ?_
  have hl : ∀ t, 0 ≤ t → t < h 3 1 → 1 ≤ h 7 t ∧ h 7 t ≤ 99 := hg.2.2.2.2.2.2
  have hx : ∃ t, (0 ≤ t ∧ t < h 3 1) ∧ h 24 t = 0 ∧ h 26 t = 0 := by
    obtain ⟨t, a, b, c⟩ := hg.first hn.1
    exact ⟨t, a, b, (hsl t a.1 a.2).mpr c⟩
  have x38 : ∀ c, c ≠ 38 → (a_up h 38 1 0) c = h c := fun c hc => a_up_ne hc
  refine r_beginning (by rw [x38 3 (by decide)]; omega) (by rw [x38 3 (by decide), x38 24 (by decide), x38 26 (by decide)]; exact hx) (fun t0 ht0 => ?_)
  rw [x38 3 (by decide), x38 24 (by decide), x38 26 (by decide)] at ht0
  suffices H : ∀ (d : Nat) (i t : Int) (g : aH), 0 ≤ i → h 3 1 - i ≤ d → (∀ c, c ≠ 38 → c ≠ 39 → g c = h c) → (∀ j, j ≠ 1 → g 38 j = h 38 j) → g 38 1 = i → wayPre (h 3 1) (jN (h 3 1) (h 4)) (h 23) (h 7) (h 24) (fun t => h 26 t = 0) (g 39) i → ((t = -1 ∧ 0 < i ∧ h 24 (g 39 (i - 1)) + h 7 (g 39 (i - 1)) = h 20 9) ∨ (0 ≤ t ∧ (i = 0 → isFst (h 3 1) (h 24) (fun t => h 26 t = 0) t) ∧ (0 < i → isNx (h 3 1) (jN (h 3 1) (h 4)) (h 23) (h 7) (h 24) (fun t => h 26 t = 0) (g 39 (i - 1)) t))) → AW mX6_walk 1 11 [some (aR 38), some (aR 3), some (aR 20), some (aI t), none, none, none] [] g Q by
    refine H 24 0 t0 _ (by omega) (by omega) (fun c a b => x38 c a) (fun j hj => by rw [a_up_fn, up1_ne hj]) (by rw [a_up_fn, up1_eq]) ⟨fun z => by omega, fun j a b => by omega, fun j a b => by omega, fun j j' a b c => by omega⟩ (Or.inr ⟨ht0.1.1, fun _ => ht0, fun z => by omega⟩)
  have hfin : ∀ (i : Int) (g : aH), (∀ c, c ≠ 38 → c ≠ 39 → g c = h c) → (∀ j, j ≠ 1 → g 38 j = h 38 j) → g 38 1 = i → wayPre (h 3 1) (jN (h 3 1) (h 4)) (h 23) (h 7) (h 24) (fun t => h 26 t = 0) (g 39) i → 0 < i → h 24 (g 39 (i - 1)) + h 7 (g 39 (i - 1)) = h 20 9 → Q 0 g := by
    intro i g hf hfi hi hw i0 he
    refine k g hf hfi ?_
    rw [hi]
    exact ⟨⟨by omega, hw.len (by omega) (by omega)⟩, hw.1 i0, hw.2.1, he, hw.2.2.1⟩
  intro d
  induction d with
  | zero =>
    intro i t g i0 hd hf hfi hi hw ht
    have hlen := hw.len (by omega) i0
    rcases ht with ⟨t1, ip, he⟩ | ⟨tp, tf, tn⟩
    · exact s_X6_walk_11 ⟨fun _ => hfin i g hf hfi hi hw ip he, fun q => absurd t1 q⟩
    · exfalso
      have := (hw.push (fun t a b => (hl t a b).1) i0 tf tn).len (by omega) (by omega)
      omega
  | succ d ih =>
    intro i t g i0 hd hf hfi hi hw ht
    have hlen := hw.len (by omega) i0
    rcases ht with ⟨t1, ip, he⟩ | ⟨tp, tf, tn⟩
    · exact s_X6_walk_11 ⟨fun _ => hfin i g hf hfi hi hw ip he, fun q => absurd t1 q⟩
    have hpush := hw.push (fun t a b => (hl t a b).1) i0 tf tn
    have hlen2 := hpush.len (by omega) (by omega)
    have htr : (0 ≤ t ∧ t < h 3 1) ∧ h 26 t = 0 := by
      by_cases z : i = 0
      · exact ⟨(tf z).1, (tf z).2.2.1⟩
      · exact ⟨(tn (by omega)).1, (tn (by omega)).2.2.2.1⟩
    refine s_X6_walk_11 ⟨fun q => by omega, fun q => ⟨fun q1 => by omega, fun q1 => ?_⟩⟩
    rw [hi]
    have y39 : (a_up (a_up g 39 i t) 38 1 (i + 1)) 39 = up1 (g 39) i t := by rw [a_up_ne (by decide), a_up_fn]
    have y38 : (a_up (a_up g 39 i t) 38 1 (i + 1)) 38 = up1 (g 38) 1 (i + 1) := by rw [a_up_fn, a_up_ne (by decide)]
    have yo : ∀ c, c ≠ 38 → c ≠ 39 → (a_up (a_up g 39 i t) 38 1 (i + 1)) c = h c := fun c a b => by rw [a_up_ne a, a_up_ne b]; exact hf c a b
    have hSt := hS t htr.1.1 htr.1.2
    have hS0 := hg.S0 t htr.1.1 htr.1.2
    have hlt := hl t htr.1.1 htr.1.2
    have hrg := hg.rng htr.1.1 htr.1.2
    rw [hf 24 (by decide) (by decide), hf 7 (by decide) (by decide), hf 23 (by decide) (by decide)]
    have eJ : f_X5_jobNext (a_up (a_up g 39 i t) 38 1 (i + 1)) 3 t = jN (h 3 1) (h 4) t := by rw [f_JN, yo 3 (by decide) (by decide), yo 4 (by decide) (by decide)]
    rw [eJ]
    refine ⟨by omega, by omega, by omega, by omega, o_JN htr.1.1 (by omega) (by rw [yo 3 (by decide) (by decide)]; omega), fun _ => by omega, fun _ => by omega, ?_⟩
    generalize hE : h 24 t + h 7 t = E
    have c1 := goesOn_cases (h := a_up (a_up g 39 i t) 38 1 (i + 1)) (u := jN (h 3 1) (h 4) t) (e := E) (by omega)
    have c2 := goesOn_cases (h := a_up (a_up g 39 i t) 38 1 (i + 1)) (u := h 23 t) (e := E) (by omega)
    rw [yo 24 (by decide) (by decide), yo 26 (by decide) (by decide)] at c1 c2
    refine ih (i + 1) _ _ (by omega) (by omega) (fun c a b => yo c a b) (fun j hj => by rw [y38, up1_ne hj]; exact hfi j hj) (by rw [y38, up1_eq]) (by rw [y39]; exact hpush) ?_
    rw [y39, show i + 1 - 1 = i by omega, up1_eq]
    have hle := hg.2.2.2.2.2.1.1 t htr.1.1 htr.1.2
    by_cases hend : E = h 20 9
    · left
      have no : ∀ u, (0 ≤ u ∧ u < h 3 1) → h 24 u = E → False := fun u hu he => by
        have := hg.2.2.2.2.2.1.1 u hu.1 hu.2
        have := hl u hu.1 hu.2
        omega
      have n1 : f_X6_goesOn (a_up (a_up g 39 i t) 38 1 (i + 1)) (jN (h 3 1) (h 4) t) E = -1 := by
        rcases c1 with ⟨z1, z2, z3, z4⟩ | ⟨z1, z2⟩
        · exact (no _ ⟨z1, by omega⟩ z2).elim
        · exact z2
      have n2 : f_X6_goesOn (a_up (a_up g 39 i t) 38 1 (i + 1)) (h 23 t) E = -1 := by
        rcases c2 with ⟨z1, z2, z3, z4⟩ | ⟨z1, z2⟩
        · exact (no _ ⟨z1, by omega⟩ z2).elim
        · exact z2
      rw [n1, n2]
      exact ⟨by rw [if_pos rfl]; omega, by omega, by omega⟩
    · right
      obtain ⟨u, u1, u2, u3, u4⟩ := hg.next htr.1.1 htr.1.2 ((hsl t htr.1.1 htr.1.2).mp htr.2) (by omega)
      have u4' := (hsl u u1.1 u1.2).mpr u4
      rw [hE] at u3
      have hz : ∀ z : Int, (0 ≤ z ∧ z < h 3 1) → (z = jN (h 3 1) (h 4) t ∨ z = h 23 t) → h 24 z = E → h 26 z = 0 → (∀ v, 0 ≤ v → (v = jN (h 3 1) (h 4) t ∨ v = h 23 t) → h 24 v = E → h 26 v = 0 → z ≤ v) → (0 ≤ z ∧ (i + 1 = 0 → isFst (h 3 1) (h 24) (fun t => h 26 t = 0) z) ∧ (0 < i + 1 → isNx (h 3 1) (jN (h 3 1) (h 4)) (h 23) (h 7) (h 24) (fun t => h 26 t = 0) t z)) := by
        intro z z1 z2 z3 z4 z5
        refine ⟨z1.1, fun y => by omega, fun _ => ⟨z1, z2, by omega, z4, fun v v0 v1 v2 v3 => z5 v v0 v1 (by omega) v3⟩⟩
      rcases c1 with ⟨a1, a2, a3, a4⟩ | ⟨a1, a2⟩
      · rcases c2 with ⟨b1, b2, b3, b4⟩ | ⟨b1, b2⟩
        · rw [a4, b4, if_neg (by omega), if_neg (by omega)]
          by_cases w : jN (h 3 1) (h 4) t ≤ h 23 t
          · rw [Int.min_eq_left w]
            exact hz _ ⟨a1, by omega⟩ (Or.inl rfl) a2 a3 (fun v v0 v1 v2 v3 => by omega)
          · rw [Int.min_eq_right (by omega)]
            exact hz _ ⟨b1, by omega⟩ (Or.inr rfl) b2 b3 (fun v v0 v1 v2 v3 => by omega)
        · rw [a4, b2, if_neg (by omega), if_pos rfl, Int.max_eq_left (by omega)]
          refine hz _ ⟨a1, by omega⟩ (Or.inl rfl) a2 a3 (fun v v0 v1 v2 v3 => ?_)
          rcases v1 with v1 | v1
          · omega
          · rw [v1] at v0 v2 v3; exact absurd ⟨v0, v2, v3⟩ b1
      · rcases c2 with ⟨b1, b2, b3, b4⟩ | ⟨b1, b2⟩
        · rw [a2, b4, if_pos rfl, Int.max_eq_right (by omega)]
          refine hz _ ⟨b1, by omega⟩ (Or.inr rfl) b2 b3 (fun v v0 v1 v2 v3 => ?_)
          rcases v1 with v1 | v1
          · rw [v1] at v0 v2 v3; exact absurd ⟨v0, v2, v3⟩ a1
          · omega
        · exfalso
          rcases u2 with w | w
          · rw [w] at u1 u3 u4'; exact a1 ⟨u1.1, u3, u4'⟩
          · rw [w] at u1 u3 u4'; exact b1 ⟨u1.1, u3, u4'⟩
