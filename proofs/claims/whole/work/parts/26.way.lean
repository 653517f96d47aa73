/-! A longest way -/
def isNx (n : Int) (jn pn l S : Int → Int) (cr : Int → Prop) (t u : Int) : Prop := (0 ≤ u ∧ u < n) ∧ (u = jn t ∨ u = pn t) ∧ S u = S t + l t ∧ cr u ∧ ∀ v, 0 ≤ v → (v = jn t ∨ v = pn t) → S v = S t + l t → cr v → u ≤ v
def isFst (n : Int) (S : Int → Int) (cr : Int → Prop) (t : Int) : Prop := (0 ≤ t ∧ t < n) ∧ S t = 0 ∧ cr t ∧ ∀ v, 0 ≤ v → v < t → ¬ (S v = 0 ∧ cr v)
def okWay (n : Int) (jn pn l S : Int → Int) (cr : Int → Prop) (span : Int) (w : Int → Int) (wl : Int) : Prop :=
  (1 ≤ wl ∧ wl ≤ n) ∧ isFst n S cr (w 0) ∧ (∀ i, 0 ≤ i → i + 1 < wl → isNx n jn pn l S cr (w i) (w (i + 1))) ∧ S (w (wl - 1)) + l (w (wl - 1)) = span ∧ (∀ i, 0 ≤ i → i < wl → (0 ≤ w i ∧ w i < n) ∧ cr (w i))
/-- starts, tails and the span of orders without a ring -/
def grT (n : Int) (ja jn pa pn l S T : Int → Int) (span : Int) : Prop := dual n ja jn ∧ dual n pa pn ∧ acyc n ja pa ∧ okS n ja pa l S ∧ okT n jn pn l T ∧ okSpan n l S span ∧ ∀ t, 0 ≤ t → t < n → 1 ≤ l t ∧ l t ≤ 99
def crit (l S T : Int → Int) (span : Int) (t : Int) : Prop := S t + l t + T t = span
section G1
variable {n : Int} {ja jn pa pn l S T : Int → Int} {span : Int}
theorem grT.rng (g : grT n ja jn pa pn l S T span) {t : Int} (h0 : 0 ≤ t) (ht : t < n) : ja t < n ∧ pa t < n ∧ jn t < n ∧ pn t < n ∧ -1 ≤ ja t ∧ -1 ≤ pa t ∧ -1 ≤ jn t ∧ -1 ≤ pn t := by
  have a := g.1 t h0 ht
  have b := g.2.1 t h0 ht
  omega
theorem grT.S0 (g : grT n ja jn pa pn l S T span) : ∀ t, 0 ≤ t → t < n → 0 ≤ S t := okS.nonneg (fun t a b => (g.2.2.2.2.2.2 t a b).1) (fun t a b => ⟨(g.rng a b).1, (g.rng a b).2.1⟩) g.2.2.1 g.2.2.2.1
theorem grT.le (g : grT n ja jn pa pn l S T span) : ∀ t, 0 ≤ t → t < n → S t + l t + T t ≤ span := way_le g.1 g.2.1 g.2.2.1 g.2.2.2.1 g.2.2.2.2.1 g.2.2.2.2.2.1
theorem grT.T0 (g : grT n ja jn pa pn l S T span) : ∀ t, 0 ≤ t → t < n → 0 ≤ T t := by
  obtain ⟨hj, hp, ⟨pos, hpos⟩, hS, hT, hsp, hl⟩ := id g
  have key : ∀ (d : Nat) (t : Int), 0 ≤ t → t < n → 24 - pos t ≤ d → 0 ≤ T t := by
    intro d
    induction d with
    | zero => intro t a b c; have := (hpos t a b).1; omega
    | succ d ih =>
      intro t a b c
      have e := hT t a b
      have : 0 ≤ ro T l (jn t) := by
        rcases (hj t a b).2 with q | ⟨q, q2⟩
        · rw [q, ro_neg (by omega)]; omega
        · have h5 := (hpos _ q.1 q.2).2.1
          rw [q2] at h5
          have := h5 a
          have := ih _ q.1 q.2 (by omega)
          have := hl _ q.1 q.2
          rw [ro_pos q.1]; omega
      omega
  intro t a b
  exact key 24 t a b (by have := (hpos t a b).1; omega)
/-- one goes on from a critical one that isn't at the end -/
theorem grT.next (g : grT n ja jn pa pn l S T span) {t : Int} (h0 : 0 ≤ t) (ht : t < n) (hc : crit l S T span t) (he : S t + l t < span) : ∃ u, (0 ≤ u ∧ u < n) ∧ (u = jn t ∨ u = pn t) ∧ S u = S t + l t ∧ crit l S T span u := by
  obtain ⟨hj, hp, hac, hS, hT, hsp, hl⟩ := id g
  unfold crit at hc
  have e := hT t h0 ht
  have key : ∀ u, (0 ≤ u ∧ u < n) → (ja u = t ∨ pa u = t) → ro T l u = T t → S u = S t + l t ∧ crit l S T span u := by
    intro u hu hw hr
    rw [ro_pos hu.1] at hr
    have h1 := g.le u hu.1 hu.2
    have h2 := hS.ahead hu.1 hu.2 h0 hw
    unfold crit
    omega
  by_cases hm : T t = ro T l (jn t)
  · rcases (hj t h0 ht).2 with q | ⟨q, q2⟩
    · rw [q, ro_neg (by omega)] at hm; omega
    · have := key _ q (Or.inl q2) hm.symm
      exact ⟨_, q, Or.inl rfl, this⟩
  · have hm2 : T t = ro T l (pn t) := by omega
    rcases (hp t h0 ht).2 with q | ⟨q, q2⟩
    · rw [q, ro_neg (by omega)] at hm2; omega
    · have := key _ q (Or.inr q2) hm2.symm
      exact ⟨_, q, Or.inr rfl, this⟩
theorem grT.first (g : grT n ja jn pa pn l S T span) (hn : 0 < n) : ∃ t, (0 ≤ t ∧ t < n) ∧ S t = 0 ∧ crit l S T span t := by
  obtain ⟨hj, hp, ⟨pos, hpos⟩, hS, hT, hsp, hl⟩ := id g
  have key : ∀ (d : Nat) (t : Int), 0 ≤ t → t < n → pos t < d → crit l S T span t → ∃ t, (0 ≤ t ∧ t < n) ∧ S t = 0 ∧ crit l S T span t := by
    intro d
    induction d with
    | zero => intro t a b c; have := (hpos t a b).1; omega
    | succ d ih =>
      intro t a b c hc
      by_cases z : S t = 0
      · exact ⟨t, ⟨a, b⟩, z, hc⟩
      · have e := hS t a b
        have hp1 := hpos t a b
        unfold crit at hc
        have step : ∀ u, (0 ≤ u ∧ u < n) → eo S l u = S t → (jn u = t ∨ pn u = t) → crit l S T span u := by
          intro u hu he hw
          rw [eo_pos hu.1] at he
          have h1 := g.le u hu.1 hu.2
          have h2 := hT u hu.1 hu.2
          have h3 : l t + T t ≤ T u := by
            rcases hw with w | w <;> rw [w] at h2 <;> rw [ro_pos a] at h2 <;> omega
          unfold crit
          omega
        by_cases hm : S t = eo S l (ja t)
        · rcases (hj t a b).1 with q | ⟨q, q2⟩
          · rw [q, eo_neg (by omega)] at hm; omega
          · exact ih _ q.1 q.2 (by have := hp1.2.1 q.1; omega) (step _ q hm.symm (Or.inl q2))
        · have hm2 : S t = eo S l (pa t) := by omega
          rcases (hp t a b).1 with q | ⟨q, q2⟩
          · rw [q, eo_neg (by omega)] at hm2; omega
          · exact ih _ q.1 q.2 (by have := hp1.2.2 q.1; omega) (step _ q hm2.symm (Or.inr q2))
  obtain ⟨t, a, b, c⟩ := hsp.2 hn
  refine key 24 t a b (hpos t a b).1.2 ?_
  have := g.le t a b
  have := g.T0 t a b
  unfold crit
  omega
theorem okWay.lt {cr : Int → Prop} {w : Int → Int} {wl : Int} (hl : ∀ t, 0 ≤ t → t < n → 1 ≤ l t) (hsp : okSpan n l S span) (h : okWay n jn pn l S cr span w wl) {i : Int} (i0 : 0 ≤ i) (i1 : i + 1 < wl) : S (w i) + l (w i) < span := by
  have q := h.2.2.1 i i0 i1
  have := hsp.1 _ q.1.1 q.1.2
  have := hl _ q.1.1 q.1.2
  have := q.2.2.1
  omega
theorem isNx.unique {cr cr' : Int → Prop} {jn' pn' l' S' : Int → Int} {t u u' : Int} (hd : jn' t = jn t ∧ pn' t = pn t ∧ l' t = l t ∧ S' t = S t) (hv : ∀ v, 0 ≤ v → v < n → S' v = S v ∧ (cr' v ↔ cr v)) (h : isNx n jn pn l S cr t u) (h' : isNx n jn' pn' l' S' cr' t u') : u = u' := by
  obtain ⟨a1, a2, a3, a4, a5⟩ := h
  obtain ⟨b1, b2, b3, b4, b5⟩ := h'
  rw [hd.1, hd.2.1] at b2 b5
  rw [hd.2.2.1, hd.2.2.2] at b3 b5
  have vu := hv u a1.1 a1.2
  have vu' := hv u' b1.1 b1.2
  have x1 := a5 u' b1.1 b2 (by omega) (vu'.2.mp b4)
  have x2 := b5 u a1.1 a2 (by omega) (vu.2.mpr a4)
  omega
theorem okWay.unique {cr cr' : Int → Prop} {jn' pn' l' S' : Int → Int} {span' : Int} {w w' : Int → Int} {wl wl' : Int} (hl : ∀ t, 0 ≤ t → t < n → 1 ≤ l t) (hsp : okSpan n l S span) (hd : ∀ t, 0 ≤ t → t < n → jn' t = jn t ∧ pn' t = pn t ∧ l' t = l t ∧ S' t = S t ∧ (cr' t ↔ cr t)) (hs' : span' = span) (h : okWay n jn pn l S cr span w wl) (h' : okWay n jn' pn' l' S' cr' span' w' wl') : wl = wl' ∧ ∀ i, 0 ≤ i → i < wl → w i = w' i := by
  subst hs'
  have h0 : w 0 = w' 0 := by
    obtain ⟨a1, a2, a3, a4⟩ := h.2.1
    obtain ⟨b1, b2, b3, b4⟩ := h'.2.1
    have da := hd _ a1.1 a1.2
    have db := hd _ b1.1 b1.2
    by_cases z : w 0 < w' 0
    · exact absurd ⟨by omega, da.2.2.2.2.mpr a3⟩ (b4 _ a1.1 z)
    · by_cases z2 : w' 0 < w 0
      · exact absurd ⟨by omega, db.2.2.2.2.mp b3⟩ (a4 _ b1.1 z2)
      · omega
  have key : ∀ (k : Nat) (i : Int), 0 ≤ i → i < k → i < wl → i < wl' → w i = w' i := by
    intro k
    induction k with
    | zero => intro i a b; omega
    | succ k ih =>
      intro i a b c d
      by_cases z : i = 0
      · rw [z]; exact h0
      · have e := ih (i - 1) (by omega) (by omega) (by omega) (by omega)
        have q := h.2.2.1 (i - 1) (by omega) (by omega)
        have q' := h'.2.2.1 (i - 1) (by omega) (by omega)
        rw [show i - 1 + 1 = i by omega] at q q'
        rw [← e] at q'
        have hr := (h.2.2.2.2 (i - 1) (by omega) (by omega)).1
        have dd := hd _ hr.1 hr.2
        exact isNx.unique ⟨dd.1, dd.2.1, dd.2.2.1, dd.2.2.2.1⟩ (fun v x y => ⟨(hd v x y).2.2.2.1, (hd v x y).2.2.2.2⟩) q q'
  have hsp' : okSpan n l' S' span' := ⟨fun t a b => by rw [(hd t a b).2.2.1, (hd t a b).2.2.2.1]; exact hsp.1 t a b, fun hn => by
    obtain ⟨t, a, b, c⟩ := hsp.2 hn
    exact ⟨t, a, b, by rw [(hd t a b).2.2.1, (hd t a b).2.2.2.1]; exact c⟩⟩
  have e : wl = wl' := by
    by_cases z : wl < wl'
    · have x := h'.lt (fun t a b => by rw [(hd t a b).2.2.1]; exact hl t a b) hsp' (i := wl - 1) (by have := h.1; omega) (by omega)
      have y := h.2.2.2.1
      rw [key (wl.toNat) (wl - 1) (by have := h.1; omega) (by have := h.1; omega) (by omega) (by omega)] at y
      have hr := (h'.2.2.2.2 (wl - 1) (by have := h.1; omega) (by omega)).1
      have dd := hd _ hr.1 hr.2
      rw [dd.2.2.1, dd.2.2.2.1] at x
      omega
    · by_cases z2 : wl' < wl
      · have x := h.lt hl hsp (i := wl' - 1) (by have := h'.1; omega) (by omega)
        have y := h'.2.2.2.1
        have hr := (h'.2.2.2.2 (wl' - 1) (by have := h'.1; omega) (by omega)).1
        have dd := hd _ hr.1 hr.2
        rw [dd.2.2.1, dd.2.2.2.1] at y
        rw [key (wl'.toNat) (wl' - 1) (by have := h'.1; omega) (by omega) (by omega) (by omega)] at x
        omega
      · omega
  exact ⟨e, fun i a b => key (wl.toNat) i a (by omega) b (by omega)⟩
end G1
