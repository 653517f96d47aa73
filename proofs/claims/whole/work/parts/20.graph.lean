/-! THE MATHEMATICS: shops, orders, waiting, starts and tails. All numbers are Int; -1: none. -/
/-- the tables of a shop -/
def okShop (n nj : Int) (job place mach lasts : Int → Int) : Prop :=
  (0 ≤ n ∧ n ≤ 24) ∧ (0 ≤ nj ∧ nj ≤ 6) ∧
  (∀ t, 0 ≤ t → t < n → (0 ≤ job t ∧ job t < nj) ∧ (0 ≤ place t ∧ place t < 6) ∧ (0 ≤ mach t ∧ mach t < 5) ∧ (1 ≤ lasts t ∧ lasts t ≤ 99)) ∧
  (∀ t, 0 ≤ t → t < n → (place t = 0 → (t = 0 ∧ job t = 0) ∨ (0 < t ∧ job t = job (t - 1) + 1)) ∧ (0 < place t → 0 < t ∧ job t = job (t - 1) ∧ place t = place (t - 1) + 1)) ∧
  (0 < n → job (n - 1) = nj - 1) ∧ (n = 0 → nj = 0)
/-- the one ahead in its job, the next one -/
def jA (place : Int → Int) (t : Int) : Int := if place t ≤ 0 then -1 else t - 1
def jN (n : Int) (job : Int → Int) (t : Int) : Int := if n ≤ t + 1 then -1 else if job (t + 1) = job t then t + 1 else -1
/-- orders: the k-th on machine m; sz m: how many -/
def okOrd (n : Int) (mach sz : Int → Int) (o : Int → Int → Int) : Prop :=
  (∀ m k, 0 ≤ m → m < 5 → 0 ≤ k → k < sz m → (0 ≤ o m k ∧ o m k < n) ∧ mach (o m k) = m) ∧
  (∀ m k k', 0 ≤ m → m < 5 → 0 ≤ k → k < sz m → 0 ≤ k' → k' < sz m → o m k = o m k' → k = k') ∧
  (∀ t, 0 ≤ t → t < n → ∃ k, 0 ≤ k ∧ k < sz (mach t) ∧ o (mach t) k = t)
def sameO (sz : Int → Int) (o o' : Int → Int → Int) : Prop := ∀ m k, 0 ≤ m → m < 5 → 0 ≤ k → k < sz m → o m k = o' m k
/-- neighbours in the orders -/
def lnkN (sz : Int → Int) (o : Int → Int → Int) (pa pn : Int → Int) : Prop := ∀ m k, 0 ≤ m → m < 5 → 0 ≤ k → k < sz m → pa (o m k) = (if k ≤ 0 then -1 else o m (k - 1)) ∧ pn (o m k) = (if sz m ≤ k + 1 then -1 else o m (k + 1))
def lnkR (sz : Int → Int) (o : Int → Int → Int) (rank : Int → Int) : Prop := ∀ m k, 0 ≤ m → m < 5 → 0 ≤ k → k < sz m → rank (o m k) = k
/-- a is ahead, b next, one the other's -/
def dual (n : Int) (a b : Int → Int) : Prop := ∀ t, 0 ≤ t → t < n → (a t = -1 ∨ ((0 ≤ a t ∧ a t < n) ∧ b (a t) = t)) ∧ (b t = -1 ∨ ((0 ≤ b t ∧ b t < n) ∧ a (b t) = t))
def acyc (n : Int) (ja pa : Int → Int) : Prop := ∃ pos : Int → Int, ∀ t, 0 ≤ t → t < n → (0 ≤ pos t ∧ pos t < 24) ∧ (0 ≤ ja t → pos (ja t) < pos t) ∧ (0 ≤ pa t → pos (pa t) < pos t)
def eo (S l : Int → Int) (u : Int) : Int := if u < 0 then 0 else S u + l u
def ro (T l : Int → Int) (u : Int) : Int := if u < 0 then 0 else l u + T u
def okS (n : Int) (ja pa l S : Int → Int) : Prop := ∀ t, 0 ≤ t → t < n → S t = max (eo S l (ja t)) (eo S l (pa t))
def okT (n : Int) (jn pn l T : Int → Int) : Prop := ∀ t, 0 ≤ t → t < n → T t = max (ro T l (jn t)) (ro T l (pn t))
def okSpan (n : Int) (l S : Int → Int) (span : Int) : Prop := (∀ t, 0 ≤ t → t < n → S t + l t ≤ span) ∧ (0 < n → ∃ t, 0 ≤ t ∧ t < n ∧ S t + l t = span)
theorem jA_cases {place : Int → Int} (t : Int) : (place t ≤ 0 ∧ jA place t = -1) ∨ (0 < place t ∧ jA place t = t - 1) := by
  unfold jA
  split
  · exact Or.inl ⟨by assumption, rfl⟩
  · exact Or.inr ⟨by omega, rfl⟩
theorem jN_cases {n : Int} {job : Int → Int} (t : Int) : ((n ≤ t + 1 ∨ job (t + 1) ≠ job t) ∧ jN n job t = -1) ∨ (t + 1 < n ∧ job (t + 1) = job t ∧ jN n job t = t + 1) := by
  unfold jN
  split
  · exact Or.inl ⟨Or.inl (by assumption), rfl⟩
  · split
    · exact Or.inr ⟨by omega, by assumption, rfl⟩
    · exact Or.inl ⟨Or.inr (by assumption), rfl⟩
theorem okShop.dual {n nj : Int} {job place mach lasts : Int → Int} (hs : okShop n nj job place mach lasts) : dual n (jA place) (jN n job) := by
  obtain ⟨h1, h2, h3, h4, -⟩ := hs
  intro t h0 ht
  have q := h4 t h0 ht
  have q3 := h3 t h0 ht
  refine ⟨?_, ?_⟩
  · rcases jA_cases (place := place) t with ⟨a, e⟩ | ⟨a, e⟩
    · exact Or.inl e
    · right
      rw [e]
      have := q.2 a
      refine ⟨by omega, ?_⟩
      rcases jN_cases (n := n) (job := job) (t - 1) with ⟨b, e2⟩ | ⟨b, c, e2⟩
      · rw [show t - 1 + 1 = t by omega] at b
        omega
      · rw [e2]; omega
  · rcases jN_cases (n := n) (job := job) t with ⟨a, e⟩ | ⟨a, b, e⟩
    · exact Or.inl e
    · right
      rw [e]
      refine ⟨by omega, ?_⟩
      have q' := h4 (t + 1) (by omega) a
      have q3' := h3 (t + 1) (by omega) a
      rw [show t + 1 - 1 = t by omega] at q'
      rcases jA_cases (place := place) (t + 1) with ⟨c, e2⟩ | ⟨c, e2⟩
      · have := q'.1 (by omega)
        omega
      · rw [e2]; omega
theorem okOrd.dual {n : Int} {mach sz : Int → Int} {o : Int → Int → Int} {pa pn : Int → Int} (ho : okOrd n mach sz o) (hm : ∀ t, 0 ≤ t → t < n → 0 ≤ mach t ∧ mach t < 5) (hl : lnkN sz o pa pn) : dual n pa pn := by
  intro t h0 ht
  obtain ⟨k, k0, k1, e⟩ := ho.2.2 t h0 ht
  have hmt := hm t h0 ht
  have q := hl (mach t) k hmt.1 hmt.2 k0 k1
  rw [e] at q
  refine ⟨?_, ?_⟩
  · by_cases hk : k ≤ 0
    · exact Or.inl (by rw [q.1, if_pos hk])
    · right
      rw [q.1, if_neg hk]
      have q1 := ho.1 (mach t) (k - 1) hmt.1 hmt.2 (by omega) (by omega)
      refine ⟨q1.1, ?_⟩
      rw [(hl (mach t) (k - 1) hmt.1 hmt.2 (by omega) (by omega)).2, if_neg (by omega), show k - 1 + 1 = k by omega, e]
  · by_cases hk : sz (mach t) ≤ k + 1
    · exact Or.inl (by rw [q.2, if_pos hk])
    · right
      rw [q.2, if_neg hk]
      have q1 := ho.1 (mach t) (k + 1) hmt.1 hmt.2 (by omega) (by omega)
      refine ⟨q1.1, ?_⟩
      rw [(hl (mach t) (k + 1) hmt.1 hmt.2 (by omega) (by omega)).1, if_neg (by omega), show k + 1 - 1 = k by omega, e]
/-- neighbours are told by the orders -/
theorem lnkN.same {n : Int} {mach sz : Int → Int} {o o' : Int → Int → Int} {pa pn pa' pn' : Int → Int} (ho : okOrd n mach sz o) (hm : ∀ t, 0 ≤ t → t < n → 0 ≤ mach t ∧ mach t < 5) (hso : sameO sz o o') (hl : lnkN sz o pa pn) (hl' : lnkN sz o' pa' pn') : ∀ t, 0 ≤ t → t < n → pa t = pa' t ∧ pn t = pn' t := by
  intro t h0 ht
  obtain ⟨k, k0, k1, e⟩ := ho.2.2 t h0 ht
  have hmt := hm t h0 ht
  have q := hl (mach t) k hmt.1 hmt.2 k0 k1
  have q' := hl' (mach t) k hmt.1 hmt.2 k0 k1
  rw [← hso _ _ hmt.1 hmt.2 k0 k1] at q'
  rw [e] at q q'
  rw [q.1, q.2, q'.1, q'.2]
  constructor
  · split
    · rfl
    · exact hso _ _ hmt.1 hmt.2 (by omega) (by omega)
  · split
    · rfl
    · exact hso _ _ hmt.1 hmt.2 (by omega) (by omega)
theorem eo_neg {S l : Int → Int} {u : Int} (h : u < 0) : eo S l u = 0 := by unfold eo; rw [if_pos h]
theorem eo_pos {S l : Int → Int} {u : Int} (h : 0 ≤ u) : eo S l u = S u + l u := by unfold eo; rw [if_neg (by omega)]
theorem ro_neg {S l : Int → Int} {u : Int} (h : u < 0) : ro S l u = 0 := by unfold ro; rw [if_pos h]
theorem ro_pos {S l : Int → Int} {u : Int} (h : 0 ≤ u) : ro S l u = l u + S u := by unfold ro; rw [if_neg (by omega)]
theorem okS.unique {n : Int} {ja ja' pa pa' l l' S S' : Int → Int} (hr : ∀ t, 0 ≤ t → t < n → (ja t < n ∧ pa t < n) ∧ ja' t = ja t ∧ pa' t = pa t ∧ l' t = l t) (hac : acyc n ja pa) (h : okS n ja pa l S) (h' : okS n ja' pa' l' S') : ∀ t, 0 ≤ t → t < n → S t = S' t := by
  obtain ⟨pos, hpos⟩ := hac
  have key : ∀ (d : Nat) (t : Int), 0 ≤ t → t < n → pos t < d → S t = S' t := by
    intro d
    induction d with
    | zero =>
      intro t h0 ht hd
      have := (hpos t h0 ht).1
      omega
    | succ d ih =>
      intro t h0 ht hd
      have hq := hpos t h0 ht
      have hrt := hr t h0 ht
      rw [h t h0 ht, h' t h0 ht, hrt.2.1, hrt.2.2.1]
      have e : ∀ u, u < n → (0 ≤ u → pos u < pos t) → eo S l u = eo S' l' u := by
        intro u hu hp
        by_cases h9 : u < 0
        · rw [eo_neg h9, eo_neg h9]
        · rw [eo_pos (by omega), eo_pos (by omega), ih u (by omega) hu (by have := hp (by omega); omega), (hr u (by omega) hu).2.2.2]
      rw [e _ hrt.1.1 hq.2.1, e _ hrt.1.2 hq.2.2]
  intro t h0 ht
  exact key 24 t h0 ht (hpos t h0 ht).1.2
theorem okT.unique {n : Int} {ja pa jn jn' pn pn' l l' T T' : Int → Int} (hj : dual n ja jn) (hp : dual n pa pn) (hr : ∀ t, 0 ≤ t → t < n → jn' t = jn t ∧ pn' t = pn t ∧ l' t = l t) (hac : acyc n ja pa) (h : okT n jn pn l T) (h' : okT n jn' pn' l' T') : ∀ t, 0 ≤ t → t < n → T t = T' t := by
  obtain ⟨pos, hpos⟩ := hac
  have key : ∀ (d : Nat) (t : Int), 0 ≤ t → t < n → 24 - pos t ≤ d → T t = T' t := by
    intro d
    induction d with
    | zero =>
      intro t h0 ht hd
      have := (hpos t h0 ht).1
      omega
    | succ d ih =>
      intro t h0 ht hd
      have hrt := hr t h0 ht
      rw [h t h0 ht, h' t h0 ht, hrt.1, hrt.2.1]
      have e1 : ro T l (jn t) = ro T' l' (jn t) := by
        rcases (hj t h0 ht).2 with q | ⟨q, q2⟩
        · rw [q]; rfl
        · have h5 := (hpos _ q.1 q.2).2.1
          rw [q2] at h5
          have h6 := h5 h0
          rw [ro_pos q.1, ro_pos q.1, ih _ q.1 q.2 (by omega), (hr _ q.1 q.2).2.2]
      have e2 : ro T l (pn t) = ro T' l' (pn t) := by
        rcases (hp t h0 ht).2 with q | ⟨q, q2⟩
        · rw [q]; rfl
        · have h5 := (hpos _ q.1 q.2).2.2
          rw [q2] at h5
          have h6 := h5 h0
          rw [ro_pos q.1, ro_pos q.1, ih _ q.1 q.2 (by omega), (hr _ q.1 q.2).2.2]
      rw [e1, e2]
  intro t h0 ht
  exact key 24 t h0 ht (by have := (hpos t h0 ht).1; omega)
theorem okS.nonneg {n : Int} {ja pa l S : Int → Int} (hl : ∀ t, 0 ≤ t → t < n → 1 ≤ l t) (hr : ∀ t, 0 ≤ t → t < n → ja t < n ∧ pa t < n) (hac : acyc n ja pa) (h : okS n ja pa l S) : ∀ t, 0 ≤ t → t < n → 0 ≤ S t := by
  obtain ⟨pos, hpos⟩ := hac
  have key : ∀ (d : Nat) (t : Int), 0 ≤ t → t < n → pos t < d → 0 ≤ S t := by
    intro d
    induction d with
    | zero =>
      intro t h0 ht hd
      have := (hpos t h0 ht).1
      omega
    | succ d ih =>
      intro t h0 ht hd
      rw [h t h0 ht]
      have : 0 ≤ eo S l (ja t) := by
        by_cases h9 : ja t < 0
        · rw [eo_neg h9]; omega
        · rw [eo_pos (by omega)]
          have := (hpos t h0 ht).2.1 (by omega)
          have := ih (ja t) (by omega) (hr t h0 ht).1 (by omega)
          have := hl (ja t) (by omega) (hr t h0 ht).1
          omega
      omega
  intro t h0 ht
  exact key 24 t h0 ht (hpos t h0 ht).1.2
theorem okS.ahead {n : Int} {ja pa l S : Int → Int} (h : okS n ja pa l S) {t u : Int} (h0 : 0 ≤ t) (ht : t < n) (hu : 0 ≤ u) (he : ja t = u ∨ pa t = u) : S u + l u ≤ S t := by
  have := h t h0 ht
  rcases he with e | e <;> rw [e] at this <;> rw [eo_pos hu] at this <;> omega
/-- no way is longer than the span -/
theorem way_le {n : Int} {ja pa jn pn l S T : Int → Int} {span : Int} (hj : dual n ja jn) (hp : dual n pa pn) (hac : acyc n ja pa) (hS : okS n ja pa l S) (hT : okT n jn pn l T) (hsp : okSpan n l S span) : ∀ t, 0 ≤ t → t < n → S t + l t + T t ≤ span := by
  obtain ⟨pos, hpos⟩ := hac
  have key : ∀ (d : Nat) (t : Int), 0 ≤ t → t < n → 24 - pos t ≤ d → S t + l t + T t ≤ span := by
    intro d
    induction d with
    | zero =>
      intro t h0 ht hd
      have := (hpos t h0 ht).1
      omega
    | succ d ih =>
      intro t h0 ht hd
      rw [hT t h0 ht]
      have h1 := hsp.1 t h0 ht
      have e1 : S t + l t + ro T l (jn t) ≤ span := by
        rcases (hj t h0 ht).2 with q | ⟨q, q2⟩
        · rw [q, ro_neg (by omega)]; omega
        · have h5 := (hpos _ q.1 q.2).2.1
          rw [q2] at h5
          have h6 := h5 h0
          have h7 := ih _ q.1 q.2 (by omega)
          have h8 := hS.ahead q.1 q.2 h0 (Or.inl q2)
          rw [ro_pos q.1]; omega
      have e2 : S t + l t + ro T l (pn t) ≤ span := by
        rcases (hp t h0 ht).2 with q | ⟨q, q2⟩
        · rw [q, ro_neg (by omega)]; omega
        · have h5 := (hpos _ q.1 q.2).2.2
          rw [q2] at h5
          have h6 := h5 h0
          have h7 := ih _ q.1 q.2 (by omega)
          have h8 := hS.ahead q.1 q.2 h0 (Or.inr q2)
          rw [ro_pos q.1]; omega
      omega
  intro t h0 ht
  exact key 24 t h0 ht (by have := (hpos t h0 ht).1; omega)
