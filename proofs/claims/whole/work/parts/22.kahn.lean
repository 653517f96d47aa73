/-! the queue of those that wait no more -/
theorem pigeonN : ∀ (n k : Nat) (f : Nat → Nat), (∀ i, i < k → f i < n) → (∀ i j, i < k → j < k → f i = f j → i = j) → k ≤ n := by
  intro n
  induction n with
  | zero =>
    intro k f h1 h2
    rcases Nat.eq_zero_or_pos k with h | h
    · omega
    · exact absurd (h1 0 h) (by omega)
  | succ n ih =>
    intro k f h1 h2
    by_cases hk : ∃ i, i < k ∧ f i = n
    · obtain ⟨i, hi, he⟩ := hk
      have := ih (k - 1) (fun j => if j < i then f j else f (j + 1)) (fun j hj => by
        split
        · rename_i hji
          have := h1 j (by omega)
          have hne : f j ≠ n := fun h => by have := h2 j i (by omega) hi (by omega); omega
          omega
        · rename_i hji
          have := h1 (j + 1) (by omega)
          have hne : f (j + 1) ≠ n := fun h => by have := h2 (j + 1) i (by omega) hi (by omega); omega
          omega) (fun a b ha hb hab => by
        split at hab <;> split at hab
        · exact h2 a b (by omega) (by omega) hab
        · have := h2 a (b + 1) (by omega) (by omega) hab; omega
        · have := h2 (a + 1) b (by omega) (by omega) hab; omega
        · have := h2 (a + 1) (b + 1) (by omega) (by omega) hab; omega)
      omega
    · have := ih k f (fun i hi => by
        have := h1 i hi
        have : f i ≠ n := fun h => hk ⟨i, hi, h⟩
        omega) h2
      omega
theorem pigeon {n k : Int} {f : Int → Int} (hk : 0 ≤ k) (hn : 0 ≤ n) (h1 : ∀ i, 0 ≤ i → i < k → 0 ≤ f i ∧ f i < n) (h2 : ∀ i j, 0 ≤ i → i < k → 0 ≤ j → j < k → f i = f j → i = j) : k ≤ n := by
  have := pigeonN n.toNat k.toNat (fun i => (f i).toNat) (fun i hi => by have := h1 i (by omega) (by omega); omega) (fun i j hi hj he => by
    have a := h1 i (by omega) (by omega)
    have b := h1 j (by omega) (by omega)
    have := h2 i j (by omega) (by omega) (by omega) (by omega) (by omega)
    omega)
  omega
/-- with one left out -/
theorem pigeon1 {n k u : Int} {f : Int → Int} (hk : 0 ≤ k) (hn : 0 ≤ n) (h1 : ∀ i, 0 ≤ i → i < k → 0 ≤ f i ∧ f i < n) (h2 : ∀ i j, 0 ≤ i → i < k → 0 ≤ j → j < k → f i = f j → i = j) (hu : 0 ≤ u ∧ u < n) (h3 : ∀ i, 0 ≤ i → i < k → f i ≠ u) : k < n := by
  have := pigeon (n := n) (k := k + 1) (f := fun i => if i = k then u else f i) (by omega) hn (fun i a b => by
    split
    · exact hu
    · exact h1 i a (by omega)) (fun i j a b c d e => by
    split at e <;> split at e
    · omega
    · exact absurd e.symm (h3 j c (by omega))
    · exact absurd e (h3 i a (by omega))
    · exact h2 i j a (by omega) c (by omega) e)
  omega
/-- k of k: each is hit -/
theorem pigeonS {n : Int} {f : Int → Int} (hn : 0 ≤ n) (h1 : ∀ i, 0 ≤ i → i < n → 0 ≤ f i ∧ f i < n) (h2 : ∀ i j, 0 ≤ i → i < n → 0 ≤ j → j < n → f i = f j → i = j) {u : Int} (hu : 0 ≤ u ∧ u < n) : ∃ i, 0 ≤ i ∧ i < n ∧ f i = u := by
  by_cases h : ∃ i, 0 ≤ i ∧ i < n ∧ f i = u
  · exact h
  · have := pigeon1 hn hn h1 h2 hu (fun i a b c => h ⟨i, a, b, c⟩)
    omega
/-- one place changed -/
def up1 (f : Int → Int) (i v : Int) : Int → Int := fun j => if j = i then v else f j
theorem up1_eq {f : Int → Int} {i v : Int} : up1 f i v i = v := if_pos rfl
theorem up1_ne {f : Int → Int} {i v j : Int} (h : j ≠ i) : up1 f i v j = f j := if_neg h
theorem up1_at {f : Int → Int} {i v j : Int} : up1 f i v j = if j = i then v else f j := rfl
theorem a_up_fn {h : aH} {c : Nat} {i v : Int} : a_up h c i v c = up1 (h c) i v := by
  funext j
  rw [a_up_at, up1_at]
def wt (a d : Int → Int) (t : Int) : Int := if 0 ≤ a t then 1 - d (a t) else 0
def st1 (a d S l : Int → Int) (t : Int) : Int := if 0 ≤ a t ∧ d (a t) = 1 then S (a t) + l (a t) else 0
def kahn (n : Int) (ja pa l dj dp w S q : Int → Int) (qd : Int) : Prop :=
  (∀ t, (dj t = 0 ∨ dj t = 1) ∧ (dp t = 0 ∨ dp t = 1)) ∧ (0 ≤ qd ∧ qd ≤ n) ∧
  (∀ t, 0 ≤ t → t < n → w t = wt ja dj t + wt pa dp t) ∧
  (∀ j, 0 ≤ j → j < qd → (0 ≤ q j ∧ q j < n) ∧ w (q j) = 0) ∧
  (∀ j j', 0 ≤ j → j < qd → 0 ≤ j' → j' < qd → q j = q j' → j = j') ∧
  (∀ t, 0 ≤ t → t < n → w t = 0 → ∃ j, 0 ≤ j ∧ j < qd ∧ q j = t) ∧
  (∀ t, 0 ≤ t → t < n → S t = max (st1 ja dj S l t) (st1 pa dp S l t)) ∧
  (∀ t, 0 ≤ t → t < n → 0 ≤ S t) ∧
  (∀ t, 0 ≤ t → t < n → (dj t = 1 ∨ dp t = 1) → w t = 0) ∧
  (∀ j, 0 ≤ j → j < qd → (0 ≤ ja (q j) → ∃ j', 0 ≤ j' ∧ j' < j ∧ q j' = ja (q j)) ∧ (0 ≤ pa (q j) → ∃ j', 0 ≤ j' ∧ j' < j ∧ q j' = pa (q j)))
theorem kahn.symm {n : Int} {ja pa l dj dp w S q : Int → Int} {qd : Int} (h : kahn n ja pa l dj dp w S q qd) : kahn n pa ja l dp dj w S q qd := by
  obtain ⟨h1, h2, h3, h4, h5, h6, h7, h8, h9, h10⟩ := h
  exact ⟨fun t => ⟨(h1 t).2, (h1 t).1⟩, h2, fun t a b => by rw [h3 t a b]; omega, h4, h5, h6, fun t a b => by rw [h7 t a b]; omega, h8, fun t a b c => h9 t a b (Or.symm c), fun j a b => ⟨(h10 j a b).2, (h10 j a b).1⟩⟩
theorem wt_cases {a d : Int → Int} (t : Int) : (0 ≤ a t ∧ wt a d t = 1 - d (a t)) ∨ (a t < 0 ∧ wt a d t = 0) := by
  unfold wt
  split
  · exact Or.inl ⟨by assumption, rfl⟩
  · exact Or.inr ⟨by omega, rfl⟩
/-- an edge of t is let go: nobody waits by it -/
theorem kahn.none {n : Int} {ja jn pa l dj dp w S q : Int → Int} {qd t : Int} (h : kahn n ja pa l dj dp w S q qd) (hd : dual n ja jn) (h0 : 0 ≤ t) (ht : t < n) (hw : w t = 0) (hu : jn t = -1) : kahn n ja pa l (up1 dj t 1) dp w S q qd := by
  obtain ⟨h1, h2, h3, h4, h5, h6, h7, h8, h9, h10⟩ := h
  have hno : ∀ v, 0 ≤ v → v < n → ja v ≠ t := fun v a b e => by
    rcases (hd v a b).1 with q | ⟨q, q2⟩
    · omega
    · rw [e] at q2; omega
  refine ⟨fun v => ⟨?_, (h1 v).2⟩, h2, fun v a b => ?_, h4, h5, h6, fun v a b => ?_, h8, fun v a b c => ?_, h10⟩
  · by_cases e : v = t
    · rw [e, up1_eq]; omega
    · rw [up1_ne e]; exact (h1 v).1
  · rw [h3 v a b]
    unfold wt
    rw [up1_ne (hno v a b)]
  · rw [h7 v a b]
    have : st1 ja dj S l v = st1 ja (up1 dj t 1) S l v := by
      unfold st1
      rw [up1_ne (hno v a b)]
    rw [this]
  · by_cases e : v = t
    · rw [e]; exact hw
    · rw [up1_ne e] at c
      exact h9 v a b c
/-- .. u waits by it -/
theorem kahn.some {n : Int} {ja jn pa l dj dp w S q : Int → Int} {qd t u : Int} (h : kahn n ja pa l dj dp w S q qd) (hn : 0 ≤ n) (hl : ∀ t, 0 ≤ t → t < n → 1 ≤ l t) (hd : dual n ja jn) (hpr : ∀ v, 0 ≤ v → v < n → pa v < n) (h0 : 0 ≤ t) (ht : t < n) (hw : w t = 0) (hdj : dj t = 0) (hu0 : 0 ≤ u) (hun : u < n) (hu : jn t = u) :
    1 ≤ w u ∧ w u ≤ 2 ∧ qd < n ∧ (w u - 1 = 0 → kahn n ja pa l (up1 dj t 1) dp (up1 w u (w u - 1)) (up1 S u (max (S u) (S t + l t))) (up1 q qd u) (qd + 1)) ∧ (¬ (w u - 1 = 0) → kahn n ja pa l (up1 dj t 1) dp (up1 w u (w u - 1)) (up1 S u (max (S u) (S t + l t))) q qd) := by
  obtain ⟨h1, h2, h3, h4, h5, h6, h7, h8, h9, h10⟩ := id h
  have hju : ja u = t := by
    rcases (hd t h0 ht).2 with q | ⟨q, q2⟩
    · omega
    · rw [hu] at q2; exact q2
  have huniq : ∀ v, 0 ≤ v → v < n → ja v = t → v = u := fun v a b e => by
    rcases (hd v a b).1 with q | ⟨q, q2⟩
    · omega
    · rw [e, hu] at q2; exact q2.symm
  have hwu := h3 u hu0 hun
  have e1 : wt ja dj u = 1 := by
    unfold wt
    rw [hju, if_pos h0, hdj]; rfl
  have hpu : wt pa dp u = 0 ∨ wt pa dp u = 1 := by
    rcases wt_cases (a := pa) (d := dp) u with ⟨a, b⟩ | ⟨a, b⟩
    · have := (h1 (pa u)).2; omega
    · omega
  have hut : u ≠ t := fun e => by
    have h9 : w u = 0 := by rw [e]; exact hw
    omega
  have hqn : qd < n := by
    refine pigeon1 h2.1 hn (fun i a b => (h4 i a b).1) h5 ⟨hu0, hun⟩ (fun i a b c => ?_)
    have := (h4 i a b).2
    rw [c] at this
    omega
  have hdu : dj u = 0 ∧ dp u = 0 := by
    have := h9 u hu0 hun
    have q := h1 u
    constructor
    · rcases q.1 with z | z
      · exact z
      · have := this (Or.inl z); omega
    · rcases q.2 with z | z
      · exact z
      · have := this (Or.inr z); omega
  have hst := h8 t h0 ht
  have hlt := hl t h0 ht
  have A1 : ∀ v, ((up1 dj t 1) v = 0 ∨ (up1 dj t 1) v = 1) ∧ (dp v = 0 ∨ dp v = 1) := fun v => ⟨by
    by_cases e : v = t
    · rw [e, up1_eq]; omega
    · rw [up1_ne e]; exact (h1 v).1, (h1 v).2⟩
  have A3 : ∀ v, 0 ≤ v → v < n → (up1 w u (w u - 1)) v = wt ja (up1 dj t 1) v + wt pa dp v := by
    intro v a b
    by_cases e : v = u
    · subst e
      rw [up1_eq, hwu, e1]
      unfold wt
      rw [hju, if_pos h0, up1_eq]
      omega
    · rw [up1_ne e, h3 v a b]
      have : wt ja dj v = wt ja (up1 dj t 1) v := by
        unfold wt
        rw [up1_ne (fun z => e (huniq v a b z))]
      rw [this]
  have A7 : ∀ v, 0 ≤ v → v < n → (up1 S u (max (S u) (S t + l t))) v = max (st1 ja (up1 dj t 1) (up1 S u (max (S u) (S t + l t))) l v) (st1 pa dp (up1 S u (max (S u) (S t + l t))) l v) := by
    intro v a b
    have hpt : st1 pa dp (up1 S u (max (S u) (S t + l t))) l v = st1 pa dp S l v := by
      unfold st1
      by_cases z : 0 ≤ pa v ∧ dp (pa v) = 1
      · rw [if_pos z, if_pos z]
        have : pa v ≠ u := fun y => by rw [y] at z; omega
        rw [up1_ne this]
      · rw [if_neg z, if_neg z]
    rw [hpt]
    by_cases e : v = u
    · subst e
      have e2 : st1 ja dj S l v = 0 := by
        unfold st1
        rw [hju, if_neg (by omega)]
      have e3 : st1 ja (up1 dj t 1) (up1 S v (max (S v) (S t + l t))) l v = S t + l t := by
        unfold st1
        rw [hju, up1_eq, if_pos ⟨h0, rfl⟩, up1_ne (fun z => hut z.symm)]
      have e4 := h7 v a b
      rw [up1_eq, e3]
      omega
    · rw [up1_ne e, h7 v a b]
      have : st1 ja (up1 dj t 1) (up1 S u (max (S u) (S t + l t))) l v = st1 ja dj S l v := by
        unfold st1
        rw [up1_ne (fun z => e (huniq v a b z))]
        by_cases z : 0 ≤ ja v ∧ dj (ja v) = 1
        · rw [if_pos z, if_pos z]
          have : ja v ≠ u := fun y => by rw [y] at z; omega
          rw [up1_ne this]
        · rw [if_neg z, if_neg z]
      rw [this]
  have A8 : ∀ v, 0 ≤ v → v < n → 0 ≤ (up1 S u (max (S u) (S t + l t))) v := by
    intro v a b
    by_cases e : v = u
    · rw [e, up1_eq]; have := h8 u hu0 hun; omega
    · rw [up1_ne e]; exact h8 v a b
  have A9 : ∀ v, 0 ≤ v → v < n → ((up1 dj t 1) v = 1 ∨ dp v = 1) → (up1 w u (w u - 1)) v = 0 := by
    intro v a b c
    by_cases e : v = t
    · rw [e, up1_ne (fun z => hut z.symm)]; exact hw
    · rw [up1_ne e] at c
      have : v ≠ u := fun z => by rw [z] at c; omega
      rw [up1_ne this]
      exact h9 v a b c
  refine ⟨by omega, by omega, hqn, fun hz => ⟨A1, ⟨by omega, by omega⟩, A3, ?_, ?_, ?_, A7, A8, A9, ?_⟩, fun hz => ⟨A1, h2, A3, ?_, h5, ?_, A7, A8, A9, h10⟩⟩
  · intro j a b
    by_cases e : j = qd
    · rw [e, up1_eq, up1_eq]; exact ⟨⟨hu0, hun⟩, hz⟩
    · rw [up1_ne e]
      have q1 := h4 j a (by omega)
      refine ⟨q1.1, ?_⟩
      rw [up1_ne (fun z => by rw [z] at q1; omega)]
      exact q1.2
  · intro j j' a b c d e
    have hnq : ∀ i, 0 ≤ i → i < qd → q i ≠ u := fun i x y z => by
      have := (h4 i x y).2
      rw [z] at this; omega
    rw [up1_at, up1_at] at e
    split at e <;> split at e
    · omega
    · exact absurd e.symm (hnq j' c (by omega))
    · exact absurd e (hnq j a (by omega))
    · exact h5 j j' a (by omega) c (by omega) e
  · intro v a b c
    by_cases e : v = u
    · exact ⟨qd, h2.1, by omega, by rw [up1_eq, e]⟩
    · rw [up1_ne e] at c
      obtain ⟨j, j0, j1, j2⟩ := h6 v a b c
      exact ⟨j, j0, by omega, by rw [up1_ne (by omega)]; exact j2⟩
  · intro j a b
    by_cases e : j = qd
    · rw [e, up1_eq]
      constructor
      · intro _
        obtain ⟨i, i0, i1, i2⟩ := h6 t h0 ht hw
        exact ⟨i, i0, by omega, by rw [up1_ne (by omega), i2, hju]⟩
      · intro z
        have hp0 : wt pa dp u = 0 := by omega
        unfold wt at hp0
        rw [if_pos z] at hp0
        have hpn := hpr u hu0 hun
        obtain ⟨i, i0, i1, i2⟩ := h6 (pa u) z hpn (h9 (pa u) z hpn (Or.inr (by omega)))
        exact ⟨i, i0, by omega, by rw [up1_ne (by omega), i2]⟩
    · rw [up1_ne e]
      have q1 := h10 j a (by omega)
      constructor
      · intro z
        obtain ⟨i, i0, i1, i2⟩ := q1.1 z
        exact ⟨i, i0, i1, by rw [up1_ne (by omega), i2]⟩
      · intro z
        obtain ⟨i, i0, i1, i2⟩ := q1.2 z
        exact ⟨i, i0, i1, by rw [up1_ne (by omega), i2]⟩
  · intro j a b
    have q1 := h4 j a b
    refine ⟨q1.1, ?_⟩
    rw [up1_ne (fun z => by rw [z] at q1; omega)]
    exact q1.2
  · intro v a b c
    by_cases e : v = u
    · rw [e, up1_eq] at c; exact absurd c hz
    · rw [up1_ne e] at c; exact h6 v a b c
