/-! No move makes a ring -/
def cntB (p : Int → Bool) : Nat → Int
  | 0 => 0
  | k + 1 => cntB p k + (if p k then 1 else 0)
theorem cntB_rng (p : Int → Bool) : ∀ k : Nat, 0 ≤ cntB p k ∧ cntB p k ≤ k
  | 0 => ⟨Int.le_refl 0, Int.le_refl 0⟩
  | k + 1 => by
    have := cntB_rng p k
    unfold cntB
    split <;> omega
theorem cntB_le {p q : Int → Bool} : ∀ k : Nat, (∀ i : Nat, i < k → p i = true → q i = true) → cntB p k ≤ cntB q k
  | 0, _ => Int.le_refl 0
  | k + 1, h => by
    have h1 := cntB_le k (fun i a b => h i (by omega) b)
    have h2 := h k (by omega)
    unfold cntB
    by_cases z : p k = true
    · rw [if_pos z, if_pos (h2 z)]; omega
    · rw [if_neg z]; split <;> omega
theorem cntB_lt {p q : Int → Bool} : ∀ k : Nat, (∀ i : Nat, i < k → p i = true → q i = true) → (∃ i : Nat, i < k ∧ q i = true ∧ ¬ p i = true) → cntB p k < cntB q k
  | 0, _, h => by obtain ⟨i, a, -⟩ := h; omega
  | k + 1, h, hx => by
    have h1 := cntB_le k (fun i a b => h i (by omega) b)
    have h2 := h k (by omega)
    obtain ⟨i, a, b, c⟩ := hx
    unfold cntB
    by_cases e : i = k
    · subst e
      rw [if_neg c, if_pos b]; omega
    · have h3 := cntB_lt k (fun i a b => h i (by omega) b) ⟨i, by omega, b, c⟩
      by_cases z : p k = true
      · rw [if_pos z, if_pos (h2 z)]; omega
      · rw [if_neg z]; split <;> omega
/-- any rank that grows along the waits will do -/
theorem acyc_rank {n : Int} {ja pa rk : Int → Int} (hn : 0 ≤ n ∧ n ≤ 24) (hr : ∀ t, 0 ≤ t → t < n → ja t < n ∧ pa t < n) (h : ∀ t, 0 ≤ t → t < n → (0 ≤ ja t → rk (ja t) < rk t) ∧ (0 ≤ pa t → rk (pa t) < rk t)) : acyc n ja pa := by
  have key : ∀ u t, 0 ≤ u → u < n → rk u < rk t → cntB (fun v => decide (rk v < rk u)) n.toNat < cntB (fun v => decide (rk v < rk t)) n.toNat := by
    intro u t a b c
    refine cntB_lt _ (fun i x y => ?_) ⟨u.toNat, by omega, ?_, ?_⟩
    · simp at y ⊢; omega
    · simp; rw [show max u 0 = u by omega]; exact c
    · simp; rw [show max u 0 = u by omega]; omega
  refine ⟨fun t => cntB (fun v => decide (rk v < rk t)) n.toNat, fun t a b => ⟨?_, fun z => key _ _ z (hr t a b).1 ((h t a b).1 z), fun z => key _ _ z (hr t a b).2 ((h t a b).2 z)⟩⟩
  have c1 := cntB_rng (fun v => decide (rk v < rk t)) n.toNat
  refine ⟨c1.1, ?_⟩
  have : cntB (fun v => decide (rk v < rk t)) n.toNat < cntB (fun _ => true) n.toNat := cntB_lt _ (fun _ _ _ => rfl) ⟨t.toNat, by omega, rfl, by simp; rw [show max t 0 = t by omega]; omega⟩
  have c2 := cntB_rng (fun _ => true) n.toNat
  dsimp only
  omega
/-- the k-th on M and the next one change places -/
def swO (o : Int → Int → Int) (M k : Int) : Int → Int → Int := fun m i => if m = M then (if i = k then o M (k + 1) else if i = k + 1 then o M k else o m i) else o m i
theorem swO_k {o : Int → Int → Int} {M k : Int} : swO o M k M k = o M (k + 1) := by unfold swO; rw [if_pos rfl, if_pos rfl]
theorem swO_k1 {o : Int → Int → Int} {M k : Int} : swO o M k M (k + 1) = o M k := by unfold swO; rw [if_pos rfl, if_neg (by omega), if_pos rfl]
theorem swO_ne {o : Int → Int → Int} {M k m i : Int} (h : m ≠ M ∨ (i ≠ k ∧ i ≠ k + 1)) : swO o M k m i = o m i := by
  unfold swO
  by_cases z : m = M
  · rw [if_pos z, if_neg (by omega), if_neg (by omega)]
  · rw [if_neg z]
theorem okOrd.swap {n : Int} {mach sz : Int → Int} {o : Int → Int → Int} {M k : Int} (ho : okOrd n mach sz o) (hM : 0 ≤ M ∧ M < 5) (hk : 0 ≤ k ∧ k + 1 < sz M) : okOrd n mach sz (swO o M k) := by
  -- where each comes from
  have src : ∀ m i, 0 ≤ i → i < sz m → ∃ i', (0 ≤ i' ∧ i' < sz m) ∧ swO o M k m i = o m i' ∧ i' = (if m = M then (if i = k then k + 1 else if i = k + 1 then k else i) else i) := by
    intro m i a b
    by_cases z : m = M
    · subst z
      by_cases y : i = k
      · exact ⟨k + 1, by omega, by rw [y, swO_k], by rw [if_pos rfl, if_pos y]⟩
      · by_cases x : i = k + 1
        · exact ⟨k, by omega, by rw [x, swO_k1], by rw [if_pos rfl, if_neg y, if_pos x]⟩
        · exact ⟨i, ⟨a, b⟩, swO_ne (Or.inr ⟨y, x⟩), by rw [if_pos rfl, if_neg y, if_neg x]⟩
    · exact ⟨i, ⟨a, b⟩, swO_ne (Or.inl z), by rw [if_neg z]⟩
  refine ⟨fun m i a b c d => ?_, fun m i i' a b c d e f g => ?_, fun t a b => ?_⟩
  · obtain ⟨j, j1, j2, -⟩ := src m i c d
    rw [j2]; exact ho.1 m j a b j1.1 j1.2
  · obtain ⟨j, j1, j2, j3⟩ := src m i c d
    obtain ⟨j', j1', j2', j3'⟩ := src m i' e f
    rw [j2, j2'] at g
    have := ho.2.1 m j j' a b j1.1 j1.2 j1'.1 j1'.2 g
    rw [j3, j3'] at this
    split at this
    · split at this <;> split at this <;> (try split at this) <;> (try split at this) <;> omega
    · exact this
  · obtain ⟨j, j0, j1, j2⟩ := ho.2.2 t a b
    by_cases z : mach t = M
    · by_cases y : j = k
      · refine ⟨k + 1, by omega, by rw [z]; omega, ?_⟩
        rw [z, swO_k1, ← y, ← z]; exact j2
      · by_cases x : j = k + 1
        · refine ⟨k, by omega, by rw [z]; omega, ?_⟩
          rw [z, swO_k, ← x, ← z]; exact j2
        · exact ⟨j, j0, j1, by rw [swO_ne (Or.inr ⟨y, x⟩)]; exact j2⟩
    · exact ⟨j, j0, j1, by rw [swO_ne (Or.inl z)]; exact j2⟩
/-- who is ahead then -/
theorem swap_pa {n : Int} {mach sz : Int → Int} {o : Int → Int → Int} {M k : Int} {pa pn pa' pn' : Int → Int} (ho : okOrd n mach sz o) (hm : ∀ t, 0 ≤ t → t < n → 0 ≤ mach t ∧ mach t < 5) (hM : 0 ≤ M ∧ M < 5) (hk : 0 ≤ k ∧ k + 1 < sz M) (hl : lnkN sz o pa pn) (hl' : lnkN sz (swO o M k) pa' pn') : ∀ t, 0 ≤ t → t < n → (t = o M (k + 1) ∧ pa' t = pa (o M k)) ∨ (t = o M k ∧ pa' t = o M (k + 1)) ∨ (t ≠ o M k ∧ t ≠ o M (k + 1) ∧ pa t = o M (k + 1) ∧ pa' t = o M k) ∨ (t ≠ o M k ∧ t ≠ o M (k + 1) ∧ pa' t = pa t) := by
  intro t a b
  obtain ⟨j, j0, j1, j2⟩ := ho.2.2 t a b
  have hmt := hm t a b
  by_cases z : mach t = M
  · rw [z] at j1 j2
    by_cases y : j = k
    · right; left
      have q := (hl' M (k + 1) hM.1 hM.2 (by omega) (by omega)).1
      rw [swO_k1, if_neg (by omega), show k + 1 - 1 = k by omega, swO_k] at q
      rw [y] at j2
      exact ⟨j2.symm, by rw [← j2]; exact q⟩
    · by_cases x : j = k + 1
      · left
        have q := (hl' M k hM.1 hM.2 (by omega) (by omega)).1
        have q2 := (hl M k hM.1 hM.2 (by omega) (by omega)).1
        rw [swO_k] at q
        rw [x] at j2
        refine ⟨j2.symm, ?_⟩
        rw [← j2, q, q2]
        split
        · rfl
        · rw [swO_ne (Or.inr ⟨by omega, by omega⟩)]
      · have n1 : t ≠ o M k := fun e => by
          have := ho.2.1 M j k hM.1 hM.2 j0 j1 hk.1 (by omega) (by rw [j2, e])
          omega
        have n2 : t ≠ o M (k + 1) := fun e => by
          have := ho.2.1 M j (k + 1) hM.1 hM.2 j0 j1 (by omega) hk.2 (by rw [j2, e])
          omega
        have q := (hl' M j hM.1 hM.2 j0 j1).1
        have q2 := (hl M j hM.1 hM.2 j0 j1).1
        rw [swO_ne (Or.inr ⟨y, x⟩), j2] at q
        rw [j2] at q2
        by_cases w : j = k + 2
        · right; right; left
          rw [if_neg (by omega), w, show k + 2 - 1 = k + 1 by omega] at q q2
          rw [swO_k1] at q
          exact ⟨n1, n2, q2, q⟩
        · right; right; right
          refine ⟨n1, n2, ?_⟩
          rw [q, q2]
          split
          · rfl
          · rw [swO_ne (Or.inr ⟨by omega, by omega⟩)]
  · right; right; right
    have q := (hl' (mach t) j hmt.1 hmt.2 j0 j1).1
    have q2 := (hl (mach t) j hmt.1 hmt.2 j0 j1).1
    rw [swO_ne (Or.inl z), j2] at q
    rw [j2] at q2
    refine ⟨fun e => z ?_, fun e => z ?_, ?_⟩
    · rw [e]; exact (ho.1 M k hM.1 hM.2 hk.1 (by omega)).2
    · rw [e]; exact (ho.1 M (k + 1) hM.1 hM.2 (by omega) hk.2).2
    · rw [q, q2]
      split
      · rfl
      · rw [swO_ne (Or.inl z)]
/-- NO MOVE MAKES A RING: a, then b, neighbours in an order, b starting as a ends, of unlike jobs -/
theorem no_ring {n : Int} {mach sz : Int → Int} {o : Int → Int → Int} {M k : Int} {ja pa pn pa' pn' l S : Int → Int} (hn : 0 ≤ n ∧ n ≤ 24) (ho : okOrd n mach sz o) (hm : ∀ t, 0 ≤ t → t < n → 0 ≤ mach t ∧ mach t < 5) (hM : 0 ≤ M ∧ M < 5) (hk : 0 ≤ k ∧ k + 1 < sz M) (hl : lnkN sz o pa pn) (hl' : lnkN sz (swO o M k) pa' pn') (hjr : ∀ t, 0 ≤ t → t < n → ja t < n) (hl1 : ∀ t, 0 ≤ t → t < n → 1 ≤ l t) (hS : okS n ja pa l S) (hc : S (o M (k + 1)) = S (o M k) + l (o M k)) (hja : ja (o M (k + 1)) ≠ o M k) (hjb : ja (o M k) ≠ o M (k + 1)) : acyc n ja pa' := by
  have qa := ho.1 M k hM.1 hM.2 hk.1 (by omega)
  have qb := ho.1 M (k + 1) hM.1 hM.2 (by omega) hk.2
  have hab : o M k ≠ o M (k + 1) := fun e => by have := ho.2.1 M k (k + 1) hM.1 hM.2 hk.1 (by omega) (by omega) hk.2 e; omega
  have hsw := swap_pa ho hm hM hk hl hl'
  have hdp := ho.dual hm hl
  have hpb : pa (o M (k + 1)) = o M k := by
    have := (hl M (k + 1) hM.1 hM.2 (by omega) hk.2).1
    rw [if_neg (by omega), show k + 1 - 1 = k by omega] at this
    exact this
  generalize ha : o M k = a at *
  generalize hb : o M (k + 1) = b at *
  have la := hl1 a qa.1.1 qa.1.2
  have lb := hl1 b qb.1.1 qb.1.2
  refine acyc_rank (rk := up1 (up1 (fun t => 3 * S t) b (3 * S b - 2)) a (3 * S b - 1)) hn (fun t x y => ⟨hjr t x y, ?_⟩) (fun t x y => ?_)
  · rcases hsw t x y with ⟨e1, e2⟩ | ⟨e1, e2⟩ | ⟨e1, e2, e3, e4⟩ | ⟨e1, e2, e3⟩
    · rw [e2]; have := hdp a qa.1.1 qa.1.2; omega
    · rw [e2]; omega
    · rw [e4]; omega
    · rw [e3]; have := hdp t x y; omega
  · have lt := hl1 t x y
    have jlt := hjr t x y
    -- rank of one that isn't a or b
    have r0 : ∀ u, u ≠ a → u ≠ b → up1 (up1 (fun t => 3 * S t) b (3 * S b - 2)) a (3 * S b - 1) u = 3 * S u := fun u p q => by rw [up1_ne p, up1_ne q]
    have ra : up1 (up1 (fun t => 3 * S t) b (3 * S b - 2)) a (3 * S b - 1) a = 3 * S b - 1 := up1_eq
    have rb : up1 (up1 (fun t => 3 * S t) b (3 * S b - 2)) a (3 * S b - 1) b = 3 * S b - 2 := by rw [up1_ne (fun z => hab z.symm), up1_eq]
    -- what is ahead starts earlier
    have hs : ∀ u, 0 ≤ u → u < n → (ja t = u ∨ pa t = u) → S u + 1 ≤ S t := fun u p q w => by
      have := hS.ahead x y p w
      have := hl1 u p q
      omega
    refine ⟨fun z => ?_, fun z => ?_⟩
    · have hj := hs (ja t) z jlt (Or.inl rfl)
      have hj2 := hS.ahead x y z (Or.inl rfl)
      by_cases ta : t = a
      · rw [ta] at hj hj2 z ⊢
        rw [ra]
        have n1 : ja a ≠ b := hjb
        have n2 : ja a ≠ a := fun e => by rw [e] at hj; omega
        rw [r0 _ n2 n1]; omega
      · by_cases tb : t = b
        · rw [tb] at hj hj2 z ⊢
          rw [rb]
          have n1 : ja b ≠ a := hja
          have n2 : ja b ≠ b := fun e => by rw [e] at hj; omega
          rw [r0 _ n1 n2]; omega
        · rw [r0 t ta tb]
          by_cases u1 : ja t = a
          · rw [u1] at hj2 ⊢; rw [ra]; omega
          · by_cases u2 : ja t = b
            · rw [u2] at hj2 ⊢; rw [rb]; omega
            · rw [r0 _ u1 u2]; omega
    · rcases hsw t x y with ⟨e1, e2⟩ | ⟨e1, e2⟩ | ⟨e1, e2, e3, e4⟩ | ⟨e1, e2, e3⟩
      · rw [e2] at z ⊢
        rw [e1, rb]
        have hp := hS.ahead qa.1.1 qa.1.2 z (Or.inr rfl)
        have hpn : pa a < n := by have := hdp a qa.1.1 qa.1.2; omega
        have := hl1 _ z hpn
        have n1 : pa a ≠ a := fun e => by rw [e] at hp; omega
        have n2 : pa a ≠ b := fun e => by rw [e] at hp; omega
        rw [r0 _ n1 n2]; omega
      · rw [e2, e1, ra, rb]; omega
      · rw [e4, ra, r0 t e1 e2]
        have := hS.ahead x y qb.1.1 (Or.inr e3)
        omega
      · rw [e3] at z ⊢
        rw [r0 t e1 e2]
        have hp := hS.ahead x y z (Or.inr rfl)
        have hpn : pa t < n := by have := hdp t x y; omega
        have := hl1 _ z hpn
        by_cases u1 : pa t = a
        · rw [u1] at hp ⊢; rw [ra]
          exfalso
          have d1 := (hdp t x y).1
          have d2 := (hdp b qb.1.1 qb.1.2).1
          rw [u1] at d1
          rw [hpb] at d2
          omega
        · by_cases u2 : pa t = b
          · rw [u2] at hp ⊢; rw [rb]; omega
          · rw [r0 _ u1 u2]; omega
