/-! .. the starts behind each task put -/
theorem okShop.mono {n nj : Int} {job place mach l : Int → Int} (hs : okShop n nj job place mach l) : ∀ (d : Nat) (t : Int), 0 ≤ t → t + d < n → job t ≤ job (t + d) := by
  intro d
  induction d with
  | zero =>
    intro t _ _
    rw [show t + ((0 : Nat) : Int) = t by omega]
    omega
  | succ d ih =>
    intro t t0 t1
    have a := ih t t0 (by omega)
    have q := hs.2.2.2.1 (t + d + 1) (by omega) (by omega)
    have p := (hs.2.2.1 (t + d + 1) (by omega) (by omega)).2.1
    rw [show t + d + 1 - 1 = t + d by omega] at q
    rw [show t + ((d + 1 : Nat) : Int) = t + d + 1 by omega]
    by_cases z : place (t + d + 1) = 0
    · have := q.1 z
      omega
    · have := q.2 (by omega)
      omega
theorem okShop.mono' {n nj : Int} {job place mach l : Int → Int} (hs : okShop n nj job place mach l) {t u : Int} (h0 : 0 ≤ t) (h1 : t ≤ u) (h2 : u < n) : job t ≤ job u := by
  have := hs.mono (u - t).toNat t h0 (by omega)
  rw [show t + ((u - t).toNat : Int) = u by omega] at this
  exact this
theorem okShop.pl {n nj : Int} {job place mach l : Int → Int} (hs : okShop n nj job place mach l) : ∀ t, 0 ≤ t → t < n → 0 < place t → 0 < t := fun t a b c => ((hs.2.2.2.1 t a b).2 c).1
theorem okShop.mid {n nj : Int} {job place mach l : Int → Int} (hs : okShop n nj job place mach l) {t u : Int} (h0 : 0 ≤ t) (h1 : t < u) (h2 : u < n) (he : job t = job u) : 0 < place u ∧ job (u - 1) = job u := by
  have a := hs.mono' h0 (show t ≤ u - 1 by omega) (by omega)
  have q := hs.2.2.2.1 u (by omega) h2
  have p := (hs.2.2.1 u (by omega) h2).2.1
  by_cases z : place u = 0
  · have := q.1 z
    omega
  · have := q.2 (by omega)
    omega
theorem dI1.pre {n nj : Int} {job place mach l : Int → Int} {S : dSt} {i : Nat} (hs : okShop n nj job place mach l) (h : dI1 n place mach S i) : ∀ (d : Nat) (t : Int), 0 ≤ t → t + d < n → job t = job (t + d) → dP S (t + d) = 1 → dP S t = 1 := by
  intro d
  induction d with
  | zero =>
    intro t _ _ _ e
    rw [show t + ((0 : Nat) : Int) = t by omega] at e
    exact e
  | succ d ih =>
    intro t t0 t1 e e1
    have m := hs.mid t0 (show t < t + ((d + 1 : Nat) : Int) by omega) t1 e
    have q := h.2.2.1 _ (by omega) t1 e1 m.1
    rw [show t + ((d + 1 : Nat) : Int) - 1 = t + d by omega] at q m
    exact ih t t0 (by omega) (by omega) q
theorem dI1.pre' {n nj : Int} {job place mach l : Int → Int} {S : dSt} {i : Nat} (hs : okShop n nj job place mach l) (h : dI1 n place mach S i) {t u : Int} (t0 : 0 ≤ t) (h1 : t ≤ u) (h2 : u < n) (e : job t = job u) (e1 : dP S u = 1) : dP S t = 1 := by
  refine h.pre hs (u - t).toNat t t0 (by omega) ?_ ?_ <;> rw [show t + ((u - t).toNat : Int) = u by omega] <;> assumption
theorem dNx.ja {n nj : Int} {job place mach l : Int → Int} {S : dSt} {i : Nat} {t : Int} (hs : okShop n nj job place mach l) (h : dI1 n place mach S i) (ht : dNx n place S t) : (place t = 0 ∧ jA place t = -1) ∨ (0 < place t ∧ jA place t = t - 1 ∧ 0 < t ∧ dP S (t - 1) = 1 ∧ job (t - 1) = job t) := by
  obtain ⟨⟨t0, t1⟩, t2, t3⟩ := ht
  have p := (hs.2.2.1 t t0 t1).2.1
  rcases jA_cases (place := place) t with ⟨a, b⟩ | ⟨a, b⟩
  · exact Or.inl ⟨by omega, b⟩
  · right
    have q := (hs.2.2.2.1 t t0 t1).2 a
    rw [b] at t3
    refine ⟨a, b, q.1, ?_, q.2.1.symm⟩
    rcases h.1 (t - 1) (by omega) (by omega) with w | w
    · omega
    · exact w
theorem dNx.jf {n nj : Int} {job place mach l : Int → Int} {S : dSt} {i : Nat} {t : Int} (hs : okShop n nj job place mach l) (h : dI1 n place mach S i) (h2 : dI2 n job place mach l S i) (ht : dNx n place S t) : dJf S (job t) = eo (dSs S) l (jA place t) := by
  rcases ht.ja hs h with ⟨a, b⟩ | ⟨a, b, c, d, e⟩
  · rw [b, eo_neg (by omega)]
    exact h2.1 t ht.1.1 ht.1.2 a ht.2.1
  · rw [b, eo_pos (by omega)]
    have ht1 := ht.1
    have q := h2.2.1 (t - 1) (by omega) (by omega) d (fun _ _ => by rw [show t - 1 + 1 = t by omega]; exact ht.2.1)
    rw [e] at q
    exact q
set_option maxHeartbeats 1000000 in
theorem dI2.put {n nj : Int} {job place mach l : Int → Int} {S : dSt} {i : Nat} {t : Int} (hs : okShop n nj job place mach l) (h : dI1 n place mach S i) (g : dI2 n job place mach l S i) (ht : dNx n place S t) : dI2 n job place mach l (dPut job mach l S i t) (i + 1) := by
  have hja := ht.ja hs h
  have hjf := ht.jf hs h g
  have h' := h.put (job := job) (l := l) hs.pl (fun t a b => (hs.2.2.1 t a b).2.2.1) ht
  obtain ⟨h1, h2, h3, h4, h5, h6, h7⟩ := id h
  obtain ⟨g1, g2, g3, g4, g5, g6, g7, g8, g9, g10⟩ := g
  obtain ⟨⟨t0, t1⟩, t2, t3⟩ := id ht
  have mt := (hs.2.2.1 t t0 t1).2.2.1
  have lt := (hs.2.2.1 t t0 t1).2.2.2
  have pt0 := (h4 _ mt.1 mt.2).1
  have eP : ∀ u, dP (dPut job mach l S i t) u = if u = t then 1 else dP S u := fun u => rfl
  have ePt : ∀ M, dPt (dPut job mach l S i t) M = if M = mach t then dPt S (mach t) + 1 else dPt S M := fun M => rfl
  have eO : ∀ M k, dO (dPut job mach l S i t) M k = if M = mach t ∧ k = dPt S (mach t) then t else dO S M k := fun M k => rfl
  have eMf : ∀ M, dMf (dPut job mach l S i t) M = if M = mach t then dStart job mach S t + l t else dMf S M := fun M => rfl
  have eJf : ∀ j, dJf (dPut job mach l S i t) j = if j = job t then dStart job mach S t + l t else dJf S j := fun M => rfl
  have eSs : ∀ u, dSs (dPut job mach l S i t) u = if u = t then dStart job mach S t else dSs S u := fun M => rfl
  have ePs : ∀ u, dPos (dPut job mach l S i t) u = if u = t then (i : Int) else dPos S u := fun M => rfl
  have eSp : dSp (dPut job mach l S i t) = max (dSp S) (dStart job mach S t + l t) := rfl
  have old : ∀ M k, dV (dPut job mach l S i t) M k → ¬ (M = mach t ∧ k = dPt S (mach t)) → dV S M k := by
    intro M k v nv
    refine ⟨v.1, v.2.1, ?_⟩
    have := v.2.2
    rw [ePt] at this
    by_cases e : M = mach t
    · rw [if_pos e] at this
      rw [e]
      have : k ≠ dPt S (mach t) := fun w => nv ⟨e, w⟩
      omega
    · rw [if_neg e] at this
      exact this
  have neq : ∀ M k, dV S M k → dO S M k ≠ t := fun M k v e => by
    have := (h5 M k v).2.2
    rw [e, t2] at this
    omega
  have bM := g9 (mach t)
  have bJ := g10 (job t)
  have st0 : 0 ≤ dStart job mach S t ∧ dStart job mach S t ≤ dSp S := by unfold dStart; omega
  have posI : ∀ u, 0 ≤ u → u < n → dP S u = 1 → 0 ≤ dPos S u ∧ dPos S u < i := by
    intro u a b c
    obtain ⟨k, v, e⟩ := h7 u a b c
    have := (g5 _ k v).1
    rw [e] at this
    exact this
  have mfE : dMf S (mach t) = if dPt S (mach t) ≤ 0 then 0 else dSs S (dO S (mach t) (dPt S (mach t) - 1)) + l (dO S (mach t) (dPt S (mach t) - 1)) := g3 _ mt.1 mt.2
  have eoE : ∀ u, u ≠ t → eo (dSs (dPut job mach l S i t)) l u = eo (dSs S) l u := by
    intro u hu
    by_cases z : u < 0
    · rw [eo_neg z, eo_neg z]
    · rw [eo_pos (by omega), eo_pos (by omega), eSs, if_neg hu]
  have jat : jA place t ≠ t := by
    rcases hja with ⟨-, b⟩ | ⟨-, b, -⟩ <;> omega
  refine ⟨fun u a b c d => ?_, fun u a b c d => ?_, fun M a b => ?_, fun M k v => ?_, fun M k v => ?_, fun u a b c => ?_, ?_, fun _ => ?_, fun M => ?_, fun j => ?_⟩
  · rw [eP] at d
    have ut : u ≠ t := fun e => by rw [if_pos e] at d; omega
    rw [if_neg ut] at d
    rw [eJf, if_neg]
    · exact g1 u a b c d
    · intro e
      by_cases z : u < t
      · have m := hs.mid a z t1 e
        rcases hja with ⟨w, -⟩ | ⟨-, -, -, w, w2⟩
        · omega
        · have := h.pre' hs a (show u ≤ t - 1 by omega) (by omega) (by omega) w
          omega
      · have m := hs.mid t0 (show t < u by omega) b e.symm
        omega
  · rw [eP] at c
    by_cases e : u = t
    · rw [eJf, e, if_pos rfl, eSs, if_pos rfl]
    · rw [if_neg e] at c
      by_cases ej : job u = job t
      · exfalso
        by_cases z : u < t
        · have m := hs.mid a z t1 ej
          rcases hja with ⟨w, -⟩ | ⟨-, -, -, w, w2⟩
          · omega
          · have j1 := hs.mono' a (show u ≤ u + 1 by omega) (by omega)
            have j2 := hs.mono' (show 0 ≤ u + 1 by omega) (show u + 1 ≤ t by omega) t1
            have q := d (by omega) (by omega)
            rw [eP] at q
            by_cases y : u + 1 = t
            · rw [if_pos y] at q; omega
            · rw [if_neg y] at q
              have := h.pre' hs (show 0 ≤ u + 1 by omega) (show u + 1 ≤ t - 1 by omega) (by omega) (by omega) w
              omega
        · have := h.pre' hs t0 (show t ≤ u by omega) b ej.symm c
          omega
      · rw [eJf, if_neg ej, eSs, if_neg e]
        refine g2 u a b c (fun x y => ?_)
        have q := d x y
        rw [eP] at q
        by_cases z : u + 1 = t
        · rw [if_pos z] at q; omega
        · rw [if_neg z] at q; exact q
  · rw [eMf, ePt]
    by_cases e : M = mach t
    · rw [if_pos e, if_pos e, if_neg (by omega), eO, if_pos ⟨e, by omega⟩, eSs, if_pos rfl]
    · rw [if_neg e, if_neg e, g3 M a b]
      by_cases z : dPt S M ≤ 0
      · rw [if_pos z, if_pos z]
      · rw [if_neg z, if_neg z, eO, if_neg (fun w => e w.1), eSs, if_neg (neq M _ ⟨⟨a, b⟩, by omega, by omega⟩)]
  · by_cases e : M = mach t ∧ k = dPt S (mach t)
    · have eot : dO (dPut job mach l S i t) M k = t := by rw [eO, if_pos e]
      rw [eot, eSs, if_pos rfl, eoE _ jat]
      unfold dStart
      rw [hjf, mfE]
      rw [e.1, e.2]
      by_cases z : dPt S (mach t) ≤ 0
      · rw [if_pos z, if_pos z]; omega
      · rw [if_neg z, if_neg z, eO, if_neg (fun w => by omega), eSs, if_neg (neq _ _ ⟨mt, by omega, by omega⟩)]
        omega
    · have v' := old M k v e
      have q := h5 M k v'
      rw [eO, if_neg e, eSs, if_neg (neq M k v'), g4 M k v', eoE]
      · by_cases z : k ≤ 0
        · rw [if_pos z, if_pos z]
        · have v2 : dV S M (k - 1) := ⟨v'.1, by omega, by have := v'.2.2; omega⟩
          have ne : ¬ (M = mach t ∧ k - 1 = dPt S (mach t)) := fun w => by
            have := v'.2.2
            rw [w.1] at this
            omega
          rw [if_neg z, if_neg z, eO, if_neg ne, eSs, if_neg (neq M _ v2)]
      · intro w
        rcases jA_cases (place := place) (dO S M k) with ⟨x, y⟩ | ⟨x, y⟩
        · omega
        · have r := h3 _ q.1.1 q.1.2 q.2.2 x
          rw [← y, w, t2] at r
          omega
  · by_cases e : M = mach t ∧ k = dPt S (mach t)
    · have eot : dO (dPut job mach l S i t) M k = t := by rw [eO, if_pos e]
      rw [eot, ePs, if_pos rfl]
      refine ⟨by omega, fun w => ?_, fun w => ?_⟩
      · rcases hja with ⟨-, b⟩ | ⟨a, b, c, d, -⟩
        · omega
        · rw [b, ePs, if_neg (by omega)]
          exact (posI (t - 1) (by omega) (by omega) d).2
      · have v2 : dV S M (k - 1) := ⟨v.1, by omega, by rw [e.1]; omega⟩
        have q := h5 M _ v2
        rw [eO, if_neg (fun x => by omega), ePs, if_neg (neq M _ v2)]
        exact (posI _ q.1.1 q.1.2 q.2.2).2
    · have v' := old M k v e
      have q := h5 M k v'
      have r := g5 M k v'
      rw [eO, if_neg e, ePs, if_neg (neq M k v')]
      refine ⟨by omega, fun w => ?_, fun w => ?_⟩
      · rw [ePs, if_neg]
        · exact r.2.1 w
        · intro x
          rcases jA_cases (place := place) (dO S M k) with ⟨y, z⟩ | ⟨y, z⟩
          · omega
          · have r := h3 _ q.1.1 q.1.2 q.2.2 y
            rw [← z, x, t2] at r
            omega
      · have v2 : dV S M (k - 1) := ⟨v'.1, by omega, by have := v'.2.2; omega⟩
        have ne : ¬ (M = mach t ∧ k - 1 = dPt S (mach t)) := fun w => by
          have := v'.2.2
          rw [w.1] at this
          omega
        rw [eO, if_neg ne, ePs, if_neg (neq M _ v2)]
        exact r.2.2 w
  · rw [eP] at c
    rw [eSs, eSp]
    by_cases e : u = t
    · rw [if_pos e, e]; omega
    · rw [if_neg e] at c ⊢
      have := g6 u a b c
      omega
  · rw [eSp]
    omega
  · rw [eSp]
    by_cases z : dSp S < dStart job mach S t + l t
    · refine ⟨t, ⟨t0, t1⟩, by rw [eP, if_pos rfl], ?_⟩
      rw [eSs, if_pos rfl]; omega
    · have i0 : 0 < i := by
        refine Nat.pos_of_ne_zero (fun w => ?_)
        subst w
        omega
      obtain ⟨u, a, b, c⟩ := g8 i0
      have ut : u ≠ t := fun w => by rw [w, t2] at b; omega
      refine ⟨u, a, by rw [eP, if_neg ut]; exact b, ?_⟩
      rw [eSs, if_neg ut]; omega
  · have := g9 M
    rw [eMf, eSp]
    by_cases e : M = mach t
    · rw [if_pos e]; omega
    · rw [if_neg e]; omega
  · have := g10 j
    rw [eJf, eSp]
    by_cases e : j = job t
    · rw [if_pos e]; omega
    · rw [if_neg e]; omega
