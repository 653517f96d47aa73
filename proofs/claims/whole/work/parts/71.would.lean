/-! DISPATCHED: the same states by tables that agree -/
theorem dNx_congr {n : Int} {place place' : Int → Int} {S : dSt} (T : ∀ t, 0 ≤ t → t < n → place' t = place t) (t : Int) : dNx n place' S t ↔ dNx n place S t := by
  unfold dNx jA
  constructor
  · rintro ⟨a, b⟩
    rw [T t a.1 a.2] at b
    exact ⟨a, b⟩
  · rintro ⟨a, b⟩
    rw [T t a.1 a.2]
    exact ⟨a, b⟩
theorem dCh_congr {n : Int} {job place mach l job' place' mach' l' af : Int → Int} {rule : Int} {S : dSt} (T : ∀ t, 0 ≤ t → t < n → job' t = job t ∧ place' t = place t ∧ mach' t = mach t ∧ l' t = l t) (t : Int) : dCh n job' place' mach' l' af rule S t ↔ dCh n job place mach l af rule S t := by
  have N := dNx_congr (S := S) (fun t a b => (T t a b).2.1)
  have L : ∀ u v, 0 ≤ u → u < n → 0 ≤ v → v < n → (dLess job' mach' l' af rule S u v ↔ dLess job mach l af rule S u v) := by
    intro u v u0 u1 v0 v1
    unfold dLess dStart dKey
    rw [(T u u0 u1).1, (T u u0 u1).2.2.1, (T u u0 u1).2.2.2, (T v v0 v1).1, (T v v0 v1).2.2.1, (T v v0 v1).2.2.2]
  constructor
  · rintro ⟨a, b⟩
    refine ⟨(N t).1 a, fun u hu => ?_⟩
    rcases b u ((N u).2 hu) with w | w
    · exact Or.inl w
    · exact Or.inr ((L t u a.1.1 a.1.2 hu.1.1 hu.1.2).1 w)
  · rintro ⟨a, b⟩
    refine ⟨(N t).2 a, fun u hu => ?_⟩
    rcases b u ((N u).1 hu) with w | w
    · exact Or.inl w
    · exact Or.inr ((L t u a.1.1 a.1.2 hu.1.1 hu.1.2).2 w)
theorem dS_congr {n : Int} {job place mach l job' place' mach' l' af : Int → Int} {rule : Int} (T : ∀ t, 0 ≤ t → t < n → job' t = job t ∧ place' t = place t ∧ mach' t = mach t ∧ l' t = l t) : ∀ i : Nat, (∀ j : Nat, j < i → ∃ t, dCh n job place mach l af rule (dS n job place mach l af rule j) t) → dS n job' place' mach' l' af rule i = dS n job place mach l af rule i := by
  intro i
  induction i with
  | zero => intro _; rfl
  | succ i ih =>
    intro hx
    have e := ih (fun j hj => hx j (by omega))
    obtain ⟨t, ht⟩ := hx i (by omega)
    have ht' : dCh n job' place' mach' l' af rule (dS n job' place' mach' l' af rule i) t := by
      rw [e]; exact (dCh_congr T t).2 ht
    have q := T t ht.1.1.1 ht.1.1.2
    rw [ht.next, ht'.next, e]
    unfold dPut dStart
    rw [q.1, q.2.2.1, q.2.2.2]
theorem mDok.of {c m : aH} {rule : Int} (H : sS c m) (ok : cDok c rule (c 3 1).toNat) : mDok m (c 9) rule (m 85 1).toNat ∧ mDS m (c 9) rule (m 85 1).toNat = cDS c rule (c 3 1).toNat := by
  have h1 := H.1.2.2.2.1
  have hn := H.1.1.1.1
  have T : ∀ t, 0 ≤ t → t < c 3 1 → m 86 t = c 4 t ∧ m 87 t = c 5 t ∧ m 88 t = c 6 t ∧ m 89 t = c 7 t := H.1.2.2.2.2.1
  have E : ∀ i : Nat, i ≤ (c 3 1).toNat → mDS m (c 9) rule i = cDS c rule i := by
    intro i hi
    unfold mDS cDS
    rw [h1]
    exact dS_congr T i (fun j hj => ok.2 j (by omega))
  have ex : ∀ j : Nat, j < (c 3 1).toNat → ∃ t, dCh (m 85 1) (m 86) (m 87) (m 88) (m 89) (c 9) rule (mDS m (c 9) rule j) t := by
    intro j hj
    obtain ⟨t, ht⟩ := ok.2 j hj
    refine ⟨t, ?_⟩
    rw [E j (by omega), h1]
    exact (dCh_congr T t).2 ht
  have I : ∀ j : Nat, j ≤ (c 3 1).toNat → dI1 (m 85 1) (m 87) (m 88) (mDS m (c 9) rule j) j ∧ dI2 (m 85 1) (m 86) (m 87) (m 88) (m 89) (mDS m (c 9) rule j) j := by
    intro j
    induction j with
    | zero => intro _; exact ⟨dI1.zero, dI2.zero⟩
    | succ j ih =>
      intro hj
      have q := ih (by omega)
      obtain ⟨t, ht⟩ := ex j (by omega)
      have e : mDS m (c 9) rule (j + 1) = dPut (m 86) (m 88) (m 89) (mDS m (c 9) rule j) j t := ht.next
      rw [e]
      exact ⟨q.1.put (job := m 86) (l := m 89) H.1.2.1.1.pl (fun t a b => (H.1.2.1.1.2.2.1 t a b).2.2.1) ht.1, dI2.put H.1.2.1.1 q.1 q.2 ht.1⟩
  rw [h1]
  exact ⟨⟨I, ex⟩, E _ (Nat.le_refl _)⟩
theorem Sim.ords {c m m' : aH} (H : Sim c m) (S : sS c m') (b : ∀ k, 91 < k → (k < 93 ∨ 95 < k) → (k < 97 ∨ 106 < k) → (k < 109 ∨ 114 < k) → m' k = m k) (b85 : ∀ i, (i = 0 ∨ i = 1 ∨ i = 9 ∨ i = 18 ∨ i = 19 ∨ i = 34 ∨ i = 36 ∨ i = 37 ∨ i = 38 ∨ i = 40 ∨ i = 51) → m' 85 i = m 85 i) : Sim c m' := by
  obtain ⟨h1, h2, h3, h4, h5, h6, h7, h8, h9, h10⟩ := H
  refine ⟨?_, S, h3, ?_, ?_, ?_, h7, ?_, h9, h10⟩
  · exact h1.congr rfl rfl (b85 9 (by omega)) (b 92 (by omega) (by omega) (by omega) (by omega))
  · exact h4.congr rfl rfl rfl (b85 34 (by omega)) (b85 36 (by omega)) (b 107 (by omega) (by omega) (by omega) (by omega))
  · exact h5.congr (fun _ _ _ => rfl) rfl rfl (b85 37 (by omega)) (b85 38 (by omega)) (b 108 (by omega) (by omega) (by omega) (by omega))
  · exact h6.congr (fun _ _ _ => rfl) rfl rfl (fun _ _ _ => rfl) (b85 18 (by omega)) (b85 19 (by omega)) (b 96 (by omega) (by omega) (by omega) (by omega))
  · exact h8.congr (fun _ _ _ => rfl) (b85 51 (by omega)) (b 115 (by omega) (by omega) (by omega) (by omega))
/-- the class and then the reference, dispatched: the states, the sizes, the orders -/
theorem r_disp2 {c g : aH} {Q : aQ} {rule : Int} (H : sS c g) (hn : 0 < c 3 1) (ok : cDok c rule (c 3 1).toNat) (k : ∀ m, mdF g m → (∀ M, 0 ≤ M → M < 5 → m 91 M = cSz c M) → sameO (cSz c) (dO (cDS c rule (c 3 1).toNat)) (mO m) → okOrd (c 3 1) (c 6) (cSz c) (dO (cDS c rule (c 3 1).toNat)) → spanIs (c 3 1) (jA (c 5)) (c 7) (cSz c) (dO (cDS c rule (c 3 1).toNat)) (dSp (cDS c rule (c 3 1).toNat)) → 0 ≤ dSp (cDS c rule (c 3 1).toNat) → Q (dSp (cDS c rule (c 3 1).toNat)) m) : aRun mX10_dispatchedBy 3 [aR 85, aI rule] g Q := by
  have h1 := H.1.2.2.2.1
  obtain ⟨mok, me⟩ := mDok.of H ok
  have I := ok.1 (c 3 1).toNat (Nat.le_refl _)
  have E := disp_end H.1.1.1 (by omega) I.1 I.2 H.2.2.2
  refine r_mDisp (af := c 9) H.1.2.1.1 (by omega) (af_ok H) mok (fun m f z o => ?_)
  rw [me] at z o ⊢
  refine k m f (fun M a b => (z M a b).trans (E.1 M a b)) (fun M k' a b d e => ?_) E.2.1 (E.2.2.1 hn) E.2.2.2.1
  exact (o M k' ⟨⟨a, b⟩, d, by rw [E.1 M a b]; exact e⟩).symm
theorem pr_would : a_pair Inv mX9_would mX10_would 4 4 1 := by
  intro n h a b hn hI hh ha hb
  have hin : ∀ g : aH, f_X10_in g a 0 3 = 0 ↔ ¬ (0 ≤ a ∧ a ≤ 3) := fun g => f_in_0
  have ok : ∀ z : Int, z = z ∧ Inv (n + 1) h := fun z => ⟨rfl, hI.mono⟩
  have hS := hI.1.2.1
  have h1 := hS.1.2.2.2.1
  have h0 := hS.1.1.1.1
  have hH := hI.1.2.2.2.2.2.1
  refine e_X9_would ⟨fun z => ?_, fun z => ⟨fun y => ⟨fun x => ?_, fun x => ?_⟩, fun y => ?_⟩⟩
  · exact e_X10_would ⟨fun _ => ok _, fun v => absurd ((hin h).2 (by omega)) v⟩
  · have x := ns_iff.1 x
    have hn0 : 0 < h 3 1 := by omega
    refine r_cDisp hS.1.1 hS.2.2.1 hS.2.2.2 (fun g f dok R => ?_)
    have e85 : ∀ k, 85 ≤ k → g k = h k := fun k hk => f k (by omega)
    have Sg : sS h g := hS.hi e85
    refine e_X10_would ⟨fun v => absurd (show 0 ≤ a ∧ a ≤ 3 by omega) ((hin _).1 v), fun _ => ⟨fun v => ?_, fun _ => ?_⟩⟩
    · rw [e85 85 (by omega)] at v; omega
    refine r_disp2 Sg hn0 dok (fun m mf z o _ _ _ => ?_)
    have m85 : m 85 = h 85 := (mf 85 (by omega) (by omega) (by omega) (by omega) (by omega)).trans (e85 85 (by omega))
    have m96 : m 96 = h 96 := (mf 96 (by omega) (by omega) (by omega) (by omega) (by omega)).trans (e85 96 (by omega))
    have hh18 : m 85 18 = h 44 1 := by rw [m85]; exact hH.2.1
    refine r_fetches (by have := hH.1; omega) ⟨R.2.2.2.2, ?_⟩
    rw [hh18]
    generalize hm : a_cp m 96 (120 * h 44 1) 90 0 120 = m2
    have M2 : ∀ k, k ≠ 90 → m2 k = m k := fun k hk => by rw [← hm, a_cp_ne hk]
    have S2 : sS h m2 := by
      refine hS.ords (by rw [M2 85 (by omega), m85]) (by rw [M2 85 (by omega), m85]) (fun k k1 k2 => ?_) (fun M x y => ?_) ?_
      · rw [M2 k (by omega), mf k (by omega) (by omega) (by omega) (by omega) (by omega), e85 k (by omega)]
      · rw [M2 91 (by omega)]; exact z M x y
      · have q := hH.2.2.2 (h 44 1).toNat (by have := hH.1; omega)
        refine (hI.1.2.2.2.2.2.2.1.1).trans (q.2.trans (fun M k k0 k1 k2 k3 => ?_))
        have q4 := hS.1.2.1.2 M k0 k1
        have q5 := hS.1.2.2.2.2.2 M k0 k1
        show h 96 (120 * (((h 44 1).toNat : Nat) : Int) + (24 * M + k)) = m2 90 (24 * M + k)
        rw [← hm, a_cp_at, if_pos (by omega), m96]
        congr 1
        have := hH.1
        omega
    refine ⟨?_, ?_⟩
    · have R2 := hI.1.ords S2 (fun k k1 k2 k3 k4 => by rw [M2 k (by omega), mf k (by omega) (by omega) (by omega) (by omega) (by omega), e85 k (by omega)]) (fun i _ => by rw [M2 85 (by omega), m85])
      refine R2.frame (fun k k1 k2 k3 k4 k5 => ?_) mK.refl
      rw [M2 k (by omega), mf k (by omega) (by omega) (by omega) (by omega) (by omega), f k (by omega)]
    · rw [M2 85 (by omega), m85, M2 0 (by omega), mf 0 (by omega) (by omega) (by omega) (by omega) (by omega), f 0 (by omega)]
      have := hI.2
      omega
  · have e : h 85 1 = 0 := by
      have : h 3 1 = 0 := Classical.byContradiction (fun w => x (ns_iff.2 w))
      omega
    exact e_X10_would ⟨fun v => absurd (show 0 ≤ a ∧ a ≤ 3 by omega) ((hin _).1 v), fun _ => ⟨fun _ => ok _, fun u => absurd e u⟩⟩
  · exact e_X10_would ⟨fun _ => ok _, fun v => absurd ((hin h).2 (by omega)) v⟩
theorem pr_dispatch : a_pair Inv mX9_dispatch mX10_dispatch 5 4 1 := by
  intro n h a b hn hI hh ha hb
  have hin : ∀ g : aH, f_X10_in g a 0 3 = 0 ↔ ¬ (0 ≤ a ∧ a ≤ 3) := fun g => f_in_0
  have ok : ∀ z : Int, z = z ∧ Inv (n + 1) h := fun z => ⟨rfl, hI.mono⟩
  have hS := hI.1.2.1
  have h1 := hS.1.2.2.2.1
  have h0 := hS.1.1.1.1
  have hH := hI.1.2.2.2.2.2.1
  refine e_X9_dispatch (e_X9_would ⟨fun z => ⟨fun w => by omega, fun _ => ?_⟩, fun z => ⟨fun y => ⟨fun x => ?_, fun x => ⟨fun w => by omega, fun _ => ?_⟩⟩, fun y => ⟨fun w => by omega, fun _ => ?_⟩⟩⟩)
  · exact e_X10_dispatch ⟨fun _ => ok _, fun v => absurd ((hin h).2 (by omega)) v⟩
  · have x := ns_iff.1 x
    have hn0 : 0 < h 3 1 := by omega
    refine r_cDisp hS.1.1 hS.2.2.1 hS.2.2.2 (fun g f dok R => ?_)
    have I := dok.1 (h 3 1).toNat (Nat.le_refl _)
    have E := disp_end hS.1.1.1 (by omega) I.1 I.2 hS.2.2.2
    refine ⟨fun _ => ?_, fun w => absurd (by rw [R.2.2.2.2]; exact E.2.2.2.1) w⟩
    generalize hg1 : a_cp g 64 0 19 0 24 = g1
    have f1 : ∀ k, k ≠ 19 → g1 k = g k := fun k k1 => by rw [← hg1, a_cp_ne k1]
    have f19 : ∀ x, 0 ≤ x → x < 24 → g1 19 x = g 64 x := fun x x0 x1 => by
      rw [← hg1, a_cp_at, if_pos (by omega)]
      congr 1; omega
    have a' : ∀ k, 3 ≤ k → k ≤ 10 → g1 k = h k := fun k k1 k2 => (f1 k (by omega)).trans (f k (by omega))
    have eS : cSz g1 = cSz h := by unfold cSz; rw [a' 10 (by omega) (by omega)]
    have row : sameO (cSz h) (dO (cDS h a (h 3 1).toNat)) (cO g1 19) := by
      intro M k k0 k1 k2 k3
      have q := hS.1.1.2.at k0 k1
      have q3 : k < h 10 (M + 1) - h 10 M := k3
      have r := R.2.2.2.1 M k ⟨⟨k0, k1⟩, k2, by rw [E.1 M k0 k1]; exact k3⟩
      show _ = g1 19 (g1 10 M + k)
      rw [a' 10 (by omega) (by omega), f19 _ (by omega) (by omega), ← r, f 10 (by omega)]
    have ho1 : okOrd (g1 3 1) (g1 6) (cSz g1) (cO g1 19) := by
      rw [a' 3 (by omega) (by omega), a' 6 (by omega) (by omega), eS]
      exact E.2.1.same hS.1.1.mach row
    refine r_cChanged (hS.1.1.congr a') (by rw [a' 3 (by omega) (by omega)]; exact hn0) ho1 (by rw [f1 44 (by omega), f 44 (by omega)]; have := hH.1; omega) (fun g' x' S => ?_)
    have e85 : ∀ k, 85 ≤ k → g' k = h k := fun k hk => (x'.lo k hk).trans ((f1 k (by omega)).trans (f k (by omega)))
    have Sg : sS h g' := hS.hi e85
    refine e_X10_dispatch ⟨fun v => absurd (show 0 ≤ a ∧ a ≤ 3 by omega) ((hin _).1 v), fun _ => ⟨fun v => ?_, fun _ => ?_⟩⟩
    · rw [e85 85 (by omega)] at v; omega
    refine r_disp2 Sg hn0 dok (fun m mf z o oo sp sp0 => ?_)
    have m85 : m 85 = h 85 := (mf 85 (by omega) (by omega) (by omega) (by omega) (by omega)).trans (e85 85 (by omega))
    -- a heap of the old orders, beside the reference's new scratch
    generalize hbase : setC (mix g m) 90 (h 90) = base
    have b_lo : ∀ k, k < 85 → base k = g k := fun k hk => by rw [← hbase, setC_ne (by omega), mix_lo hk]
    have b_hi : ∀ k, 85 ≤ k → k ≠ 90 → base k = m k := fun k hk hk2 => by rw [← hbase, setC_ne hk2, mix_hi hk]
    have b_90 : base 90 = h 90 := by rw [← hbase, setC_eq]
    have mh : ∀ k, 85 ≤ k → k ≠ 90 → k ≠ 91 → (k < 110 ∨ 112 < k) → m k = h k := fun k hk k1 k2 k3 => (mf k k1 k2 (by omega) (by omega) (by omega)).trans (e85 k hk)
    have Sb : sS h base := by
      refine hS.ords (by rw [b_hi 85 (by omega) (by omega), m85]) (by rw [b_hi 85 (by omega) (by omega), m85]) (fun k k1 k2 => ?_) (fun M x y => ?_) ?_
      · rw [b_hi k (by omega) (by omega), mh k (by omega) (by omega) (by omega) (by omega)]
      · rw [b_hi 91 (by omega) (by omega)]; exact z M x y
      · have e : mO base = mO h := by unfold mO; rw [b_90]
        rw [e]; exact hS.2.1.2
    have Ib : Inv n base := by
      refine ⟨?_, ?_⟩
      · have R2 := hI.1.ords Sb (fun k k1 k2 k3 k4 => by rw [b_hi k (by omega) (by omega), mh k (by omega) (by omega) (by omega) (by omega)]) (fun i _ => by rw [b_hi 85 (by omega) (by omega), m85])
        refine R2.frame (fun k k1 k2 k3 k4 k5 => ?_) mK.refl
        rw [b_lo k k5, f k (by omega)]
      · rw [b_hi 85 (by omega) (by omega), m85, b_lo 0 (by omega), f 0 (by omega)]
        exact hI.2
    have S1 : sS g1 m := by
      have Sm : sS h (setC m 90 (h 90)) := by
        refine hS.ords (by rw [setC_ne (by omega), m85]) (by rw [setC_ne (by omega), m85]) (fun k k1 k2 => ?_) (fun M x y => ?_) ?_
        · rw [setC_ne (by omega), mh k (by omega) (by omega) (by omega) (by omega)]
        · rw [setC_ne (by omega)]; exact z M x y
        · have e : mO (setC m 90 (h 90)) = mO h := by unfold mO; rw [setC_eq]
          rw [e]; exact hS.2.1.2
      obtain ⟨u1, u2, u3, u4⟩ := Sm
      refine ⟨?_, ⟨ho1, ?_⟩, ?_, ?_⟩
      · unfold sShop mShop cShop cSz at u1 ⊢
        rw [a' 3 (by omega) (by omega), a' 4 (by omega) (by omega), a' 5 (by omega) (by omega), a' 6 (by omega) (by omega), a' 7 (by omega) (by omega), a' 10 (by omega) (by omega)]
        exact u1
      · rw [eS]
        exact row.symm.trans o
      · unfold cBA at u3 ⊢
        rw [a' 3 (by omega) (by omega), a' 4 (by omega) (by omega), a' 5 (by omega) (by omega), a' 7 (by omega) (by omega), a' 8 (by omega) (by omega), a' 9 (by omega) (by omega)]
        exact u3
      · unfold cCnt at u4 ⊢
        rw [eS, a' 3 (by omega) (by omega), a' 6 (by omega) (by omega)]
        exact u4
    refine r_chgT Ib (by rw [b_lo 3 (by omega), f 3 (by omega)]; exact hn0) S1 (fun k k1 k2 => (f1 k k1).trans (b_lo k k2).symm) x' S (fun k k1 k2 => (b_hi k k2 k1).symm) (fun k hk => mf k (by omega) (by omega) (by omega) (by omega) (by omega)) (fun m' H y => ⟨?_, H⟩)
    have g3 : ∀ k, 3 ≤ k → k ≤ 10 → g' k = h k := fun k k1 k2 => (x'.1 k (by omega) (by omega) (by omega) (by omega)).trans (a' k k1 k2)
    have g19 : g' 19 = g1 19 := x'.1 19 (by omega) (by omega) (by omega) (by omega)
    have eSg : cSz g' = cSz h := by unfold cSz; rw [g3 10 (by omega) (by omega)]
    have eOg : cO g' 19 = cO g1 19 := by unfold cO; rw [g3 10 (by omega) (by omega), a' 10 (by omega) (by omega), g19]
    have sp' : spanIs (g' 3 1) (jA (g' 5)) (g' 7) (cSz g') (cO g' 19) (dSp (cDS h a (h 3 1).toNat)) := by
      obtain ⟨pa, pn, S', z1, z2⟩ := sp
      rw [eSg, eOg, g3 3 (by omega) (by omega), g3 5 (by omega) (by omega), g3 7 (by omega) (by omega)]
      exact ⟨pa, pn, S', z1.of row, z2⟩
    have q := st_of_span S (hS.1.1.congr g3) (by rw [g3 3 (by omega) (by omega)]; exact hn0) (by rw [eSg, eOg, g3 3 (by omega) (by omega), g3 6 (by omega) (by omega)]; exact E.2.1.same hS.1.1.mach row) sp'
    unfold f_X9_spanOrRing
    rw [if_pos q.1, q.2]
  · have e : h 85 1 = 0 := by
      have : h 3 1 = 0 := Classical.byContradiction (fun w => x (ns_iff.2 w))
      omega
    exact e_X10_dispatch ⟨fun v => absurd (show 0 ≤ a ∧ a ≤ 3 by omega) ((hin _).1 v), fun _ => ⟨fun _ => ok _, fun u => absurd e u⟩⟩
  · exact e_X10_dispatch ⟨fun _ => ok _, fun v => absurd ((hin h).2 (by omega)) v⟩
