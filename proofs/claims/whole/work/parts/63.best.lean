/-! pairs: best, chart -/
theorem st_of_span {g : aH} (S : Settled g) (hs : cShop g) (hn : 0 < g 3 1) (ho : okOrd (g 3 1) (g 6) (cSz g) (cO g 19)) {v : Int} (sp : spanIs (g 3 1) (jA (g 5)) (g 7) (cSz g) (cO g 19) v) : g 20 10 = 0 ∧ g 20 9 = v := by
  have ring : g 20 10 = 0 := by
    rcases S.2.2 with ⟨-, na⟩ | ⟨r0, -⟩
    · obtain ⟨pa, pn, S', u1, u2, -⟩ := sp
      refine absurd (acyc_congr (fun t a b => ⟨rfl, ?_⟩) u2) na
      exact (lnkN.same ho hs.mach (fun _ _ _ _ _ _ => rfl) u1 S.2.1 t a b).1.symm
    · exact r0
  exact ⟨ring, spanIs.unique hn ho hs.mach (fun _ _ _ _ _ _ => rfl) (fun t a b => ⟨jA_lt hs t a b, rfl, rfl⟩) (S.spanIs ring) sp⟩
theorem r_mBest {g : aH} {Q : aQ} (k : aRun mX10_changed 1 [aR 85] (a_cp g 108 0 90 0 120) (fun r1 h2 => Q (h2 85 38) h2)) : AW mX10_best 2 42 [some (aR 85), none, some (aI 0)] [] g Q := by
  suffices H : ∀ (d : Nat) (i : Int), 0 ≤ i → i ≤ 120 → 120 - i ≤ d → AW mX10_best 2 42 [some (aR 85), none, some (aI i)] [] (a_cp g 108 0 90 0 i) Q from by
    have := H 120 0 (by omega) (by omega) (by omega)
    rw [a_cp_zero] at this
    exact this
  intro d
  induction d with
  | zero =>
    intro i i0 i1 hd
    refine s_X10_best_42 ⟨fun _ => ?_, fun z => by omega⟩
    rw [show i = 120 by omega]
    exact k
  | succ d ih =>
    intro i i0 i1 hd
    refine s_X10_best_42 ⟨fun z => ?_, fun z => ?_⟩
    · rw [show i = 120 by omega]
      exact k
    · rw [show a_cp g 108 0 90 0 i 108 = g 108 from rfl]
      refine ⟨by omega, by unfold inR; omega, ?_⟩
      have e := a_cp_step (h := g) (s := 108) (t := 90) (i := 0) (j := 0) (n := i) i0
      rw [show (0 : Int) + i = i by omega] at e
      rw [e]
      exact ih (i + 1) (by omega) (by omega) (by omega)
theorem pr_best : a_pair Inv mX9_best mX10_best 5 2 1 := by
  intro n h a b hn hI hh ha hb
  have hin : ∀ g : aH, f_X10_in g a 0 1 = 0 ↔ ¬ (0 ≤ a ∧ a ≤ 1) := fun g => f_in_0
  have ok : ∀ z : Int, z = z ∧ Inv (n + 1) h := fun z => ⟨rfl, hI.mono⟩
  have hs := hI.1.2.1.1
  have h1 := hs.2.2.2.1
  have h0 := hs.1.1.1
  have hH := hI.1.2.2.2.2.2.1.1
  have hL := hI.1.2.2.2.2.1
  have ns : f_X9_noShop h = 0 ↔ ¬ h 3 1 = 0 := by
    unfold f_X9_noShop
    by_cases e : h 3 1 = 0
    · rw [if_pos e]; omega
    · rw [if_neg e]; omega
  refine e_X9_best ⟨fun z => ?_, fun z => ⟨fun y => ⟨fun x => ⟨fun w => ?_, fun w => ⟨fun v => ?_, fun v => ?_⟩⟩, fun x => ?_⟩, fun y => ?_⟩⟩
  · exact e_X10_best ⟨fun _ => ok _, fun v => absurd ((hin h).2 (by omega)) v⟩
  · have w' : h 85 37 = 0 := by
      rcases hL with u | u
      · exact u.2
      · have := u.2.2.1; omega
    exact e_X10_best ⟨fun v => absurd (show 0 ≤ a ∧ a ≤ 1 by omega) ((hin _).1 v), fun _ => ⟨fun u => absurd (h1.symm.trans u) (ns.1 x), fun _ => ⟨fun _ => ok _, fun u => absurd w' u⟩⟩⟩
  · have w' : h 85 37 = 1 ∧ h 85 38 = h 0 15 := by
      rcases hL with u | u
      · exact absurd u.1 w
      · exact ⟨u.1, u.2.1⟩
    exact e_X10_best ⟨fun v => absurd (show 0 ≤ a ∧ a ≤ 1 by omega) ((hin _).1 v), fun _ => ⟨fun u => absurd (h1.symm.trans u) (ns.1 x), fun _ => ⟨fun u => by omega, fun _ => ⟨fun _ => ⟨w'.2.symm, hI.mono⟩, fun u => absurd v u⟩⟩⟩⟩
  · rcases hL with u | ⟨u1, u2, u3, u4, u5, u6⟩
    · exact absurd u.1 w
    have hn0 : 0 < h 3 1 := by have := ns.1 x; omega
    generalize hg1 : a_cp h 84 0 19 0 24 = g1
    have f1 : ∀ k, k ≠ 19 → g1 k = h k := fun k k1 => by rw [← hg1, a_cp_ne k1]
    have f19 : ∀ x, 0 ≤ x → x < 24 → g1 19 x = h 84 x := fun x x0 x1 => by
      rw [← hg1, a_cp_at, if_pos (by omega)]
      congr 1; omega
    have a' : ∀ k, 3 ≤ k → k ≤ 10 → g1 k = h k := fun k k1 k2 => f1 k (by omega)
    have eS : cSz g1 = cSz h := by unfold cSz; rw [a' 10 (by omega) (by omega)]
    have row : sameO (cSz h) (cO h 84) (cO g1 19) := by
      intro M k k0 k1 k2 k3
      have q := hs.1.2.at k0 k1
      have q3 : k < h 10 (M + 1) - h 10 M := k3
      show _ = g1 19 (g1 10 M + k)
      rw [a' 10 (by omega) (by omega), f19 _ (by omega) (by omega)]
      rfl
    have ho1 : okOrd (g1 3 1) (g1 6) (cSz g1) (cO g1 19) := by
      rw [a' 3 (by omega) (by omega), a' 6 (by omega) (by omega), eS]
      exact u4.same hs.1.mach row
    refine r_cChanged (hs.1.congr a') (by rw [a' 3 (by omega) (by omega)]; exact hn0) ho1 (by rw [f1 44 (by omega)]; omega) (fun g x' S => ?_)
    have e85 : ∀ k, 85 ≤ k → g k = h k := fun k hk => (x'.lo k hk).trans (f1 k (by omega))
    refine e_X10_best ⟨fun v' => absurd (show 0 ≤ a ∧ a ≤ 1 by omega) ((hin _).1 v'), fun _ => ⟨fun u => ?_, fun _ => ⟨fun u => ?_, fun _ => ⟨fun u => absurd u v, fun _ => r_mBest ?_⟩⟩⟩⟩
    · rw [e85 85 (by omega)] at u
      omega
    · rw [e85 85 (by omega)] at u
      omega
    have hS1 : sS g1 (a_cp g 108 0 90 0 120) := by
      have base : sS h h := hI.1.2.1
      refine ⟨?_, ⟨ho1, ?_⟩, ?_, ?_⟩
      · have := base.1
        unfold sShop mShop cShop cSz at this ⊢
        rw [a' 3 (by omega) (by omega), a' 4 (by omega) (by omega), a' 5 (by omega) (by omega), a' 6 (by omega) (by omega), a' 7 (by omega) (by omega), a' 10 (by omega) (by omega)]
        simp only [a_cp_ne (show (85 : Nat) ≠ 90 by omega), a_cp_ne (show (86 : Nat) ≠ 90 by omega), a_cp_ne (show (87 : Nat) ≠ 90 by omega), a_cp_ne (show (88 : Nat) ≠ 90 by omega), a_cp_ne (show (89 : Nat) ≠ 90 by omega), a_cp_ne (show (91 : Nat) ≠ 90 by omega)]
        rw [e85 85 (by omega), e85 86 (by omega), e85 87 (by omega), e85 88 (by omega), e85 89 (by omega), e85 91 (by omega)]
        exact this
      · rw [eS]
        refine row.symm.trans (u5.trans (fun M k k0 k1 k2 k3 => ?_))
        have q4 := hs.2.1.2 M k0 k1
        have q5 := hs.2.2.2.2.2 M k0 k1
        show h 108 (24 * M + k) = a_cp g 108 0 90 0 120 90 (24 * M + k)
        rw [a_cp_at, if_pos (by omega), e85 108 (by omega)]
        congr 1; omega
      · have := base.2.2.1
        unfold cBA at this ⊢
        rw [a' 3 (by omega) (by omega), a' 4 (by omega) (by omega), a' 5 (by omega) (by omega), a' 7 (by omega) (by omega), a' 8 (by omega) (by omega), a' 9 (by omega) (by omega)]
        exact this
      · have := base.2.2.2
        unfold cCnt at this ⊢
        rw [eS, a' 3 (by omega) (by omega), a' 6 (by omega) (by omega)]
        exact this
    refine r_chgT hI hn0 hS1 (fun k k1 _ => f1 k k1) x' S (fun k k1 k2 => (a_cp_ne k1).trans (e85 k k2)) (fun k k1 => a_cp_ne (by omega)) (fun m' H y => ⟨?_, H⟩)
    have g3 : ∀ k, 3 ≤ k → k ≤ 10 → g k = h k := fun k k1 k2 => (x'.1 k (by omega) (by omega) (by omega) (by omega)).trans (a' k k1 k2)
    have g19 : g 19 = g1 19 := x'.1 19 (by omega) (by omega) (by omega) (by omega)
    have eSg : cSz g = cSz h := by unfold cSz; rw [g3 10 (by omega) (by omega)]
    have eOg : cO g 19 = cO g1 19 := by unfold cO; rw [g3 10 (by omega) (by omega), a' 10 (by omega) (by omega), g19]
    have sp : spanIs (g 3 1) (jA (g 5)) (g 7) (cSz g) (cO g 19) (h 0 15) := by
      obtain ⟨pa, pn, S', z1, z2⟩ := u6
      rw [eSg, eOg, g3 3 (by omega) (by omega), g3 5 (by omega) (by omega), g3 7 (by omega) (by omega)]
      exact ⟨pa, pn, S', z1.of row, z2⟩
    have q := st_of_span S (hs.1.congr g3) (by rw [g3 3 (by omega) (by omega)]; exact hn0) (by rw [eSg, eOg, g3 3 (by omega) (by omega), g3 6 (by omega) (by omega)]; exact u4.same hs.1.mach row) sp
    unfold f_X9_spanOrRing
    rw [if_pos q.1, q.2, y.2.1 38 (by omega) (by omega), a_cp_ne (by omega), e85 85 (by omega), u2]
  · have e : h 85 1 = 0 := by
      have : h 3 1 = 0 := Classical.byContradiction (fun w => x (ns.2 w))
      omega
    exact e_X10_best ⟨fun v => absurd (show 0 ≤ a ∧ a ≤ 1 by omega) ((hin _).1 v), fun _ => ⟨fun _ => by
      have : f_X9_noShop h = f_X9_noShop h := rfl
      exact ok _, fun u => absurd e u⟩⟩
  · exact e_X10_best ⟨fun _ => ok _, fun v => absurd ((hin h).2 (by omega)) v⟩
/-! chart -/
theorem ord_late {n : Int} {mach sz ja pa pn l S : Int → Int} {o : Int → Int → Int} (ho : okOrd n mach sz o) (hl : lnkN sz o pa pn) (hS : okS n ja pa l S) (hl1 : ∀ t, 0 ≤ t → t < n → 1 ≤ l t) {M : Int} (hM : 0 ≤ M ∧ M < 5) : ∀ (d : Nat) (k : Int), 0 ≤ k → k + d + 1 < sz M → S (o M k) + l (o M k) ≤ S (o M (k + d + 1)) := by
  intro d
  induction d with
  | zero =>
    intro k k0 k1
    have q := ho.1 M k hM.1 hM.2 k0 (by omega)
    have q2 := ho.1 M (k + 1) hM.1 hM.2 (by omega) (by omega)
    have := (hl M (k + 1) hM.1 hM.2 (by omega) (by omega)).1
    rw [if_neg (by omega), show k + 1 - 1 = k by omega] at this
    have := hS.ahead q2.1.1 q2.1.2 q.1.1 (Or.inr this)
    rw [show k + ((0 : Nat) : Int) + 1 = k + 1 by omega]
    exact this
  | succ d ih =>
    intro k k0 k1
    have a := ih k k0 (by omega)
    have q := ho.1 M (k + d + 1) hM.1 hM.2 (by omega) (by omega)
    have q2 := ho.1 M (k + d + 1 + 1) hM.1 hM.2 (by omega) (by omega)
    have := (hl M (k + d + 1 + 1) hM.1 hM.2 (by omega) (by omega)).1
    rw [if_neg (by omega), show k + d + 1 + 1 - 1 = k + d + 1 by omega] at this
    have := hS.ahead q2.1.1 q2.1.2 q.1.1 (Or.inr this)
    have := hl1 _ q.1.1 q.1.2
    rw [show k + ((d + 1 : Nat) : Int) + 1 = k + d + 1 + 1 by omega]
    omega
def onT (mach l S : Int → Int) (n M tick t : Int) : Prop := (0 ≤ t ∧ t < n) ∧ mach t = M ∧ S t ≤ tick ∧ tick < S t + l t
theorem onT.unique {n : Int} {mach sz ja pa pn l S : Int → Int} {o : Int → Int → Int} (ho : okOrd n mach sz o) (hl : lnkN sz o pa pn) (hS : okS n ja pa l S) (hl1 : ∀ t, 0 ≤ t → t < n → 1 ≤ l t) {M tick t t' : Int} (hM : 0 ≤ M ∧ M < 5) (h : onT mach l S n M tick t) (h' : onT mach l S n M tick t') : t = t' := by
  obtain ⟨a, b, c, d⟩ := h
  obtain ⟨a', b', c', d'⟩ := h'
  obtain ⟨k, k0, k1, e⟩ := ho.2.2 t a.1 a.2
  obtain ⟨k', k0', k1', e'⟩ := ho.2.2 t' a'.1 a'.2
  rw [b] at k1 e
  rw [b'] at k1' e'
  by_cases z : k < k'
  · have := ord_late ho hl hS hl1 hM (k' - k - 1).toNat k k0 (by omega)
    rw [show k + ((k' - k - 1).toNat : Int) + 1 = k' by omega, e, e'] at this
    omega
  · by_cases y : k' < k
    · have := ord_late ho hl hS hl1 hM (k - k' - 1).toNat k' k0' (by omega)
      rw [show k' + ((k - k' - 1).toNat : Int) + 1 = k by omega, e, e'] at this
      omega
    · rw [← e, ← e', show k = k' by omega]
theorem r_chartByte {h : aH} {Q : aQ} {M tick : Int} (hs : cShop h) (hT : timesOK h) (k1 : tick = h 20 9 → Q 10 h) (k2 : ¬ tick = h 20 9 → ∀ t, onT (h 6) (h 7) (h 24) (h 3 1) M tick t → Q (48 + h 4 t) h) (k3 : ¬ tick = h 20 9 → (∀ t, ¬ onT (h 6) (h 7) (h 24) (h 3 1) M tick t) → Q 46 h) : aRun mX9_chartByte 0 [aR 0, aI M, aI tick] h Q := by
  refine e_X9_chartByte ⟨k1, fun z => ?_⟩
  have hn := hs.1.1
  suffices H : ∀ (d : Nat) (i : Int), 0 ≤ i → i ≤ h 3 1 → h 3 1 - i ≤ d → (∀ t, 0 ≤ t → t < i → ¬ onT (h 6) (h 7) (h 24) (h 3 1) M tick t) → AW mX9_chartByte 0 16 [some (aR 0), some (aI M), some (aI tick), some (aI i), none, none] [] h Q from
    H (h 3 1).toNat 0 (by omega) (by omega) (by omega) (fun t a b => by omega)
  intro d
  induction d with
  | zero =>
    intro i i0 i1 hd hno
    exact s_X9_chartByte_16 ⟨fun _ => k3 z (fun t ht => hno t ht.1.1 (by have := ht.1.2; omega) ht), fun w => by omega⟩
  | succ d ih =>
    intro i i0 i1 hd hno
    refine s_X9_chartByte_16 ⟨fun _ => k3 z (fun t ht => hno t ht.1.1 (by have := ht.1.2; omega) ht), fun w => ?_⟩
    have q1 := hs.1.2.2.1 i i0 (by omega)
    have q2 := (hT.2.2 i i0 (by omega)).2
    have go : ¬ onT (h 6) (h 7) (h 24) (h 3 1) M tick i → inR (i + 1) ∧ AW mX9_chartByte 0 16 [some (aR 0), some (aI M), some (aI tick), some (aI (i + 1)), none, none] [] h Q := fun nt => ⟨by unfold inR; omega, ih (i + 1) (by omega) (by omega) (by omega) (fun t a b => by
      by_cases e : t = i
      · rw [e]; exact nt
      · exact hno t a (by omega))⟩
    refine ⟨by omega, by unfold inR; omega, fun v => ⟨fun u => go ?_, fun u => ⟨fun x => ⟨by have := hs.1.2.1; unfold inR; omega, k2 z i ?_⟩, fun x => go ?_⟩⟩, fun v => go (fun nt => v nt.2.1)⟩
    · intro nt
      have := nt.2.2.1
      rw [if_neg (by omega)] at u
      omega
    · refine ⟨⟨i0, by omega⟩, v, ?_, ?_⟩
      · refine Classical.byContradiction (fun y => u ?_)
        rw [if_pos (by omega)]
      · refine Classical.byContradiction (fun y => ?_)
        rw [if_neg y] at x
        omega
    · intro nt
      have := nt.2.2.2
      rw [if_pos this] at x
      exact x rfl
theorem r_byteAt {h : aH} {Q : aQ} {M tick : Int} (hs : mShop h) (ho : okOrd (h 85 1) (h 88) (h 91) (mO h)) (ht : rkT h) (hM : 0 ≤ M ∧ M < 5) (k1 : tick = h 85 26 → Q 10 h) (k2 : ¬ tick = h 85 26 → ∀ t, onT (h 88) (h 89) (h 99) (h 85 1) M tick t → Q (48 + h 86 t) h) (k3 : ¬ tick = h 85 26 → (∀ t, ¬ onT (h 88) (h 89) (h 99) (h 85 1) M tick t) → Q 46 h) : aRun mX10_byteAt 1 [aR 85, aI M, aI tick] h Q := by
  refine e_X10_byteAt ⟨k1, fun z => ?_⟩
  have hn := hs.1.1
  have hz := hs.2 M hM.1 hM.2
  have fin : ∀ i, h 91 M ≤ i → (∀ k, 0 ≤ k → k < i → k < h 91 M → ¬ onT (h 88) (h 89) (h 99) (h 85 1) M tick (mO h M k)) → Q 46 h := by
    intro i hi hno
    refine k3 z (fun t ht => ?_)
    obtain ⟨k, k0, k1, e⟩ := ho.2.2 t ht.1.1 ht.1.2
    rw [ht.2.1] at k1 e
    refine hno k k0 (by omega) k1 ?_
    rw [e]; exact ht
  suffices H : ∀ (d : Nat) (i : Int), 0 ≤ i → i ≤ h 91 M → h 91 M - i ≤ d → (∀ k, 0 ≤ k → k < i → k < h 91 M → ¬ onT (h 88) (h 89) (h 99) (h 85 1) M tick (mO h M k)) → AW mX10_byteAt 1 13 [some (aR 85), some (aI M), some (aI tick), some (aI i), none] [] h Q from
    H (h 91 M).toNat 0 (by omega) (by omega) (by omega) (fun t a b => by omega)
  intro d
  induction d with
  | zero =>
    intro i i0 i1 hd hno
    exact s_X10_byteAt_13 ⟨hM, fun w => fin i w hno, fun w => by omega⟩
  | succ d ih =>
    intro i i0 i1 hd hno
    refine s_X10_byteAt_13 ⟨hM, fun w => fin i w hno, fun w => ?_⟩
    have q := ho.1 M i hM.1 hM.2 i0 (by omega)
    rw [show h 90 (24 * M + i) = mO h M i from rfl]
    generalize hx : mO h M i = t at *
    have q1 := hs.1.2.2.1 t q.1.1 q.1.2
    have q2 := ht.2.2 t q.1.1 q.1.2
    have ee : f_X10_endOf h t = h 99 t + h 89 t := by rw [f_mE, eo_pos q.1.1]
    rw [ee]
    refine ⟨by unfold inR; omega, by unfold inR; omega, by omega, by omega, o_mE ht q.1.2 (by omega), by unfold inR; omega, fun y => ⟨by unfold inR; omega, ?_⟩, fun y => ⟨by have := hs.1.2.1; unfold inR; omega, k2 z t ?_⟩⟩
    · have y := f_in_0.1 y
      refine ih (i + 1) (by omega) (by omega) (by omega) (fun k a b c => ?_)
      by_cases e : k = i
      · rw [e, hx]
        intro nt
        have := nt.2.2
        omega
      · exact hno k a (by omega) c
    · have y : h 99 t ≤ tick ∧ tick ≤ h 99 t + h 89 t - 1 := Classical.byContradiction (fun n => y (f_in_0.2 n))
      exact ⟨q.1, q.2, by omega, by omega⟩
theorem pr_chart : a_pair Inv mX9_chart mX10_chart 2 5 1 := by
  intro n h a b hn hI hh ha hb
  have hs := hI.1.2.1.1
  have ho := hI.1.2.1.2.1
  have h0 := hs.1.1.1
  have h1 := hs.2.2.2.1
  have hSt := hI.1.2.2.1
  refine e_X9_chart ⟨fun z => ⟨fun hr => ?_, fun hr => ?_⟩, fun z => ?_⟩
  · obtain ⟨q1, q2⟩ := refused_ok h0.1 hr
    have S := hSt q1
    have P := S.paths q2
    have sp := P.1.2.1
    -- the reference, up to its bytes
    have main : ∀ ans : Int, (a = -1 → ans = 5 * (h 20 9 + 1)) → (¬ a = -1 → 5 * (h 20 9 + 1) ≤ a → ans = -2) → (¬ a = -1 → ¬ 5 * (h 20 9 + 1) ≤ a → ∀ g, sShop h g → sOrd h g → rkT g → g 85 26 = h 20 9 → (∀ t, 0 ≤ t → t < h 3 1 → g 99 t = h 24 t) → Inv (n + 1) g → aRun mX10_byteAt 1 [aR 85, aI (a / (h 20 9 + 1)), aI (a % (h 20 9 + 1))] g (fun r' h2 => ans = r' ∧ Inv (n + 1) h2)) → aRun mX10_chart 5 [aR 85, aI a] h (fun r' h2 => ans = r' ∧ Inv (n + 1) h2) := by
      intro ans c1 c2 c3
      refine e_X10_chart ⟨fun _ => ?_, fun v => absurd z v⟩
      refine r_wrongS hs ho hSt (fun n' e => by omega) (fun g' n' hF _ _ r' e => by omega) (fun g n' hF hs' ho' hN hr3 hT e => ⟨fun _ => ?_, fun w => by omega⟩)
      have ts := times_same hs' ho' n' S.2.1 P.1 hN hT
      have hI' := hI.frame (cK.rk hF) (mK.rk hF)
      rw [ts.1]
      refine ⟨by unfold inR; omega, by unfold inR; omega, fun w => ⟨fun v => ⟨c2 (by omega) v, hI'⟩, fun v => ⟨w, by omega, ?_⟩⟩, fun w => ⟨c1 (by omega), hI'⟩⟩
      exact c3 (by omega) v g hs' ho' hT ts.1 (fun t x y => (ts.2 t x y).1) hI'
    refine ⟨by unfold inR; omega, fun y => ⟨by unfold inR; omega, main _ (fun _ => rfl) (fun v => absurd y v) (fun v => absurd y v)⟩, fun y => ⟨fun x => by omega, fun _ => ⟨by unfold inR; omega, fun w => main _ (fun v => absurd v y) (fun _ _ => rfl) (fun _ v => absurd w v), fun w => ⟨by omega, by omega, ?_⟩⟩⟩⟩
    have hM : 0 ≤ a / (h 20 9 + 1) ∧ a / (h 20 9 + 1) < 5 := ⟨Int.ediv_nonneg (by omega) (by omega), Int.ediv_lt_of_lt_mul (by omega) (by omega)⟩
    have uni : ∀ g, sShop h g → (∀ t, 0 ≤ t → t < h 3 1 → g 99 t = h 24 t) → ∀ t, onT (g 88) (g 89) (g 99) (g 85 1) (a / (h 20 9 + 1)) (a % (h 20 9 + 1)) t ↔ onT (h 6) (h 7) (h 24) (h 3 1) (a / (h 20 9 + 1)) (a % (h 20 9 + 1)) t := by
      intro g hsg ts t
      unfold onT
      rw [hsg.2.2.2.1]
      constructor
      · rintro ⟨x, y, z, w⟩
        have e := hsg.2.2.2.2.1 t x.1 x.2
        rw [e.2.2.1] at y
        rw [ts t x.1 x.2] at z w
        rw [e.2.2.2] at w
        exact ⟨x, y, z, w⟩
      · rintro ⟨x, y, z, w⟩
        have e := hsg.2.2.2.2.1 t x.1 x.2
        refine ⟨x, ?_, ?_, ?_⟩
        · rw [e.2.2.1]; exact y
        · rw [ts t x.1 x.2]; exact z
        · rw [ts t x.1 x.2, e.2.2.2]; exact w
    have hl1 : ∀ t, 0 ≤ t → t < h 3 1 → 1 ≤ h 7 t := fun t x y => (hs.1.1.2.2.1 t x y).2.2.2.1
    refine r_chartByte hs.1 P.1 (fun e => main _ (fun v => absurd v y) (fun _ v => absurd v w) (fun _ _ g hsg hog hT e26 ts hI' => ?_)) (fun e t ht => main _ (fun v => absurd v y) (fun _ v => absurd v w) (fun _ _ g hsg hog hT e26 ts hI' => ?_)) (fun e hno => main _ (fun v => absurd v y) (fun _ v => absurd v w) (fun _ _ g hsg hog hT e26 ts hI' => ?_))
    · refine r_byteAt hsg.2.1 (hsg.mOrd hog) hT hM (fun _ => ⟨rfl, hI'⟩) (fun v => by omega) (fun v => by omega)
    · refine r_byteAt hsg.2.1 (hsg.mOrd hog) hT hM (fun v => by omega) (fun _ t' ht' => ⟨?_, hI'⟩) (fun _ v => absurd ((uni g hsg ts t).2 ht) (v t))
      have ht' := (uni g hsg ts t').1 ht'
      have e2 := onT.unique ho.1 S.2.1 P.1.1.2.2.2.1 hl1 hM ht ht'
      rw [← e2, (hsg.2.2.2.2.1 t ht.1.1 ht.1.2).1]
    · refine r_byteAt hsg.2.1 (hsg.mOrd hog) hT hM (fun v => by omega) (fun _ t' ht' => absurd ((uni g hsg ts t').1 ht') (hno t')) (fun _ _ => ⟨rfl, hI'⟩)
  · refine e_X10_chart ⟨fun _ => ?_, fun v => absurd z v⟩
    refine r_wrongS hs ho hSt (fun n' e => ⟨fun w => by omega, fun _ => ⟨e, hI.mono⟩⟩) (fun g' n' hF _ _ r' e => ⟨fun w => by omega, fun _ => ⟨e, hI.frame (cK.rk hF) (mK.rk hF)⟩⟩) (fun g3 n' hF hs' ho' hN hr3 hT e => absurd e hr)
  · exact e_X10_chart ⟨fun v => absurd v z, fun _ => ⟨rfl, hI.mono⟩⟩
