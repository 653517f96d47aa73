/-! one step: on the class -/
theorem okMv.unique {L L' : List Int} {f : Int → Int} {n : Int} (h : okMv L f n) (h' : okMv L' f n) : L = L' := by
  have e : L.length = L'.length := by have := h.1; have := h'.1; omega
  apply List.ext_getElem?
  intro i
  by_cases z : i < L.length
  · rw [h.2 i z, h'.2 i (by omega)]
  · rw [List.getElem?_eq_none (by omega), List.getElem?_eq_none (by omega)]
def LstC (c c1 : aH) : Prop := ((c 0 15 = -1 ∨ c 20 9 < c 0 15) ∧ c1 = a_cp (a_up c 0 15 (c 20 9)) 19 0 84 0 24) ∨ (¬ (c 0 15 = -1 ∨ c 20 9 < c 0 15) ∧ c1 = c)
theorem LstC.fr {c c1 : aH} (x : LstC c c1) : (∀ k, k ≠ 0 → k ≠ 84 → c1 k = c k) ∧ ∀ i, i ≠ 15 → c1 0 i = c 0 i := by
  rcases x with ⟨-, e⟩ | ⟨-, e⟩
  · subst e
    exact ⟨fun k k0 k1 => by rw [a_cp_ne k1, a_up_ne k0], fun i i1 => by rw [a_cp_ne (by omega), a_up_off i1]⟩
  · subst e
    exact ⟨fun _ _ _ => rfl, fun _ _ => rfl⟩
theorem r_lst {c : aH} {Q : aQ} (k : ∀ c1, LstC c c1 → Q 0 c1) : aRun mX9_lookForLeast 2 [aR 0] c Q :=
  e_X9_lookForLeast ⟨fun z => k _ (Or.inl ⟨Or.inl z, rfl⟩), fun z => ⟨fun y => k _ (Or.inr ⟨fun w => by omega, rfl⟩), fun y => k _ (Or.inl ⟨Or.inr (by omega), rfl⟩)⟩⟩
/-- what a step that does the k-th move makes of the class -/
def MovC (c c1 : aH) (k : Int) (c' : aH) : Prop := ∃ (L : List Int) (M kk : Int) (c2 c4 c5 : aH) (rx : Int), okMv L (c 43) (c 42 1) ∧ (0 ≤ k ∧ k < c 38 5) ∧ chP (c 38 5) (vB c) (qB L c) (c1 0 15) k ∧ (∀ x, (x < 29 ∨ 37 < x) → c2 x = c1 x) ∧
  ((0 ≤ M ∧ M < 5) ∧ (0 ≤ kk ∧ kk + 1 < cSz c M) ∧ cO c 19 M kk = c 39 (c 41 k) ∧ cO c 19 M (kk + 1) = c 39 (c 41 k + 1)) ∧
  cChg (setC c2 19 (sw2 (c2 19) (c 10 M + kk))) c4 ∧ Settled c4 ∧ c4 20 10 = 0 ∧ c4 20 9 = vB c k ∧
  isIx L (100 * c 39 (c 41 k + 1) + c 39 (c 41 k)) rx ∧ (∀ x, x ≠ 42 → x ≠ 43 → c5 x = c4 x) ∧ (∀ j, j ≠ 1 → c5 42 j = c4 42 j) ∧ okMv (keepL (c 42 2) L (100 * c 39 (c 41 k + 1) + c 39 (c 41 k)) rx) (c5 43) (c5 42 1) ∧ LstC c5 c'
def RelC (c : aH) (r : Int) (c' : aH) : Prop := ∃ c1, LstC c c1 ∧ ((c 38 5 = 0 ∧ r = 0 ∧ c' = c1) ∨ (r = 1 ∧ 0 < c 38 5 ∧ ∃ k, MovC c c1 k c'))
/-- what the class wants for a step -/
def StC (c : aH) : Prop := cShop c ∧ 0 < c 3 1 ∧ okOrd (c 3 1) (c 6) (cSz c) (cO c 19) ∧ Settled c ∧ c 20 10 = 0 ∧ (0 ≤ c 44 1 ∧ c 44 1 ≤ 16) ∧ (0 ≤ c 42 1 ∧ c 42 1 ≤ c 42 2 ∧ c 42 2 ≤ 9)
theorem okMv.ofLen {f : Int → Int} {n : Int} (hn : 0 ≤ n) : ∃ L, okMv L f n := by
  refine ⟨(List.range n.toNat).map (fun i : Nat => f (i : Int)), ?_, fun i hi => ?_⟩
  · rw [List.length_map, List.length_range]; omega
  · rw [List.length_map, List.length_range] at hi
    rw [List.getElem?_map, List.getElem?_range hi]; rfl
theorem Settled.spanIs {c : aH} (S : Settled c) (hr : c 20 10 = 0) : spanIs (c 3 1) (jA (c 5)) (c 7) (cSz c) (cO c 19) (c 20 9) := by
  have T := (S.paths hr).1
  exact ⟨c 22, c 23, c 24, S.2.1, T.1.2.2.1, T.1.2.2.2.1, T.1.2.2.2.2.2.1⟩
theorem StC.congr {c c' : aH} (H : StC c) (f : ∀ x, x ≠ 0 → x ≠ 84 → (x < 29 ∨ 37 < x) → c' x = c x) : StC c' := by
  obtain ⟨s1, s2, s3, s4, s5, s6, s7⟩ := H
  have a : ∀ k, 3 ≤ k → k ≤ 10 → c' k = c k := fun k k1 k2 => f k (by omega) (by omega) (by omega)
  refine ⟨s1.congr a, ?_, cOrd.congr s3 a (f 19 (by omega) (by omega) (by omega)), s4.congr a (fun k k1 k2 => f k (by omega) (by omega) (by omega)) (fun k k1 k2 => f k (by omega) (by omega) (by omega)), ?_, ?_, ?_⟩
  · rw [a 3 (by omega) (by omega)]; exact s2
  · rw [f 20 (by omega) (by omega) (by omega)]; exact s5
  · rw [f 44 (by omega) (by omega) (by omega)]; exact s6
  · rw [f 42 (by omega) (by omega) (by omega)]; exact s7
theorem vB_congr {c c' : aH} (f : ∀ x, x ≠ 0 → x ≠ 84 → (x < 29 ∨ 37 < x) → c' x = c x) : vB c' = vB c := by
  funext i
  unfold vB cSz cO
  rw [f 3 (by omega) (by omega) (by omega), f 5 (by omega) (by omega) (by omega), f 6 (by omega) (by omega) (by omega), f 7 (by omega) (by omega) (by omega), f 10 (by omega) (by omega) (by omega), f 19 (by omega) (by omega) (by omega), f 21 (by omega) (by omega) (by omega), f 39 (by omega) (by omega) (by omega), f 41 (by omega) (by omega) (by omega)]
theorem qB_congr {L : List Int} {c c' : aH} (f : ∀ x, x ≠ 0 → x ≠ 84 → (x < 29 ∨ 37 < x) → c' x = c x) : qB L c' = qB L c := by
  funext i
  unfold qB
  rw [f 39 (by omega) (by omega) (by omega), f 41 (by omega) (by omega) (by omega)]
theorem qB_rng {L : List Int} {c : aH} {n : Int} {f : Int → Int} (hL : okMv L f n) (h9 : n ≤ 9) (i : Int) : -1 ≤ qB L c i ∧ qB L c i < 9 := by
  have ex : ∃ r, isIx L (100 * c 39 (c 41 i) + c 39 (c 41 i + 1)) r := by
    refine Classical.byContradiction (fun N => ?_)
    have n1 : ∀ i' : Nat, L[i']? ≠ some (100 * c 39 (c 41 i) + c 39 (c 41 i + 1)) := by
      intro i'
      induction i' using Nat.strongRecOn with
      | _ i' ih => exact fun e => N ⟨i', Or.inr ⟨i', rfl, e, ih⟩⟩
    exact N ⟨-1, Or.inl ⟨rfl, n1⟩⟩
  have hsp : isIx L _ (qB L c i) := Classical.epsilon_spec ex
  rcases hsp with ⟨x, -⟩ | ⟨j, x, y, -⟩
  · omega
  · have := (List.getElem?_eq_some_iff.mp y).1
    have := hL.1
    omega
theorem r_cGoOn {c : aH} {Q : aQ} (H : StC c) (k : ∀ c' r, RelC c r c' → Q r c') : aRun mX9_goOn 5 [aR 0] c Q := by
  refine e_X9_goOn ?_
  refine r_lst (fun c1 x1 => ?_)
  have f1 := x1.fr
  have g1 : ∀ x, x ≠ 0 → x ≠ 84 → (x < 29 ∨ 37 < x) → c1 x = c x := fun x a b _ => f1.1 x a b
  have e38 : c1 38 5 = c 38 5 := by rw [f1.1 38 (by omega) (by omega)]
  refine ⟨fun z => k c1 0 ⟨c1, x1, Or.inl ⟨by omega, rfl, rfl⟩⟩, fun z => ?_⟩
  have H1 := H.congr g1
  obtain ⟨s1, s2, s3, s4, s5, s6, s7⟩ := id H
  have P := s4.paths s5
  have cn := P.2.cnt s1
  obtain ⟨L, hL⟩ := okMv.ofLen (f := c 43) s7.1
  have hL1 : okMv L (c1 43) (c1 42 1) := by rw [f1.1 43 (by omega) (by omega), f1.1 42 (by omega) (by omega)]; exact hL
  have qr := qB_rng (c := c) hL (by omega)
  refine r_cChosen (v := vB c) (q := qB L c) (by omega) (fun i _ _ => qr i) (fun g i Q' hg i0 i1 hk => ?_) (fun g i Q' hg i0 i1 hk => ?_) (fun c2 k' f2 ch => ?_)
  · have g2 : ∀ x, x ≠ 0 → x ≠ 84 → (x < 29 ∨ 37 < x) → g x = c x := fun x a b d => (hg x d).trans (g1 x a b d)
    have Hg := H.congr g2
    have := r_cB (Q := Q') Hg.1 Hg.2.1 Hg.2.2.1 Hg.2.2.2.1 Hg.2.2.2.2.1 i0 (by rw [hg 38 (by omega)]; exact i1)
    rw [vB_congr g2] at this
    exact this (fun g' f _ => hk g' (fun x d => (f x d).trans (hg x d)))
  · have g2 : ∀ x, x ≠ 0 → x ≠ 84 → (x < 29 ∨ 37 < x) → g x = c x := fun x a b d => (hg x d).trans (g1 x a b d)
    have Hg := H.congr g2
    have := r_cK (L := L) (Q := Q') Hg.1 Hg.2.1 Hg.2.2.2.1 Hg.2.2.2.2.1 i0 (by rw [hg 38 (by omega)]; exact i1) (by rw [hg 43 (by omega), hg 42 (by omega)]; exact hL1) (by rw [hg 42 (by omega), f1.1 42 (by omega) (by omega)]; omega)
    rw [qB_congr g2] at this
    exact this (fun _ => hk)
  have g2 : ∀ x, x ≠ 0 → x ≠ 84 → (x < 29 ∨ 37 < x) → c2 x = c x := fun x a b d => (f2 x d).trans (g1 x a b d)
  rw [e38] at ch
  have kr : 0 ≤ k' ∧ k' < c 38 5 := by
    rcases ch with a | a
    · exact a.1
    · exact a.2.1
  have mo := mv_of s2 s4 s5 kr.1 kr.2
  have mr := mv_rng s1 s2 P.2 mo
  obtain ⟨M, kk, hM, hk, m1, m2, m3, m4, m5⟩ := mv_place s1 s2 s3 s4 s5 mo
  have sl := s1.2.at hM.1 hM.2
  have hn := s1.1.1
  have sz : cSz c M = c 10 (M + 1) - c 10 M := rfl
  have ea : f_X6_first c2 k' = c 39 (c 41 k') := by unfold f_X6_first; rw [g2 39 (by omega) (by omega) (by omega), g2 41 (by omega) (by omega) (by omega)]
  have eb : f_X6_second c2 k' = c 39 (c 41 k' + 1) := by unfold f_X6_second; rw [g2 39 (by omega) (by omega) (by omega), g2 41 (by omega) (by omega) (by omega)]
  have e41 := g2 41 (by omega) (by omega) (by omega)
  rw [ea, eb]
  have hslot : f_X9_slotOf c2 (c 39 (c 41 k')) = c 10 M + kk := by
    unfold f_X9_slotOf
    rw [g2 6 (by omega) (by omega) (by omega), g2 10 (by omega) (by omega) (by omega), g2 21 (by omega) (by omega) (by omega), m1, m4]
  rw [hslot]
  refine ⟨?_, ?_, ?_, r_changePlaces (by omega) (by omega) ?_⟩
  · unfold o_X6_first; rw [e41]; omega
  · unfold o_X6_second inR; rw [e41]; omega
  · unfold o_X9_slotOf inR
    rw [g2 6 (by omega) (by omega) (by omega), g2 10 (by omega) (by omega) (by omega), g2 21 (by omega) (by omega) (by omega), m1, m4]
    omega
  have H2 := H.congr g2
  have hk2 : kk + 1 < c2 10 (M + 1) - c2 10 M := by rw [g2 10 (by omega) (by omega) (by omega)]; omega
  have e10 : c2 10 M = c 10 M := by rw [g2 10 (by omega) (by omega) (by omega)]
  have hcs := cO_swap (row := c2 19) H2.1.2 hM ⟨hk.1, hk2⟩
  rw [e10] at hcs
  have ho3 : okOrd (c2 3 1) (c2 6) (cSz c2) (fun m i => sw2 (c2 19) (c 10 M + kk) (c2 10 m + i)) := (H2.2.2.1.swap hM ⟨hk.1, hk2⟩).same H2.1.mach hcs.symm
  refine r_cChanged (h := setC c2 19 (sw2 (c2 19) (c 10 M + kk))) H2.1 H2.2.1 ho3 H2.2.2.2.2.2.1 (fun c4 x4 S4 => ?_)
  have f4 := x4.1
  have a4 : ∀ j, 3 ≤ j → j ≤ 10 → c4 j = c j := fun j j1 j2 => (f4 j (by omega) (by omega) (by omega) (by omega)).trans ((setC_ne (by omega)).trans (g2 j (by omega) (by omega) (by omega)))
  have e19 : c4 19 = sw2 (c 19) (c 10 M + kk) := (f4 19 (by omega) (by omega) (by omega) (by omega)).trans (setC_eq.trans (by rw [g2 19 (by omega) (by omega) (by omega)]))
  have eS : cSz c4 = cSz c := by unfold cSz; rw [a4 10 (by omega) (by omega)]
  have eO : cO c4 19 = fun m i => sw2 (c 19) (c 10 M + kk) (c 10 m + i) := by unfold cO; rw [a4 10 (by omega) (by omega), e19]
  have hcs2 := cO_swap (row := c 19) s1.2 hM ⟨hk.1, by omega⟩
  have ring : c4 20 10 = 0 := by
    rcases S4.2.2 with ⟨-, na⟩ | ⟨r0, -⟩
    · refine absurd ?_ na
      rw [a4 3 (by omega) (by omega), a4 5 (by omega) (by omega)]
      have lk := S4.2.1
      rw [eS, eO] at lk
      exact m5 _ _ (lk.of hcs2)
    · exact r0
  have spn : c4 20 9 = vB c k' := by
    have sp := S4.spanIs ring
    rw [eS, eO, a4 3 (by omega) (by omega), a4 5 (by omega) (by omega), a4 7 (by omega) (by omega)] at sp
    unfold vB
    rw [m1, m4]
    have sp2 : spanIs (c 3 1) (jA (c 5)) (c 7) (cSz c) (swO (cO c 19) M kk) (c4 20 9) := by
      obtain ⟨pa, pn, S', u1, u2⟩ := sp
      exact ⟨pa, pn, S', u1.of hcs2, u2⟩
    have hsp := Classical.epsilon_spec (p := spanIs (c 3 1) (jA (c 5)) (c 7) (cSz c) (swO (cO c 19) M kk)) ⟨_, sp2⟩
    exact spanIs.unique s2 (s3.swap hM hk) s1.mach (fun _ _ _ _ _ _ => rfl) (fun t a b => ⟨jA_lt s1 t a b, rfl, rfl⟩) sp2 hsp
  have e42 : c4 42 = c 42 := (f4 42 (by omega) (by omega) (by omega) (by omega)).trans ((setC_ne (by omega)).trans (g2 42 (by omega) (by omega) (by omega)))
  have e43 : c4 43 = c 43 := (f4 43 (by omega) (by omega) (by omega) (by omega)).trans ((setC_ne (by omega)).trans (g2 43 (by omega) (by omega) (by omega)))
  have ep : f_X9_pair c4 (c 39 (c 41 k' + 1)) (c 39 (c 41 k')) = 100 * c 39 (c 41 k' + 1) + c 39 (c 41 k') := rfl
  rw [ep]
  refine ⟨?_, ?_⟩
  · unfold o_X9_pair inR; omega
  refine r_keep (L := L) (by rw [e42, e43]; exact hL) (by rw [e42]; omega) (by rw [e42]; omega) (fun rx c5 hx f5 f6 hL5 => ?_)
  rw [e42] at hL5
  refine r_lst (fun c6 x6 => k c6 1 ⟨c1, x1, Or.inr ⟨rfl, by omega, k', L, M, kk, c2, c4, c5, rx, hL, kr, ch, f2, ⟨hM, hk, m2, m3⟩, x4, S4, ring, spn, hx, f5, f6, hL5, x6⟩⟩)
/-- .. and then it wants another -/
theorem RelC.st {c c' : aH} (H : StC c) (x : RelC c 1 c') : StC c' := by
  obtain ⟨c1, x1, y | ⟨-, -, k, L, M, kk, c2, c4, c5, rx, y1, y2, y3, y4, ⟨hM, hk, y5, y6⟩, y7, S4, y8, y9, y10, y11, y12, y13, x6⟩⟩ := x
  · exact absurd y.2.1 (by omega)
  obtain ⟨s1, s2, s3, s4, s5, s6, s7⟩ := id H
  have f1 := x1.fr
  have f6 := x6.fr
  have g2 : ∀ x, x ≠ 0 → x ≠ 84 → (x < 29 ∨ 37 < x) → c2 x = c x := fun x a b d => (y4 x d).trans (f1.1 x a b)
  have H2 := H.congr g2
  have e10 : c2 10 M = c 10 M := by rw [g2 10 (by omega) (by omega) (by omega)]
  have sz : cSz c M = c 10 (M + 1) - c 10 M := rfl
  have hk2 : kk + 1 < c2 10 (M + 1) - c2 10 M := by rw [g2 10 (by omega) (by omega) (by omega)]; omega
  have hcs := cO_swap (row := c2 19) H2.1.2 hM ⟨hk.1, hk2⟩
  rw [e10] at hcs
  have ho3 : okOrd (c2 3 1) (c2 6) (cSz c2) (fun m i => sw2 (c2 19) (c 10 M + kk) (c2 10 m + i)) := (H2.2.2.1.swap hM ⟨hk.1, hk2⟩).same H2.1.mach hcs.symm
  have F : ∀ x, x ≠ 0 → x ≠ 84 → (x < 20 ∨ 28 < x) → (x < 38 ∨ 41 < x) → x ≠ 44 → (x < 46 ∨ 62 < x) → x ≠ 42 → x ≠ 43 → c' x = setC c2 19 (sw2 (c2 19) (c 10 M + kk)) x := fun x a b d1 d2 d3 d4 d5 d6 => (f6.1 x a b).trans ((y11 x d5 d6).trans (y7.1 x d1 d2 d3 d4))
  have a : ∀ j, 3 ≤ j → j ≤ 10 → c' j = c2 j := fun j j1 j2 => (F j (by omega) (by omega) (by omega) (by omega) (by omega) (by omega) (by omega) (by omega)).trans (setC_ne (by omega))
  have lb : ∀ x, x ≠ 0 → x ≠ 84 → x ≠ 42 → x ≠ 43 → c' x = c4 x := fun x a b d e => (f6.1 x a b).trans (y11 x d e)
  have r0 := qB_rng (c := c) y1 (by omega) k
  refine ⟨H2.1.congr a, by rw [a 3 (by omega) (by omega)]; exact H2.2.1, ?_, S4.congr (fun j j1 j2 => lb j (by omega) (by omega) (by omega) (by omega)) (fun j j1 j2 => lb j (by omega) (by omega) (by omega) (by omega)) (fun j j1 j2 => lb j (by omega) (by omega) (by omega) (by omega)), ?_, ?_, ?_⟩
  · refine cOrd.congr (h := setC c2 19 (sw2 (c2 19) (c 10 M + kk))) ho3 (fun j j1 j2 => (a j j1 j2).trans (setC_ne (by omega)).symm) (F 19 (by omega) (by omega) (by omega) (by omega) (by omega) (by omega) (by omega) (by omega))
  · rw [lb 20 (by omega) (by omega) (by omega) (by omega)]; exact y8
  · rw [lb 44 (by omega) (by omega) (by omega) (by omega)]
    obtain ⟨s, D, d1, d2, -⟩ := y7.2
    omega
  · have e1 : c' 42 = c5 42 := f6.1 42 (by omega) (by omega)
    have e2 : c5 42 2 = c 42 2 := by rw [y12 2 (by omega), y7.1 42 (by omega) (by omega) (by omega) (by omega), setC_ne (by omega), g2 42 (by omega) (by omega) (by omega)]
    rw [e1, e2]
    have := y13.1
    have := keepL_len (most := c 42 2) (by have := y1.1; omega) y10
    omega
