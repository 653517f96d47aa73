/-! DISPATCHED on the reference, whole -/
theorem mdF.trans {h g g' : aH} (a : mdF h g) (b : mdF g g') : mdF h g' := fun c c1 c2 c3 c4 c5 => (b c c1 c2 c3 c4 c5).trans (a c c1 c2 c3 c4 c5)
theorem r_mdStart {h : aH} {Q : aQ} {rule : Int} (hs : mTab h) (hn : 0 < h 85 1) (k : ∀ g, mdF h g → (∀ M, 0 ≤ M → M < 5 → g 91 M = 0 ∧ g 112 M = 0) → (∀ j, 0 ≤ j → j < h 85 0 → g 111 j = 0 ∧ (0 ≤ g 110 j ∧ g 110 j < h 85 1) ∧ h 86 (g 110 j) = j ∧ ∀ u, 0 ≤ u → u < g 110 j → h 86 u ≠ j) → AW mX10_dispatchedBy 3 65 [some (aR 85), some (aI rule), some (aI 0), some (aI 0), none, none] [] g Q) : aRun mX10_dispatchedBy 3 [aR 85, aI rule] h Q := by
  refine e_X10_dispatchedBy ?_
  have h2 := hs.2.1
  have H2 : ∀ (d : Nat) (j : Int) (g : aH), 0 ≤ j → j ≤ h 85 0 → h 85 0 - j ≤ d → mdF h g → (∀ M, 0 ≤ M → M < 5 → g 91 M = 0 ∧ g 112 M = 0) → (∀ j', 0 ≤ j' → j' < j → g 111 j' = 0 ∧ (0 ≤ g 110 j' ∧ g 110 j' < h 85 1) ∧ h 86 (g 110 j') = j' ∧ ∀ u, 0 ≤ u → u < g 110 j' → h 86 u ≠ j') → AW mX10_dispatchedBy 3 29 [some (aR 85), some (aI rule), some (aI j), none, none, none] [] g Q := by
    intro d
    induction d with
    | zero =>
      intro j g j0 j1 hd f f1 f2
      refine s_X10_dispatchedBy_29 ⟨fun _ => k g f f1 (fun j' a b => f2 j' a (by omega)), fun w => ?_⟩
      rw [f 85 (by omega) (by omega) (by omega) (by omega) (by omega)] at w
      omega
    | succ d ih =>
      intro j g j0 j1 hd f f1 f2
      refine s_X10_dispatchedBy_29 ⟨fun w => ?_, fun w => ?_⟩
      · rw [f 85 (by omega) (by omega) (by omega) (by omega) (by omega)] at w
        exact k g f f1 (fun j' a b => f2 j' a (by omega))
      rw [f 85 (by omega) (by omega) (by omega) (by omega) (by omega)] at w
      refine r_firstOf (mShop.of hs f (fun M a b => by have := f1 M a b; omega)) (by rw [f 85 (by omega) (by omega) (by omega) (by omega) (by omega)]; exact hn) (by rw [f 85 (by omega) (by omega) (by omega) (by omega) (by omega)]; omega) (fun r r1 r2 r3 => ⟨by omega, by unfold inR; omega, ?_⟩)
      rw [f 85 (by omega) (by omega) (by omega) (by omega) (by omega)] at r1
      rw [f 86 (by omega) (by omega) (by omega) (by omega) (by omega)] at r2 r3
      refine ih (j + 1) _ (by omega) (by omega) (by omega) (fun c c1 c2 c3 c4 c5 => ?_) (fun M a b => ?_) (fun j' a b => ?_)
      · rw [a_up_ne c4, a_up_ne c3]; exact f c c1 c2 c3 c4 c5
      · rw [a_up_ne (by omega), a_up_ne (by omega), a_up_ne (by omega), a_up_ne (by omega)]; exact f1 M a b
      · by_cases e : j' = j
        · rw [e, a_up_eq, a_up_ne (by omega), a_up_eq]
          exact ⟨rfl, r1, r2, r3⟩
        · rw [a_up_off e, a_up_ne (by omega), a_up_ne (by omega), a_up_off e]
          exact f2 j' a (by omega)
  suffices H : ∀ (d : Nat) (i : Int) (g : aH), 0 ≤ i → i ≤ 5 → 5 - i ≤ d → mdF h g → (∀ M, 0 ≤ M → M < i → g 91 M = 0 ∧ g 112 M = 0) → AW mX10_dispatchedBy 3 2 [some (aR 85), some (aI rule), some (aI i), none, none, none] [] g Q from
    H 5 0 h (by omega) (by omega) (by omega) (fun _ _ _ _ _ _ => rfl) (fun M a b => by omega)
  intro d
  induction d with
  | zero =>
    intro i g i0 i1 hd f f1
    exact s_X10_dispatchedBy_2 ⟨fun _ => H2 6 0 g (by omega) (by omega) (by omega) f (fun M a b => f1 M a (by omega)) (fun j a b => by omega), fun w => by omega⟩
  | succ d ih =>
    intro i g i0 i1 hd f f1
    refine s_X10_dispatchedBy_2 ⟨fun _ => H2 6 0 g (by omega) (by omega) (by omega) f (fun M a b => f1 M a (by omega)) (fun j a b => by omega), fun w => ⟨by omega, by unfold inR; omega, ih (i + 1) _ (by omega) (by omega) (by omega) (fun c c1 c2 c3 c4 c5 => ?_) (fun M a b => ?_)⟩⟩
    · rw [a_up_ne c5, a_up_ne c2]; exact f c c1 c2 c3 c4 c5
    · by_cases e : M = i
      · rw [e, a_up_eq, a_up_ne (by omega), a_up_eq]; exact ⟨rfl, rfl⟩
      · refine ⟨?_, ?_⟩
        · rw [a_up_ne (by omega), a_up_off e]; exact (f1 M a (by omega)).1
        · rw [a_up_off e, a_up_ne (by omega)]; exact (f1 M a (by omega)).2
set_option maxHeartbeats 1000000 in
theorem r_mDisp {h : aH} {Q : aQ} {af : Int → Int} {rule : Int} (hs : mTab h) (hn : 0 < h 85 1) (ha : afOK (h 85 1) (h 86) (h 89) af) (ok : mDok h af rule (h 85 1).toNat) (k : ∀ g, mdF h g → (∀ M, 0 ≤ M → M < 5 → g 91 M = dPt (mDS h af rule (h 85 1).toNat) M) → (∀ M k, dV (mDS h af rule (h 85 1).toNat) M k → g 90 (24 * M + k) = dO (mDS h af rule (h 85 1).toNat) M k) → Q (dSp (mDS h af rule (h 85 1).toNat)) g) : aRun mX10_dispatchedBy 3 [aR 85, aI rule] h Q := by
  have h0 := hs.1
  have h2 := hs.2.1
  refine r_mdStart hs hn (fun g0 f0 f1 f2 => ?_)
  suffices H : ∀ (d i : Nat) (g : aH), (i : Int) ≤ h 85 1 → h 85 1 - i ≤ d → mdF h g → mDR g (mDS h af rule i) → AW mX10_dispatchedBy 3 65 [some (aR 85), some (aI rule), some (aI (dSp (mDS h af rule i))), some (aI (i : Int)), none, none] [] g Q from by
    refine H (h 85 1).toNat 0 g0 (by omega) (by omega) f0 ⟨fun M a b => ⟨(f1 M a b).2, (f1 M a b).1⟩, fun j a b => ?_, fun M k' v => ?_, fun j a b => ?_⟩
    · rw [f0 85 (by omega) (by omega) (by omega) (by omega) (by omega)] at b
      exact (f2 j a b).1
    · have : k' < 0 := v.2.2
      have := v.2.1
      omega
    · rw [f0 85 (by omega) (by omega) (by omega) (by omega) (by omega)] at b ⊢
      rw [f0 86 (by omega) (by omega) (by omega) (by omega) (by omega)]
      obtain ⟨-, q1, q2, q3⟩ := f2 j a b
      refine ⟨by omega, fun t t0 t1 e => ⟨fun w => absurd e (q3 t t0 w), fun w => absurd (show (0 : Int) = 1 from w) (by omega)⟩, fun t t0 t1 e => ?_⟩
      rcases Int.lt_or_le t (g0 110 j) with y | y
      · exact y
      · have := hs.mono' q1.1 y t1
        omega
  have fin : ∀ (i : Nat) (g : aH), (i : Int) = h 85 1 → mdF h g → mDR g (mDS h af rule i) → Q (dSp (mDS h af rule i)) g := by
    intro i g ei f R
    have e : i = (h 85 1).toNat := by omega
    subst e
    exact k g f (fun M a b => (R.1 M a b).2) R.2.2.1
  intro d
  induction d with
  | zero =>
    intro i g i1 hd f R
    refine s_X10_dispatchedBy_65 ⟨fun _ => fin i g (by omega) f R, fun w => ?_⟩
    rw [f 85 (by omega) (by omega) (by omega) (by omega) (by omega)] at w
    omega
  | succ d ih =>
    intro i g i1 hd f R
    have E : ∀ c, c ≠ 90 → c ≠ 91 → c ≠ 110 → c ≠ 111 → c ≠ 112 → g c = h c := f
    have e85 : g 85 = h 85 := E 85 (by omega) (by omega) (by omega) (by omega) (by omega)
    have e86 : g 86 = h 86 := E 86 (by omega) (by omega) (by omega) (by omega) (by omega)
    have e87 : g 87 = h 87 := E 87 (by omega) (by omega) (by omega) (by omega) (by omega)
    have e88 : g 88 = h 88 := E 88 (by omega) (by omega) (by omega) (by omega) (by omega)
    have e89 : g 89 = h 89 := E 89 (by omega) (by omega) (by omega) (by omega) (by omega)
    refine s_X10_dispatchedBy_65 ⟨fun w => ?_, fun w => ?_⟩
    · rw [e85] at w
      exact fin i g (by omega) f R
    rw [e85] at w
    have I := ok.1 i (by omega)
    have cntb : ∀ M, 0 ≤ M → M < 5 → 0 ≤ dPt (mDS h af rule i) M ∧ dPt (mDS h af rule i) M ≤ 24 := by
      intro M a b
      have q := I.1.2.2.2.1 M a b
      have r := cntB_rng (fun t => decide (h 88 t = M ∧ dP (mDS h af rule i) t = 1)) (h 85 1).toNat
      omega
    have hsg : mShop g := mShop.of hs f (fun M a b => by rw [(R.1 M a b).2]; exact cntb M a b)
    obtain ⟨t, ht⟩ := ok.2 i (by omega)
    refine r_mScan (af := af) (S := mDS h af rule i) (i := i) hsg (by rw [e85]; exact hn) (by rw [e85, e86, e89]; exact ha) (by rw [e85, e87, e88]; exact I.1) R ⟨t, by rw [e85, e86, e87, e88, e89]; exact ht⟩ (fun t' ht' => ?_)
    rw [e85, e86, e87, e88, e89] at ht'
    have et : t' = t := ht'.unique ht
    subst et
    have tr := ht.1.1
    have q := hs.2.2.1 t' tr.1 tr.2
    have eS : mDS h af rule (i + 1) = dPut (h 86) (h 88) (h 89) (mDS h af rule i) i t' := ht.next
    have I1' := (ok.1 (i + 1) (by omega)).1
    rw [eS] at I1'
    have pt := R.1 (h 88 t') q.2.2.1.1 q.2.2.1.2
    have jf := R.2.1 (h 86 t') q.1.1 (by rw [e85]; exact q.1.2)
    have nx := R.2.2.2 (h 86 t') q.1.1 (by rw [e85]; exact q.1.2)
    have nxt : g 110 (h 86 t') = t' := (nxOK.iff hs I.1 (by have := R.2.2.2; rw [e85, e86] at this; exact this) tr.1 tr.2).1 ht.1
    have est : f_X10_mayStart g t' = dStart (h 86) (h 88) (mDS h af rule i) t' := by
      unfold f_X10_mayStart dStart
      rw [e86, e88, pt.1, jf]
      omega
    have st0 := I.2.2.2.2.2.2.2.1
    have bM := I.2.2.2.2.2.2.2.2.2.1 (h 88 t')
    have bJ := I.2.2.2.2.2.2.2.2.2.2 (h 86 t')
    have stb : 0 ≤ dStart (h 86) (h 88) (mDS h af rule i) t' ∧ dStart (h 86) (h 88) (mDS h af rule i) t' ≤ 2376 := by unfold dStart; omega
    have ptz : 0 ≤ dPt (mDS h af rule i) (h 88 t') ∧ dPt (mDS h af rule i) (h 88 t') + 1 ≤ 24 := by
      have z1 := cntb (h 88 t') q.2.2.1.1 q.2.2.1.2
      have z2 := (I1'.2.2.2.1 (h 88 t') q.2.2.1.1 q.2.2.1.2).2
      have z3 : dPt (dPut (h 86) (h 88) (h 89) (mDS h af rule i) i t') (h 88 t') = dPt (mDS h af rule i) (h 88 t') + 1 := if_pos rfl
      have z4 := (cntB_rng (fun u => decide (h 88 u = h 88 t' ∧ dP (dPut (h 86) (h 88) (h 89) (mDS h af rule i) i t') u = 1)) (h 85 1).toNat).2
      omega
    refine s_X10_dispatchedBy_79 ⟨fun _ => ?_, fun w => absurd (Int.le_refl _) w⟩
    rw [est, e86, e88, e89, nxt]
    refine ⟨by unfold o_X10_mayStart; rw [e86, e88]; omega, by omega, by unfold inR; omega, by omega, by omega, by unfold inR; omega, ?_⟩
    generalize hG1 : a_up (a_up (a_up g 111 (h 86 t') (dStart (h 86) (h 88) (mDS h af rule i) t' + h 89 t')) 112 (h 88 t') (dStart (h 86) (h 88) (mDS h af rule i) t' + h 89 t')) 110 (h 86 t') (t' + 1) = G1
    have G1o : ∀ c, c ≠ 110 → c ≠ 111 → c ≠ 112 → G1 c = g c := fun c c1 c2 c3 => by rw [← hG1, a_up_ne c1, a_up_ne c3, a_up_ne c2]
    have e188 : G1 88 t' = h 88 t' := by rw [G1o 88 (by omega) (by omega) (by omega), e88]
    have e191 : G1 91 = g 91 := G1o 91 (by omega) (by omega) (by omega)
    refine p_X10_puts ?_ ?_
    · rw [e188, e191, pt.2]
      unfold inR
      omega
    rw [e188, e191, pt.2]
    have esp : max (dSp (mDS h af rule i)) (dStart (h 86) (h 88) (mDS h af rule i) t' + h 89 t') = dSp (mDS h af rule (i + 1)) := by rw [eS]; rfl
    rw [esp]
    refine ⟨by unfold inR; omega, ih (i + 1) _ (by omega) (by omega) (fun c c1 c2 c3 c4 c5 => ?_) ?_⟩
    · rw [a_up_ne c2, a_up_ne c1, G1o c c3 c4 c5]; exact f c c1 c2 c3 c4 c5
    · generalize hG : a_up (a_up G1 90 (24 * h 88 t' + dPt (mDS h af rule i) (h 88 t')) t') 91 (h 88 t') (dPt (mDS h af rule i) (h 88 t') + 1) = G
      have Go : ∀ c, c ≠ 90 → c ≠ 91 → G c = G1 c := fun c c1 c2 => by rw [← hG, a_up_ne c2, a_up_ne c1]
      have G112 : G 112 = up1 (g 112) (h 88 t') (dStart (h 86) (h 88) (mDS h af rule i) t' + h 89 t') := by rw [Go 112 (by omega) (by omega), ← hG1, a_up_ne (by omega), a_up_fn, a_up_ne (by omega)]
      have G111 : G 111 = up1 (g 111) (h 86 t') (dStart (h 86) (h 88) (mDS h af rule i) t' + h 89 t') := by rw [Go 111 (by omega) (by omega), ← hG1, a_up_ne (by omega), a_up_ne (by omega), a_up_fn]
      have G110 : G 110 = up1 (g 110) (h 86 t') (t' + 1) := by rw [Go 110 (by omega) (by omega), ← hG1, a_up_fn, a_up_ne (by omega), a_up_ne (by omega)]
      have G91 : G 91 = up1 (g 91) (h 88 t') (dPt (mDS h af rule i) (h 88 t') + 1) := by rw [← hG, a_up_fn, a_up_ne (by omega), e191]
      have G90 : G 90 = up1 (g 90) (24 * h 88 t' + dPt (mDS h af rule i) (h 88 t')) t' := by rw [← hG, a_up_ne (by omega), a_up_fn, G1o 90 (by omega) (by omega) (by omega)]
      have G85 : G 85 = h 85 := by rw [Go 85 (by omega) (by omega), G1o 85 (by omega) (by omega) (by omega), e85]
      have G86 : G 86 = h 86 := by rw [Go 86 (by omega) (by omega), G1o 86 (by omega) (by omega) (by omega), e86]
      obtain ⟨R1, R2, R3, R4⟩ := R
      rw [eS]
      refine ⟨fun M x y => ?_, fun j x y => ?_, fun M k' v => ?_, fun j x y => ?_⟩
      · rw [G112, G91]
        show up1 _ _ _ M = up1 (dMf (mDS h af rule i)) (h 88 t') _ M ∧ up1 _ _ _ M = up1 (dPt (mDS h af rule i)) (h 88 t') _ M
        rw [up1_at, up1_at, up1_at, up1_at, (R1 M x y).1, (R1 M x y).2]
        exact ⟨rfl, rfl⟩
      · rw [G85] at y
        rw [G111]
        show up1 _ _ _ j = up1 (dJf (mDS h af rule i)) (h 86 t') _ j
        rw [up1_at, up1_at, R2 j x (by rw [e85]; exact y)]
      · rw [G90, up1_at]
        show _ = if M = h 88 t' ∧ k' = dPt (mDS h af rule i) (h 88 t') then t' else dO (mDS h af rule i) M k'
        by_cases e : M = h 88 t' ∧ k' = dPt (mDS h af rule i) (h 88 t')
        · rw [if_pos e, if_pos (by rw [e.1, e.2])]
        · have v2 := v.2.2
          have ev : dPt (dPut (h 86) (h 88) (h 89) (mDS h af rule i) i t') M = if M = h 88 t' then dPt (mDS h af rule i) (h 88 t') + 1 else dPt (mDS h af rule i) M := rfl
          rw [ev] at v2
          have vo : dV (mDS h af rule i) M k' := by
            refine ⟨v.1, v.2.1, ?_⟩
            by_cases e1 : M = h 88 t'
            · rw [if_pos e1] at v2
              have : k' ≠ dPt (mDS h af rule i) (h 88 t') := fun x => e ⟨e1, x⟩
              rw [e1]; omega
            · rw [if_neg e1] at v2; exact v2
          rw [if_neg e, if_neg, R3 M k' vo]
          intro x
          have c1 := vo.2.2
          have c2 := cntb M v.1.1 v.1.2
          have c6 := v.2.1
          by_cases e1 : M = h 88 t'
          · rw [e1] at x
            exact e ⟨e1, by omega⟩
          · omega
      · rw [G85] at y ⊢
        rw [G86, G110, up1_at]
        have r := R4 j x (by rw [e85]; exact y)
        rw [e85, e86] at r
        have eP : ∀ u, dP (dPut (h 86) (h 88) (h 89) (mDS h af rule i) i t') u = if u = t' then 1 else dP (mDS h af rule i) u := fun u => rfl
        have tP := ht.1.2.1
        by_cases e : j = h 86 t'
        · rw [if_pos e]
          rw [e, nxt] at r
          refine ⟨by omega, fun u u0 u1 eu => ?_, fun u u0 u1 eu => ?_⟩
          · rw [eP]
            have r2 := r.2.1 u u0 u1 (by omega)
            by_cases z : u = t'
            · rw [if_pos z]; omega
            · rw [if_neg z]; omega
          · have := r.2.2 u u0 u1 (by omega)
            omega
        · rw [if_neg e]
          refine ⟨r.1, fun u u0 u1 eu => ?_, r.2.2⟩
          rw [eP, if_neg (fun z => by rw [z] at eu; exact e eu.symm)]
          exact r.2.1 u u0 u1 eu
/-! pairs: would, dispatch -/
theorem sS.ords {c m m' : aH} (H : sS c m) (b0 : m' 85 0 = m 85 0) (b1 : m' 85 1 = m 85 1) (b : ∀ k, 86 ≤ k → k ≤ 89 → m' k = m k) (z : ∀ M, 0 ≤ M → M < 5 → m' 91 M = cSz c M) (o : sameO (cSz c) (cO c 19) (mO m')) : sS c m' := by
  obtain ⟨⟨h1, h2, h3, h4, h5, h6⟩, ⟨h7, h8⟩, h9, h10⟩ := H
  refine ⟨⟨h1, ⟨?_, fun M x y => ?_⟩, by rw [b0]; exact h3, by rw [b1]; exact h4, fun t x y => ?_, z⟩, ⟨h7, o⟩, h9, h10⟩
  · rw [b0, b1, b 86 (by omega) (by omega), b 87 (by omega) (by omega), b 88 (by omega) (by omega), b 89 (by omega) (by omega)]
    exact h2.1
  · rw [z M x y, ← h6 M x y]
    exact h2.2 M x y
  · rw [b 86 (by omega) (by omega), b 87 (by omega) (by omega), b 88 (by omega) (by omega), b 89 (by omega) (by omega)]
    exact h5 t x y
theorem af_ok {c m : aH} (H : sS c m) : afOK (m 85 1) (m 86) (m 89) (c 9) := by
  have hs := H.1
  have bnd := cBA.bnd hs.1 H.2.2.1
  have hn := hs.1.1.1
  have h1 := hs.2.2.2.1
  intro t a b
  rw [h1] at b ⊢
  have q := (H.2.2.1 t a b).2
  have e := (hs.ja t a b).2
  rw [h1] at e
  rw [e]
  refine ⟨?_, by have := bnd t a b; omega⟩
  rw [q]
  by_cases z : jN (c 3 1) (c 4) t < 0
  · rw [if_pos z, if_pos z]
  · have w : t + 1 < c 3 1 := by
      rcases jN_cases (n := c 3 1) (job := c 4) t with ⟨-, w⟩ | ⟨w, -⟩
      · omega
      · exact w
    rw [if_neg z, if_neg z, (hs.2.2.2.2.1 (t + 1) (by omega) w).2.2.2]
