/-! pair: shop -/
set_option maxHeartbeats 1000000 in
theorem r_mLoad {h : aH} {Q : aQ} {lt : Int → Int} {i : Nat} (i24 : i < 24) (h1 : h 85 1 = (i : Int) + 1) (T : pTb2 lt (i + 1) (h 93) (h 94) (h 95)) (hm : ∀ t, 0 ≤ t → t < (i : Int) + 1 → 0 ≤ h 94 t ∧ h 94 t < 5)
    (k : ∀ g, (∀ c, (c < 86 ∨ 91 < c) → g c = h c) → pTab lt (i + 1) (g 86) (g 87) (g 88) (g 89) → ordN ((i : Int) + 1) (h 94) (mO g) → (∀ M, 0 ≤ M → M < 5 → g 91 M = cnM (h 94) M ((i : Int) + 1)) → aRun mX10_begins 1 [aR 85] g (fun _ h2 => Q (h2 85 1) h2)) : AW mX10_shop 5 42 [some (aR 85), some (aI 0)] [] h Q := by
  have H2 : ∀ (d t : Nat) (g : aH), (t : Int) ≤ (i : Int) + 1 → i + 1 - t ≤ d → (∀ c, (c < 86 ∨ 91 < c) → g c = h c) → pTab lt t (g 86) (g 87) (g 88) (g 89) → (∀ u, 0 ≤ u → u < (t : Int) → g 90 (24 * h 94 u + cnM (h 94) (h 94 u) u) = u) → (∀ M, 0 ≤ M → M < 5 → g 91 M = cnM (h 94) M t) → AW mX10_shop 5 62 [some (aR 85), some (aI (t : Int))] [] g Q := by
    have fin : ∀ (t : Nat) (g : aH), (t : Int) = (i : Int) + 1 → (∀ c, (c < 86 ∨ 91 < c) → g c = h c) → pTab lt t (g 86) (g 87) (g 88) (g 89) → (∀ u, 0 ≤ u → u < (t : Int) → g 90 (24 * h 94 u + cnM (h 94) (h 94 u) u) = u) → (∀ M, 0 ≤ M → M < 5 → g 91 M = cnM (h 94) M t) → aRun mX10_begins 1 [aR 85] g (fun _ h2 => Q (h2 85 1) h2) := by
      intro t g e f f1 f2 f3
      have et : t = i + 1 := by omega
      subst et
      refine k g f f1 (fun u a b => f2 u a (by omega)) (fun M a b => ?_)
      rw [f3 M a b, show ((i + 1 : Nat) : Int) = (i : Int) + 1 by omega]
    intro d
    induction d with
    | zero =>
      intro t g t1 hd f f1 f2 f3
      refine s_X10_shop_62 ⟨fun _ => fin t g (by omega) f f1 f2 f3, fun w => ?_⟩
      rw [f 85 (by omega)] at w
      omega
    | succ d ih =>
      intro t g t1 hd f f1 f2 f3
      refine s_X10_shop_62 ⟨fun w => fin t g (by rw [f 85 (by omega)] at w; omega) f f1 f2 f3, fun w => ?_⟩
      rw [f 85 (by omega)] at w
      have e93 : g 93 = h 93 := f 93 (by omega)
      have e94 : g 94 = h 94 := f 94 (by omega)
      have e95 : g 95 = h 95 := f 95 (by omega)
      have q := T t (by omega)
      have mt := hm t (by omega) (by omega)
      have pl : (if (t : Int) ≤ 0 then (0 : Int) else (if g 93 ((t : Int) - 1) = g 93 t then g 87 ((t : Int) - 1) + 1 else (0 : Int))) = pP lt t := by
        rcases t with _ | t
        · rw [if_pos (by omega)]; rfl
        · rw [if_neg (by omega), e93, show ((t + 1 : Nat) : Int) - 1 = t by omega, q.1, (T t (by omega)).1, (f1 t (by omega)).2.1]
          have n := pst_next (lt := lt) (i := t)
          by_cases c : lt (pE lt t) = 44
          · have x := n.2.1 c
            rw [x.1, x.2, if_pos rfl]
          · have x := n.2.2 c
            rw [x.1, x.2, if_neg (by omega)]
      rw [pl]
      refine ⟨by omega, fun v => ⟨by unfold inR; omega, by omega, fun _ => ?_⟩, ?_⟩
      · have := (f1 (t - 1) (by omega)).2.1
        rw [show ((t - 1 : Nat) : Int) = (t : Int) - 1 by omega] at this
        rw [this]
        have := pst_rng lt (t - 1)
        unfold inR
        omega
      rw [e93, e94, e95]
      generalize hG : a_up (a_up (a_up (a_up g 86 t (h 93 t)) 87 t (pP lt t)) 88 t (h 94 t)) 89 t (h 95 t) = G
      have G88 : G 88 t = h 94 t := by rw [← hG, a_up_ne (by omega), a_up_eq]
      have Go : ∀ c, c ≠ 86 → c ≠ 87 → c ≠ 88 → c ≠ 89 → G c = g c := fun c c1 c2 c3 c4 => by rw [← hG, a_up_ne c4, a_up_ne c3, a_up_ne c2, a_up_ne c1]
      have G86 : G 86 = up1 (g 86) t (h 93 t) := by rw [← hG, a_up_ne (by omega), a_up_ne (by omega), a_up_ne (by omega), a_up_fn]
      have G87 : G 87 = up1 (g 87) t (pP lt t) := by rw [← hG, a_up_ne (by omega), a_up_ne (by omega), a_up_fn, a_up_ne (by omega)]
      have G88' : G 88 = up1 (g 88) t (h 94 t) := by rw [← hG, a_up_ne (by omega), a_up_fn, a_up_ne (by omega), a_up_ne (by omega)]
      have G89 : G 89 = up1 (g 89) t (h 95 t) := by rw [← hG, a_up_fn, a_up_ne (by omega), a_up_ne (by omega), a_up_ne (by omega)]
      have G91 : G 91 (h 94 t) = cnM (h 94) (h 94 t) t := by rw [Go 91 (by omega) (by omega) (by omega) (by omega)]; exact f3 _ mt.1 mt.2
      have cr := cnM_rng (mach := h 94) (M := h 94 t) (t := t) (by omega)
      refine p_X10_puts ?_ ?_
      · rw [G88, G91]
        unfold inR
        omega
      rw [G88, G91]
      refine ⟨by unfold inR; omega, ?_⟩
      have R := ih (t + 1) (a_up (a_up G 90 (24 * h 94 t + cnM (h 94) (h 94 t) t) t) 91 (h 94 t) (cnM (h 94) (h 94 t) t + 1)) (by omega) (by omega) (fun c hc => ?_) ?_ (fun u a b => ?_) (fun M a b => ?_)
      · exact R
      · rw [a_up_ne (by omega), a_up_ne (by omega), Go c (by omega) (by omega) (by omega) (by omega)]; exact f c hc
      · rw [a_up_ne (by omega), a_up_ne (by omega), a_up_ne (by omega), a_up_ne (by omega), a_up_ne (by omega), a_up_ne (by omega), a_up_ne (by omega), a_up_ne (by omega), G86, G87, G88', G89]
        intro u hu
        by_cases e : u = t
        · rw [e, up1_eq, up1_eq, up1_eq, up1_eq]
          exact ⟨q.1, rfl, q.2.1, q.2.2⟩
        · have e' : (u : Int) ≠ t := by omega
          rw [up1_ne e', up1_ne e', up1_ne e', up1_ne e']
          exact f1 u (by omega)
      · rw [a_up_ne (by omega)]
        by_cases e : u = (t : Int)
        · rw [e, a_up_eq]
        · have mu := hm u a (by omega)
          have cu := cnM_rng (mach := h 94) (M := h 94 u) a
          rw [a_up_off, Go 90 (by omega) (by omega) (by omega) (by omega)]
          · exact f2 u a (by omega)
          · intro x
            have ee : h 94 u = h 94 t := by omega
            have := cnM_lt (mach := h 94) a (show u < (t : Int) by omega)
            rw [ee] at this x
            omega
      · rw [a_up_at]
        have es := cnM_succ (mach := h 94) (M := M) (t := t) (by omega)
        rw [show ((t + 1 : Nat) : Int) = (t : Int) + 1 by omega, es]
        by_cases e : M = h 94 t
        · rw [if_pos e, if_pos e.symm, e]
        · rw [if_neg e, if_neg (fun x => e x.symm), a_up_ne (by omega), Go 91 (by omega) (by omega) (by omega) (by omega), f3 M a b]
          omega
  suffices H : ∀ (d : Nat) (M : Int) (g : aH), 0 ≤ M → M ≤ 5 → 5 - M ≤ d → (∀ c, c ≠ 91 → g c = h c) → (∀ M', 0 ≤ M' → M' < M → g 91 M' = 0) → AW mX10_shop 5 42 [some (aR 85), some (aI M)] [] g Q from
    H 5 0 h (by omega) (by omega) (by omega) (fun _ _ => rfl) (fun M a b => by omega)
  have go : ∀ g : aH, (∀ c, c ≠ 91 → g c = h c) → (∀ M', 0 ≤ M' → M' < 5 → g 91 M' = 0) → AW mX10_shop 5 62 [some (aR 85), some (aI 0)] [] g Q := fun g f f1 =>
    H2 (i + 1) 0 g (by omega) (by omega) (fun c hc => f c (by omega)) (fun t w => by omega) (fun u a b => by omega) (fun M a b => by rw [f1 M a b]; rfl)
  intro d
  induction d with
  | zero =>
    intro M g M0 M1 hd f f1
    exact s_X10_shop_42 ⟨fun _ => go g f (fun M' a b => f1 M' a (by omega)), fun w => by omega⟩
  | succ d ih =>
    intro M g M0 M1 hd f f1
    refine s_X10_shop_42 ⟨fun _ => go g f (fun M' a b => f1 M' a (by omega)), fun w => ⟨by omega, by unfold inR; omega, ih (M + 1) _ (by omega) (by omega) (by omega) (fun c hc => (a_up_ne hc).trans (f c hc)) (fun M' a b => ?_)⟩⟩
    by_cases e : M' = M
    · rw [e, a_up_eq]
    · rw [a_up_off e]; exact f1 M' a (by omega)
/-- another tape alone -/
theorem Sim.retape {c m c' m' : aH} (H : Sim c m) (hT : sTape c' m') (a : ∀ k, k ≠ 1 → k ≠ 2 → (k < 11 ∨ 18 < k) → k < 85 → c' k = c k) (b : ∀ k, 85 < k → k ≠ 92 → (k < 93 ∨ 95 < k) → m' k = m k) (b1 : ∀ i, i ≠ 9 → i ≠ 10 → i ≠ 11 → i ≠ 12 → i ≠ 13 → m' 85 i = m 85 i) : Sim c' m' := by
  obtain ⟨h1, h2, h3, h4, h5, h6, h7, h8, h9, h10⟩ := H
  have a' : ∀ k, 3 ≤ k → k ≤ 10 → c' k = c k := fun k k1 k2 => a k (by omega) (by omega) (by omega) (by omega)
  have e : ∀ k i, k ≠ 1 → k ≠ 2 → (k < 11 ∨ 18 < k) → k < 85 → c' k i = c k i := fun k i k1 k2 k3 k4 => congrFun (a k k1 k2 k3 k4) i
  have f : ∀ i, (i = 0 ∨ i = 1 ∨ i = 18 ∨ i = 19 ∨ i = 34 ∨ i = 36 ∨ i = 37 ∨ i = 38 ∨ i = 40 ∨ i = 51) → m' 85 i = m 85 i := fun i hi => b1 i (by omega) (by omega) (by omega) (by omega) (by omega)
  refine ⟨hT, ?_, ?_, ?_, ?_, ?_, ?_, ?_, ?_, ?_⟩
  · exact h2.congr a' (a 19 (by omega) (by omega) (by omega) (by omega)) (f 0 (by omega)) (f 1 (by omega)) (fun k k1 k2 => b k (by omega) (by omega) (by omega))
  · exact h3.congr a' (fun k k1 k2 => a k (by omega) (by omega) (by omega) (by omega)) (fun k k1 k2 => a k (by omega) (by omega) (by omega) (by omega))
  · exact h4.congr (e 42 1 (by omega) (by omega) (by omega) (by omega)) (e 42 2 (by omega) (by omega) (by omega) (by omega)) (a 43 (by omega) (by omega) (by omega) (by omega)) (f 34 (by omega)) (f 36 (by omega)) (b 107 (by omega) (by omega) (by omega))
  · exact h5.congr a' (e 0 15 (by omega) (by omega) (by omega) (by omega)) (a 84 (by omega) (by omega) (by omega) (by omega)) (f 37 (by omega)) (f 38 (by omega)) (b 108 (by omega) (by omega) (by omega))
  · exact h6.congr a' (e 44 1 (by omega) (by omega) (by omega) (by omega)) (e 44 2 (by omega) (by omega) (by omega) (by omega)) (fun k k1 k2 => a k (by omega) (by omega) (by omega) (by omega)) (f 18 (by omega)) (f 19 (by omega)) (b 96 (by omega) (by omega) (by omega))
  · exact h7.congr (by have := h6.1; omega) (a' 10 (by omega) (by omega)) (a 19 (by omega) (by omega) (by omega) (by omega)) (e 44 1 (by omega) (by omega) (by omega) (by omega)) (e 44 2 (by omega) (by omega) (by omega) (by omega)) (e 3 1 (by omega) (by omega) (by omega) (by omega)) (fun k k1 k2 => a k (by omega) (by omega) (by omega) (by omega))
  · exact h8.congr (fun k k1 k2 => a k (by omega) (by omega) (by omega) (by omega)) (f 51 (by omega)) (b 115 (by omega) (by omega) (by omega))
  · exact h9.congr a' (a 72 (by omega) (by omega) (by omega) (by omega))
  · exact h10.congr a' (e 73 1 (by omega) (by omega) (by omega) (by omega)) (e 73 2 (by omega) (by omega) (by omega) (by omega)) (e 73 3 (by omega) (by omega) (by omega) (by omega))
theorem lt_same {c m : aH} (h : sTape c m) : mlt m = ltF (c 1 1) (c 2) := by
  funext a
  unfold mlt ltF
  rw [h.2.1]
  by_cases z : a < 0
  · rw [if_pos z, if_pos z]
  · rw [if_neg z, if_neg z]
    by_cases y : c 1 1 ≤ a
    · rw [if_pos y, if_pos y]
    · rw [if_neg y, if_neg y]
      exact (h.2.2 a (by omega) (by omega)).2
theorem sTape.mTp {c m : aH} (h : sTape c m) : mTp m := by
  obtain ⟨h1, h2, h3⟩ := h
  refine ⟨by omega, fun i a b => ?_⟩
  have := h3 i a (by omega)
  omega
