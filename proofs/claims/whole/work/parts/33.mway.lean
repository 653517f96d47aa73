/-! The reference: its way and parts -/
def mcr (h : aH) (t : Int) : Prop := crit (h 89) (h 99) (h 100) (h 85 26) t
theorem f_crit {h : aH} {t : Int} : f_X10_isCritical h t = 0 ↔ ¬ mcr h t := by
  unfold f_X10_isCritical mcr crit
  split
  · simp; assumption
  · simp; assumption
theorem o_crit {h : aH} {t : Int} (ht : rkT h) (h0 : 0 ≤ t) (h1 : t < h 85 1) (hn : h 85 1 ≤ 24) : o_X10_isCritical h t := by
  have a := ht.2.2 t h0 h1
  have b := ht.1.2.2.2.2.2.2 t h0 h1
  exact ⟨by omega, by omega, by omega⟩
theorem o_mE {h : aH} {t : Int} (ht : rkT h) (h1 : t < h 85 1) (hn : h 85 1 ≤ 24) : o_X10_endOf h t := fun z => by
  have a := ht.2.2 t z h1
  have b := ht.1.2.2.2.2.2.2 t z h1
  exact ⟨by omega, by omega⟩
theorem o_mR {h : aH} {t : Int} (ht : rkT h) (h1 : t < h 85 1) (hn : h 85 1 ≤ 24) : o_X10_restOf h t := fun z => by
  have a := ht.2.2 t z h1
  have b := ht.1.2.2.2.2.2.2 t z h1
  exact ⟨by omega, by omega⟩
theorem f_comes {h : aH} {u t : Int} (h0 : 0 ≤ t) : f_X10_comesBehind h u t = 0 ↔ ¬ (0 ≤ u ∧ mcr h u ∧ h 99 u = h 99 t + h 89 t) := by
  unfold f_X10_comesBehind
  rw [f_mE, eo_pos h0]
  by_cases a : u < 0
  · rw [if_pos a]; simp; omega
  · rw [if_neg a]
    by_cases b : f_X10_isCritical h u = 0
    · rw [if_pos b]; have := f_crit.mp b; simp [this]
    · rw [if_neg b]
      have b2 : mcr h u := Classical.byContradiction (fun z => b (f_crit.mpr z))
      by_cases c : h 99 u = h 99 t + h 89 t
      · rw [if_pos c]; simp [b2, c]; omega
      · rw [if_neg c]; simp [c]
theorem f_next {h : aH} {t : Int} (ht : rkT h) (h0 : 0 ≤ t) (h1 : t < h 85 1) (hc : mcr h t) (he : h 99 t + h 89 t < h 85 26) : isNx (h 85 1) (jN (h 85 1) (h 86)) (h 98) (h 89) (h 99) (mcr h) t (f_X10_nextOnWay h t) := by
  obtain ⟨u, u1, u2, u3, u4⟩ := ht.1.next h0 h1 hc he
  have hr := ht.1.rng h0 h1
  have hz : ∀ z : Int, (0 ≤ z ∧ mcr h z ∧ h 99 z = h 99 t + h 89 t) → (z = jN (h 85 1) (h 86) t ∨ z = h 98 t) → (∀ v, 0 ≤ v → (v = jN (h 85 1) (h 86) t ∨ v = h 98 t) → h 99 v = h 99 t + h 89 t → mcr h v → z ≤ v) → isNx (h 85 1) (jN (h 85 1) (h 86)) (h 98) (h 89) (h 99) (mcr h) t z := fun z z1 z2 z3 => ⟨⟨z1.1, by omega⟩, z2, z1.2.2, z1.2.1, z3⟩
  unfold f_X10_nextOnWay
  rw [f_mJN]
  by_cases a : f_X10_comesBehind h (jN (h 85 1) (h 86) t) t = 0
  · rw [if_pos a]
    have a' := (f_comes h0).mp a
    have hu : u = h 98 t := by
      rcases u2 with e | e
      · exact absurd (by rw [← e]; exact ⟨u1.1, u4, u3⟩) a'
      · exact e
    refine hz _ (by rw [← hu]; exact ⟨u1.1, u4, u3⟩) (Or.inr rfl) (fun v v0 v1 v2 v3 => ?_)
    rcases v1 with e | e
    · exact absurd (by rw [← e]; exact ⟨v0, v3, v2⟩) a'
    · omega
  · rw [if_neg a]
    have a' : 0 ≤ jN (h 85 1) (h 86) t ∧ mcr h (jN (h 85 1) (h 86) t) ∧ h 99 (jN (h 85 1) (h 86) t) = h 99 t + h 89 t := Classical.byContradiction (fun z => a ((f_comes h0).mpr z))
    by_cases b : f_X10_comesBehind h (h 98 t) t = 0
    · rw [if_pos b]
      have b' := (f_comes h0).mp b
      refine hz _ a' (Or.inl rfl) (fun v v0 v1 v2 v3 => ?_)
      rcases v1 with e | e
      · omega
      · exact absurd (by rw [← e]; exact ⟨v0, v3, v2⟩) b'
    · rw [if_neg b]
      have b' : 0 ≤ h 98 t ∧ mcr h (h 98 t) ∧ h 99 (h 98 t) = h 99 t + h 89 t := Classical.byContradiction (fun z => b ((f_comes h0).mpr z))
      by_cases c : h 98 t ≤ jN (h 85 1) (h 86) t
      · rw [if_pos c]; exact hz _ b' (Or.inr rfl) (fun v v0 v1 v2 v3 => by omega)
      · rw [if_neg c]; exact hz _ a' (Or.inl rfl) (fun v v0 v1 v2 v3 => by omega)
theorem o_next {h : aH} {t : Int} (ht : rkT h) (h0 : 0 ≤ t) (h1 : t < h 85 1) (hn : h 85 1 ≤ 24) : o_X10_nextOnWay h t := by
  have hr := ht.1.rng h0 h1
  unfold o_X10_nextOnWay
  rw [f_mJN]
  refine ⟨o_mJN h0 (by omega) hn, by omega, fun z => ⟨o_crit ht (by omega) (by omega) hn, fun _ => ⟨by omega, o_mE ht h1 hn⟩⟩, fun z => ⟨o_crit ht (by omega) (by omega) hn, fun _ => ⟨by omega, o_mE ht h1 hn⟩⟩⟩
theorem mcr_congr {h g : aH} (a : g 89 = h 89) (b : g 99 = h 99) (c : g 100 = h 100) (d : g 85 26 = h 85 26) : mcr g = mcr h := by
  funext t
  unfold mcr
  rw [a, b, c, d]
theorem rkT_congr {h g : aH} (a : ∀ c, 86 ≤ c → c ≤ 100 → g c = h c) (b : g 85 1 = h 85 1) (d : g 85 26 = h 85 26) (ht : rkT h) : rkT g := by
  unfold rkT at ht ⊢
  rw [a 86 (by omega) (by omega), a 87 (by omega) (by omega), a 89 (by omega) (by omega), a 97 (by omega) (by omega), a 98 (by omega) (by omega), a 99 (by omega) (by omega), a 100 (by omega) (by omega), b, d]
  exact ht
set_option maxHeartbeats 2000000 in
theorem r_walks {h : aH} {Q : aQ} (hn : 0 < h 85 1 ∧ h 85 1 ≤ 24) (ht : rkT h)
    (k : ∀ g, (∀ c, c ≠ 85 → c ≠ 103 → g c = h c) → (∀ i, i ≠ 28 → g 85 i = h 85 i) → okWay (h 85 1) (jN (h 85 1) (h 86)) (h 98) (h 89) (h 99) (mcr h) (h 85 26) (g 103) (g 85 28) → Q 0 g) : aRun mX10_walks 3 [aR 85] h Q := by
  refine e_X10_walks ?_
  have hl : ∀ t, 0 ≤ t → t < h 85 1 → 1 ≤ h 89 t ∧ h 89 t ≤ 99 := ht.1.2.2.2.2.2.2
  -- the walk itself
  have T2 : ∀ (d : Nat) (i t : Int) (g : aH), 0 < i → h 85 1 - i ≤ d → (∀ c, c ≠ 85 → c ≠ 103 → g c = h c) → (∀ j, j ≠ 28 → g 85 j = h 85 j) → g 85 28 = i → g 103 (i - 1) = t → wayPre (h 85 1) (jN (h 85 1) (h 86)) (h 98) (h 89) (h 99) (mcr h) (g 103) i → AW mX10_walks 3 37 [some (aR 85), some (aI t)] [] g Q := by
    intro d
    induction d with
    | zero =>
      intro i t g i0 hd hf hfi hi he hw
      have hlen := hw.len (by omega) (by omega)
      have htr := hw.2.2.1 (i - 1) (by omega) (by omega)
      rw [he] at htr
      have gT : rkT g := rkT_congr (fun c a b => hf c (by omega) (by omega)) (hfi 1 (by decide)) (hfi 26 (by decide)) ht
      have e1 : g 85 1 = h 85 1 := hfi 1 (by decide)
      refine s_X10_walks_37 ⟨o_mE gT (by omega) (by omega), fun q => ?_, fun q => ?_⟩
      · rw [f_mE, eo_pos htr.1.1, hf 99 (by decide) (by decide), hf 89 (by decide) (by decide), hfi 26 (by decide)] at q
        have := ht.1.2.2.2.2.2.1.1 t htr.1.1 htr.1.2
        refine k g hf hfi ?_
        rw [hi]
        exact ⟨⟨by omega, hlen⟩, hw.1 i0, hw.2.1, by rw [he]; omega, hw.2.2.1⟩
      · exfalso
        rw [f_mE, eo_pos htr.1.1, hf 99 (by decide) (by decide), hf 89 (by decide) (by decide), hfi 26 (by decide)] at q
        have hx := f_next ht htr.1.1 htr.1.2 htr.2 (by omega)
        have := (hw.push (t := f_X10_nextOnWay h t) (fun t a b => (hl t a b).1) (by omega) (fun z => by omega) (fun _ => by rw [he]; exact hx)).len (by omega) (by omega)
        omega
    | succ d ih =>
      intro i t g i0 hd hf hfi hi he hw
      have hlen := hw.len (by omega) (by omega)
      have htr := hw.2.2.1 (i - 1) (by omega) (by omega)
      rw [he] at htr
      have gT : rkT g := rkT_congr (fun c a b => hf c (by omega) (by omega)) (hfi 1 (by decide)) (hfi 26 (by decide)) ht
      have e1 : g 85 1 = h 85 1 := hfi 1 (by decide)
      refine s_X10_walks_37 ⟨o_mE gT (by omega) (by omega), fun q => ?_, fun q => ?_⟩
      · rw [f_mE, eo_pos htr.1.1, hf 99 (by decide) (by decide), hf 89 (by decide) (by decide), hfi 26 (by decide)] at q
        have := ht.1.2.2.2.2.2.1.1 t htr.1.1 htr.1.2
        refine k g hf hfi ?_
        rw [hi]
        exact ⟨⟨by omega, hlen⟩, hw.1 i0, hw.2.1, by rw [he]; omega, hw.2.2.1⟩
      · rw [f_mE, eo_pos htr.1.1, hf 99 (by decide) (by decide), hf 89 (by decide) (by decide), hfi 26 (by decide)] at q
        have ec : mcr g = mcr h := mcr_congr (hf 89 (by decide) (by decide)) (hf 99 (by decide) (by decide)) (hf 100 (by decide) (by decide)) (hfi 26 (by decide))
        have hx := f_next gT htr.1.1 (by omega) (by rw [ec]; exact htr.2) (by rw [hf 99 (by decide) (by decide), hf 89 (by decide) (by decide), hfi 26 (by decide)]; omega)
        rw [ec, e1, hf 86 (by decide) (by decide), hf 98 (by decide) (by decide), hf 89 (by decide) (by decide), hf 99 (by decide) (by decide)] at hx
        generalize f_X10_nextOnWay g t = u at hx
        have hp := hw.push (t := u) (fun t a b => (hl t a b).1) (by omega) (fun z => by omega) (fun _ => by rw [he]; exact hx)
        have hlen2 := hp.len (by omega) (by omega)
        rw [hi]
        refine ⟨o_next gT htr.1.1 (by omega) (by omega), by omega, by omega, ?_⟩
        refine ih (i + 1) u _ (by omega) (by omega) (fun c a b => by rw [a_up_ne a, a_up_ne b]; exact hf c a b) (fun j hj => by rw [a_up_fn, up1_ne hj, a_up_ne (by decide)]; exact hfi j hj) (by rw [a_up_fn, up1_eq]) ?_ ?_
        · rw [a_up_ne (by decide), a_up_fn, show i + 1 - 1 = i by omega, up1_eq]
        · rw [a_up_ne (by decide), a_up_fn]; exact hp
  -- the first one
  obtain ⟨t0, b1, b2, b3⟩ := ht.1.first hn.1
  suffices H : ∀ (d : Nat) (i : Int), 0 ≤ i → i ≤ t0 → t0 - i ≤ d → (∀ v, 0 ≤ v → v < i → ¬ (h 99 v = 0 ∧ mcr h v)) → AW mX10_walks 3 2 [some (aR 85), some (aI i)] [] h Q from
    H t0.toNat 0 (by omega) (by omega) (by omega) (fun v a b => by omega)
  intro d
  have step : ∀ i, 0 ≤ i → i ≤ t0 → (∀ v, 0 ≤ v → v < i → ¬ (h 99 v = 0 ∧ mcr h v)) → (¬ (h 99 i = 0 ∧ mcr h i) → AW mX10_walks 3 2 [some (aR 85), some (aI (i + 1))] [] h Q) → AW mX10_walks 3 2 [some (aR 85), some (aI i)] [] h Q := by
    intro i i0 i1 hv hgo
    have hSi := (ht.2.2 i i0 (by omega)).1
    refine s_X10_walks_2 ⟨o_crit ht i0 (by omega) hn.2, fun q => ⟨by omega, hgo (fun z => f_crit.mp q z.2)⟩, fun q => ⟨by omega, fun q1 => ?_, fun q1 => ⟨by omega, hgo (fun z => by omega)⟩⟩⟩
    have hc : mcr h i := Classical.byContradiction (fun z => q (f_crit.mpr z))
    refine T2 24 1 i _ (by omega) (by omega) (fun c a b => by rw [a_up_ne a, a_up_ne b]) (fun j hj => by rw [a_up_fn, up1_ne hj, a_up_ne (by decide)]) (by rw [a_up_fn, up1_eq]) ?_ ?_
    · rw [a_up_ne (by decide), a_up_fn, show (1 : Int) - 1 = 0 from rfl, up1_eq]
    · rw [a_up_ne (by decide), a_up_fn]
      refine ⟨fun _ => ?_, fun j a b => by omega, fun j a b => ?_, fun j j' a b c => by omega⟩
      · rw [up1_eq]; exact ⟨by omega, by omega, hc, hv⟩
      · have : j = 0 := by omega
        subst this
        rw [up1_eq]; exact ⟨by omega, hc⟩
  induction d with
  | zero =>
    intro i i0 i1 hd hv
    have : i = t0 := by omega
    subst this
    exact step i i0 i1 hv (fun z => absurd ⟨b2, b3⟩ z)
  | succ d ih =>
    intro i i0 i1 hd hv
    refine step i i0 i1 hv (fun z => ?_)
    have hne : i ≠ t0 := fun y => by rw [y] at z; exact z ⟨b2, b3⟩
    refine ih (i + 1) (by omega) (by omega) (by omega) (fun v a b => ?_)
    by_cases y : v = i
    · rw [y]; exact z
    · exact hv v a (by omega)
