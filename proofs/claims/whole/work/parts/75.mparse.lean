/-! a SHOP's text, on the reference -/
abbrev mlt (h : aH) : Int → Int := ltF (h 85 9) (h 92)
/-- the reference's reading: what may change -/
def mrF (h g : aH) : Prop := (∀ c, c ≠ 85 → (c < 93 ∨ 95 < c) → g c = h c) ∧ ∀ i, i ≠ 10 → i ≠ 11 → i ≠ 12 → i ≠ 13 → g 85 i = h 85 i
theorem mrF.trans {h g g' : aH} (a : mrF h g) (b : mrF g g') : mrF h g' := ⟨fun c c1 c2 => (b.1 c c1 c2).trans (a.1 c c1 c2), fun i i1 i2 i3 i4 => (b.2 i i1 i2 i3 i4).trans (a.2 i i1 i2 i3 i4)⟩
theorem mrF.lt {h g : aH} (a : mrF h g) : mlt g = mlt h := by
  unfold mlt
  rw [a.1 92 (by omega) (by omega), a.2 9 (by omega) (by omega) (by omega) (by omega)]
theorem f_mfig {h : aH} {lo hi : Int} (h0 : 0 ≤ h 85 10) (hlo : 0 ≤ lo) : f_X10_isFigure h lo hi = 0 ↔ ¬ (lo + 48 ≤ mlt h (h 85 10) ∧ mlt h (h 85 10) ≤ hi + 48) := by
  unfold f_X10_isFigure mlt ltF
  rw [if_neg (show ¬ h 85 10 < 0 by omega)]
  by_cases z : h 85 9 ≤ h 85 10
  · rw [if_pos z, if_pos z]; omega
  · rw [if_neg z, if_neg z]
    by_cases y : f_X10_in h (h 92 (h 85 10) - 48) lo hi = 0
    · rw [if_pos y]
      have := f_in_0.1 y
      omega
    · rw [if_neg y]
      have : lo ≤ h 92 (h 85 10) - 48 ∧ h 92 (h 85 10) - 48 ≤ hi := Classical.byContradiction (fun w => y (f_in_0.2 w))
      omega
theorem f_mis {h : aH} {c : Int} (h0 : 0 ≤ h 85 10) (hc : 0 ≤ c) : f_X10_is h c = 0 ↔ ¬ mlt h (h 85 10) = c := by
  unfold f_X10_is mlt ltF
  rw [if_neg (show ¬ h 85 10 < 0 by omega)]
  by_cases z : h 85 9 ≤ h 85 10
  · rw [if_pos z, if_pos z]; omega
  · rw [if_neg z, if_neg z]
    by_cases y : h 92 (h 85 10) = c
    · rw [if_pos y]; omega
    · rw [if_neg y]; omega
/-- the tape of the reference -/
def mTp (h : aH) : Prop := (0 ≤ h 85 9 ∧ h 85 9 ≤ 140) ∧ ∀ i, 0 ≤ i → i < h 85 9 → 32 ≤ h 92 i ∧ h 92 i ≤ 126
theorem mTp.rf {h g : aH} (a : mTp h) (f : mrF h g) : mTp g := by
  unfold mTp at a ⊢
  rw [f.1 92 (by omega) (by omega), f.2 9 (by omega) (by omega) (by omega) (by omega)]
  exact a
theorem mTp.o_fig {h : aH} (a : mTp h) (h0 : 0 ≤ h 85 10) {lo hi : Int} : o_X10_isFigure h lo hi := fun z => by
  have := a.1
  have := a.2 (h 85 10) h0 (by omega)
  exact ⟨by omega, by unfold inR; omega⟩
theorem mTp.o_is {h : aH} (a : mTp h) (h0 : 0 ≤ h 85 10) {c : Int} : o_X10_is h c := fun z => by
  have := a.1
  omega
/-- must: on, if it is well and may be -/
theorem r_must {h : aH} {Q : aQ} {v : Int} (hw : h 85 11 = 0 ∨ h 85 11 = 1) (hb : 0 ≤ h 85 10 ∧ h 85 10 ≤ 1000) (k1 : h 85 11 = 1 → ¬ v = 0 → ∀ g, mrF h g → g 85 10 = h 85 10 + 1 → g 85 11 = 1 → g 85 12 = h 85 12 → g 85 13 = h 85 13 → (∀ c, c ≠ 85 → g c = h c) → Q 0 g) (k2 : (h 85 11 = 0 ∨ v = 0) → ∀ g, mrF h g → g 85 10 = h 85 10 → g 85 11 = 0 → g 85 12 = h 85 12 → g 85 13 = h 85 13 → (∀ c, c ≠ 85 → g c = h c) → Q 0 g) : aRun mX10_must 0 [aR 85, aI v] h Q := by
  refine e_X10_must ?_
  have fr : ∀ (w a : Int), mrF h (a_up (a_up h 85 11 w) 85 10 a) ∧ (a_up (a_up h 85 11 w) 85 10 a) 85 10 = a ∧ (a_up (a_up h 85 11 w) 85 10 a) 85 11 = w ∧ (a_up (a_up h 85 11 w) 85 10 a) 85 12 = h 85 12 ∧ (a_up (a_up h 85 11 w) 85 10 a) 85 13 = h 85 13 ∧ ∀ c, c ≠ 85 → (a_up (a_up h 85 11 w) 85 10 a) c = h c := by
    intro w a
    refine ⟨⟨fun c c1 _ => by rw [a_up_ne c1, a_up_ne c1], fun i i1 i2 _ _ => by rw [a_up_off i1, a_up_off i2]⟩, a_up_eq, by rw [a_up_off (by omega), a_up_eq], by rw [a_up_off (by omega), a_up_off (by omega)], by rw [a_up_off (by omega), a_up_off (by omega)], fun c c1 => by rw [a_up_ne c1, a_up_ne c1]⟩
  by_cases z : h 85 11 = 0
  · rw [if_pos z, if_pos rfl]
    obtain ⟨f1, f2, f3, f4, f5, f6⟩ := fr 0 (h 85 10 + 0)
    exact ⟨by unfold inR; omega, k2 (Or.inl z) _ f1 (by rw [f2]; omega) f3 f4 f5 f6⟩
  · rw [if_neg z]
    by_cases y : v = 0
    · rw [if_pos y, if_pos rfl]
      obtain ⟨f1, f2, f3, f4, f5, f6⟩ := fr 0 (h 85 10 + 0)
      exact ⟨by unfold inR; omega, k2 (Or.inr y) _ f1 (by rw [f2]; omega) f3 f4 f5 f6⟩
    · rw [if_neg y, if_neg (by omega)]
      obtain ⟨f1, f2, f3, f4, f5, f6⟩ := fr 1 (h 85 10 + 1)
      exact ⟨by unfold inR; omega, k1 (by omega) y _ f1 f2 f3 f4 f5 f6⟩
/-- the tables of the reference so far: jobs, machines, times -/
def pTb2 (lt : Int → Int) (i : Nat) (job mach l : Int → Int) : Prop := ∀ t : Nat, t < i → job t = pJ lt t ∧ mach t = lt (pB lt t) - 48 ∧ l t = nB lt (pB lt t)
abbrev rtTail (Q : aQ) (h6 : aH) : Prop := (((h6 85 11) = 0 → Q 0 h6) ∧ (¬ ((h6 85 11) = 0) → (0 ≤ (h6 85 13) ∧ (h6 85 13) < 24) ∧ inR ((h6 85 10) - 3) ∧ (0 ≤ ((h6 85 10) - 3) ∧ ((h6 85 10) - 3) < 140) ∧ inR ((h6 92 ((h6 85 10) - 3)) - 48) ∧ inR ((h6 85 10) - 1) ∧ (0 ≤ ((h6 85 10) - 1) ∧ ((h6 85 10) - 1) < 140) ∧ inR ((h6 92 ((h6 85 10) - 1)) - 48) ∧ o_X10_isFigure (a_up (a_up (a_up h6 93 (h6 85 13) (h6 85 12)) 94 (h6 85 13) ((h6 92 ((h6 85 10) - 3)) - 48)) 95 (h6 85 13) ((h6 92 ((h6 85 10) - 1)) - 48)) 0 9 ∧ (((f_X10_isFigure (a_up (a_up (a_up h6 93 (h6 85 13) (h6 85 12)) 94 (h6 85 13) ((h6 92 ((h6 85 10) - 3)) - 48)) 95 (h6 85 13) ((h6 92 ((h6 85 10) - 1)) - 48)) 0 9) = 0 → inR ((h6 85 13) + 1) ∧ Q 0 (a_up (a_up (a_up (a_up h6 93 (h6 85 13) (h6 85 12)) 94 (h6 85 13) ((h6 92 ((h6 85 10) - 3)) - 48)) 95 (h6 85 13) ((h6 92 ((h6 85 10) - 1)) - 48)) 85 13 ((h6 85 13) + 1))) ∧ (¬ ((f_X10_isFigure (a_up (a_up (a_up h6 93 (h6 85 13) (h6 85 12)) 94 (h6 85 13) ((h6 92 ((h6 85 10) - 3)) - 48)) 95 (h6 85 13) ((h6 92 ((h6 85 10) - 1)) - 48)) 0 9) = 0) → inR (10 * ((h6 92 ((h6 85 10) - 1)) - 48)) ∧ (0 ≤ (h6 85 10) ∧ (h6 85 10) < 140) ∧ inR ((10 * ((h6 92 ((h6 85 10) - 1)) - 48)) + (h6 92 (h6 85 10))) ∧ inR (((10 * ((h6 92 ((h6 85 10) - 1)) - 48)) + (h6 92 (h6 85 10))) - 48) ∧ inR ((h6 85 10) + 1) ∧ inR ((h6 85 13) + 1) ∧ Q 0 (a_up (a_up (a_up (a_up (a_up (a_up h6 93 (h6 85 13) (h6 85 12)) 94 (h6 85 13) ((h6 92 ((h6 85 10) - 3)) - 48)) 95 (h6 85 13) ((h6 92 ((h6 85 10) - 1)) - 48)) 95 (h6 85 13) (((10 * ((h6 92 ((h6 85 10) - 1)) - 48)) + (h6 92 (h6 85 10))) - 48)) 85 10 ((h6 85 10) + 1)) 85 13 ((h6 85 13) + 1))))))
/-- a task is read: from the begin of the i-th on -/
theorem r_readsTask {h : aH} {Q : aQ} {i : Nat} {many : Int} (ht : mTp h) (hi : i ≤ 24) (h10 : h 85 10 = pB (mlt h) i) (h11 : h 85 11 = 1) (h12 : h 85 12 = pJ (mlt h) i) (h13 : h 85 13 = i) (hT : pTb2 (mlt h) i (h 93) (h 94) (h 95)) (hJ : pJ (mlt h) i < 6)
    (k1 : (6 ≤ many ∨ i = 24) → ∀ g, mrF h g → g 85 10 = pB (mlt h) i → g 85 11 = 0 → g 85 12 = pJ (mlt h) i → Q 0 g)
    (k2 : many < 6 → i < 24 → pE (mlt h) i < pB (mlt h) i + 3 → ∀ g, mrF h g → g 85 10 = pE (mlt h) i → g 85 11 = 0 → g 85 12 = pJ (mlt h) i → Q 0 g)
    (k3 : many < 6 → i < 24 → pB (mlt h) i + 3 ≤ pE (mlt h) i → ∀ g, mrF h g → g 85 10 = pE (mlt h) i → g 85 11 = 1 → g 85 12 = pJ (mlt h) i → g 85 13 = (i : Int) + 1 → pTb2 (mlt h) (i + 1) (g 93) (g 94) (g 95) → Q 0 g) : aRun mX10_readsTask 2 [aR 85, aI many] h Q := by
  have pr := pst_rng (mlt h) i
  refine e_X10_readsTask ⟨fun z => ?_, fun z => ?_⟩
  · rw [z]
    refine k1 ?_ _ ⟨fun c c1 _ => a_up_ne c1, fun j _ j1 _ _ => a_up_off j1⟩ (by rw [a_up_off (by omega)]; exact h10) a_up_eq (by rw [a_up_off (by omega)]; exact h12)
    rw [if_neg (by omega)] at z
    by_cases y : 6 ≤ many
    · exact Or.inl y
    · rw [if_neg y, h13] at z
      by_cases x : (24 : Int) ≤ i
      · exact Or.inr (by omega)
      · rw [if_neg x] at z; omega
  have zz : many < 6 ∧ i < 24 := by
    rw [if_neg (by omega)] at z
    by_cases y : 6 ≤ many
    · rw [if_pos y] at z; exact absurd rfl z
    · rw [if_neg y, h13] at z
      by_cases x : (24 : Int) ≤ i
      · rw [if_pos x] at z; exact absurd rfl z
      · omega
  have ev : (if h 85 11 = 0 then (0 : Int) else (if 6 ≤ many then (0 : Int) else (if 24 ≤ h 85 13 then (0 : Int) else (1 : Int)))) = 1 := by
    rw [if_neg (by omega), if_neg (by omega), if_neg (by omega)]
  rw [ev]
  have eid : a_up h 85 11 1 = h := by
    funext c x
    by_cases e : c = 85
    · rw [e]
      by_cases y : x = 11
      · rw [y, a_up_eq, h11]
      · rw [a_up_off y]
    · rw [a_up_ne e]
  rw [eid]
  have b0 : 0 ≤ h 85 10 := by omega
  have pc := pE_cases (mlt h) i
  refine ⟨ht.o_fig b0, ?_⟩
  have F0 := f_mfig (h := h) (lo := 0) (hi := 4) b0 (by omega)
  rw [h10] at F0
  -- the third byte, and what follows
  have third : ∀ g4 : aH, mrF h g4 → (∀ c, c ≠ 85 → g4 c = h c) → g4 85 12 = h 85 12 → g4 85 13 = h 85 13 → ((g4 85 11 = 1 ∧ g4 85 10 = pB (mlt h) i + 2 ∧ (48 ≤ mlt h (pB (mlt h) i) ∧ mlt h (pB (mlt h) i) ≤ 52) ∧ mlt h (pB (mlt h) i + 1) = 32) ∨ (g4 85 11 = 0 ∧ g4 85 10 = pE (mlt h) i ∧ pE (mlt h) i < pB (mlt h) i + 3)) → o_X10_isFigure g4 1 9 ∧ aRun mX10_must 0 [aR 85, aI (f_X10_isFigure g4 1 9)] g4 (fun _ h6 => rtTail Q h6) := by
    intro g4 f4 fo e12 e13 hc
    have b4 : 0 ≤ g4 85 10 := by
      have := pE_rng (mlt h) i
      omega
    have t4 := ht.rf f4
    refine ⟨t4.o_fig b4, ?_⟩
    have F4 := f_mfig (h := g4) (lo := 1) (hi := 9) b4 (by omega)
    rw [f4.lt] at F4
    have pe := pE_rng (mlt h) i
    refine r_must (by omega) (by omega) (fun w v g f e10 e11 e12' e13' fo' => ⟨fun x => by omega, fun _ => ?_⟩) (fun w g f e10 e11 e12' e13' fo' => ⟨fun _ => ?_, fun x => absurd e11 x⟩)
    · -- three bytes are right
      have c1 : g4 85 10 = pB (mlt h) i + 2 ∧ (48 ≤ mlt h (pB (mlt h) i) ∧ mlt h (pB (mlt h) i) ≤ 52) ∧ mlt h (pB (mlt h) i + 1) = 32 := by
        rcases hc with c | c
        · exact c.2
        · omega
      have c2 : 49 ≤ mlt h (pB (mlt h) i + 2) ∧ mlt h (pB (mlt h) i + 2) ≤ 57 := by
        have : 1 + 48 ≤ mlt h (g4 85 10) ∧ mlt h (g4 85 10) ≤ 9 + 48 := Classical.byContradiction (fun y => v (F4.2 y))
        rw [c1.1] at this
        omega
      have q0 : (0 ≤ pB (mlt h) i ∧ pB (mlt h) i < h 85 9) ∧ h 92 (pB (mlt h) i) = mlt h (pB (mlt h) i) := ltF_pos (show 0 ≤ mlt h (pB (mlt h) i) by omega)
      have q2 : (0 ≤ pB (mlt h) i + 2 ∧ pB (mlt h) i + 2 < h 85 9) ∧ h 92 (pB (mlt h) i + 2) = mlt h (pB (mlt h) i + 2) := ltF_pos (show 0 ≤ mlt h (pB (mlt h) i + 2) by omega)
      have hl := ht.1
      have e92 : g 92 = h 92 := (fo' 92 (by omega)).trans (fo 92 (by omega))
      have eg10 : g 85 10 = pB (mlt h) i + 3 := by omega
      have eg13 : g 85 13 = i := by omega
      have eg12 : g 85 12 = pJ (mlt h) i := by omega
      rw [eg10, eg13, eg12, e92, show pB (mlt h) i + 3 - 3 = pB (mlt h) i by omega, show pB (mlt h) i + 3 - 1 = pB (mlt h) i + 2 by omega, q0.2, q2.2]
      generalize hG : a_up (a_up (a_up g 93 i (pJ (mlt h) i)) 94 i (mlt h (pB (mlt h) i) - 48)) 95 i (mlt h (pB (mlt h) i + 2) - 48) = G
      have fG : mrF h G := by
        refine ⟨fun c d1 d2 => ?_, fun j j1 j2 j3 j4 => ?_⟩
        · rw [← hG, a_up_ne (by omega), a_up_ne (by omega), a_up_ne (by omega)]; exact (f4.trans f).1 c d1 d2
        · rw [← hG, a_up_ne (by omega), a_up_ne (by omega), a_up_ne (by omega)]; exact (f4.trans f).2 j j1 j2 j3 j4
      have G85 : ∀ j, G 85 j = g 85 j := fun j => by rw [← hG, a_up_ne (by omega), a_up_ne (by omega), a_up_ne (by omega)]
      have G93 : G 93 = up1 (g 93) i (pJ (mlt h) i) := by rw [← hG, a_up_ne (by omega), a_up_ne (by omega), a_up_fn]
      have G94 : G 94 = up1 (g 94) i (mlt h (pB (mlt h) i) - 48) := by rw [← hG, a_up_ne (by omega), a_up_fn, a_up_ne (by omega)]
      have G95 : G 95 = up1 (g 95) i (mlt h (pB (mlt h) i + 2) - 48) := by rw [← hG, a_up_fn, a_up_ne (by omega), a_up_ne (by omega)]
      have o93 : g 93 = h 93 := (fo' 93 (by omega)).trans (fo 93 (by omega))
      have o94 : g 94 = h 94 := (fo' 94 (by omega)).trans (fo 94 (by omega))
      have o95 : g 95 = h 95 := (fo' 95 (by omega)).trans (fo 95 (by omega))
      have bG : 0 ≤ G 85 10 := by rw [G85]; omega
      have FG := f_mfig (h := G) (lo := 0) (hi := 9) bG (by omega)
      rw [fG.lt, G85, eg10] at FG
      have tb : 0 ≤ mlt h (pB (mlt h) i + 3) → (0 ≤ pB (mlt h) i + 3 ∧ pB (mlt h) i + 3 < h 85 9) ∧ h 92 (pB (mlt h) i + 3) = mlt h (pB (mlt h) i + 3) := ltF_pos
      refine ⟨by omega, by unfold inR; omega, by omega, by unfold inR; omega, by unfold inR; omega, by omega, by unfold inR; omega, (ht.rf fG).o_fig bG, fun y => ⟨by unfold inR; omega, ?_⟩, fun y => ?_⟩
      · have y := FG.1 y
        have ny : ¬ (48 ≤ mlt h (pB (mlt h) i + 3) ∧ mlt h (pB (mlt h) i + 3) ≤ 57) := fun x => y (by omega)
        have ee : pE (mlt h) i = pB (mlt h) i + 3 := by
          rcases pc with p | p | p | p | p
          · omega
          · omega
          · omega
          · exact p.1
          · exact absurd p.2.2.2.2 ny
        refine k3 zz.1 zz.2 (by omega) _ ⟨fun c d1 d2 => (a_up_ne d1).trans (fG.1 c d1 d2), fun j j1 j2 j3 j4 => (a_up_off j4).trans (fG.2 j j1 j2 j3 j4)⟩ ?_ ?_ ?_ a_up_eq ?_
        · rw [a_up_off (by omega), G85]; omega
        · rw [a_up_off (by omega), G85]; exact e11
        · rw [a_up_off (by omega), G85]; exact eg12
        · rw [a_up_ne (by omega), a_up_ne (by omega), a_up_ne (by omega), G93, G94, G95, o93, o94, o95]
          intro t htt
          by_cases e : t = i
          · rw [e, up1_eq, up1_eq, up1_eq]
            refine ⟨rfl, rfl, ?_⟩
            unfold nB
            rw [if_neg ny]
          · have e' : (t : Int) ≠ i := by omega
            rw [up1_ne e', up1_ne e', up1_ne e']
            exact hT t (by omega)
      · have y : 48 ≤ mlt h (pB (mlt h) i + 3) ∧ mlt h (pB (mlt h) i + 3) ≤ 57 := by
          have : 0 + 48 ≤ mlt h (pB (mlt h) i + 3) ∧ mlt h (pB (mlt h) i + 3) ≤ 9 + 48 := Classical.byContradiction (fun x => y (FG.2 x))
          omega
        have ee : pE (mlt h) i = pB (mlt h) i + 4 := by
          rcases pc with p | p | p | p | p
          · omega
          · omega
          · omega
          · exact absurd y p.2.2.2.2
          · exact p.1
        have q3 := tb (by omega)
        rw [q3.2]
        refine ⟨by unfold inR; omega, by omega, by unfold inR; omega, by unfold inR; omega, by unfold inR; omega, by unfold inR; omega, ?_⟩
        refine k3 zz.1 zz.2 (by omega) _ ⟨fun c d1 d2 => ?_, fun j j1 j2 j3 j4 => ?_⟩ ?_ ?_ ?_ a_up_eq ?_
        · rw [a_up_ne d1, a_up_ne d1, a_up_ne (by omega)]; exact fG.1 c d1 d2
        · rw [a_up_off j4, a_up_off j1, a_up_ne (by omega)]; exact fG.2 j j1 j2 j3 j4
        · rw [a_up_off (by omega), a_up_eq]; omega
        · rw [a_up_off (by omega), a_up_off (by omega), a_up_ne (by omega), G85]; exact e11
        · rw [a_up_off (by omega), a_up_off (by omega), a_up_ne (by omega), G85]; exact eg12
        · rw [a_up_ne (show (93 : Nat) ≠ 85 by omega), a_up_ne (show (93 : Nat) ≠ 85 by omega), a_up_ne (show (93 : Nat) ≠ 95 by omega), a_up_ne (show (94 : Nat) ≠ 85 by omega), a_up_ne (show (94 : Nat) ≠ 85 by omega), a_up_ne (show (94 : Nat) ≠ 95 by omega), a_up_ne (show (95 : Nat) ≠ 85 by omega), a_up_ne (show (95 : Nat) ≠ 85 by omega), a_up_fn, G93, G94, G95, o93, o94, o95]
          intro t htt
          by_cases e : t = i
          · rw [e, up1_eq, up1_eq, up1_eq]
            refine ⟨rfl, rfl, ?_⟩
            unfold nB
            rw [if_pos y]
          · have e' : (t : Int) ≠ i := by omega
            rw [up1_ne e', up1_ne e', up1_ne e', up1_ne e']
            exact hT t (by omega)
    · -- not well
      rcases hc with c | c
      · have nv : ¬ (49 ≤ mlt h (pB (mlt h) i + 2) ∧ mlt h (pB (mlt h) i + 2) ≤ 57) := by
          rcases w with w | w
          · omega
          · have := F4.1 w
            rw [c.2.1] at this
            omega
        have ee : pE (mlt h) i = pB (mlt h) i + 2 := by
          rcases pc with p | p | p | p | p
          · omega
          · omega
          · exact p.1
          · exact absurd p.2.2.2.1 nv
          · exact absurd p.2.2.2.1 nv
        exact k2 zz.1 zz.2 (by omega) g (f4.trans f) (by omega) e11 (by omega)
      · exact k2 zz.1 zz.2 (by omega) g (f4.trans f) (by omega) e11 (by omega)
  -- the second
  have second : ∀ g2 : aH, mrF h g2 → (∀ c, c ≠ 85 → g2 c = h c) → g2 85 12 = h 85 12 → g2 85 13 = h 85 13 → ((g2 85 11 = 1 ∧ g2 85 10 = pB (mlt h) i + 1 ∧ (48 ≤ mlt h (pB (mlt h) i) ∧ mlt h (pB (mlt h) i) ≤ 52)) ∨ (g2 85 11 = 0 ∧ g2 85 10 = pE (mlt h) i ∧ pE (mlt h) i < pB (mlt h) i + 3)) → o_X10_is g2 32 ∧ aRun mX10_must 0 [aR 85, aI (f_X10_is g2 32)] g2 (fun _ g4 => o_X10_isFigure g4 1 9 ∧ aRun mX10_must 0 [aR 85, aI (f_X10_isFigure g4 1 9)] g4 (fun _ h6 => rtTail Q h6)) := by
    intro g2 f2 fo e12 e13 hc
    have pe := pE_rng (mlt h) i
    have b2 : 0 ≤ g2 85 10 := by omega
    have t2 := ht.rf f2
    refine ⟨t2.o_is b2, ?_⟩
    have F2 := f_mis (h := g2) (c := 32) b2 (by omega)
    rw [f2.lt] at F2
    refine r_must (by omega) (by omega) (fun w v g f e10 e11 e12' e13' fo' => third g (f2.trans f) (fun c hc' => (fo' c hc').trans (fo c hc')) (by omega) (by omega) ?_) (fun w g f e10 e11 e12' e13' fo' => third g (f2.trans f) (fun c hc' => (fo' c hc').trans (fo c hc')) (by omega) (by omega) ?_)
    · rcases hc with c | c
      · refine Or.inl ⟨e11, by omega, c.2.2, ?_⟩
        have : mlt h (g2 85 10) = 32 := Classical.byContradiction (fun y => v (F2.2 y))
        rw [c.2.1] at this
        exact this
      · omega
    · refine Or.inr ⟨e11, ?_⟩
      rcases hc with c | c
      · have nv : ¬ mlt h (pB (mlt h) i + 1) = 32 := by
          rcases w with w | w
          · omega
          · have := F2.1 w
            rw [c.2.1] at this
            exact this
        have ee : pE (mlt h) i = pB (mlt h) i + 1 := by
          rcases pc with p | p | p | p | p
          · omega
          · exact p.1
          · exact absurd p.2.2.1 nv
          · exact absurd p.2.2.1 nv
          · exact absurd p.2.2.1 nv
        omega
      · omega
  refine r_must (by omega) (by omega) (fun w v g f e10 e11 e12 e13 fo => second g f fo e12 e13 (Or.inl ⟨e11, by omega, ?_⟩)) (fun w g f e10 e11 e12 e13 fo => second g f fo e12 e13 (Or.inr ⟨e11, ?_⟩))
  · have : 0 + 48 ≤ mlt h (pB (mlt h) i) ∧ mlt h (pB (mlt h) i) ≤ 4 + 48 := Classical.byContradiction (fun y => v (F0.2 y))
    omega
  · have nv : ¬ (48 ≤ mlt h (pB (mlt h) i) ∧ mlt h (pB (mlt h) i) ≤ 52) := by
      rcases w with w | w
      · omega
      · have := F0.1 w
        omega
    have ee : pE (mlt h) i = pB (mlt h) i := by
      rcases pc with p | p | p | p | p
      · exact p.1
      · exact absurd p.2.1 nv
      · exact absurd p.2.1 nv
      · exact absurd p.2.1 nv
      · exact absurd p.2.1 nv
    omega
