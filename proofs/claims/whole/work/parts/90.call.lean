/-! ALL ORDERS on the class -/
theorem spO_ring {n : Int} {ja l sz pa pn : Int → Int} {o : Int → Int → Int} (hl : lnkN sz o pa pn) (h : ¬ acyc n ja pa) : spO n ja l sz o = none := by
  unfold spO
  rw [if_neg (fun w => h (w pa pn hl))]
theorem spO_some {n v : Int} {mach ja l sz pa pn S : Int → Int} {o : Int → Int → Int} (hn : 0 < n) (ho : okOrd n mach sz o) (hm : ∀ t, 0 ≤ t → t < n → 0 ≤ mach t ∧ mach t < 5) (hj : ∀ t, 0 ≤ t → t < n → ja t < n) (hl : lnkN sz o pa pn) (ha : acyc n ja pa) (hS : okS n ja pa l S) (hv : okSpan n l S v) : spO n ja l sz o = some v := by
  have nr : noR n ja sz o := fun pa' pn' hl' => acyc_congr (fun t a b => ⟨rfl, (lnkN.same ho hm (fun _ _ _ _ _ _ => rfl) hl hl' t a b).1.symm⟩) ha
  have sp : spanIs n ja l sz o v := ⟨pa, pn, S, hl, ha, hS, hv⟩
  unfold spO
  rw [if_pos nr]
  congr 1
  exact spanIs.unique hn ho hm (fun _ _ _ _ _ _ => rfl) (fun t a b => ⟨hj t a b, rfl, rfl⟩) (Classical.epsilon_spec (p := spanIs n ja l sz o) ⟨v, sp⟩) sp
theorem spO_same {n n' : Int} {ja l ja' l' sz sz' : Int → Int} {o o' : Int → Int → Int} (hn : n' = n) (hs : sameO sz o o') (hz : ∀ M, 0 ≤ M → M < 5 → sz' M = sz M) (hj : ∀ t, 0 ≤ t → t < n → ja' t = ja t ∧ l' t = l t) (hr : ∀ t, 0 ≤ t → t < n → ja t < n) (mach : Int → Int) (ho : okOrd n mach sz o) (hm : ∀ t, 0 ≤ t → t < n → 0 ≤ mach t ∧ mach t < 5) (h0 : 0 < n) : spO n' ja' l' sz' o' = spO n ja l sz o := by
  subst hn
  by_cases z : noR n' ja sz o
  · have z' : noR n' ja' sz' o' := z.conv rfl hs hz (fun t a b => (hj t a b).1)
    have pe : spanIs n' ja' l' sz' o' = spanIs n' ja l sz o := by
      funext v
      refine propext ⟨?_, ?_⟩
      · rintro ⟨pa, pn, S, a1, a2, a3, a4⟩
        have lk : lnkN sz o pa pn := (a1.sz (fun M a b => (hz M a b).symm)).of hs.symm
        have dl := ho.dual hm lk
        refine ⟨pa, pn, S, lk, acyc_congr (fun t a b => ⟨((hj t a b).1).symm, rfl⟩) a2, fun t a b => ?_, fun t a b => ?_, fun w => ?_⟩
        · have q := a3 t a b
          rw [(hj t a b).1] at q
          rw [q]
          have el : ∀ u, u < n' → eo S l' u = eo S l u := fun u hu => by
            by_cases y : u < 0
            · rw [eo_neg y, eo_neg y]
            · rw [eo_pos (by omega), eo_pos (by omega), (hj u (by omega) hu).2]
          rw [el _ (hr t a b), el (pa t) (by have := (dl t a b).1; omega)]
        · have q := a4.1 t a b
          rw [(hj t a b).2] at q
          exact q
        · obtain ⟨t, x, y, q⟩ := a4.2 w
          rw [(hj t x y).2] at q
          exact ⟨t, x, y, q⟩
      · rintro ⟨pa, pn, S, a1, a2, a3, a4⟩
        have dl := ho.dual hm a1
        refine ⟨pa, pn, S, (a1.of hs).sz hz, acyc_congr (fun t a b => ⟨(hj t a b).1, rfl⟩) a2, fun t a b => ?_, fun t a b => ?_, fun w => ?_⟩
        · have q := a3 t a b
          rw [(hj t a b).1, q]
          have el : ∀ u, u < n' → eo S l u = eo S l' u := fun u hu => by
            by_cases y : u < 0
            · rw [eo_neg y, eo_neg y]
            · rw [eo_pos (by omega), eo_pos (by omega), (hj u (by omega) hu).2]
          rw [el _ (hr t a b), el (pa t) (by have := (dl t a b).1; omega)]
        · rw [(hj t a b).2]; exact a4.1 t a b
        · obtain ⟨t, x, y, q⟩ := a4.2 w
          exact ⟨t, x, y, by rw [(hj t x y).2]; exact q⟩
    unfold spO
    rw [if_pos z, if_pos z', pe]
  · have z' : ¬ noR n' ja' sz' o' := fun w => z (w.conv rfl (fun M k a b c d => (hs M k a b c (by rw [← hz M a b]; exact d)).symm) (fun M a b => (hz M a b).symm) (fun t a b => ((hj t a b).1).symm))
    unfold spO
    rw [if_neg z, if_neg z']
theorem swF_out {f : Int → Int} {i j x : Int} (h1 : x ≠ i) (h2 : x ≠ j) : swF f i j x = f x := by
  unfold swF
  rw [up1_ne h2, up1_ne h1]
theorem revF_out : ∀ (k : Nat) (f : Int → Int) (l r x : Int), (x < l ∨ r < x) → revF k f l r x = f x := by
  intro k
  induction k with
  | zero => intro f l r x _; rfl
  | succ k ih =>
    intro f l r x h
    show (if r ≤ l then f else revF k (swF f l r) (l + 1) (r - 1)) x = f x
    by_cases z : r ≤ l
    · rw [if_pos z]
    · rw [if_neg z, ih _ _ _ _ (by omega), swF_out (by omega) (by omega)]
theorem nxF_out {f : Int → Int} {s : Nat} {x : Int} (h : x < 0 ∨ (s : Int) ≤ x) : nxF f s x = f x := by
  have r : fallN f s ≤ (s : Int) - 2 := fallF_rng f s ((s : Int) - 2)
  unfold nxF
  by_cases z : fallN f s < 0
  · rw [if_pos z, revF_out _ _ _ _ _ (by omega)]
  · have q := othF_rng f (fallN f s) s ((s : Int) - 1) (by omega)
    rw [if_neg z, revF_out _ _ _ _ _ (by omega), swF_out (by omega) (by omega)]
def dq (s : Nat → Nat) : Nat → Nat → Nat
  | 0, w => w
  | M + 1, w => dq s M w / fct (s M)
def dg (s : Nat → Nat) (M w : Nat) : Nat := dq s M w % fct (s M)
def stC (σ : Int → Int) (s : Nat → Nat) (a : Nat → Int → Int) (w : Nat) (g : aH) : Prop := ∀ M : Nat, M < 5 → atW (s M) (dg s M w) (a M) (sgF g 74 (σ M))
theorem beh.congr {s : Nat} {a f f' p : Int → Int} (h : beh s a f p) (e : ∀ i, 0 ≤ i → i < (s : Int) → f' i = f i) : beh s a f' p := fun i i0 i1 => ⟨(h i i0 i1).1, (e i i0 i1).trans (h i i0 i1).2⟩
theorem fig_next {n : Nat} (hn : 0 < n) (q : Nat) : (q % n + 1 < n → (q + 1) % n = q % n + 1 ∧ (q + 1) / n = q / n) ∧ (q % n + 1 = n → (q + 1) % n = 0 ∧ (q + 1) / n = q / n + 1) := by
  have e := Nat.div_add_mod q n
  refine ⟨fun c => ?_, fun c => ?_⟩
  · have e2 : q + 1 = n * (q / n) + (q % n + 1) := by omega
    refine ⟨?_, ?_⟩
    · conv => lhs; rw [e2]
      rw [Nat.mul_add_mod, Nat.mod_eq_of_lt c]
    · conv => lhs; rw [e2]
      rw [Nat.mul_add_div hn, Nat.div_eq_of_lt c, Nat.add_zero]
  · have e2 : q + 1 = n * (q / n + 1) := by rw [Nat.mul_succ]; omega
    refine ⟨?_, ?_⟩
    · conv => lhs; rw [e2]
      exact Nat.mul_mod_right _ _
    · conv => lhs; rw [e2]
      exact Nat.mul_div_cancel_left _ hn
theorem r_nextOfAll {n : Int} {σ : Int → Int} {s : Nat → Nat} {a : Nat → Int → Int} {w : Nat} {g : aH} {Q : aQ} (hσ : okSlots n σ) (hn : n ≤ 24) (hs : ∀ M : Nat, M < 5 → ((s M : Nat) : Int) = σ ((M : Int) + 1) - σ M ∧ s M ≤ 6) (ha : ∀ M : Nat, M < 5 → grow (s M) (a M)) (h10 : g 10 = σ) (hw : stC σ s a w g) (k : ∀ g', (∀ c, c ≠ 74 → g' c = g c) → stC σ s a (w + 1) g' → Q 0 g') : aRun mX2_nextOfAll 2 [aR 73, aR 3] g Q := by
  refine e_X2_nextOfAll ?_
  suffices H : ∀ (d M : Nat) (g' : aH), M ≤ 5 → 5 - M ≤ d → (∀ c, c ≠ 74 → g' c = g c) → (∀ M' : Nat, M' < M → atW (s M') (dg s M' (w + 1)) (a M') (sgF g' 74 (σ M'))) → (∀ M' : Nat, M ≤ M' → M' < 5 → atW (s M') (dg s M' w) (a M') (sgF g' 74 (σ M'))) → dq s M (w + 1) = dq s M w + 1 → AW mX2_nextOfAll 2 2 [some (aR 73), some (aR 3), some (aI (M : Int))] [] g' Q from
    H 5 0 g (by omega) (by omega) (fun _ _ => rfl) (fun M' x => by omega) (fun M' _ x => hw M' x) rfl
  intro d
  induction d with
  | zero =>
    intro M g' M1 hd f lo hi hq
    refine s_X2_nextOfAll_2 ⟨fun _ => k g' f (fun M' x => lo M' (by omega)), fun v => by omega⟩
  | succ d ih =>
    intro M g' M1 hd f lo hi hq
    refine s_X2_nextOfAll_2 ⟨fun _ => k g' f (fun M' x => lo M' (by omega)), fun v => ?_⟩
    have e10 : g' 10 = σ := (f 10 (by omega)).trans h10
    have sM := hs M (by omega)
    have sl := hσ.at (m := (M : Int)) (by omega) (by omega)
    rw [e10]
    refine ⟨by omega, by unfold inR; omega, by omega, r_next sh_74 (s := s M) (by omega) (by omega) (by omega) (by omega) ?_⟩
    have hwM := hi M (Nat.le_refl _) (by omega)
    have dlt : dg s M w < fct (s M) := Nat.mod_lt _ (fct_pos _)
    have nx := hwM.next sM.2 (ha M (by omega)) dlt
    generalize hG : setC g' 74 (fun x => nxF (sgF g' 74 (σ (M : Int))) (s M) (x - σ (M : Int))) = G
    have fG : ∀ c, c ≠ 74 → G c = g c := fun c c1 => by rw [← hG, setC_ne c1]; exact f c c1
    have own : sgF G 74 (σ M) = nxF (sgF g' 74 (σ (M : Int))) (s M) := by rw [← hG]; exact sg_set
    have oth : ∀ M' : Nat, M' < 5 → M' ≠ M → ∀ i, 0 ≤ i → i < ((s M' : Nat) : Int) → sgF G 74 (σ M') i = sgF g' 74 (σ M') i := by
      intro M' x1 x2 i i0 i1
      have sM' := hs M' x1
      show G 74 (σ M' + i) = g' 74 (σ M' + i)
      rw [← hG, setC_eq, nxF_out]
      · show g' 74 (σ M + (σ M' + i - σ M)) = _
        congr 1; omega
      · rcases Nat.lt_or_gt_of_ne x2 with y | y
        · have := hσ.mono (m := (M' : Int)) (m' := (M : Int)) (by omega) (by omega) (by omega)
          left; omega
        · have := hσ.mono (m := (M : Int)) (m' := (M' : Int)) (by omega) (by omega) (by omega)
          right; omega
    have keep : ∀ (M' j : Nat), M' < 5 → M' ≠ M → atW (s M') j (a M') (sgF g' 74 (σ M')) → atW (s M') j (a M') (sgF G 74 (σ M')) := fun M' j x1 x2 H => beh.congr H (oth M' x1 x2)
    have qs : dq s (M + 1) (w + 1) = dq s M (w + 1) / fct (s M) := rfl
    have qs' : dq s (M + 1) w = dq s M w / fct (s M) := rfl
    have fp := fct_pos (s M)
    have fig := fig_next fp (dq s M w)
    have up : dq s (M + 1) (w + 1) = dq s (M + 1) w → ∀ e : Nat, dq s (M + 1 + e) (w + 1) = dq s (M + 1 + e) w := by
      intro e0 e
      induction e with
      | zero => exact e0
      | succ e ihe =>
        show dq s (M + 1 + e) (w + 1) / fct (s (M + 1 + e)) = dq s (M + 1 + e) w / fct (s (M + 1 + e))
        rw [ihe]
    by_cases c : dg s M w + 1 < fct (s M)
    · have n1 := nx.1 c
      have fg := fig.1 c
      have eM : dg s M (w + 1) = dg s M w + 1 := by
        show dq s M (w + 1) % fct (s M) = _
        rw [hq]
        exact fg.1
      have eq : dq s (M + 1) (w + 1) = dq s (M + 1) w := by
        rw [qs, qs', hq]
        exact fg.2
      rw [n1.2]
      refine ⟨fun x => by omega, fun _ => k G fG (fun M' x1 => ?_)⟩
      rcases Nat.lt_trichotomy M' M with y | y | y
      · exact keep M' _ x1 (by omega) (lo M' y)
      · subst y
        rw [own, eM]
        exact n1.1
      · have e2 := up eq (M' - (M + 1))
        rw [show M + 1 + (M' - (M + 1)) = M' by omega] at e2
        have e3 : dg s M' (w + 1) = dg s M' w := by
          show dq s M' (w + 1) % _ = dq s M' w % _
          rw [e2]
        rw [e3]
        exact keep M' _ x1 (by omega) (hi M' (by omega) x1)
    · have ce : dg s M w + 1 = fct (s M) := by omega
      have n1 := nx.2 ce
      have fg := fig.2 ce
      have eM : dg s M (w + 1) = 0 := by
        show dq s M (w + 1) % fct (s M) = 0
        rw [hq]
        exact fg.1
      have eq : dq s (M + 1) (w + 1) = dq s (M + 1) w + 1 := by
        rw [qs, qs', hq]
        exact fg.2
      rw [n1.2]
      refine ⟨fun _ => ?_, fun x => absurd rfl x⟩
      refine ih (M + 1) G (by omega) (by omega) fG (fun M' x => ?_) (fun M' x1 x2 => keep M' _ x2 (by omega) (hi M' (by omega) x2)) eq
      by_cases y : M' = M
      · rw [y, own, eM]
        exact n1.1
      · exact keep M' _ (by omega) y (lo M' (by omega))
