/-! orders by numbers -/
def cnM (mach : Int → Int) (M : Int) (t : Int) : Int := cntB (fun u => decide (mach u = M)) t.toNat
theorem cnM_succ {mach : Int → Int} {M t : Int} (h : 0 ≤ t) : cnM mach M (t + 1) = cnM mach M t + (if mach t = M then 1 else 0) := by
  unfold cnM
  rw [show (t + 1).toNat = t.toNat + 1 by omega]
  show cntB _ t.toNat + (if decide (mach ((t.toNat : Nat) : Int) = M) = true then 1 else 0) = _
  rw [show ((t.toNat : Nat) : Int) = t by omega]
  by_cases y : mach t = M
  · rw [if_pos y, decide_eq_true y, if_pos rfl]
  · rw [if_neg y, decide_eq_false y, if_neg (by decide)]
theorem cnM_mono {mach : Int → Int} {M : Int} : ∀ (d : Nat) (t : Int), 0 ≤ t → cnM mach M t ≤ cnM mach M (t + d) := by
  intro d
  induction d with
  | zero => intro t _; rw [show t + ((0 : Nat) : Int) = t by omega]; omega
  | succ d ih =>
    intro t h
    have a := ih t h
    have b := cnM_succ (mach := mach) (M := M) (t := t + d) (by omega)
    rw [show t + ((d + 1 : Nat) : Int) = t + d + 1 by omega, b]
    by_cases y : mach (t + d) = M
    · rw [if_pos y]; omega
    · rw [if_neg y]; omega
theorem cnM_lt {mach : Int → Int} {t u : Int} (h : 0 ≤ t) (hu : t < u) : cnM mach (mach t) t < cnM mach (mach t) u := by
  have a := cnM_succ (mach := mach) (M := mach t) h
  rw [if_pos rfl] at a
  have b := cnM_mono (mach := mach) (M := mach t) (u - (t + 1)).toNat (t + 1) (by omega)
  rw [show t + 1 + ((u - (t + 1)).toNat : Int) = u by omega] at b
  omega
theorem cnM_rng {mach : Int → Int} {M t : Int} (h : 0 ≤ t) : 0 ≤ cnM mach M t ∧ cnM mach M t ≤ t := by
  have := cntB_rng (fun u => decide (mach u = M)) t.toNat
  unfold cnM
  omega
theorem cnM_ex {mach : Int → Int} {M k : Int} (k0 : 0 ≤ k) : ∀ (n : Nat), k < cnM mach M n → ∃ t, (0 ≤ t ∧ t < (n : Int)) ∧ mach t = M ∧ cnM mach M t = k := by
  intro n
  induction n with
  | zero => intro h; have : cnM mach M ((0 : Nat) : Int) = 0 := rfl; omega
  | succ n ih =>
    intro h
    by_cases z : k < cnM mach M n
    · obtain ⟨t, a, b⟩ := ih z
      exact ⟨t, by omega, b⟩
    · have e := cnM_succ (mach := mach) (M := M) (t := n) (by omega)
      rw [show ((n + 1 : Nat) : Int) = (n : Int) + 1 by omega, e] at h
      by_cases y : mach n = M
      · rw [if_pos y] at h
        exact ⟨n, by omega, y, by omega⟩
      · rw [if_neg y] at h
        omega
def ordN (n : Int) (mach : Int → Int) (o : Int → Int → Int) : Prop := ∀ t, 0 ≤ t → t < n → o (mach t) (cnM mach (mach t) t) = t
theorem ordN.at {n : Int} {mach sz : Int → Int} {o : Int → Int → Int} (h : ordN n mach o) (hn : 0 ≤ n) (hz : ∀ M, 0 ≤ M → M < 5 → sz M = cnM mach M n) {M k : Int} (a : 0 ≤ M) (b : M < 5) (c : 0 ≤ k) (d : k < sz M) : (0 ≤ o M k ∧ o M k < n) ∧ mach (o M k) = M ∧ cnM mach M (o M k) = k := by
  rw [hz M a b] at d
  obtain ⟨t, t1, t2, t3⟩ := cnM_ex c n.toNat (by rw [show ((n.toNat : Nat) : Int) = n by omega]; exact d)
  have := h t t1.1 (by omega)
  rw [t2, t3] at this
  rw [this]
  exact ⟨by omega, t2, t3⟩
theorem ordN.ok {n : Int} {mach sz : Int → Int} {o : Int → Int → Int} (h : ordN n mach o) (hn : 0 ≤ n) (hm : ∀ t, 0 ≤ t → t < n → 0 ≤ mach t ∧ mach t < 5) (hz : ∀ M, 0 ≤ M → M < 5 → sz M = cnM mach M n) : okOrd n mach sz o := by
  refine ⟨fun M k a b c d => ?_, fun M k k' a b c d c' d' e => ?_, fun t a b => ?_⟩
  · have q := h.at hn hz a b c d
    exact ⟨q.1, q.2.1⟩
  · have q := h.at hn hz a b c d
    have q' := h.at hn hz a b c' d'
    rw [e] at q
    omega
  · have m := hm t a b
    refine ⟨cnM mach (mach t) t, (cnM_rng a).1, ?_, h t a b⟩
    rw [hz _ m.1 m.2]
    exact cnM_lt a b
theorem ordN.same {n : Int} {mach sz : Int → Int} {o o' : Int → Int → Int} (h : ordN n mach o) (h' : ordN n mach o') (hn : 0 ≤ n) (hz : ∀ M, 0 ≤ M → M < 5 → sz M = cnM mach M n) : sameO sz o o' := by
  intro M k a b c d
  have q := h.at hn hz a b c d
  have r := h' _ q.1.1 q.1.2
  rw [q.2.1, q.2.2] at r
  exact r.symm
theorem r_byNum {h : aH} {Q : aQ} {r : Nat} (hr : isRow r) (hs : cShop h) (hc : cCnt h) (k : ∀ g, (∀ c, c ≠ r → g c = h c) → ordN (h 3 1) (h 6) (cO g r) → Q 0 g) : aRun mX5_orderByNumbers 0 [aR 3, aR r] h Q := by
  refine e_X5_orderByNumbers hr ?_
  have hn := hs.1.1
  have hr' : r ≠ 3 ∧ r ≠ 6 ∧ r ≠ 10 := by rcases hr with e | e <;> rw [e] <;> decide
  have cz : ∀ M, 0 ≤ M → M < 5 → h 10 (M + 1) = h 10 M + cnM (h 6) M (h 3 1) := by
    intro M a b
    have q := hc M a b
    unfold cSz at q
    unfold cnM
    omega
  have sl : ∀ M : Int, 0 ≤ M → M < 5 → _ := fun M a b => hs.2.at (m := M) a b
  suffices H : ∀ (d : Nat) (M : Int) (g : aH), 0 ≤ M → M ≤ 5 → 5 - M ≤ d → (∀ c, c ≠ r → g c = h c) → (∀ u, 0 ≤ u → u < h 3 1 → h 6 u < M → g r (h 10 (h 6 u) + cnM (h 6) (h 6 u) u) = u) → AW mX5_orderByNumbers 0 4 [some (aR 3), some (aR r), some (aI (h 10 M)), some (aI M), none] [] g Q from by
    have := H 5 0 h (by omega) (by omega) (by omega) (fun _ _ => rfl) (fun u a b w => by have := (hs.mach u a b).1; omega)
    rw [hs.2.1] at this
    exact this
  have fin : ∀ (M : Int) (g : aH), M = 5 → (∀ c, c ≠ r → g c = h c) → (∀ u, 0 ≤ u → u < h 3 1 → h 6 u < M → g r (h 10 (h 6 u) + cnM (h 6) (h 6 u) u) = u) → Q 0 g := by
    intro M g e f f1
    refine k g f (fun t a b => ?_)
    show g r (g 10 (h 6 t) + _) = t
    rw [f 10 (fun q => hr'.2.2 q.symm)]
    exact f1 t a b (by have := (hs.mach t a b).2; omega)
  intro d
  induction d with
  | zero =>
    intro M g M0 M1 hd f f1
    exact s_X5_orderByNumbers_4 hr ⟨fun _ => fin M g (by omega) f f1, fun w => by omega⟩
  | succ d ih =>
    intro M g M0 M1 hd f f1
    refine s_X5_orderByNumbers_4 hr ⟨fun _ => fin M g (by omega) f f1, fun w => ?_⟩
    have cM := cz M M0 (by omega)
    have sM := sl M M0 (by omega)
    suffices H2 : ∀ (d2 : Nat) (t : Int) (g : aH), 0 ≤ t → t ≤ h 3 1 → h 3 1 - t ≤ d2 → (∀ c, c ≠ r → g c = h c) → (∀ u, 0 ≤ u → u < h 3 1 → (h 6 u < M ∨ (h 6 u = M ∧ u < t)) → g r (h 10 (h 6 u) + cnM (h 6) (h 6 u) u) = u) → AW mX5_orderByNumbers 0 12 [some (aR 3), some (aR r), some (aI (h 10 M + cnM (h 6) M t)), some (aI M), some (aI t)] [] g Q from by
      have := H2 (h 3 1).toNat 0 g (by omega) (by omega) (by omega) f (fun u a b v => f1 u a b (by omega))
      rw [show cnM (h 6) M 0 = 0 from rfl, show h 10 M + 0 = h 10 M by omega] at this
      exact this
    have fin2 : ∀ (t : Int) (g : aH), t = h 3 1 → (∀ c, c ≠ r → g c = h c) → (∀ u, 0 ≤ u → u < h 3 1 → (h 6 u < M ∨ (h 6 u = M ∧ u < t)) → g r (h 10 (h 6 u) + cnM (h 6) (h 6 u) u) = u) → AW mX5_orderByNumbers 0 4 [some (aR 3), some (aR r), some (aI (h 10 M + cnM (h 6) M t)), some (aI (M + 1)), none] [] g Q := by
      intro t g e f f2
      rw [e, ← cM]
      exact ih (M + 1) g (by omega) (by omega) (by omega) f (fun u a b v => f2 u a b (by omega))
    intro d2
    induction d2 with
    | zero =>
      intro t g t0 t1 hd2 f f2
      refine s_X5_orderByNumbers_12 hr ⟨fun _ => ⟨by unfold inR; omega, fin2 t g (by omega) f f2⟩, fun v => ?_⟩
      rw [f 3 (fun q => hr'.1 q.symm)] at v
      omega
    | succ d2 ih2 =>
      intro t g t0 t1 hd2 f f2
      have e3 : g 3 = h 3 := f 3 (fun q => hr'.1 q.symm)
      refine s_X5_orderByNumbers_12 hr ⟨fun v => ⟨by unfold inR; omega, fin2 t g (by rw [e3] at v; omega) f f2⟩, fun v => ?_⟩
      rw [e3] at v
      rw [f 6 (fun q => hr'.2.1 q.symm)]
      have es := cnM_succ (mach := h 6) (M := M) t0
      have rg := cnM_rng (mach := h 6) (M := M) t0
      have mo := cnM_mono (mach := h 6) (M := M) (h 3 1 - t).toNat t t0
      rw [show t + ((h 3 1 - t).toNat : Int) = h 3 1 by omega] at mo
      refine ⟨by omega, fun y => ?_, fun y => ⟨by unfold inR; omega, ?_⟩⟩
      · rw [if_pos y] at es
        have lt := cnM_lt (mach := h 6) t0 (show t < h 3 1 by omega)
        rw [y] at lt
        refine ⟨by omega, by unfold inR; omega, by unfold inR; omega, ?_⟩
        have R := ih2 (t + 1) (a_up g r (h 10 M + cnM (h 6) M t) t) (by omega) (by omega) (by omega) (fun c hc => (a_up_ne hc).trans (f c hc)) (fun u a b w2 => ?_)
        · rw [es, show h 10 M + (cnM (h 6) M t + 1) = h 10 M + cnM (h 6) M t + 1 by omega] at R
          exact R
        · by_cases e : u = t
          · rw [e, y, a_up_eq]
          · have old : h 6 u < M ∨ (h 6 u = M ∧ u < t) := by omega
            rw [a_up_off]
            · exact f2 u a b old
            · intro x
              have mu := hs.mach u a b
              have su := sl (h 6 u) mu.1 mu.2
              have cu := cz (h 6 u) mu.1 mu.2
              have lu := cnM_lt (mach := h 6) a b
              rcases old with o1 | o1
              · have := hs.2.mono mu.1 o1 (by omega)
                omega
              · rw [o1.1] at x
                have := cnM_lt (mach := h 6) a o1.2
                rw [o1.1] at this
                omega
      · rw [if_neg y] at es
        have R := ih2 (t + 1) g (by omega) (by omega) (by omega) f (fun u a b w2 => by
          rcases w2 with o1 | o1
          · exact f2 u a b (Or.inl o1)
          · by_cases e : u = t
            · rw [e] at o1; exact absurd o1.1 y
            · exact f2 u a b (Or.inr ⟨o1.1, by omega⟩))
        rw [es, show cnM (h 6) M t + 0 = cnM (h 6) M t by omega] at R
        exact R
