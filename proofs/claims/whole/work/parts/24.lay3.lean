/-- what lay() leaves on the object x, by the order on row r -/
def layQ (n : Int) (ja pa q : Int → Int) : Prop :=
  (∀ j, 0 ≤ j → j < n → 0 ≤ q j ∧ q j < n) ∧ (∀ j j', 0 ≤ j → j < n → 0 ≤ j' → j' < n → q j = q j' → j = j') ∧
  (∀ j, 0 ≤ j → j < n → (0 ≤ ja (q j) → ∃ j', 0 ≤ j' ∧ j' < j ∧ q j' = ja (q j)) ∧ (0 ≤ pa (q j) → ∃ j', 0 ≤ j' ∧ j' < j ∧ q j' = pa (q j)))
def layP (x r : Nat) (h g : aH) : Prop :=
  (∀ c, (c < x ∨ x + 8 < c ∨ c = x + 5 ∨ c = x + 6) → g c = h c) ∧
  lnkR (cSz h) (cO h r) (g (x + 1)) ∧ lnkN (cSz h) (cO h r) (g (x + 2)) (g (x + 3)) ∧
  ((g x 10 = 1 ∧ ¬ acyc (h 3 1) (jA (h 5)) (g (x + 2))) ∨
   (g x 10 = 0 ∧ acyc (h 3 1) (jA (h 5)) (g (x + 2)) ∧ okS (h 3 1) (jA (h 5)) (g (x + 2)) (h 7) (g (x + 4)) ∧ okSpan (h 3 1) (h 7) (g (x + 4)) (g x 9) ∧ layQ (h 3 1) (jA (h 5)) (g (x + 2)) (g (x + 8)) ∧ (0 ≤ g x 9 ∧ g x 9 ≤ 2376)))
theorem layQ.acyc {n : Int} {ja pa q : Int → Int} (hn : 0 ≤ n ∧ n ≤ 24) (h : layQ n ja pa q) : acyc n ja pa := by
  obtain ⟨h1, h2, h3⟩ := h
  have hs : ∀ t, ∃ j, (0 ≤ t ∧ t < n) → (0 ≤ j ∧ j < n ∧ q j = t) := fun t => by
    by_cases z : 0 ≤ t ∧ t < n
    · obtain ⟨j, a, b, c⟩ := pigeonS hn.1 h1 h2 z
      exact ⟨j, fun _ => ⟨a, b, c⟩⟩
    · exact ⟨0, fun y => absurd y z⟩
  refine ⟨fun t => Classical.choose (hs t), fun t a b => ?_⟩
  have key : ∀ t, (0 ≤ t ∧ t < n) → (0 ≤ Classical.choose (hs t) ∧ Classical.choose (hs t) < n ∧ q (Classical.choose (hs t)) = t) := fun t => Classical.choose_spec (hs t)
  have kt := key t ⟨a, b⟩
  have h3t := h3 _ kt.1 kt.2.1
  rw [kt.2.2] at h3t
  refine ⟨by dsimp only; omega, fun z => ?_, fun z => ?_⟩
  · obtain ⟨j', p0, p1, p2⟩ := h3t.1 z
    have hr := h1 j' p0 (by omega)
    have kj := key (ja t) (by omega)
    have := h2 _ _ kj.1 kj.2.1 p0 (by omega) (by rw [kj.2.2, p2])
    dsimp only; omega
  · obtain ⟨j', p0, p1, p2⟩ := h3t.2 z
    have hr := h1 j' p0 (by omega)
    have kj := key (pa t) (by omega)
    have := h2 _ _ kj.1 kj.2.1 p0 (by omega) (by rw [kj.2.2, p2])
    dsimp only; omega
/-- all that could be let go are let go, and not all: a ring -/
theorem kahn.ring {n : Int} {ja pa l d w S q : Int → Int} {qd : Int} (hn : 0 ≤ n) (h : kahn n ja pa l d d w S q qd) (hr : ∀ t, 0 ≤ t → t < n → ja t < n ∧ pa t < n) (hd : ∀ t, 0 ≤ t → t < n → (∃ j, 0 ≤ j ∧ j < qd ∧ q j = t) → d t = 1) (hq : qd < n) : ¬ acyc n ja pa := by
  rintro ⟨pos, hpos⟩
  obtain ⟨h1, h2, h3, h4, h5, h6, h7, h8, h9, h10⟩ := id h
  have key : ∀ (k : Nat) (t : Int), 0 ≤ t → t < n → pos t < k → ∃ j, 0 ≤ j ∧ j < qd ∧ q j = t := by
    intro k
    induction k with
    | zero => intro t a b c; have := (hpos t a b).1; omega
    | succ k ih =>
      intro t a b c
      have hp := hpos t a b
      have hrt := hr t a b
      refine h6 t a b ?_
      rw [h3 t a b]
      have z : ∀ a1 : Int → Int, a1 t < n → (0 ≤ a1 t → pos (a1 t) < pos t) → wt a1 d t = 0 := fun a1 y1 y2 => by
        unfold wt
        split
        · rename_i y
          have := hd _ y y1 (ih _ y y1 (by have := y2 y; omega))
          omega
        · rfl
      rw [z ja hrt.1 hp.2.1, z pa hrt.2 hp.2.2]; rfl
  have hs : ∀ t, ∃ j, (0 ≤ t ∧ t < n) → (0 ≤ j ∧ j < qd ∧ q j = t) := fun t => by
    by_cases z : 0 ≤ t ∧ t < n
    · obtain ⟨j, a, b, c⟩ := key 24 t z.1 z.2 (hpos t z.1 z.2).1.2
      exact ⟨j, fun _ => ⟨a, b, c⟩⟩
    · exact ⟨0, fun y => absurd y z⟩
  have := pigeon (n := qd) (k := n) (f := fun t => Classical.choose (hs t)) hn h2.1 (fun t a b => by
    have := Classical.choose_spec (hs t) ⟨a, b⟩
    exact ⟨this.1, this.2.1⟩) (fun t t' a b c d e => by
    have p1 := Classical.choose_spec (hs t) ⟨a, b⟩
    have p2 := Classical.choose_spec (hs t') ⟨c, d⟩
    rw [← p1.2.2, ← p2.2.2, e])
  omega
set_option maxHeartbeats 2000000 in
theorem r_lay {x : Nat} (hx : isT x) {r : Nat} (hr : isRow r) {h : aH} {Q : aQ} (hs : cShop h) (ho : okOrd (h 3 1) (h 6) (cSz h) (cO h r)) (k : ∀ g, layP x r h g → Q 0 g) : aRun mX8_lay 2 [aR x, aR 3, aR r] h Q := by
  have hn := hs.1.1
  have hl : ∀ t, 0 ≤ t → t < h 3 1 → 1 ≤ h 7 t ∧ h 7 t ≤ 99 := fun t a b => (hs.1.2.2.1 t a b).2.2.2
  refine e_X8_lay hx hr ?_
  refine r_link hx hr hs ho (fun h2 hf2 hlR hlN => ?_)
  have e2 : ∀ c, c < 20 → h2 c = h c := fun c hc => hf2 c (by omega)
  have hs2 : cShop h2 := by
    unfold cShop at hs ⊢
    rw [e2 3 (by omega), e2 4 (by omega), e2 5 (by omega), e2 6 (by omega), e2 7 (by omega), e2 10 (by omega)]
    exact hs
  have hdp := ho.dual hs.mach hlN
  have hdj := hs.1.dual
  have hpr : ∀ t, 0 ≤ t → t < h 3 1 → h2 (x + 2) t < h 3 1 := fun t a b => by
    rcases (hdp t a b).1 with z | z <;> omega
  have hjr : ∀ t, 0 ≤ t → t < h 3 1 → jA (h 5) t < h 3 1 := fun t a b => by
    rcases (hdj t a b).1 with z | z <;> omega
  refine r_queueFree hx (l := h 7) hs2 (fun t a b => by
    rw [e2 3 (by omega)] at b
    rcases (hdp t a b).1 with z | z <;> omega) (fun h4 hf4 hfi4 hk4 => ?_)
  rw [e2 3 (by omega), e2 5 (by omega)] at hk4
  suffices H : ∀ (d : Nat) (i : Int) (g : aH) (dn : Int → Int), 0 ≤ i → i ≤ h 3 1 → h 3 1 - i ≤ d → frL x h2 g → (∀ j, j ≠ 8 → j ≠ 9 → j ≠ 10 → g x j = h2 x j) → g x 10 = 0 → kahn (h 3 1) (jA (h 5)) (h2 (x + 2)) (h 7) dn dn (g (x + 7)) (g (x + 4)) (g (x + 8)) (g x 8) → i ≤ g x 8 → (∀ t, 0 ≤ t → t < h 3 1 → (dn t = 1 ↔ ∃ j, 0 ≤ j ∧ j < i ∧ g (x + 8) j = t)) → (∀ j, 0 ≤ j → j < i → g (x + 4) (g (x + 8) j) + h 7 (g (x + 8) j) ≤ g x 9) → ((i = 0 ∧ g x 9 = 0) ∨ ∃ j, 0 ≤ j ∧ j < i ∧ g (x + 4) (g (x + 8) j) + h 7 (g (x + 8) j) = g x 9) → AW mX8_lay 2 23 [some (aR x), some (aR 3), none, some (aI i), none, none] [] g Q by
    have x0 : (a_up (a_up h4 x 9 0) x 10 0) x = up1 (up1 (h4 x) 9 0) 10 0 := by rw [a_up_fn, a_up_fn]
    have xo : ∀ c, c ≠ x → (a_up (a_up h4 x 9 0) x 10 0) c = h4 c := fun c hc => by rw [a_up_ne hc, a_up_ne hc]
    refine H 24 0 _ d0 (by omega) (by omega) (by omega) (fun c a1 a2 a3 a4 => ?_) (fun j a b c => ?_) ?_ ?_ ?_ (fun t a b => ?_) (fun j a b => by omega) (Or.inl ⟨rfl, ?_⟩)
    · rw [xo c a1]; exact hf4 c a1 a2 a3 a4
    · rw [x0, up1_ne c, up1_ne b]; exact hfi4 j a
    · rw [x0, up1_eq]
    · rw [xo _ (by omega), xo _ (by omega), xo _ (by omega), x0, up1_ne (by omega), up1_ne (by omega)]
      exact hk4
    · rw [x0, up1_ne (by omega), up1_ne (by omega)]; exact hk4.2.1.1
    · constructor
      · intro z; unfold d0 at z; omega
      · rintro ⟨j, j0, j1, -⟩; omega
    · rw [x0, up1_ne (by omega), up1_eq]
  have hfin : ∀ (g : aH) (dn : Int → Int), frL x h2 g → g x 10 = 0 → kahn (h 3 1) (jA (h 5)) (h2 (x + 2)) (h 7) dn dn (g (x + 7)) (g (x + 4)) (g (x + 8)) (g x 8) → h 3 1 ≤ g x 8 → (∀ t, 0 ≤ t → t < h 3 1 → (dn t = 1 ↔ ∃ j, 0 ≤ j ∧ j < h 3 1 ∧ g (x + 8) j = t)) → (∀ j, 0 ≤ j → j < h 3 1 → g (x + 4) (g (x + 8) j) + h 7 (g (x + 8) j) ≤ g x 9) → ((h 3 1 = 0 ∧ g x 9 = 0) ∨ ∃ j, 0 ≤ j ∧ j < h 3 1 ∧ g (x + 4) (g (x + 8) j) + h 7 (g (x + 8) j) = g x 9) → Q 0 g := by
    intro g dn hf h10 hk hq hdn hsp hex
    have e1 : g (x + 1) = h2 (x + 1) := hf _ (by omega) (by omega) (by omega) (by omega)
    have e22 : g (x + 2) = h2 (x + 2) := hf _ (by omega) (by omega) (by omega) (by omega)
    have e23 : g (x + 3) = h2 (x + 3) := hf _ (by omega) (by omega) (by omega) (by omega)
    have hqe : g x 8 = h 3 1 := by have := hk.2.1; omega
    obtain ⟨k1, k2, k3, k4, k5, k6, k7, k8, k9, k10⟩ := id hk
    rw [hqe] at k4 k5 k6 k10
    have hLQ : layQ (h 3 1) (jA (h 5)) (h2 (x + 2)) (g (x + 8)) := ⟨fun j a b => (k4 j a b).1, k5, k10⟩
    have hall : ∀ t, 0 ≤ t → t < h 3 1 → dn t = 1 := fun t a b => (hdn t a b).mpr (pigeonS hn.1 hLQ.1 hLQ.2.1 ⟨a, b⟩)
    refine k g ⟨fun c hc => ?_, by rw [e1]; exact hlR, by rw [e22, e23]; exact hlN, Or.inr ⟨h10, by rw [e22]; exact hLQ.acyc hn, ?_, ⟨fun t a b => ?_, fun hp => ?_⟩, by rw [e22]; exact hLQ, ?_⟩⟩
    · rw [hf c (by omega) (by omega) (by omega) (by omega)]
      exact hf2 c (by omega)
    · rw [e22]
      intro t a b
      rw [k7 t a b]
      have z : ∀ a1 : Int → Int, a1 t < h 3 1 → st1 a1 dn (g (x + 4)) (h 7) t = eo (g (x + 4)) (h 7) (a1 t) := fun a1 y => by
        unfold st1 eo
        by_cases w : a1 t < 0
        · rw [if_pos w, if_neg (by omega)]
        · rw [if_neg w, if_pos ⟨by omega, hall _ (by omega) y⟩]
      rw [z _ (hjr t a b), z _ (hpr t a b)]
    · obtain ⟨j, p0, p1, p2⟩ := pigeonS hn.1 hLQ.1 hLQ.2.1 ⟨a, b⟩
      rw [← p2]; exact hsp j p0 p1
    · rcases hex with z | ⟨j, p0, p1, p2⟩
      · omega
      · exact ⟨_, (hLQ.1 j p0 p1).1, (hLQ.1 j p0 p1).2, p2⟩
    · rcases hex with z | ⟨j, p0, p1, p2⟩
      · omega
      · have q1 := hLQ.1 j p0 p1
        have := hk.bound hl 24 j p0 (by omega) (by omega)
        have := k8 _ q1.1 q1.2
        have := hl _ q1.1 q1.2
        omega
  intro d
  induction d with
  | zero =>
    intro i g dn i0 i1 hd hf hfi h10 hk hiq hdn hsp hex
    have e3 : g 3 = h 3 := (hf 3 (by omega) (by omega) (by omega) (by omega)).trans (e2 3 (by omega))
    have ei : i = h 3 1 := by omega
    subst ei
    exact s_X8_lay_23 hx hr ⟨fun _ => hfin g dn hf h10 hk hiq hdn hsp hex, fun q => absurd q (by rw [e3]; omega)⟩
  | succ d ih =>
    intro i g dn i0 i1 hd hf hfi h10 hk hiq hdn hsp hex
    have eg : ∀ c, c < 20 → g c = h c := fun c hc => (hf c (by omega) (by omega) (by omega) (by omega)).trans (e2 c hc)
    refine s_X8_lay_23 hx hr ⟨fun q => ?_, fun q => ⟨fun q1 => ?_, fun q1 => ?_⟩⟩
    · rw [eg 3 (by omega)] at q
      have ei : i = h 3 1 := by omega
      subst ei
      exact hfin g dn hf h10 hk hiq hdn hsp hex
    · rw [eg 3 (by omega)] at q
      obtain ⟨k1, k2, k3, k4, k5, k6, k7, k8, k9, k10⟩ := id hk
      have hq4 := k4 i i0 q1
      have hb := hk.bound hl 24 i i0 q1 (by omega)
      have hSt := k8 _ hq4.1.1 hq4.1.2
      rw [eg 7 (by omega)]
      generalize htt : g (x + 8) i = t at hq4 hb hSt
      have hlt := hl t hq4.1.1 hq4.1.2
      have hdt : dn t = 0 := by
        rcases (k1 t).1 with z | z
        · exact z
        · obtain ⟨j, p0, p1, p2⟩ := (hdn t hq4.1.1 hq4.1.2).mp z
          have := k5 j i p0 (by omega) i0 q1 (by rw [p2, htt])
          omega
      refine ⟨by omega, by omega, by omega, o_JN hq4.1.1 (by omega) (by rw [a_up_ne (by omega), eg 3 (by omega)]; omega), ?_⟩
      have y0 : (a_up g x 9 (max (g x 9) (g (x + 4) t + h 7 t))) x = up1 (g x) 9 (max (g x 9) (g (x + 4) t + h 7 t)) := a_up_fn
      have yo : ∀ c, c ≠ x → (a_up g x 9 (max (g x 9) (g (x + 4) t + h 7 t))) c = g c := fun c hc => a_up_ne hc
      rw [show f_X5_jobNext (a_up g x 9 (max (g x 9) (g (x + 4) t + h 7 t))) 3 t = jN (h 3 1) (h 4) t from by rw [f_JN, yo 3 (by omega), yo 4 (by omega), eg 3 (by omega), eg 4 (by omega)]]
      refine r_release hx (n := h 3 1) (ja := jA (h 5)) (jn := jN (h 3 1) (h 4)) (pa := h2 (x + 2)) (l := h 7) (dj := dn) (dp := dn) (t := t) (by rw [yo _ (by omega), yo _ (by omega), yo _ (by omega), y0, up1_ne (by omega)]; exact hk) hn (fun t a b => (hl t a b).1) hdj hpr hq4.1.1 hq4.1.2 (by rw [yo _ (by omega)]; exact hq4.2) hdt rfl (by rw [yo _ (by omega)]) (fun g1 f1 fi1 kh1 kv1 kq1 kn1 => ?_)
      rw [yo (x + 8) (by omega), y0, up1_ne (by omega)] at kq1
      rw [y0, up1_ne (by omega)] at kn1
      have kvt := kv1 t hq4.1.1 hq4.1.2 (by rw [yo _ (by omega)]; exact hq4.2)
      rw [yo _ (by omega)] at kvt
      have e23 : g1 (x + 3) = h2 (x + 3) := (f1 _ (by omega) (by omega) (by omega) (by omega)).trans ((yo _ (by omega)).trans (hf _ (by omega) (by omega) (by omega) (by omega)))
      rw [e23]
      refine r_release hx (n := h 3 1) (ja := h2 (x + 2)) (jn := h2 (x + 3)) (pa := jA (h 5)) (l := h 7) (dj := dn) (dp := up1 dn t 1) (t := t) kh1.symm hn (fun t a b => (hl t a b).1) hdp hjr hq4.1.1 hq4.1.2 kvt.2 hdt rfl (by rw [kvt.1]) (fun g2 f2 fi2 kh2 kv2 kq2 kn2 => ?_)
      refine ⟨by omega, ?_⟩
      have hS0 : ∀ v, 0 ≤ v → v < h 3 1 → g (x + 7) v = 0 → g2 (x + 4) v = g (x + 4) v := fun v a b c => by
        have p1 := kv1 v a b (by rw [yo _ (by omega)]; exact c)
        rw [yo _ (by omega)] at p1
        rw [(kv2 v a b p1.2).1, p1.1]
      have hqq : ∀ j, 0 ≤ j → j < g x 8 → g2 (x + 8) j = g (x + 8) j := fun j a b => by
        rw [kq2 j a (by omega), kq1 j a b]
      have h9 : g2 x 9 = max (g x 9) (g (x + 4) t + h 7 t) := by
        rw [fi2 9 (by omega), fi1 9 (by omega), y0, up1_eq]
      refine ih (i + 1) g2 (up1 dn t 1) (by omega) (by omega) (by omega) (fun c a1 a2 a3 a4 => ?_) (fun j a b c => ?_) ?_ kh2.symm (by omega) (fun v a b => ?_) (fun j a b => ?_) (Or.inr ?_)
      · rw [f2 c a1 a2 a3 a4, f1 c a1 a2 a3 a4, yo c a1]; exact hf c a1 a2 a3 a4
      · rw [fi2 j a, fi1 j a, y0, up1_ne b]; exact hfi j a b c
      · rw [fi2 10 (by omega), fi1 10 (by omega), y0, up1_ne (by omega)]; exact h10
      · constructor
        · intro z
          by_cases y : v = t
          · exact ⟨i, i0, by omega, by rw [hqq i i0 q1, htt, y]⟩
          · rw [up1_ne y] at z
            obtain ⟨j, p0, p1, p2⟩ := (hdn v a b).mp z
            exact ⟨j, p0, by omega, by rw [hqq j p0 (by omega), p2]⟩
        · rintro ⟨j, p0, p1, p2⟩
          rw [hqq j p0 (by omega)] at p2
          by_cases y : v = t
          · rw [y, up1_eq]
          · rw [up1_ne y]
            refine (hdn v a b).mpr ⟨j, p0, ?_, p2⟩
            by_cases w : j = i
            · rw [w, htt] at p2; exact absurd p2.symm y
            · omega
      · rw [hqq j a (by omega), h9]
        have q4 := k4 j a (by omega)
        rw [hS0 _ q4.1.1 q4.1.2 q4.2]
        by_cases w : j = i
        · rw [w, htt]; omega
        · have := hsp j a (by omega); omega
      · by_cases w : g x 9 ≤ g (x + 4) t + h 7 t
        · refine ⟨i, i0, by omega, ?_⟩
          rw [hqq i i0 q1, htt, hS0 t hq4.1.1 hq4.1.2 hq4.2, h9]; omega
        · rcases hex with z | ⟨j, p0, p1, p2⟩
          · omega
          · refine ⟨j, p0, by omega, ?_⟩
            have q4 := k4 j p0 (by omega)
            rw [hqq j p0 (by omega), hS0 _ q4.1.1 q4.1.2 q4.2, p2, h9]; omega
    · have e22 : g (x + 2) = h2 (x + 2) := hf _ (by omega) (by omega) (by omega) (by omega)
      have ei : i = g x 8 := by omega
      rw [eg 3 (by omega)] at q
      have hring := hk.ring hn.1 (fun t a b => ⟨hjr t a b, hpr t a b⟩) (fun t a b z => (hdn t a b).mpr (by rw [ei]; exact z)) (by omega)
      have z0 : (a_up g x 10 1) x = up1 (g x) 10 1 := a_up_fn
      have zo : ∀ c, c ≠ x → (a_up g x 10 1) c = g c := fun c hc => a_up_ne hc
      refine k _ ⟨fun c hc => ?_, ?_, ?_, Or.inl ⟨by rw [z0, up1_eq], ?_⟩⟩
      · rw [zo c (by omega), hf c (by omega) (by omega) (by omega) (by omega)]
        exact hf2 c (by omega)
      · rw [zo _ (by omega), hf _ (by omega) (by omega) (by omega) (by omega)]; exact hlR
      · rw [zo _ (by omega), zo _ (by omega), e22, hf (x + 3) (by omega) (by omega) (by omega) (by omega)]; exact hlN
      · rw [zo _ (by omega), e22]; exact hring
