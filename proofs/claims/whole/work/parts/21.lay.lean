/-! Times.lay: neighbours, the queue, starts -/
def cSz (h : aH) : Int → Int := fun m => h 10 (m + 1) - h 10 m
def cO (h : aH) (r : Nat) : Int → Int → Int := fun m k => h r (h 10 m + k)
def okSlots (n : Int) (s : Int → Int) : Prop := s 0 = 0 ∧ s 5 = n ∧ ∀ m, 0 ≤ m → m < 5 → s m ≤ s (m + 1)
theorem okSlots.le {n : Int} {s : Int → Int} (h : okSlots n s) : (0 ≤ s 0 ∧ s 0 ≤ s 1 ∧ s 1 ≤ s 2 ∧ s 2 ≤ s 3 ∧ s 3 ≤ s 4 ∧ s 4 ≤ s 5) := by
  obtain ⟨a, b, c⟩ := h
  have c0 := c 0 (by omega) (by omega)
  have c1 := c 1 (by omega) (by omega)
  have c2 := c 2 (by omega) (by omega)
  have c3 := c 3 (by omega) (by omega)
  have c4 := c 4 (by omega) (by omega)
  simp only [Int.zero_add, Int.reduceAdd] at c0 c1 c2 c3 c4
  omega
theorem okSlots.at {n : Int} {s : Int → Int} (h : okSlots n s) {m : Int} (h0 : 0 ≤ m) (h5 : m < 5) : 0 ≤ s m ∧ s m ≤ s (m + 1) ∧ s (m + 1) ≤ n := by
  have q := h.le
  have e := h.2.1
  have : m = 0 ∨ m = 1 ∨ m = 2 ∨ m = 3 ∨ m = 4 := by omega
  rcases this with rfl | rfl | rfl | rfl | rfl <;> simp only [Int.zero_add, Int.reduceAdd] <;> omega
/-- the class's shop, with an order on row r -/
def cShop (h : aH) : Prop := okShop (h 3 1) (h 3 0) (h 4) (h 5) (h 6) (h 7) ∧ okSlots (h 3 1) (h 10)
theorem cShop.mach {h : aH} (hs : cShop h) : ∀ t, 0 ≤ t → t < h 3 1 → 0 ≤ h 6 t ∧ h 6 t < 5 := fun t h0 ht => (hs.1.2.2.1 t h0 ht).2.2.1
def lnkD (sz : Int → Int) (o : Int → Int → Int) (rank pa pn : Int → Int) (m j : Int) : Prop := ∀ m' k', 0 ≤ m' → m' < 5 → 0 ≤ k' → k' < sz m' → (m' < m ∨ (m' = m ∧ k' < j)) → rank (o m' k') = k' ∧ pa (o m' k') = (if k' ≤ 0 then -1 else o m' (k' - 1)) ∧ pn (o m' k') = (if sz m' ≤ k' + 1 then -1 else o m' (k' + 1))
def frB (a b : Nat) (h h' : aH) : Prop := ∀ c, (c < a ∨ b < c) → h' c = h c
set_option maxHeartbeats 1000000 in
theorem r_link {x : Nat} (hx : isT x) {r : Nat} (hr : isRow r) {h : aH} {Q : aQ} (hs : cShop h) (ho : okOrd (h 3 1) (h 6) (cSz h) (cO h r))
    (k : ∀ h', frB (x + 1) (x + 3) h h' → lnkR (cSz h) (cO h r) (h' (x + 1)) → lnkN (cSz h) (cO h r) (h' (x + 2)) (h' (x + 3)) → Q 0 h') : aRun mX8_link 0 [aR x, aR 3, aR r] h Q := by
  refine e_X8_link hx hr ?_
  have hn := hs.1.1
  have hsl := hs.2
  suffices H : ∀ (d : Nat) (m : Int) (g : aH), 0 ≤ m → m ≤ 5 → 5 - m ≤ d → frB (x + 1) (x + 3) h g → lnkD (cSz h) (cO h r) (g (x + 1)) (g (x + 2)) (g (x + 3)) m 0 → AW mX8_link 0 2 [some (aR x), some (aR 3), some (aR r), some (aI m), none, none, none, none] [] g Q from
    H 5 0 h (by omega) (by omega) (by omega) (fun _ _ => rfl) (fun m' k' a b c d e => by omega)
  intro d
  induction d with
  | zero =>
    intro m g m0 m5 hd hf hl
    refine s_X8_link_2 hx hr ⟨fun q => ?_, fun q => absurd q (by omega)⟩
    exact k g hf (fun m' k' a b c e => (hl m' k' a b c e (by omega)).1) (fun m' k' a b c e => (hl m' k' a b c e (by omega)).2)
  | succ d ih =>
    intro m g m0 m5 hd hf hl
    refine s_X8_link_2 hx hr ⟨fun q => ?_, fun q => ⟨by omega, by omega, by omega, ?_⟩⟩
    · exact k g hf (fun m' k' a b c e => (hl m' k' a b c e (by omega)).1) (fun m' k' a b c e => (hl m' k' a b c e (by omega)).2)
    have e10 : g 10 = h 10 := hf 10 (by omega)
    have q10 := hsl.at m0 (show m < 5 by omega)
    rw [e10]
    suffices H2 : ∀ (d2 : Nat) (s : Int) (g : aH), h 10 m ≤ s → s ≤ h 10 (m + 1) → h 10 (m + 1) - s ≤ d2 → frB (x + 1) (x + 3) h g → lnkD (cSz h) (cO h r) (g (x + 1)) (g (x + 2)) (g (x + 3)) m (s - h 10 m) → AW mX8_link 0 29 [some (aR x), some (aR 3), some (aR r), some (aI m), some (aI (h 10 m)), some (aI (h 10 (m + 1))), some (aI s), none] [] g Q from
      H2 24 (h 10 m) g (by omega) (by omega) (by omega) hf (by rw [show h 10 m - h 10 m = 0 by omega]; exact hl)
    intro d2
    induction d2 with
    | zero =>
      intro s g s0 s1 hd2 hf hl
      refine s_X8_link_29 hx hr ⟨fun q => ⟨by omega, ?_⟩, fun q => absurd q (by omega)⟩
      refine ih (m + 1) g (by omega) (by omega) (by omega) hf (fun m' k' a b c e w => hl m' k' a b c e ?_)
      by_cases hm' : m' = m
      · subst hm'; right; unfold cSz at e; omega
      · omega
    | succ d2 ih2 =>
      intro s g s0 s1 hd2 hf hl
      refine s_X8_link_29 hx hr ⟨fun q => ⟨by omega, ?_⟩, fun q => ?_⟩
      · refine ih (m + 1) g (by omega) (by omega) (by omega) hf (fun m' k' a b c e w => hl m' k' a b c e ?_)
        by_cases hm' : m' = m
        · subst hm'; right; unfold cSz at e; omega
        · omega
      have er : g r = h r := hf r (by omega)
      have et : h r s = cO h r m (s - h 10 m) := by
        show h r s = h r (h 10 m + (s - h 10 m))
        congr 1; omega
      have qt := ho.1 m (s - h 10 m) m0 (by omega) (by omega) (by show s - h 10 m < h 10 (m + 1) - h 10 m; omega)
      rw [← et] at qt
      rw [er]
      refine ⟨by omega, by omega, by omega, fun _ => by omega, by omega, fun _ => by omega, ?_⟩
      refine ih2 (s + 1) _ (by omega) (by omega) (by omega) (fun c hc => ?_) (fun m' k' a b c e w => ?_)
      · rw [a_up_ne (by omega), a_up_ne (by omega), a_up_ne (by omega)]
        exact hf c hc
      · rw [a_up_ne (show x + 1 ≠ x + 3 by omega), a_up_ne (show x + 1 ≠ x + 2 by omega), a_up_at, a_up_ne (show x + 2 ≠ x + 3 by omega), a_up_at, a_up_at, a_up_ne (show x + 2 ≠ x + 1 by omega), a_up_ne (show x + 3 ≠ x + 2 by omega), a_up_ne (show x + 3 ≠ x + 1 by omega)]
        have q1 := ho.1 m' k' a b c e
        by_cases hsame : m' = m ∧ k' = s - h 10 m
        · obtain ⟨rfl, rfl⟩ := hsame
          rw [← et, if_pos rfl, if_pos rfl, if_pos rfl]
          refine ⟨rfl, ?_, ?_⟩
          · by_cases z : s ≤ h 10 m'
            · rw [if_pos z, if_pos (by omega)]
            · rw [if_neg z, if_neg (by omega)]
              show h r (s - 1) = h r (h 10 m' + (s - h 10 m' - 1))
              congr 1; omega
          · by_cases z : h 10 (m' + 1) ≤ s + 1
            · rw [if_pos z, if_pos (by show h 10 (m' + 1) - h 10 m' ≤ _; omega)]
            · rw [if_neg z, if_neg (by show ¬ (h 10 (m' + 1) - h 10 m' ≤ _); omega)]
              show h r (s + 1) = h r (h 10 m' + (s - h 10 m' + 1))
              congr 1; omega
        · have hne : cO h r m' k' ≠ h r s := by
            intro he
            have hm : m' = m := by rw [← q1.2, he, qt.2]
            subst hm
            refine hsame ⟨rfl, ho.2.1 m' k' (s - h 10 m') a b c e (by omega) (by show _ < h 10 (m' + 1) - h 10 m'; omega) ?_⟩
            rw [he, et]
          rw [if_neg hne, if_neg hne, if_neg hne]
          exact hl m' k' a b c e (by omega)
