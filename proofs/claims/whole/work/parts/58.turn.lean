/-! pairs: turn, does -/
theorem cChg.lo {h g : aH} (x : cChg h g) : ∀ k, 85 ≤ k → g k = h k := fun k hk => x.1 k (by omega) (by omega) (by omega) (by omega)
/-- a change of the orders, done on the class and noted there; the reference follows: both sides again -/
theorem Inv.changed {n : Nat} {h h1 g m m' : aH} (hI : Inv n h) (hn : 0 < h 3 1) (hS : sS h1 m) (a : ∀ k, k ≠ 19 → k < 85 → h1 k = h k) (x : cChg h1 g) (S : Settled g) (b : ∀ k, k ≠ 90 → 85 ≤ k → m k = h k) (y : mChg m m') (lo : ∀ k, k < 85 → m k = g k) : Inv (n + 1) m' := by
  have P := Pre.chg (by rw [a 3 (by omega) (by omega)]; exact hn) (hI.1.pre.orders hS a b) x y S
  have lo' : ∀ k, k < 85 → m' k = g k := fun k hk => (y.1 k (by omega) (by omega)).trans (lo k hk)
  refine ⟨P.frame (fun k _ _ _ _ k5 => lo' k k5) mK.refl, ?_⟩
  rw [y.2.1 40 (by omega) (by omega), congrFun (b 85 (by omega) (by omega)) 40, lo' 0 (by omega), congrFun (x.1 0 (by omega) (by omega) (by omega) (by omega)) 16, a 0 (by omega) (by omega)]
  have := hI.2
  omega
theorem Inv.rk {n : Nat} {h g : aH} (H : Inv n h) (F : rkF h g) : Inv n g := by
  refine ⟨H.1.frame (cK.rk F) (mK.rk F), ?_⟩
  rw [F.2 40 (by omega), F.1 0 (by omega) (by omega)]
  exact H.2
theorem r_chgT {n : Nat} {h h1 g m : aH} {Q : aQ} (hI : Inv n h) (hn : 0 < h 3 1) (hS : sS h1 m) (a : ∀ k, k ≠ 19 → k < 85 → h1 k = h k) (x : cChg h1 g) (S : Settled g) (b : ∀ k, k ≠ 90 → 85 ≤ k → m k = h k) (lo : ∀ k, k < 85 → m k = g k) (k : ∀ m', Inv (n + 1) m' → mChg m m' → Q 0 m') : aRun mX10_changed 1 [aR 85] m Q := by
  have hH := hI.1.2.2.2.2.2.1
  have e18 : m 85 18 = h 44 1 := by rw [b 85 (by omega) (by omega)]; exact hH.2.1
  exact r_mChg (by have := hH.1; omega) (fun m' y => k m' (hI.changed hn hS a x S b y lo) y)
theorem r_chgR {n : Nat} {h h1 g m : aH} {Q : aQ} (hI : Inv n h) (hn : 0 < h 3 1) (hS : sS h1 m) (a : ∀ k, k ≠ 19 → k < 85 → h1 k = h k) (x : cChg h1 g) (S : Settled g) (b : ∀ k, k ≠ 90 → 85 ≤ k → m k = h k) (lo : ∀ k, k < 85 → m k = g k) (k : ∀ r g2, Inv (n + 1) g2 → (if r = 0 then (-4 : Int) else g2 85 26) = f_X9_spanOrRing g → Q r g2) : aRun mX10_changed 1 [aR 85] m (fun _ h8 => aRun mX10_reckons 3 [aR 85] h8 Q) := by
  refine r_chgT hI hn hS a x S b lo (fun m' H y => ?_)
  have lo' : ∀ k, k < 85 → m' k = g k := fun k hk => (y.1 k (by omega) (by omega)).trans (lo k hk)
  refine r_reckT H.1 ?_ (fun r g2 F e => k r g2 (H.rk F) ?_)
  · rw [lo' 3 (by omega), congrFun (x.1 3 (by omega) (by omega) (by omega) (by omega)) 1, a 3 (by omega) (by omega)]
    exact hn
  · rw [e]
    unfold f_X9_spanOrRing
    rw [lo' 20 (by omega)]
theorem sS.hi {h g : aH} (H : sS h h) (e : ∀ k, 85 ≤ k → g k = h k) : sS h g := H.congr (fun _ _ _ => rfl) rfl (congrFun (e 85 (by omega)) 0) (congrFun (e 85 (by omega)) 1) (fun k k1 _ => e k (by omega))
theorem pr_turn : a_pair Inv mX9_turn mX10_turn 5 4 2 := by
  intro n h a b hn hI hh ha hb
  have hs := hI.1.2.1.1
  have ho := hI.1.2.1.2.1
  have h1 := hs.2.2.2.1
  have h0 := hs.1.1.1
  have hH := hI.1.2.2.2.2.2.1
  have sl : 0 ≤ a → a < 5 → _ := fun x y => hs.1.2.at (m := a) x y
  have sz : 0 ≤ a → a < 5 → h 91 a = h 10 (a + 1) - h 10 a := fun x y => hs.2.2.2.2.2 a x y
  have hmach : ∀ g : aH, f_X10_isMachine g a = 0 ↔ ¬ (0 ≤ a ∧ a ≤ 4) := fun g => f_in_0
  have ok : (-1 : Int) = -1 ∧ Inv (n + 1) h := ⟨rfl, hI.mono⟩
  refine e_X9_turn ⟨fun z => ⟨fun y => ?_, fun y => ⟨?_, ?_, fun w => ?_, fun w => ?_⟩⟩, fun z => ?_⟩
  · have q := noMach_0.1 z
    exact e_X10_turn ⟨fun v => absurd (show 0 ≤ a ∧ a ≤ 4 by omega) ((hmach h).1 v), fun _ => ⟨fun _ => ok, fun v => absurd y v⟩⟩
  · have q := noMach_0.1 z
    have s := sl q.1 q.2
    unfold o_X5_tasksOn inR
    omega
  · have q := noMach_0.1 z
    have s := sl q.1 q.2
    unfold f_X5_tasksOn inR
    omega
  · have q := noMach_0.1 z
    have s := sl q.1 q.2
    have s2 := sz q.1 q.2
    have w : b < h 10 (a + 1) - h 10 a - 1 := w
    have hk : 0 ≤ b ∧ b + 1 < cSz h a := by unfold cSz; omega
    refine ⟨by omega, by unfold inR; omega, r_changePlaces (by omega) (by omega) ?_⟩
    have hS1 := hI.1.2.1.swap (m := h) q hk
    refine r_cChanged hS1.1.1 (show 0 < h 3 1 by omega) hS1.2.1.1 (show 0 ≤ h 44 1 ∧ h 44 1 ≤ 16 by have := hH.1; omega) (fun g x S => ?_)
    have e85 : ∀ k, 85 ≤ k → g k = h k := fun k hk => (x.lo k hk).trans (setC_ne (by omega))
    have hS2 := (hI.1.2.1.hi e85).swap (m := g) q hk
    have e91 : g 91 a = h 10 (a + 1) - h 10 a := by rw [e85 91 (by omega)]; exact s2
    have e1 : g 85 1 = h 3 1 := by rw [e85 85 (by omega)]; exact h1
    refine e_X10_turn ⟨fun v => absurd (show 0 ≤ a ∧ a ≤ 4 by omega) ((hmach g).1 v), fun _ => ⟨fun v => absurd v y, fun _ => ⟨fun v => by omega, fun _ => ⟨by omega, by unfold inR; omega, fun _ => ⟨by unfold inR; omega, ?_⟩, fun v => by omega⟩⟩⟩⟩
    rw [a_up_sw]
    refine r_chgR hI (by omega) hS2 (fun k k1 k2 => setC_ne k1) x S (fun k k1 k2 => (setC_ne k1).trans (e85 k k2)) (fun k k1 => setC_ne (by omega)) (fun r g2 H e => ⟨e.symm, H⟩)
  · have q := noMach_0.1 z
    have s := sl q.1 q.2
    have s2 := sz q.1 q.2
    have w : ¬ b < h 10 (a + 1) - h 10 a - 1 := w
    refine e_X10_turn ⟨fun v => absurd (show 0 ≤ a ∧ a ≤ 4 by omega) ((hmach h).1 v), fun _ => ⟨fun v => absurd v y, fun _ => ⟨fun _ => ok, fun _ => ⟨by omega, by unfold inR; omega, fun v => by omega, fun _ => ok⟩⟩⟩⟩
  · have q : ¬ (0 ≤ a ∧ a < 5) := fun v => z (noMach_0.2 v)
    exact e_X10_turn ⟨fun _ => ok, fun v => absurd ((hmach h).2 (by omega)) v⟩
def mix (c m : aH) : aH := fun k => if k < 85 then c k else m k
theorem mix_lo {c m : aH} {k : Nat} (hk : k < 85) : mix c m k = c k := if_pos hk
theorem mix_hi {c m : aH} {k : Nat} (hk : 85 ≤ k) : mix c m k = m k := if_neg (by omega)
theorem Inv.mix {n : Nat} {h g : aH} (H : Inv n h) (y : mK h g) : Inv n (mix h g) := by
  refine ⟨H.1.frame (fun k _ _ _ _ k5 => mix_lo k5) ⟨fun k k1 k2 k3 k4 => (mix_hi (by omega)).trans (y.1 k k1 k2 k3 k4), fun i hi => (congrFun (mix_hi (by omega)) i).trans (y.2 i hi)⟩, ?_⟩
  rw [congrFun (mix_hi (c := h) (m := g) (k := 85) (by omega)) 40, y.2 40 (by omega), mix_lo (by omega)]
  exact H.2
/-- the place of a move's first, on both sides -/
theorem mv_place {c : aH} (hs : cShop c) (hn : 0 < c 3 1) (ho : okOrd (c 3 1) (c 6) (cSz c) (cO c 19)) (S : Settled c) (hr : c 20 10 = 0) {p : Int} (hp : mvOK (c 6) (c 4) (c 39) (c 38 1) p) :
    ∃ M k, (0 ≤ M ∧ M < 5) ∧ (0 ≤ k ∧ k + 1 < cSz c M) ∧ c 6 (c 39 p) = M ∧ cO c 19 M k = c 39 p ∧ cO c 19 M (k + 1) = c 39 (p + 1) ∧ c 21 (c 39 p) = k ∧ noR (c 3 1) (jA (c 5)) (cSz c) (swO (cO c 19) M k) := by
  have P := (S.paths hr)
  obtain ⟨k, a1, a2, a3, a4, a5⟩ := mv_noR (T := c 25) hs.1 ho S.2.1 P.1.1.2.2.2.1 P.2.1 hp
  refine ⟨c 6 (c 39 p), k, a4, a1, rfl, a2, a3, ?_, a5⟩
  have := S.1 _ k a4.1 a4.2 a1.1 (by omega)
  rw [a2] at this
  exact this
theorem pr_does : a_pair Inv mX9_does mX10_does 5 6 1 := by
  intro n h a b hn hI hh ha hb
  have hs := hI.1.2.1.1
  have ho := hI.1.2.1.2.1
  have h1 := hs.2.2.2.1
  have h0 := hs.1.1.1
  have hH := hI.1.2.2.2.2.2.1
  have hSt := hI.1.2.2.1
  refine e_X9_does ⟨fun z => ⟨fun hr => ⟨fun y => ?_, fun y => ?_⟩, fun hr => ?_⟩, fun z => ?_⟩
  · obtain ⟨q1, q2⟩ := refused_ok h0.1 hr
    have S := hSt q1
    have P := S.paths q2
    have hL := P.2.cnt hs.1
    have mo := mvF_mem P.2.2.1 (List.mem_of_getElem? (P.2.2.2.get z y))
    have mr := mv_rng hs.1 q1 P.2 mo
    obtain ⟨M, k, hM, hk, m1, m2, m3, m4, m5⟩ := mv_place hs.1 q1 ho.1 S q2 mo
    have sl := hs.1.2.at hM.1 hM.2
    have sz : cSz h M = h 10 (M + 1) - h 10 M := rfl
    have hslot : f_X9_slotOf h (f_X6_first h a) = h 10 M + k := by
      unfold f_X9_slotOf f_X6_first
      rw [m1, m4]
    rw [hslot]
    refine ⟨?_, ?_, r_changePlaces (by omega) (by omega) ?_⟩
    · unfold o_X6_first
      omega
    · unfold o_X9_slotOf f_X6_first inR
      rw [m1, m4]
      omega
    have hS1 := hI.1.2.1.swap (m := h) hM hk
    refine r_cChanged hS1.1.1 (show 0 < h 3 1 by omega) hS1.2.1.1 (show 0 ≤ h 44 1 ∧ h 44 1 ≤ 16 by have := hH.1; omega) (fun g x S' => ?_)
    have e85 : ∀ k, 85 ≤ k → g k = h k := fun k hk => (x.lo k hk).trans (setC_ne (by omega))
    refine e_X10_does ⟨fun _ => ?_, fun v => absurd z v⟩
    have hsg : sShop h g := (hI.1.2.1.hi e85).1
    have hog : sOrd h g := (hI.1.2.1.hi e85).2.1
    refine r_wrongS hsg hog hSt (fun n' e => by omega) (fun g' n' hF _ _ r' e => by omega) (fun g3 n' hF hs' ho' hN hr3 hT e => ⟨fun _ => ?_, fun w => by omega⟩)
    refine r_findsS hs' ho' n' S.2.1 P.1 P.2 hN hT (fun g4 f1 f2 w1 w2 e33 hmv => ⟨fun _ => ?_, fun v => by omega⟩)
    have hmv := (hmv a z y).2.1
    have E : ∀ k, 85 < k → (k < 97 ∨ 106 < k) → g4 k = h k := fun k k1 k2 => (f1 k (by omega) (by omega)).trans ((hF.1 k (by omega) (by omega)).trans (e85 k (by omega)))
    have E85 : ∀ i, i ≠ 26 → i ≠ 28 → i ≠ 30 → i ≠ 33 → g4 85 i = h 85 i := fun i i1 i2 i3 i4 => (f2 i i2 i3 i4).trans ((hF.2 i i1).trans (congrFun (e85 85 (by omega)) i))
    have lo : ∀ k, k < 85 → g4 k = g k := fun k hk => (f1 k (by omega) (by omega)).trans (hF.1 k (by omega) (by omega))
    have hS4 : sS h g4 := hI.1.2.1.congr (fun _ _ _ => rfl) rfl (E85 0 (by omega) (by omega) (by omega) (by omega)) (E85 1 (by omega) (by omega) (by omega) (by omega)) (fun k k1 k2 => E k (by omega) (by omega))
    have z91 : g4 91 M = cSz h M := hS4.1.2.2.2.2.2 M hM.1 hM.2
    have o1 : mO g4 M k = h 39 (h 41 a) := (hS4.2.1.2 M k hM.1 hM.2 hk.1 (by omega)).symm.trans m2
    have o2 : mO g4 M (k + 1) = h 39 (h 41 a + 1) := (hS4.2.1.2 M (k + 1) hM.1 hM.2 (by omega) (by omega)).symm.trans m3
    refine ⟨by omega, ?_⟩
    rw [hmv]
    refine r_swapsMove (i := k) hS4.1.2.1 (hS4.1.mOrd hS4.2.1) hM (by omega) (Or.inl ⟨o1.symm, o2.symm⟩) ?_
    have hI4 : Inv n (mix h g4) := hI.mix ⟨fun k k1 k2 k3 k4 => E k k1 k3, fun i hi => E85 i (by omega) (by omega) (by omega) (by omega)⟩
    refine r_chgR hI4 (show 0 < h 3 1 by omega) (hS4.swap (m := g4) hM hk) (fun k k1 k2 => (setC_ne k1).trans (mix_lo k2).symm) x S' (fun k k1 k2 => (setC_ne k1).trans (mix_hi k2).symm) (fun k k1 => (setC_ne (by omega)).trans (lo k k1)) (fun r g2 H e => ⟨e.symm, H⟩)
  · obtain ⟨q1, q2⟩ := refused_ok h0.1 hr
    have S := hSt q1
    have P := S.paths q2
    refine e_X10_does ⟨fun _ => ?_, fun v => absurd z v⟩
    refine r_wrongS hs ho hSt (fun n' e => by omega) (fun g' n' hF _ _ r' e => by omega) (fun g3 n' hF hs' ho' hN hr3 hT e => ⟨fun _ => ?_, fun w => by omega⟩)
    refine r_findsS hs' ho' n' S.2.1 P.1 P.2 hN hT (fun g4 f1 f2 w1 w2 e33 hmv => ⟨fun v => by omega, fun v => ⟨rfl, ?_⟩⟩)
    exact hI.frame (cK.trans (cK.rk hF) (fun k k1 k2 k3 k4 k5 => f1 k (by omega) (by omega))) (mK.trans (mK.rk hF) ⟨fun k k1 k2 k3 k4 => f1 k (by omega) (by omega), fun i hi => f2 i (by omega) (by omega) (by omega)⟩)
  · refine e_X10_does ⟨fun _ => ?_, fun v => absurd z v⟩
    refine r_wrongS hs ho hSt (fun n' e => ⟨fun w => by omega, fun _ => ⟨e, hI.mono⟩⟩) (fun g' n' hF _ _ r' e => ⟨fun w => by omega, fun _ => ⟨e, hI.frame (cK.rk hF) (mK.rk hF)⟩⟩) (fun g3 n' hF hs' ho' hN hr3 hT e => absurd e hr)
  · exact e_X10_does ⟨fun v => absurd v z, fun _ => ⟨rfl, hI.mono⟩⟩
