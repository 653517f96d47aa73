/-! pair: machine -/
theorem r_mPreempted {c g : aH} {Q : aQ} {M : Int} (H : sS c g) (hM : 0 ≤ M ∧ M < 5) (hL : okMv (onM (c 3 1) (c 6) M) (g 113) (g 85 46)) {S1 : pSt} {j : Nat} (hc : PC (c 3 1) (c 8) (c 9) j (fun t => if c 6 t = M then c 7 t else 0, 0, 0) S1) (hz : ∀ u, 0 ≤ u → u < c 3 1 → S1.1 u ≤ 0) (k : ∀ g', (∀ x, x ≠ 114 → g' x = g x) → Q S1.2.2 g') : aRun mX10_preempted 3 [aR 85] g Q := by
  have hn := H.1.1.1.1
  have h1 := H.1.2.2.2.1
  have l46 := hL.1
  have lb : ((onM (c 3 1) (c 6) M).length : Int) ≤ 24 := by
    have := onM_len (mach := c 6) (M := M) (c 3 1).toNat
    rw [show (((c 3 1).toNat : Nat) : Int) = c 3 1 by omega] at this
    have := cnM_rng (mach := c 6) (M := M) hn.1
    omega
  have es : g 85 46 = (((g 85 46).toNat : Nat) : Int) := by omega
  have tr : ∀ x, 0 ≤ x → x < g 85 46 → (0 ≤ g 113 x ∧ g 113 x < c 3 1) ∧ c 6 (g 113 x) = M := fun x a b => onM_mem (List.mem_of_getElem? (hL.get a b))
  refine e_X10_preempted ?_
  have go : ∀ g' : aH, (∀ x, x ≠ 114 → g' x = g x) → (∀ x, 0 ≤ x → x < g 85 46 → g' 114 x = g 89 (g 113 x)) → AW mX10_preempted 3 48 [some (aR 85), some (aI (smK (g 85 46).toNat (g' 114))), some (aI 0), some (aI 0), none] [] g' Q := by
    intro g' f fl
    refine r_mPre (bf := c 8) (af := c 9) (mach := c 6) (M := M) (s := (g 85 46).toNat) H.1.2.1 h1 (bf_ok H) (af_ok H) es (by rw [← es]; exact hL) (by omega) hc hz (fun g2 f2 => k g2 f2) g' ⟨f, fun x a b => ?_, fun t a b => ?_⟩
    · have q := tr x a (by omega)
      rw [fl x a (by omega)]
      show _ = if c 6 (g 113 x) = M then c 7 (g 113 x) else 0
      rw [if_pos q.2, (H.1.2.2.2.2.1 _ q.1.1 q.1.2).2.2.2]
    · show (0 ≤ (if c 6 t = M then c 7 t else 0) ∧ (if c 6 t = M then c 7 t else 0) ≤ 99) ∧ (0 < (if c 6 t = M then c 7 t else 0) → c 6 t = M)
      have l1 := (H.1.1.1.2.2.1 t a b).2.2.2
      by_cases y : c 6 t = M
      · rw [if_pos y]; exact ⟨by omega, fun _ => y⟩
      · rw [if_neg y]; exact ⟨by omega, fun w => by omega⟩
  suffices H4 : ∀ (d x : Nat) (g' : aH), (x : Int) ≤ g 85 46 → g 85 46 - x ≤ d → (∀ y, y ≠ 114 → g' y = g y) → (∀ y, 0 ≤ y → y < (x : Int) → g' 114 y = g 89 (g 113 y)) → AW mX10_preempted 3 4 [some (aR 85), some (aI (smK x (g' 114))), some (aI (x : Int)), none, none] [] g' Q from
    H4 24 0 g (by omega) (by omega) (fun _ _ => rfl) (fun y a b => by omega)
  have fin : ∀ (x : Nat) (g' : aH), (x : Int) = g 85 46 → (∀ y, y ≠ 114 → g' y = g y) → (∀ y, 0 ≤ y → y < (x : Int) → g' 114 y = g 89 (g 113 y)) → AW mX10_preempted 3 48 [some (aR 85), some (aI (smK x (g' 114))), some (aI 0), some (aI 0), none] [] g' Q := by
    intro x g' e f fl
    have ex : x = (g 85 46).toNat := by omega
    subst ex
    exact go g' f (fun y a b => fl y a (by omega))
  intro d
  induction d with
  | zero =>
    intro x g' x1 hd f fl
    refine s_X10_preempted_4 ⟨fun _ => fin x g' (by omega) f fl, fun w => ?_⟩
    rw [f 85 (by omega)] at w; omega
  | succ d ih =>
    intro x g' x1 hd f fl
    refine s_X10_preempted_4 ⟨fun w => fin x g' (by rw [f 85 (by omega)] at w; omega) f fl, fun w => ?_⟩
    rw [f 85 (by omega)] at w
    rw [f 113 (by omega), f 89 (by omega)]
    have q := tr x (by omega) (by omega)
    have tb := (H.1.2.2.2.2.1 _ q.1.1 q.1.2).2.2.2
    have l1 := (H.1.1.1.2.2.1 _ q.1.1 q.1.2).2.2.2
    have sr := (smK_rng (f := g' 114) x (fun y a b => by
      have q2 := tr y a (by omega)
      have := (H.1.2.2.2.2.1 _ q2.1.1 q2.1.2).2.2.2
      have := (H.1.1.1.2.2.1 _ q2.1.1 q2.1.2).2.2.2
      rw [fl y a b]
      omega)).1
    have e : smK x (g' 114) + g 89 (g 113 x) = smK (x + 1) (a_up g' 114 x (g 89 (g 113 x)) 114) := by
      show _ = smK x (a_up g' 114 x (g 89 (g 113 x)) 114) + a_up g' 114 x (g 89 (g 113 x)) 114 x
      rw [a_up_eq, a_up_fn, smK_up, if_neg (by omega)]
      omega
    refine ⟨by omega, by omega, by unfold inR; omega, by unfold inR; omega, ?_⟩
    rw [e]
    have R := ih (x + 1) (a_up g' 114 x (g 89 (g 113 x))) (by omega) (by omega) (fun y y1 => (a_up_ne y1).trans (f y y1)) (fun y a b => ?_)
    · exact R
    · by_cases z : y = x
      · rw [z, a_up_eq]
      · rw [a_up_off z]; exact fl y a (by omega)
theorem pr_machine : a_pair Inv mX9_machine mX10_machine 4 22 2 := by
  intro n h a b hn hI hh ha hb
  have hS := hI.1.2.1
  have h1 := hS.1.2.2.2.1
  have h0 := hS.1.1.1.1
  have ok : ∀ z : Int, z = z ∧ Inv (n + 1) h := fun z => ⟨rfl, hI.mono⟩
  have hmach : ∀ g : aH, f_X10_isMachine g a = 0 ↔ ¬ (0 ≤ a ∧ a ≤ 4) := fun g => f_in_0
  have hin : ∀ g : aH, f_X10_in g b 0 1 = 0 ↔ ¬ (0 ≤ b ∧ b ≤ 1) := fun g => f_in_0
  refine e_X9_machine ⟨fun z => ⟨fun y => ?_, fun y => ⟨fun x => ⟨fun w => ?_, fun w => ?_⟩, fun x => ?_⟩⟩, fun z => ?_⟩
  · have q := noMach_0.1 z
    exact e_X10_machine ⟨fun v => absurd (show 0 ≤ a ∧ a ≤ 4 by omega) ((hmach h).1 v), fun _ => ⟨fun _ => ok _, fun v => absurd ((hin h).2 (by omega)) v⟩⟩
  · have q := noMach_0.1 z
    have w := ns_iff.1 w
    have hn0 : 0 < h 3 1 := by omega
    have sl := hS.1.1.2.at q.1 q.2
    have ez : f_X5_tasksOn h a = cSz h a := rfl
    have ez2 : cSz h a = h 10 (a + 1) - h 10 a := rfl
    -- the reference, up to how
    have main : ∀ (g : aH) (ans : Int), Inv n g → (∀ k, 85 ≤ k → g k = h k) → (b = 0 → aRun mX10_alone 21 [aR 85, aI a] g (fun r5 h6 => ans = r5 ∧ Inv (n + 1) h6)) → (b = 1 → aRun mX10_takes 0 [aR 85, aI a] g (fun r1 h2 => (((h2 85 46) = 0 → ans = -2 ∧ Inv (n + 1) h2) ∧ (¬ ((h2 85 46) = 0) → aRun mX10_preempted 3 [aR 85] h2 (fun r3 h4 => ans = r3 ∧ Inv (n + 1) h4))))) → aRun mX10_machine 22 [aR 85, aI a, aI b] g (fun r' h2 => ans = r' ∧ Inv (n + 1) h2) := by
      intro g ans hIg e85 k1 k2
      refine e_X10_machine ⟨fun v => absurd (show 0 ≤ a ∧ a ≤ 4 by omega) ((hmach g).1 v), fun _ => ⟨fun v => absurd (show 0 ≤ b ∧ b ≤ 1 by omega) ((hin g).1 v), fun _ => ⟨fun v => ?_, fun _ => ⟨fun v => k1 v, fun v => k2 (by omega)⟩⟩⟩⟩
      rw [e85 85 (by omega)] at v; omega
    have eL : ∀ g : aH, (∀ k, 85 ≤ k → g k = h k) → onM (g 85 1) (g 88) a = onM (h 3 1) (h 6) a := by
      intro g e85
      rw [e85 85 (by omega), e85 88 (by omega), h1]
      exact onM_congr (fun t x y => (hS.1.2.2.2.2.1 t x y).2.2.1)
    have len : ((onM (h 3 1) (h 6) a).length : Int) = cSz h a := by
      have := onM_len (mach := h 6) (M := a) (h 3 1).toNat
      rw [show (((h 3 1).toNat : Nat) : Int) = h 3 1 by omega] at this
      rw [this, cSz_cn hS q]
    refine ⟨by unfold o_X5_tasksOn inR; omega, fun v => ?_, fun v => ⟨fun u => ?_, fun u => ?_⟩⟩
    · -- no task
      refine main h (-2) hI (fun _ _ => rfl) (fun _ => ?_) (fun _ => ?_)
      · exact r_mAlone hS q (fun g' fr lo _ => ⟨rfl, hI.frame (fun k _ _ _ _ k5 => lo k k5) fr⟩) (fun g' fr lo z => by omega) (fun g' v' fr lo z => by omega)
      · refine r_takes (by omega) (fun g' f1 f2 okL => ?_)
        rw [eL h (fun _ _ => rfl)] at okL
        have e46 := okL.1
        refine ⟨fun _ => ⟨rfl, hI.frame (fun k _ _ _ _ k5 => f1 k (by omega) (by omega)) ⟨fun k _ _ _ _ => f1 k (by omega) (by omega), fun i _ => f2 i (by omega)⟩⟩, fun x => by omega⟩
    · -- at best
      refine r_atBest hS.1.1 hS.2.2.1 hS.2.2.2 hI.1.2.2.2.2.2.2.2.2.1 q (fun z6 => ?_) (fun g v' z6 f fA al => ?_)
      · exact main h (-7) hI (fun _ _ => rfl) (fun _ => r_mAlone hS q (fun g' fr lo z => by omega) (fun g' fr lo _ => ⟨rfl, hI.frame (fun k _ _ _ _ k5 => lo k k5) fr⟩) (fun g' v' fr lo _ z => by omega)) (fun e => by omega)
      · have hIg := hI.alone f fA
        have e85 : ∀ k, 85 ≤ k → g k = h k := fun k hk => f k (by omega) (by omega)
        refine main g v' hIg e85 (fun _ => ?_) (fun e => by omega)
        exact r_mAlone (hS.hi e85) q (fun g' fr lo z => by omega) (fun g' fr lo z => by omega) (fun g' v2 fr lo _ _ al2 => ⟨isMn.unique al al2, hIg.frame (fun k _ _ _ _ k5 => lo k k5) fr⟩)
    · -- preempted
      refine r_cPre hS.1.1 hS.2.2.1 (fun j S1 g f hc hz => ?_)
      have e85 : ∀ k, 85 ≤ k → g k = h k := fun k hk => f k (by omega)
      have Sg := hS.hi e85
      have hIg : Inv n g := by
        refine ⟨hI.1.frame (fun k k1 k2 k3 k4 k5 => f k (by omega)) ⟨fun k k1 _ _ _ => e85 k (by omega), fun i _ => congrFun (e85 85 (by omega)) i⟩, ?_⟩
        rw [e85 85 (by omega), f 0 (by omega)]
        exact hI.2
      refine main g _ hIg e85 (fun e => by omega) (fun _ => ?_)
      refine r_takes (by rw [e85 85 (by omega)]; omega) (fun g' f1 f2 okL => ?_)
      rw [eL g e85] at okL
      have e46 := okL.1
      have fr : mK g g' := ⟨fun k _ _ _ _ => f1 k (by omega) (by omega), fun i _ => f2 i (by omega)⟩
      have lo : ∀ k, k < 85 → g' k = g k := fun k hk => f1 k (by omega) (by omega)
      have Sg' : sS h g' := Sg.congr (fun _ _ _ => rfl) rfl (fr.2 0 (by omega)) (fr.2 1 (by omega)) (fun k x y => f1 k (by omega) (by omega))
      refine ⟨fun x => by omega, fun _ => r_mPreempted Sg' q okL hc hz (fun g2 f3 => ⟨rfl, ?_⟩)⟩
      exact hIg.frame (fun k _ _ _ _ k5 => (f3 k (by omega)).trans (lo k k5)) (mK.trans fr ⟨fun k _ _ _ k4 => f3 k (by omega), fun i _ => congrFun (f3 85 (by omega)) i⟩)
  · have q := noMach_0.1 z
    have e : h 85 1 = 0 := by
      have : h 3 1 = 0 := Classical.byContradiction (fun v => w (ns_iff.2 v))
      omega
    exact e_X10_machine ⟨fun v => absurd (show 0 ≤ a ∧ a ≤ 4 by omega) ((hmach h).1 v), fun _ => ⟨fun v => absurd (show 0 ≤ b ∧ b ≤ 1 by omega) ((hin h).1 v), fun _ => ⟨fun _ => ok _, fun v => absurd e v⟩⟩⟩
  · have q := noMach_0.1 z
    exact e_X10_machine ⟨fun v => absurd (show 0 ≤ a ∧ a ≤ 4 by omega) ((hmach h).1 v), fun _ => ⟨fun _ => ok _, fun v => absurd ((hin h).2 (by omega)) v⟩⟩
  · have q : ¬ (0 ≤ a ∧ a < 5) := fun v => z (noMach_0.2 v)
    exact e_X10_machine ⟨fun _ => ok _, fun v => absurd ((hmach h).2 (by omega)) v⟩
