/-! PREEMPTED: ticks, on the reference; pair: machine -/
def smK : Nat → (Int → Int) → Int
  | 0, _ => 0
  | k + 1, f => smK k f + f k
theorem smK_up {f : Int → Int} {i v : Int} : ∀ s : Nat, smK s (up1 f i v) = smK s f + if 0 ≤ i ∧ i < s then v - f i else 0 := by
  intro s
  induction s with
  | zero =>
    rw [if_neg (by omega)]
    rfl
  | succ s ih =>
    show smK s (up1 f i v) + up1 f i v s = smK s f + f s + _
    rw [ih, up1_at]
    by_cases z : (s : Int) = i
    · rw [if_pos z, if_neg (by omega), if_pos (show 0 ≤ i ∧ i < ((s + 1 : Nat) : Int) by omega), z]
      omega
    · rw [if_neg z]
      by_cases y : 0 ≤ i ∧ i < (s : Int)
      · rw [if_pos y, if_pos (show 0 ≤ i ∧ i < ((s + 1 : Nat) : Int) by omega)]; omega
      · rw [if_neg y, if_neg (show ¬ (0 ≤ i ∧ i < ((s + 1 : Nat) : Int)) by omega)]; omega
theorem smK_rng {f : Int → Int} : ∀ s : Nat, (∀ k, 0 ≤ k → k < (s : Int) → 0 ≤ f k ∧ f k ≤ 99) → (0 ≤ smK s f ∧ smK s f ≤ 99 * s) ∧ ((∃ k, (0 ≤ k ∧ k < (s : Int)) ∧ 0 < f k) → 0 < smK s f) := by
  intro s
  induction s with
  | zero => intro _; exact ⟨⟨Int.le_refl 0, Int.le_refl 0⟩, fun ⟨k, a, _⟩ => by omega⟩
  | succ s ih =>
    intro h
    have q := ih (fun k a b => h k a (by omega))
    have r := h s (by omega) (by omega)
    refine ⟨?_, fun ⟨k, a, b⟩ => ?_⟩
    · show 0 ≤ smK s f + f s ∧ smK s f + f s ≤ _
      omega
    · show 0 < smK s f + f s
      by_cases e : k = s
      · rw [e] at b; omega
      · have := q.2 ⟨k, by omega, b⟩
        omega
theorem smK_zero {f : Int → Int} : ∀ s : Nat, (∀ k, 0 ≤ k → k < (s : Int) → f k ≤ 0) → smK s f ≤ 0 := by
  intro s
  induction s with
  | zero => intro _; exact Int.le_refl 0
  | succ s ih =>
    intro h
    have q := ih (fun k a b => h k a (by omega))
    have r := h s (by omega) (by omega)
    show smK s f + f s ≤ 0
    omega
def elk (bf : Int → Int) (h : aH) (tm k : Int) : Prop := 0 < h 114 k ∧ bf (h 113 k) ≤ tm
theorem r_nextAt {h : aH} {Q : aQ} {bf af : Int → Int} {s : Nat} {tm : Int} (hs : mShop h) (hb : bfOK (h 85 1) (h 87) (h 89) bf) (ha : afOK (h 85 1) (h 86) (h 89) af) (h24 : s ≤ 24) (h46 : h 85 46 = s) (ht : ∀ k, 0 ≤ k → k < (s : Int) → 0 ≤ h 113 k ∧ h 113 k < h 85 1)
    (k : ∀ r, (r = -1 ∧ ∀ k', 0 ≤ k' → k' < (s : Int) → ¬ elk bf h tm k') ∨ ((0 ≤ r ∧ r < (s : Int)) ∧ elk bf h tm r ∧ ∀ k', 0 ≤ k' → k' < (s : Int) → elk bf h tm k' → af (h 113 k') ≤ af (h 113 r) ∧ (k' < r → af (h 113 k') < af (h 113 r))) → Q r h) : aRun mX10_nextAt 2 [aR 85, aI tm] h Q := by
  refine e_X10_nextAt ?_
  suffices H : ∀ (d x : Nat) (l2 : Int), x ≤ s → s - x ≤ d → ((l2 = -1 ∧ ∀ k', 0 ≤ k' → k' < (x : Int) → ¬ elk bf h tm k') ∨ ((0 ≤ l2 ∧ l2 < (x : Int)) ∧ elk bf h tm l2 ∧ ∀ k', 0 ≤ k' → k' < (x : Int) → elk bf h tm k' → af (h 113 k') ≤ af (h 113 l2) ∧ (k' < l2 → af (h 113 k') < af (h 113 l2)))) → AW mX10_nextAt 2 4 [some (aR 85), some (aI tm), some (aI l2), some (aI (x : Int)), none] [] h Q from
    H s 0 (-1) (by omega) (by omega) (Or.inl ⟨rfl, fun k' a b => by omega⟩)
  have fin : ∀ (x : Nat) (l2 : Int), x = s → ((l2 = -1 ∧ ∀ k', 0 ≤ k' → k' < (x : Int) → ¬ elk bf h tm k') ∨ ((0 ≤ l2 ∧ l2 < (x : Int)) ∧ elk bf h tm l2 ∧ ∀ k', 0 ≤ k' → k' < (x : Int) → elk bf h tm k' → af (h 113 k') ≤ af (h 113 l2) ∧ (k' < l2 → af (h 113 k') < af (h 113 l2)))) → Q l2 h := by
    intro x l2 ex hI
    subst ex
    exact k l2 hI
  intro d
  induction d with
  | zero =>
    intro x l2 x1 hd hI
    exact s_X10_nextAt_4 ⟨fun _ => fin x l2 (by omega) hI, fun w => by omega⟩
  | succ d ih =>
    intro x l2 x1 hd hI
    refine s_X10_nextAt_4 ⟨fun w => fin x l2 (by omega) hI, fun w => ?_⟩
    have inr : inR ((x : Int) + 1) := by unfold inR; omega
    have tr := ht x (by omega) (by omega)
    have skip : ¬ elk bf h tm x → inR ((x : Int) + 1) ∧ AW mX10_nextAt 2 4 [some (aR 85), some (aI tm), some (aI l2), some (aI ((x : Int) + 1)), none] [] h Q := by
      intro ne
      refine ⟨inr, ih (x + 1) l2 (by omega) (by omega) ?_⟩
      rcases hI with ⟨a, b⟩ | ⟨a, b, c⟩
      · refine Or.inl ⟨a, fun k' u v y => ?_⟩
        by_cases e : k' = x
        · rw [e] at y; exact ne y
        · exact b k' u (by omega) y
      · refine Or.inr ⟨by omega, b, fun k' u v y => ?_⟩
        by_cases e : k' = x
        · rw [e] at y; exact absurd y ne
        · exact c k' u (by omega) y
    refine ⟨by omega, fun y => ⟨fun _ => skip (fun e => by have := e.1; omega), fun v => absurd rfl v⟩, fun y => r_headOf hs hb tr ⟨fun v => ?_, fun v => ?_⟩⟩
    · by_cases z : tm < bf (h 113 x)
      · exact skip (fun e => by have := e.2; omega)
      · rw [if_neg z] at v; omega
    · have el : elk bf h tm x := by
        refine ⟨by omega, ?_⟩
        refine Classical.byContradiction (fun z => ?_)
        rw [if_pos (by omega)] at v
        exact v rfl
      refine ⟨fun u => ⟨inr, ih (x + 1) x (by omega) (by omega) (Or.inr ⟨by omega, el, fun k' a b c => ?_⟩)⟩, fun u => ?_⟩
      · by_cases e : k' = x
        · rw [e]; exact ⟨Int.le_refl _, fun q => by omega⟩
        · rcases hI with ⟨c1, c2⟩ | ⟨c1, -⟩
          · exact absurd c (c2 k' a (by omega))
          · omega
      · have hl2 : 0 ≤ l2 ∧ l2 < (x : Int) := by
          rcases hI with ⟨c1, -⟩ | ⟨c1, -⟩
          · omega
          · exact c1
        have t2 := ht l2 hl2.1 (by omega)
        refine r_tailOf hs ha tr ⟨by omega, r_tailOf hs ha t2 ⟨fun z => ⟨inr, ih (x + 1) l2 (by omega) (by omega) ?_⟩, fun z => ⟨inr, ih (x + 1) x (by omega) (by omega) ?_⟩⟩⟩
        · rcases hI with ⟨c1, -⟩ | ⟨c1, c2, c3⟩
          · omega
          · refine Or.inr ⟨by omega, c2, fun k' a b c => ?_⟩
            by_cases e : k' = x
            · rw [e]; exact ⟨z, fun q => by omega⟩
            · exact c3 k' a (by omega) c
        · rcases hI with ⟨c1, -⟩ | ⟨c1, c2, c3⟩
          · omega
          · refine Or.inr ⟨by omega, el, fun k' a b c => ?_⟩
            by_cases e : k' = x
            · rw [e]; exact ⟨Int.le_refl _, fun q => by omega⟩
            · have := c3 k' a (by omega) c
              exact ⟨by omega, fun _ => by omega⟩
/-- the heap holds what is left -/
def mPr (h : aH) (s : Nat) (n M : Int) (mach : Int → Int) (S : pSt) (g : aH) : Prop := (∀ c, c ≠ 114 → g c = h c) ∧ (∀ k, 0 ≤ k → k < (s : Int) → g 114 k = S.1 (h 113 k)) ∧ (∀ t, 0 ≤ t → t < n → (0 ≤ S.1 t ∧ S.1 t ≤ 99) ∧ (0 < S.1 t → mach t = M))
set_option maxHeartbeats 1000000 in
theorem r_mPre {h : aH} {Q : aQ} {bf af mach : Int → Int} {s : Nat} {n M : Int} (hs : mShop h) (h1 : h 85 1 = n) (hb : bfOK (h 85 1) (h 87) (h 89) bf) (ha : afOK (h 85 1) (h 86) (h 89) af) (h46 : h 85 46 = s) (hL : okMv (onM n mach M) (h 113) s) (h24 : s ≤ 24)
    {S0 S1 : pSt} {j : Nat} (hc : PC n bf af j S0 S1) (hz : ∀ u, 0 ≤ u → u < n → S1.1 u ≤ 0) (k : ∀ g, (∀ c, c ≠ 114 → g c = h c) → Q S1.2.2 g) : ∀ g, mPr h s n M mach S0 g → AW mX10_preempted 3 48 [some (aR 85), some (aI (smK s (g 114))), some (aI S0.2.2), some (aI S0.2.1), none] [] g Q := by
  have gr : grow s (h 113) := hL.grow onM_grow
  have ht : ∀ k, 0 ≤ k → k < (s : Int) → (0 ≤ h 113 k ∧ h 113 k < n) ∧ mach (h 113 k) = M := fun k a b => onM_mem (List.mem_of_getElem? (hL.get a b))
  have ix : ∀ t, 0 ≤ t → t < n → mach t = M → ∃ k, (0 ≤ k ∧ k < (s : Int)) ∧ h 113 k = t := by
    intro t a b e
    have m : t ∈ onM n mach M := by
      unfold onM lsN
      rw [List.mem_filter, List.mem_map]
      exact ⟨⟨t.toNat, List.mem_range.2 (by omega), by omega⟩, by simpa using e⟩
    rw [okMv_toL hL] at m
    unfold toL at m
    obtain ⟨i, hi, e2⟩ := List.mem_map.1 m
    rw [List.mem_range] at hi
    exact ⟨i, by omega, e2⟩
  have hn := hs.1.1
  -- what nextAt says
  have nx : ∀ (S : pSt) (g : aH) (Q' : aQ), mPr h s n M mach S g → (∀ r, (r = -1 ∧ ∀ t, ¬ elg n bf S t) ∨ ((0 ≤ r ∧ r < (s : Int)) ∧ pck n bf af S (h 113 r)) → Q' r g) → aRun mX10_nextAt 2 [aR 85, aI S.2.1] g Q' := by
    intro S g Q' P kk
    obtain ⟨f, fl, fr⟩ := P
    have e85 : g 85 = h 85 := f 85 (by omega)
    have hsg : mShop g := by
      unfold mShop at hs ⊢
      rw [f 85 (by omega), f 86 (by omega), f 87 (by omega), f 88 (by omega), f 89 (by omega), f 91 (by omega)]
      exact hs
    have e113 : g 113 = h 113 := f 113 (by omega)
    have elI : ∀ k', 0 ≤ k' → k' < (s : Int) → (elk bf g S.2.1 k' ↔ elg n bf S (h 113 k')) := by
      intro k' a b
      unfold elk elg
      rw [fl k' a b, e113]
      constructor
      · intro x; exact ⟨(ht k' a b).1, x.1, x.2⟩
      · intro x; exact ⟨x.2.1, x.2.2⟩
    refine r_nextAt (bf := bf) (af := af) (s := s) hsg (by rw [e85, f 87 (by omega), f 89 (by omega)]; exact hb) (by rw [e85, f 86 (by omega), f 89 (by omega)]; exact ha) h24 (by rw [e85]; exact h46) (fun k' a b => by rw [e113, e85, h1]; exact (ht k' a b).1) (fun r hr => kk r ?_)
    rw [e113] at hr
    rcases hr with ⟨a, b⟩ | ⟨a, b, c⟩
    · refine Or.inl ⟨a, fun t el => ?_⟩
      obtain ⟨k', k1, k2⟩ := ix t el.1.1 el.1.2 ((fr t el.1.1 el.1.2).2 el.2.1)
      refine b k' k1.1 k1.2 ((elI k' k1.1 k1.2).2 ?_)
      rw [k2]; exact el
    · refine Or.inr ⟨a, (elI r a.1 a.2).1 b, fun t el => ?_⟩
      obtain ⟨k', k1, k2⟩ := ix t el.1.1 el.1.2 ((fr t el.1.1 el.1.2).2 el.2.1)
      have q := c k' k1.1 k1.2 ((elI k' k1.1 k1.2).2 (by rw [k2]; exact el))
      rw [k2] at q
      refine ⟨q.1, fun y => q.2 ?_⟩
      refine Classical.byContradiction (fun z => ?_)
      have := (gr r k' a.1 a.2 k1.1 k1.2).2 (by omega)
      omega
  have pos : ∀ (S : pSt) (g : aH), mPr h s n M mach S g → (∃ u, (0 ≤ u ∧ u < n) ∧ 0 < S.1 u) → 0 < smK s (g 114) := by
    intro S g P hu
    obtain ⟨u, u1, u2⟩ := hu
    obtain ⟨k', k1, k2⟩ := ix u u1.1 u1.2 ((P.2.2 u u1.1 u1.2).2 u2)
    refine (smK_rng s (fun k' a b => ?_)).2 ⟨k', k1, by rw [P.2.1 k' k1.1 k1.2, k2]; exact u2⟩
    rw [P.2.1 k' a b]
    exact (P.2.2 _ (ht k' a b).1.1 (ht k' a b).1.2).1
  have bnd : ∀ (S : pSt) (g : aH), mPr h s n M mach S g → 0 ≤ smK s (g 114) ∧ smK s (g 114) ≤ 99 * s := by
    intro S g P
    refine (smK_rng s (fun k' a b => ?_)).1
    rw [P.2.1 k' a b]
    exact (P.2.2 _ (ht k' a b).1.1 (ht k' a b).1.2).1
  -- ticks of idleness
  have idle : ∀ (d : Nat) (S : pSt) (g : aH) (hd : Int), mPr h s n M mach S g → hd - S.2.1 = d → (∀ u, 0 ≤ u → u < n → 0 < S.1 u → hd ≤ bf u) → (∃ u, (0 ≤ u ∧ u < n) ∧ 0 < S.1 u) → (0 ≤ S.2.1 ∧ hd ≤ 8000) → AW mX10_preempted 3 48 [some (aR 85), some (aI (smK s (g 114))), some (aI S.2.2), some (aI hd), none] [] g Q → AW mX10_preempted 3 48 [some (aR 85), some (aI (smK s (g 114))), some (aI S.2.2), some (aI S.2.1), none] [] g Q := by
    intro d
    induction d with
    | zero =>
      intro S g hd P e _ _ _ kk
      rw [show S.2.1 = hd by omega]
      exact kk
    | succ d ih =>
      intro S g hd P e hmin hu hbd kk
      have ps := pos S g P hu
      refine s_X10_preempted_48 ⟨fun w => by clear hu; omega, fun _ => nx S g _ P (fun r hr => ?_)⟩
      have no : ∀ t, ¬ elg n bf S t := fun t el => by
        have := hmin t el.1.1 el.1.2 el.2.1
        have := el.2.2
        clear hu; omega
      rcases hr with ⟨a, -⟩ | ⟨-, a⟩
      · refine ⟨fun _ => ⟨by clear hu; unfold inR; omega, ?_⟩, fun w => by clear hu; omega⟩
        exact ih (S.1, S.2.1 + 1, S.2.2) g hd P (by show hd - (S.2.1 + 1) = d; clear hu; omega) hmin hu (by show 0 ≤ S.2.1 + 1 ∧ _; clear hu; omega) kk
      · exact absurd a.1 (no _)
  -- ticks of work
  have work : ∀ (d : Nat) (S : pSt) (g : aH) (t : Int), mPr h s n M mach S g → pck n bf af S t → ((d : Int) + 1 ≤ S.1 t) → (∀ u, 0 ≤ u → u < n → 0 < S.1 u → bf u ≤ S.2.1 ∨ S.2.1 + (d + 1) ≤ bf u) → (0 ≤ S.2.1 ∧ S.2.1 + (d + 1) ≤ 8000) → (0 ≤ S.2.2 ∧ S.2.2 ≤ 20000) →
      (∀ g', mPr h s n M mach (up1 S.1 t (S.1 t - (d + 1)), S.2.1 + (d + 1), if S.1 t - (d + 1) = 0 then max S.2.2 (S.2.1 + (d + 1) + af t) else S.2.2) g' → AW mX10_preempted 3 48 [some (aR 85), some (aI (smK s (g' 114))), some (aI (if S.1 t - (d + 1) = 0 then max S.2.2 (S.2.1 + (d + 1) + af t) else S.2.2)), some (aI (S.2.1 + (d + 1))), none] [] g' Q) → AW mX10_preempted 3 48 [some (aR 85), some (aI (smK s (g 114))), some (aI S.2.2), some (aI S.2.1), none] [] g Q := by
    intro d
    induction d with
    | zero =>
      intro S g t P pk hw hh hbd hov kk
      have tr := pk.1.1
      have ps := pos S g P ⟨t, tr, pk.1.2.1⟩
      have bs := bnd S g P
      refine s_X10_preempted_48 ⟨fun w => by omega, fun _ => nx S g _ P (fun r hr => ?_)⟩
      rcases hr with ⟨-, a⟩ | ⟨a, b⟩
      · exact absurd pk.1 (a t)
      have et : h 113 r = t := by
        have c1 := b.2 t pk.1
        have c2 := pk.2 _ b.1
        omega
      have e114 : g 114 r = S.1 t := by rw [P.2.1 r a.1 a.2, et]
      have lt := (P.2.2 t tr.1 tr.2).1
      have af1 := (ha t tr.1 (by omega)).2
      -- the tick
      have P' : mPr h s n M mach (up1 S.1 t (S.1 t - 1), S.2.1 + 1, if S.1 t - 1 = 0 then max S.2.2 (S.2.1 + 1 + af t) else S.2.2) (a_up g 114 r (S.1 t - 1)) := by
        refine ⟨fun c c1 => (a_up_ne c1).trans (P.1 c c1), fun k' k0 k1 => ?_, fun u u0 u1 => ?_⟩
        · rw [a_up_fn, up1_at]
          show _ = up1 S.1 t (S.1 t - 1) (h 113 k')
          rw [up1_at, P.2.1 k' k0 k1]
          by_cases e : k' = r
          · rw [if_pos e, if_pos (by rw [e]; exact et)]
          · rw [if_neg e, if_neg (fun w => e ?_)]
            have x1 := (gr k' r k0 k1 a.1 a.2).1 (by omega)
            have x2 := (gr r k' a.1 a.2 k0 k1).1 (by omega)
            omega
        · show (0 ≤ up1 S.1 t (S.1 t - 1) u ∧ up1 S.1 t (S.1 t - 1) u ≤ 99) ∧ (0 < up1 S.1 t (S.1 t - 1) u → mach u = M)
          rw [up1_at]
          have q := P.2.2 u u0 u1
          by_cases e : u = t
          · rw [if_pos e]
            rw [e] at q ⊢
            exact ⟨by omega, fun _ => q.2 (by omega)⟩
          · rw [if_neg e]; exact q
      have es : smK s (g 114) + -1 = smK s (a_up g 114 r (S.1 t - 1) 114) := by
        rw [a_up_fn, smK_up, if_pos a, e114]
        omega
      have kk' := kk _ (by rw [show ((0 : Nat) : Int) + 1 = 1 by omega]; exact P')
      rw [show ((0 : Nat) : Int) + 1 = 1 by omega] at kk'
      refine ⟨fun w => by omega, fun _ => ⟨by omega, by rw [e114]; unfold inR; omega, by unfold inR; omega, ?_, ?_⟩⟩
      · rw [e114, es]
        intro z
        refine ⟨by unfold inR; omega, ?_⟩
        have hsg : mShop (a_up g 114 r (S.1 t - 1)) := by
          have f := P'.1
          unfold mShop at hs ⊢
          rw [f 85 (by omega), f 86 (by omega), f 87 (by omega), f 88 (by omega), f 89 (by omega), f 91 (by omega)]
          exact hs
        rw [show g 113 r = t by rw [P.1 113 (by omega)]; exact et]
        refine r_tailOf (af := af) hsg (by rw [P'.1 85 (by omega), P'.1 86 (by omega), P'.1 89 (by omega)]; exact ha) (by rw [P'.1 85 (by omega), h1]; exact tr) ⟨by unfold inR; omega, ?_⟩
        rw [if_pos z] at kk'
        exact kk'
      · rw [e114, es]
        intro z
        refine ⟨by unfold inR; omega, ?_⟩
        rw [if_neg z] at kk'
        exact kk'
    | succ d ih =>
      intro S g t P pk hw hh hbd hov kk
      have tr := pk.1.1
      have ps := pos S g P ⟨t, tr, pk.1.2.1⟩
      have bs := bnd S g P
      refine s_X10_preempted_48 ⟨fun w => by omega, fun _ => nx S g _ P (fun r hr => ?_)⟩
      rcases hr with ⟨-, a⟩ | ⟨a, b⟩
      · exact absurd pk.1 (a t)
      have et : h 113 r = t := by
        have c1 := b.2 t pk.1
        have c2 := pk.2 _ b.1
        omega
      have e114 : g 114 r = S.1 t := by rw [P.2.1 r a.1 a.2, et]
      have lt := (P.2.2 t tr.1 tr.2).1
      have P' : mPr h s n M mach (up1 S.1 t (S.1 t - 1), S.2.1 + 1, S.2.2) (a_up g 114 r (S.1 t - 1)) := by
        refine ⟨fun c c1 => (a_up_ne c1).trans (P.1 c c1), fun k' k0 k1 => ?_, fun u u0 u1 => ?_⟩
        · rw [a_up_fn, up1_at]
          show _ = up1 S.1 t (S.1 t - 1) (h 113 k')
          rw [up1_at, P.2.1 k' k0 k1]
          by_cases e : k' = r
          · rw [if_pos e, if_pos (by rw [e]; exact et)]
          · rw [if_neg e, if_neg (fun w => e ?_)]
            have x1 := (gr k' r k0 k1 a.1 a.2).1 (by omega)
            have x2 := (gr r k' a.1 a.2 k0 k1).1 (by omega)
            omega
        · show (0 ≤ up1 S.1 t (S.1 t - 1) u ∧ up1 S.1 t (S.1 t - 1) u ≤ 99) ∧ (0 < up1 S.1 t (S.1 t - 1) u → mach u = M)
          rw [up1_at]
          have q := P.2.2 u u0 u1
          by_cases e : u = t
          · rw [if_pos e]
            rw [e] at q ⊢
            exact ⟨by omega, fun _ => q.2 (by omega)⟩
          · rw [if_neg e]; exact q
      have es : smK s (g 114) + -1 = smK s (a_up g 114 r (S.1 t - 1) 114) := by
        rw [a_up_fn, smK_up, if_pos a, e114]
        omega
      refine ⟨fun w => by omega, fun _ => ⟨by omega, by rw [e114]; unfold inR; omega, by unfold inR; omega, ?_, ?_⟩⟩
      · rw [e114]
        intro z
        omega
      · rw [e114, es]
        intro _
        refine ⟨by unfold inR; omega, ?_⟩
        have elS : ∀ u, elg n bf (up1 S.1 t (S.1 t - 1), S.2.1 + 1, S.2.2) u → elg n bf S u := by
          intro u el
          obtain ⟨e1, e2, e3⟩ := el
          have e2 : 0 < up1 S.1 t (S.1 t - 1) u := e2
          have e3 : bf u ≤ S.2.1 + 1 := e3
          have e4 : 0 < S.1 u := by
            rw [up1_at] at e2
            by_cases y : u = t
            · rw [y]; exact pk.1.2.1
            · rw [if_neg y] at e2; exact e2
          refine ⟨e1, e4, ?_⟩
          have := hh u e1.1 e1.2 e4
          omega
        refine ih (up1 S.1 t (S.1 t - 1), S.2.1 + 1, S.2.2) (a_up g 114 r (S.1 t - 1)) t P' ⟨⟨tr, ?_, ?_⟩, fun u el => pk.2 u (elS u el)⟩ ?_ (fun u u0 u1 u2 => ?_) ?_ hov (fun g' Pg => ?_)
        · show 0 < up1 S.1 t (S.1 t - 1) t
          rw [up1_eq]; omega
        · show bf t ≤ S.2.1 + 1
          have := pk.1.2.2
          omega
        · show (d : Int) + 1 ≤ up1 S.1 t (S.1 t - 1) t
          rw [up1_eq]; omega
        · show bf u ≤ S.2.1 + 1 ∨ S.2.1 + 1 + ((d : Int) + 1) ≤ bf u
          have u2 : 0 < up1 S.1 t (S.1 t - 1) u := u2
          have e4 : 0 < S.1 u := by
            rw [up1_at] at u2
            by_cases y : u = t
            · rw [y]; exact pk.1.2.1
            · rw [if_neg y] at u2; exact u2
          have := hh u u0 u1 e4
          omega
        · show 0 ≤ S.2.1 + 1 ∧ S.2.1 + 1 + ((d : Int) + 1) ≤ 8000
          omega
        · have ex1 : up1 S.1 t (S.1 t - 1) t - ((d : Int) + 1) = S.1 t - (((d + 1 : Nat) : Int) + 1) := by rw [up1_eq]; omega
          have ex2 : S.2.1 + 1 + ((d : Int) + 1) = S.2.1 + (((d + 1 : Nat) : Int) + 1) := by omega
          have ex3 : up1 (up1 S.1 t (S.1 t - 1)) t (S.1 t - (((d + 1 : Nat) : Int) + 1)) = up1 S.1 t (S.1 t - (((d + 1 : Nat) : Int) + 1)) := by
            funext x
            rw [up1_at, up1_at, up1_at]
            by_cases y : x = t
            · rw [if_pos y, if_pos y]
            · rw [if_neg y, if_neg y, if_neg y]
          have Pg2 := Pg
          show AW mX10_preempted 3 48 [some (aR 85), some (aI (smK s (g' 114))), some (aI (if up1 S.1 t (S.1 t - 1) t - ((d : Int) + 1) = 0 then max S.2.2 (S.2.1 + 1 + ((d : Int) + 1) + af t) else S.2.2)), some (aI (S.2.1 + 1 + ((d : Int) + 1))), none] [] g' Q
          have Pg3 : mPr h s n M mach (up1 (up1 S.1 t (S.1 t - 1)) t (up1 S.1 t (S.1 t - 1) t - ((d : Int) + 1)), S.2.1 + 1 + ((d : Int) + 1), if up1 S.1 t (S.1 t - 1) t - ((d : Int) + 1) = 0 then max S.2.2 (S.2.1 + 1 + ((d : Int) + 1) + af t) else S.2.2) g' := Pg
          rw [ex1, ex2, ex3] at Pg3
          rw [ex1, ex2]
          exact kk g' Pg3
  -- the whole chain
  induction j generalizing S0 with
  | zero =>
    intro g P
    have e : S1 = S0 := hc
    subst e
    have z : smK s (g 114) ≤ 0 := smK_zero s (fun k' a b => by rw [P.2.1 k' a b]; exact hz _ (ht k' a b).1.1 (ht k' a b).1.2)
    exact s_X10_preempted_48 ⟨fun _ => k g P.1, fun w => by omega⟩
  | succ j ih =>
    intro g P
    obtain ⟨C, c1, c2⟩ := hc
    rcases c1 with ⟨t, w, pk, w1, w2, w3, w4, e⟩ | ⟨hd, m1, m2, m3, m4, e⟩
    · have ew : ((w - 1).toNat : Int) + 1 = w := by omega
      refine work (w - 1).toNat S0 g t P pk (by omega) (by rw [ew]; exact w2) (by rw [ew]; exact w3) w4 (fun g' Pg => ?_)
      rw [ew] at Pg ⊢
      rw [← e] at Pg
      have R := ih c2 g' Pg
      rw [e] at R
      exact R
    · refine idle (hd - S0.2.1).toNat S0 g hd P (by clear m2; omega) m1 m2 m4 ?_
      have Pg : mPr h s n M mach C g := by rw [e]; exact P
      have R := ih c2 g Pg
      rw [e] at R
      exact R
