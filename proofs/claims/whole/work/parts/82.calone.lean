/-! ONE MACHINE by itself, on the class -/
theorem ovL_ge (bf ls af : Int → Int) : ∀ (l : List Int) (tm o : Int), o ≤ ovL bf ls af l tm o := by
  intro l
  induction l with
  | nil => intro tm o; exact Int.le_refl _
  | cons t r ih =>
    intro tm o
    have := ih (max tm (bf t) + ls t) (max o (max tm (bf t) + ls t + af t))
    show o ≤ ovL bf ls af r (max tm (bf t) + ls t) (max o (max tm (bf t) + ls t + af t))
    omega
theorem isMn.mem {l l' : List Int} {v : Int} (h : isMn l v) (e : ∀ x, x ∈ l ↔ x ∈ l') : isMn l' v := ⟨(e v).1 h.1, fun x hx => h.2 x ((e x).2 hx)⟩
theorem lsN_succ {t : Int} (h : 0 ≤ t) : lsN (t + 1) = lsN t ++ [t] := by
  unfold lsN
  rw [show (t + 1).toNat = t.toNat + 1 by omega, List.range_succ, List.map_append]
  show _ ++ [((t.toNat : Nat) : Int)] = _
  rw [show ((t.toNat : Nat) : Int) = t by omega]
theorem onM_succ {mach : Int → Int} {M t : Int} (h : 0 ≤ t) : onM (t + 1) mach M = onM t mach M ++ (if mach t = M then [t] else []) := by
  unfold onM
  rw [lsN_succ h, List.filter_append]
  congr 1
  by_cases y : mach t = M
  · rw [if_pos y, List.filter_cons_of_pos (by simpa using y)]; rfl
  · rw [if_neg y, List.filter_cons_of_neg (by simpa using y)]; rfl
theorem onM_len {mach : Int → Int} {M : Int} : ∀ n : Nat, ((onM n mach M).length : Int) = cnM mach M n := by
  intro n
  induction n with
  | zero => rfl
  | succ n ih =>
    rw [show ((n + 1 : Nat) : Int) = (n : Int) + 1 by omega, onM_succ (by omega), cnM_succ (by omega), List.length_append]
    by_cases y : mach n = M
    · rw [if_pos y, if_pos y, ← ih]; show _ = _; simp
    · rw [if_neg y, if_neg y, ← ih]; show _ = _; simp
theorem onM_grow {n : Int} {mach : Int → Int} {M : Int} : (onM n mach M).Pairwise (· < ·) := by
  unfold onM lsN
  refine List.Pairwise.filter _ ?_
  rw [List.pairwise_map]
  exact List.Pairwise.imp (fun h => by omega) List.pairwise_lt_range
theorem okMv_toL {L : List Int} {f : Int → Int} {n : Int} (h : okMv L f n) : L = toL f n.toNat := by
  have e := h.1
  apply List.ext_getElem?
  intro i
  unfold toL
  rw [List.getElem?_map]
  by_cases z : i < L.length
  · rw [h.2 i z, List.getElem?_range (by omega)]; rfl
  · rw [List.getElem?_eq_none (by omega), List.getElem?_eq_none (by rw [List.length_range]; omega)]; rfl
theorem okMv.grow {L : List Int} {f : Int → Int} {s : Nat} (h : okMv L f s) (p : L.Pairwise (· < ·)) : grow s f := by
  have e := h.1
  have lt : ∀ x y : Int, 0 ≤ x → x < y → y < s → f x < f y := by
    intro x y x0 xy y1
    have q := List.pairwise_iff_getElem.1 p x.toNat y.toNat (by omega) (by omega) (by omega)
    have e1 := h.2 x.toNat (by omega)
    have e2 := h.2 y.toNat (by omega)
    rw [List.getElem?_eq_getElem (by omega)] at e1 e2
    have e1 := Option.some.inj e1
    have e2 := Option.some.inj e2
    rw [show ((x.toNat : Nat) : Int) = x by omega] at e1
    rw [show ((y.toNat : Nat) : Int) = y by omega] at e2
    omega
  intro x y x0 x1 y0 y1
  constructor
  · intro w
    refine Classical.byContradiction (fun z => ?_)
    have := lt y x y0 (by omega) x1
    omega
  · intro w
    by_cases z : x = y
    · rw [z]; exact Int.le_refl _
    · have := lt x y x0 (by omega) y1
      omega
theorem r_over {h : aH} {Q : aQ} {s : Nat} (hs : cShop h) (hb : cBA h) (h6 : s ≤ 6) (ht : ∀ i, 0 ≤ i → i < (s : Int) → 0 ≤ h 70 i ∧ h 70 i < h 3 1) (k : Q (ovL (h 8) (h 7) (h 9) (toL (h 70) s) 0 0) h) : aRun mX0_over 1 [aR 69, aR 3, aI (s : Int)] h Q := by
  refine e_X0_over ?_
  have hn := hs.1.1
  have bnd := cBA.bnd hs hb
  have dr : ∀ i : Nat, i < s → (toL (h 70) s).drop i = h 70 i :: (toL (h 70) s).drop (i + 1) := by
    intro i hi
    have hl : i < (toL (h 70) s).length := by rw [toL_len]; exact hi
    have e : (toL (h 70) s)[i]? = some (h 70 i) := by
      unfold toL
      rw [List.getElem?_map, List.getElem?_range hi]; rfl
    rw [List.getElem?_eq_getElem hl] at e
    rw [List.drop_eq_getElem_cons hl, Option.some.inj e]
  suffices H : ∀ (d i : Nat) (tm o : Int), i ≤ s → s - i ≤ d → (0 ≤ tm ∧ tm ≤ 2376 + 99 * i) → (0 ≤ o ∧ o ≤ 10000) → ovL (h 8) (h 7) (h 9) ((toL (h 70) s).drop i) tm o = ovL (h 8) (h 7) (h 9) (toL (h 70) s) 0 0 → AW mX0_over 1 8 [some (aR 69), some (aR 3), some (aI (s : Int)), some (aI tm), some (aI o), some (aI (i : Int)), none] [] h Q from
    H s 0 0 0 (by omega) (by omega) (by omega) (by omega) rfl
  have fin : ∀ (i : Nat) (tm o : Int), i = s → ovL (h 8) (h 7) (h 9) ((toL (h 70) s).drop i) tm o = ovL (h 8) (h 7) (h 9) (toL (h 70) s) 0 0 → Q o h := by
    intro i tm o e e2
    rw [List.drop_eq_nil_of_le (by rw [toL_len]; omega)] at e2
    have e2 : o = _ := e2
    rw [e2]; exact k
  intro d
  induction d with
  | zero =>
    intro i tm o i1 hd _ _ e
    exact s_X0_over_8 ⟨fun _ => fin i tm o (by omega) e, fun w => by omega⟩
  | succ d ih =>
    intro i tm o i1 hd htm ho e
    refine s_X0_over_8 ⟨fun w => fin i tm o (by omega) e, fun w => ?_⟩
    have q := ht i (by omega) (by omega)
    have b := bnd _ q.1 q.2
    have l1 := (hs.1.2.2.1 _ q.1 q.2).2.2.2
    rw [dr i (by omega)] at e
    refine ⟨by omega, by omega, by unfold inR; omega, by unfold inR; omega, by unfold inR; omega, ?_⟩
    exact ih (i + 1) _ _ (by omega) (by omega) (by omega) (by omega) e
theorem r_least {h : aH} {Q : aQ} {M : Int} (hs : cShop h) (hb : cBA h) (hc : cCnt h) (hM : 0 ≤ M ∧ M < 5) (hz : cSz h M ≤ 6) (k : ∀ g v, (∀ c, c ≠ 70 → g c = h c) → aloneIs (h 3 1) (h 6) (h 8) (h 7) (h 9) M v → Q v g) : aRun mX0_leastOfAllOrders 2 [aR 69, aR 3, aI M] h Q := by
  refine e_X0_leastOfAllOrders ?_
  have hn := hs.1.1
  have hcz : cSz h M = cnM (h 6) M (h 3 1) := hc M hM.1 hM.2
  -- the orders, one behind the other
  have H2 : ∀ (a0 : Int → Int) (s : Nat), s ≤ 6 → okMv (onM (h 3 1) (h 6) M) a0 s → ∀ (d w : Nat) (g : aH) (best : Int), w + 1 ≤ fct s → fct s - (w + 1) ≤ d → (∀ c, c ≠ 70 → g c = h c) → atW s w a0 (g 70) → isMn ((List.range (w + 1)).map (fun w' => ovL (h 8) (h 7) (h 9) ((pw s w').map a0) 0 0)) best → AW mX0_leastOfAllOrders 2 68 [some (aR 69), some (aR 3), none, some (aI (s : Int)), some (aI (fct s : Int)), some (aI best), some (aI ((w + 1 : Nat) : Int))] [] g Q := by
    intro a0 s h6 hL d
    have gr : grow s a0 := hL.grow onM_grow
    have eL : onM (h 3 1) (h 6) M = toL a0 s := okMv_toL hL
    have rng : ∀ i, 0 ≤ i → i < (s : Int) → 0 ≤ a0 i ∧ a0 i < h 3 1 := by
      intro i i0 i1
      have m := List.mem_of_getElem? (hL.get i0 i1)
      unfold onM lsN at m
      rw [List.mem_filter, List.mem_map] at m
      obtain ⟨⟨u, hu, e⟩, -⟩ := m
      rw [List.mem_range] at hu
      omega
    have fin : ∀ (w : Nat) (g : aH) (best : Int), w + 1 = fct s → (∀ c, c ≠ 70 → g c = h c) → isMn ((List.range (w + 1)).map (fun w' => ovL (h 8) (h 7) (h 9) ((pw s w').map a0) 0 0)) best → Q best g := by
      intro w g best e f mn
      refine k g best f ?_
      unfold aloneIs
      rw [eL]
      refine mn.mem (fun x => ?_)
      rw [List.mem_map, List.mem_map]
      constructor
      · rintro ⟨w', hw', e'⟩
        rw [List.mem_range] at hw'
        exact ⟨_, (pmL_mem h6 _).2 ⟨w', by omega, rfl⟩, e'⟩
      · rintro ⟨p, hp, e'⟩
        obtain ⟨w', hw', e2⟩ := (pmL_mem h6 p).1 hp
        refine ⟨w', by rw [List.mem_range]; omega, ?_⟩
        rw [← e2]; exact e'
    have f720 : fct s ≤ 720 := by
      have : s = 0 ∨ s = 1 ∨ s = 2 ∨ s = 3 ∨ s = 4 ∨ s = 5 ∨ s = 6 := by omega
      rcases this with rfl | rfl | rfl | rfl | rfl | rfl | rfl <;> decide
    induction d with
    | zero =>
      intro w g best w1 hd f hw mn
      exact s_X0_leastOfAllOrders_68 ⟨fun _ => fin w g best (by omega) f mn, fun z => by omega⟩
    | succ d ih =>
      intro w g best w1 hd f hw mn
      refine s_X0_leastOfAllOrders_68 ⟨fun z => fin w g best (by omega) f mn, fun z => ?_⟩
      have a' : ∀ k, 3 ≤ k → k ≤ 10 → g k = h k := fun k k1 k2 => f k (by omega)
      refine r_next sh_70 (a := 0) (b := s) (s := s) (by omega) (by omega) (by omega) (by omega) ?_
      have esg : sgF g 70 0 = g 70 := by
        funext x
        show g 70 (0 + x) = g 70 x
        congr 1; omega
      rw [esg]
      generalize hG : setC g 70 (fun x => nxF (g 70) s (x - 0)) = G
      have G70 : ∀ x, G 70 x = nxF (g 70) s x := fun x => by
        rw [← hG, setC_eq]
        congr 1; omega
      have Go : ∀ c, c ≠ 70 → G c = h c := fun c c1 => by rw [← hG, setC_ne c1]; exact f c c1
      have aG : ∀ k, 3 ≤ k → k ≤ 10 → G k = h k := fun k k1 k2 => Go k (by omega)
      have nx := (hw.next h6 gr (by omega)).1 (by omega)
      have hw' : atW s (w + 1) a0 (G 70) := by
        intro i i0 i1
        rw [G70]
        exact nx.1 i i0 i1
      have hbG : cBA G := by
        unfold cBA at hb ⊢
        rw [aG 3 (by omega) (by omega), aG 4 (by omega) (by omega), aG 5 (by omega) (by omega), aG 7 (by omega) (by omega), aG 8 (by omega) (by omega), aG 9 (by omega) (by omega)]
        exact hb
      refine r_over (s := s) (hs.congr aG) hbG h6 (fun i i0 i1 => ?_) ⟨by unfold inR; omega, ?_⟩
      · have q := hw' i i0 i1
        rw [q.2, aG 3 (by omega) (by omega)]
        exact rng _ q.1.1 q.1.2
      · rw [aG 8 (by omega) (by omega), aG 7 (by omega) (by omega), aG 9 (by omega) (by omega), hw'.list h6 (by omega)]
        have R := ih (w + 1) G (min best (ovL (h 8) (h 7) (h 9) ((pw s (w + 1)).map a0) 0 0)) (by omega) (by omega) Go hw' ?_
        · rw [show ((w + 1 : Nat) : Int) + 1 = ((w + 1 + 1 : Nat) : Int) by omega]
          exact R
        · rw [List.range_succ, List.map_append]
          show isMn (_ ++ [_]) _
          refine ⟨?_, fun x hx => ?_⟩
          · rw [List.mem_append]
            by_cases y : best ≤ ovL (h 8) (h 7) (h 9) ((pw s (w + 1)).map a0) 0 0
            · rw [Int.min_eq_left y]; exact Or.inl mn.1
            · rw [Int.min_eq_right (by omega)]
              exact Or.inr (List.mem_singleton.2 rfl)
          · rw [List.mem_append] at hx
            rcases hx with hx | hx
            · have := mn.2 x hx
              omega
            · rw [List.mem_singleton.1 hx]
              show _ ≤ ovL (h 8) (h 7) (h 9) (List.map a0 (pw s (w + 1))) 0 0
              omega
  -- the tasks
  suffices H : ∀ (d t : Nat) (g : aH) (many : Nat), (t : Int) ≤ h 3 1 → h 3 1 - t ≤ d → (∀ c, c ≠ 70 → g c = h c) → okMv (onM (t : Int) (h 6) M) (g 70) many → AW mX0_leastOfAllOrders 2 8 [some (aR 69), some (aR 3), some (aI M), some (aI (many : Int)), some (aI (fct many : Int)), some (aI (t : Int)), none] [] g Q from
    H (h 3 1).toNat 0 h 0 (by omega) (by omega) (fun _ _ => rfl) ⟨rfl, fun i hi => absurd hi (by show ¬ i < 0; omega)⟩
  have mb : ∀ (t many : Nat) (f : Int → Int), (t : Int) ≤ h 3 1 → okMv (onM (t : Int) (h 6) M) f many → (many : Int) = cnM (h 6) M t ∧ many ≤ 6 := by
    intro t many f t1 ok
    have e := ok.1
    have e2 := onM_len (mach := h 6) (M := M) t
    have m := cnM_mono (mach := h 6) (M := M) (h 3 1 - t).toNat t (by omega)
    rw [show (t : Int) + ((h 3 1 - t).toNat : Int) = h 3 1 by omega] at m
    omega
  have go : ∀ (t : Nat) (g : aH) (many : Nat), (t : Int) = h 3 1 → (∀ c, c ≠ 70 → g c = h c) → okMv (onM (t : Int) (h 6) M) (g 70) many → aRun mX0_over 1 [aR 69, aR 3, aI (many : Int)] g (fun r1 h2 => AW mX0_leastOfAllOrders 2 68 [some (aR 69), some (aR 3), none, some (aI (many : Int)), some (aI (fct many : Int)), some (aI r1), some (aI 1)] [] h2 Q) := by
    intro t g many et f ok
    have m := mb t many (g 70) (by omega) ok
    have aG : ∀ k, 3 ≤ k → k ≤ 10 → g k = h k := fun k k1 k2 => f k (by omega)
    have hbG : cBA g := by
      unfold cBA at hb ⊢
      rw [aG 3 (by omega) (by omega), aG 4 (by omega) (by omega), aG 5 (by omega) (by omega), aG 7 (by omega) (by omega), aG 8 (by omega) (by omega), aG 9 (by omega) (by omega)]
      exact hb
    rw [et] at ok
    have z := atW.zero (s := many) (a := g 70) m.2
    refine r_over (s := many) (hs.congr aG) hbG m.2 (fun i i0 i1 => ?_) ?_
    · have mm := List.mem_of_getElem? (ok.get i0 i1)
      unfold onM lsN at mm
      rw [List.mem_filter, List.mem_map] at mm
      obtain ⟨⟨u, hu, e⟩, -⟩ := mm
      rw [List.mem_range] at hu
      rw [aG 3 (by omega) (by omega)]
      omega
    · rw [aG 8 (by omega) (by omega), aG 7 (by omega) (by omega), aG 9 (by omega) (by omega), z.list m.2 (fct_pos many)]
      have fp := fct_pos many
      refine H2 (g 70) many m.2 ok 720 0 g _ (by omega) ?_ f z ?_
      · have : many = 0 ∨ many = 1 ∨ many = 2 ∨ many = 3 ∨ many = 4 ∨ many = 5 ∨ many = 6 := by omega
        rcases this with rfl | rfl | rfl | rfl | rfl | rfl | rfl <;> decide
      · exact ⟨List.mem_singleton.2 rfl, fun x hx => by rw [List.mem_singleton.1 hx]; exact Int.le_refl _⟩
  intro d
  induction d with
  | zero =>
    intro t g many t1 hd f ok
    refine s_X0_leastOfAllOrders_8 ⟨fun _ => go t g many (by omega) f ok, fun w => ?_⟩
    rw [f 3 (by omega)] at w
    omega
  | succ d ih =>
    intro t g many t1 hd f ok
    refine s_X0_leastOfAllOrders_8 ⟨fun w => go t g many (by rw [f 3 (by omega)] at w; omega) f ok, fun w => ?_⟩
    rw [f 3 (by omega)] at w
    rw [f 6 (by omega)]
    have m := mb t many (g 70) t1 ok
    have os := onM_succ (mach := h 6) (M := M) (t := t) (by omega)
    rw [show (t : Int) + 1 = ((t + 1 : Nat) : Int) by omega] at os
    refine ⟨by omega, fun y => ⟨fun x => ?_, fun x => ?_⟩, fun y => ⟨by unfold inR; omega, ?_⟩⟩
    · exfalso
      have lt := cnM_lt (mach := h 6) (show (0 : Int) ≤ t by omega) (show (t : Int) < h 3 1 by omega)
      rw [y] at lt
      omega
    · rw [if_pos y] at os
      have f120 : fct many ≤ 120 := by
        have : many = 0 ∨ many = 1 ∨ many = 2 ∨ many = 3 ∨ many = 4 ∨ many = 5 := by omega
        rcases this with rfl | rfl | rfl | rfl | rfl | rfl <;> decide
      have ef : (fct many : Int) * ((many : Int) + 1) = (fct (many + 1) : Int) := by
        show _ = ((fct many * (many + 1) : Nat) : Int)
        rw [Int.natCast_mul]
        rfl
      have f720 : fct (many + 1) ≤ 720 := by
        have : many = 0 ∨ many = 1 ∨ many = 2 ∨ many = 3 ∨ many = 4 ∨ many = 5 := by omega
        rcases this with rfl | rfl | rfl | rfl | rfl | rfl <;> decide
      rw [ef]
      refine ⟨by omega, by unfold inR; omega, by unfold inR; omega, by unfold inR; omega, ?_⟩
      have R := ih (t + 1) (a_up g 70 (many : Int) t) (many + 1) (by omega) (by omega) (fun c c1 => (a_up_ne c1).trans (f c c1)) ?_
      · exact R
      · rw [a_up_fn, os]
        exact ok.push
    · rw [if_neg y, List.append_nil] at os
      have R := ih (t + 1) g many (by omega) (by omega) f (by rw [os]; exact ok)
      exact R
theorem alone_nn {n M v : Int} {mach bf ls af : Int → Int} (h : aloneIs n mach bf ls af M v) : 0 ≤ v := by
  obtain ⟨p, -, e⟩ := List.mem_map.1 h.1
  rw [← e]
  exact ovL_ge bf ls af p 0 0
/-- .. kept, if it was found once -/
theorem r_atBest {h : aH} {Q : aQ} {M : Int} (hs : cShop h) (hb : cBA h) (hc : cCnt h) (hA : sAlone h) (hM : 0 ≤ M ∧ M < 5) (k1 : 6 < cSz h M → Q (-7) h) (k2 : ∀ g v, cSz h M ≤ 6 → (∀ c, c ≠ 70 → c ≠ 72 → g c = h c) → sAlone g → aloneIs (h 3 1) (h 6) (h 8) (h 7) (h 9) M v → Q v g) : aRun mX0_atBest 3 [aR 69, aR 3, aI M] h Q := by
  have sl := hs.2.at hM.1 hM.2
  have hn := hs.1.1
  have esz : f_X5_tasksOn h M = cSz h M := rfl
  have e2 : cSz h M = h 10 (M + 1) - h 10 M := rfl
  refine e_X0_atBest ⟨by unfold o_X5_tasksOn inR; omega, fun z => ⟨hM, fun y => ?_, fun y => ?_⟩, fun z => k1 (by omega)⟩
  · refine r_least hs hb hc hM (by omega) (fun g v f al => k2 _ v (by omega) (fun c c1 c2 => (a_up_ne c2).trans (f c c1)) (fun M' a b => ?_) al)
    have a' : ∀ j, 3 ≤ j → j ≤ 10 → a_up g 72 M v j = h j := fun j j1 j2 => (a_up_ne (by omega)).trans (f j (by omega))
    rw [a' 3 (by omega) (by omega), a' 6 (by omega) (by omega), a' 7 (by omega) (by omega), a' 8 (by omega) (by omega), a' 9 (by omega) (by omega), a_up_at]
    by_cases e : M' = M
    · rw [if_pos e, e]; exact Or.inr al
    · rw [if_neg e, f 72 (by omega)]; exact hA M' a b
  · refine k2 h _ (by omega) (fun _ _ _ => rfl) hA ?_
    rcases hA M hM.1 hM.2 with w | w
    · exact absurd w y
    · exact w
