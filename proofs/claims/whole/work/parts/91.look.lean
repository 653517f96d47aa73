/-! ALL ORDERS on the class: looked at -/
theorem get_era : ∀ (l : List Int) (i : Nat), i < l.length → (l.getD i 0 :: l.eraseIdx i).Perm l := by
  intro l
  induction l with
  | nil => intro i h; exact absurd h (by show ¬ i < 0; omega)
  | cons a l ih =>
    intro i h
    rcases i with _ | i
    · exact List.Perm.refl _
    · have h' : i < l.length := by
        have : i + 1 < l.length + 1 := h
        omega
      have e : ((a :: l).getD (i + 1) 0 :: (a :: l).eraseIdx (i + 1)) = (l.getD i 0 :: a :: l.eraseIdx i) := rfl
      rw [e]
      exact (List.Perm.swap a (l.getD i 0) (l.eraseIdx i)).trans (List.Perm.cons a (ih i h'))
theorem pmL_isPerm : ∀ (N : Nat) (l p : List Int), l.length = N → p ∈ pmL l → p.Perm l := by
  intro N
  induction N with
  | zero =>
    intro l p e hp
    have : l = [] := List.length_eq_zero_iff.1 e
    subst this
    have : p = [] := List.mem_singleton.1 hp
    subst this
    exact List.Perm.refl _
  | succ N ih =>
    intro l p e hp
    have ne : l ≠ [] := fun w => by rw [w] at e; exact absurd e (by show ¬ (0 = N + 1); omega)
    obtain ⟨i, r, hi, hr, e2⟩ := (pmL_cons ne p).1 hp
    have el : (l.eraseIdx i).length = N := by rw [List.length_eraseIdx_of_lt hi]; omega
    rw [e2]
    exact (List.Perm.cons _ (ih _ r el hr)).trans (get_era l i hi)
theorem onM_nodup {n : Int} {mach : Int → Int} {M : Int} : (onM n mach M).Nodup := List.Pairwise.imp (fun h => by intro e; omega) (onM_grow (n := n) (mach := mach) (M := M))
theorem onM_in {n M t : Int} {mach : Int → Int} (h0 : 0 ≤ t) (h1 : t < n) (e : mach t = M) : t ∈ onM n mach M := by
  unfold onM lsN
  rw [List.mem_filter, List.mem_map]
  exact ⟨⟨t.toNat, List.mem_range.2 (by omega), by omega⟩, by simpa using e⟩
/-- five rows, each of the tasks of its machine: valid orders -/
theorem ofL_ok {n : Int} {mach sz : Int → Int} {d : List (List Int)} (hm : ∀ t, 0 ≤ t → t < n → 0 ≤ mach t ∧ mach t < 5) (hd : ∀ M : Nat, M < 5 → (d.getD M []).Perm (onM n mach M)) (hz : ∀ M : Nat, M < 5 → sz M = (d.getD M []).length) : okOrd n mach sz (ofL d) := by
  have at' : ∀ (M : Int) (k : Int), 0 ≤ M → M < 5 → 0 ≤ k → k < sz M → ∃ (h : k.toNat < (d.getD M.toNat []).length), ofL d M k = (d.getD M.toNat [])[k.toNat] := by
    intro M k a b c e
    have z := hz M.toNat (by omega)
    rw [show ((M.toNat : Nat) : Int) = M by omega] at z
    refine ⟨by omega, ?_⟩
    unfold ofL
    rw [List.getD_eq_getElem?_getD, List.getElem?_eq_getElem (by omega)]
    rfl
  refine ⟨fun M k a b c e => ?_, fun M k k' a b c e c' e' q => ?_, fun t a b => ?_⟩
  · obtain ⟨h, e1⟩ := at' M k a b c e
    have m : ofL d M k ∈ onM n mach M.toNat := by
      rw [e1]
      exact (hd M.toNat (by omega)).mem_iff.1 (List.getElem_mem h)
    rw [show ((M.toNat : Nat) : Int) = M by omega] at m
    exact onM_mem m
  · obtain ⟨h, e1⟩ := at' M k a b c e
    obtain ⟨h', e1'⟩ := at' M k' a b c' e'
    rw [e1, e1'] at q
    have nd : (d.getD M.toNat []).Nodup := (hd M.toNat (by omega)).nodup_iff.2 onM_nodup
    have := (List.getElem_inj nd).1 q
    omega
  · have m := hm t a b
    have mem : t ∈ d.getD (mach t).toNat [] := (hd (mach t).toNat (by omega)).mem_iff.2 (by
      rw [show (((mach t).toNat : Nat) : Int) = mach t by omega]
      exact onM_in a b rfl)
    obtain ⟨i, hi, e⟩ := List.mem_iff_getElem.1 mem
    have z := hz (mach t).toNat (by omega)
    rw [show (((mach t).toNat : Nat) : Int) = mach t by omega] at z
    obtain ⟨h, e1⟩ := at' (mach t) (i : Int) m.1 m.2 (by omega) (by omega)
    exact ⟨i, by omega, by omega, by rw [e1]; exact e⟩
theorem onM_at {mach : Int → Int} {M : Int} : ∀ (n : Nat) (t : Int), 0 ≤ t → t < (n : Int) → mach t = M → (onM n mach M)[(cnM mach M t).toNat]? = some t := by
  intro n
  induction n with
  | zero => intro t a b; omega
  | succ n ih =>
    intro t a b e
    rw [show ((n + 1 : Nat) : Int) = (n : Int) + 1 by omega, onM_succ (by omega)]
    have ln := onM_len (mach := mach) (M := M) n
    have cr := cnM_rng (mach := mach) (M := M) a
    by_cases y : t = n
    · rw [y] at e
      rw [if_pos e, List.getElem?_append_right (by rw [y]; omega), y]
      have : (cnM mach M n).toNat - (onM n mach M).length = 0 := by omega
      rw [this]
      rfl
    · have r := ih t a (by omega) e
      have lt := (List.getElem?_eq_some_iff.mp r).1
      rw [List.getElem?_append_left lt]
      exact r
theorem ordN.okMv {n : Int} {mach sz : Int → Int} {o : Int → Int → Int} (h : ordN n mach o) (hn : 0 ≤ n) (hz : ∀ M, 0 ≤ M → M < 5 → sz M = cnM mach M n) {M : Int} (a : 0 ≤ M) (b : M < 5) : okMv (onM n mach M) (o M) (sz M) := by
  have ln := onM_len (mach := mach) (M := M) n.toNat
  rw [show ((n.toNat : Nat) : Int) = n by omega] at ln
  refine ⟨by rw [hz M a b]; exact ln.symm, fun i hi => ?_⟩
  have q := h.at hn hz a b (k := (i : Int)) (by omega) (by rw [hz M a b]; omega)
  have r := onM_at (mach := mach) (M := M) n.toNat (o M i) q.1.1 (by omega) q.2.1
  rw [show ((n.toNat : Nat) : Int) = n by omega, q.2.2, show ((i : Int)).toNat = i by omega] at r
  exact r
theorem ordN.noR {n nj : Int} {job place mach l sz : Int → Int} {o : Int → Int → Int} (hs : okShop n nj job place mach l) (h : ordN n mach o) (hz : ∀ M, 0 ≤ M → M < 5 → sz M = cnM mach M n) : noR n (jA place) sz o := by
  intro pa pn hl
  have hn := hs.1
  have hm : ∀ t, 0 ≤ t → t < n → 0 ≤ mach t ∧ mach t < 5 := fun t a b => (hs.2.2.1 t a b).2.2.1
  have ho := h.ok hn.1 hm hz
  refine ⟨fun t => t, fun t a b => ?_⟩
  show (0 ≤ t ∧ t < 24) ∧ (0 ≤ jA place t → jA place t < t) ∧ (0 ≤ pa t → pa t < t)
  refine ⟨by omega, fun w => ?_, fun w => ?_⟩
  · have d := (hs.dual t a b).1
    rcases jA_cases (place := place) t with ⟨-, y⟩ | ⟨-, y⟩
    · omega
    · omega
  · obtain ⟨k, k0, k1, e⟩ := ho.2.2 t a b
    have m := hm t a b
    have q := (hl (mach t) k m.1 m.2 k0 k1).1
    rw [e] at q
    by_cases z : k ≤ 0
    · rw [if_pos z] at q; omega
    · rw [if_neg z] at q
      have p1 := h.at hn.1 hz m.1 m.2 (k := k - 1) (by omega) (by omega)
      have p2 := h.at hn.1 hz m.1 m.2 k0 k1
      rw [e] at p2
      rw [q]
      refine Classical.byContradiction (fun y => ?_)
      have mono := cnM_mono (mach := mach) (M := mach t) (o (mach t) (k - 1) - t).toNat t a
      rw [show t + ((o (mach t) (k - 1) - t).toNat : Int) = o (mach t) (k - 1) by omega] at mono
      omega
/-! the figures -/
theorem dq_shift {s : Nat → Nat} : ∀ (M w : Nat), dq s (M + 1) w = dq (fun i => s (i + 1)) M (w / fct (s 0)) := by
  intro M
  induction M with
  | zero => intro w; rfl
  | succ M ih =>
    intro w
    show dq s (M + 1) w / fct (s (M + 1)) = dq (fun i => s (i + 1)) M (w / fct (s 0)) / fct (s (M + 1))
    rw [ih]
theorem decL_get : ∀ (Ps : List (List (List Int))) (s : Nat → Nat), (∀ M, M < Ps.length → (Ps.getD M []).length = fct (s M)) → ∀ (M w : Nat), M < Ps.length → (decL Ps w).getD M [] = (Ps.getD M []).getD (dg s M w) [] := by
  intro Ps
  induction Ps with
  | nil => intro s _ M w h; exact absurd h (by show ¬ M < 0; omega)
  | cons P Ps ih =>
    intro s hl M w h
    have l0 : P.length = fct (s 0) := hl 0 (by show 0 < Ps.length + 1; omega)
    rcases M with _ | M
    · show P.getD (w % P.length) [] = P.getD (dg s 0 w) []
      rw [l0]
      rfl
    · have h' : M < Ps.length := by
        have : M + 1 < Ps.length + 1 := h
        omega
      have r := ih (fun i => s (i + 1)) (fun M' x => hl (M' + 1) (by show M' + 1 < Ps.length + 1; omega)) M (w / P.length) h'
      show (decL Ps (w / P.length)).getD M [] = (Ps.getD M []).getD (dg s (M + 1) w) []
      rw [r]
      congr 1
      show dq (fun i => s (i + 1)) M (w / P.length) % fct (s (M + 1)) = dq s (M + 1) w % fct (s (M + 1))
      rw [dq_shift, l0]
def psL (n : Int) (mach : Int → Int) : List (List (List Int)) := [0, 1, 2, 3, 4].map (fun M => pmL (onM n mach M))
theorem psL_get {n : Int} {mach : Int → Int} {M : Nat} (h : M < 5) : (psL n mach).getD M [] = pmL (onM n mach M) := by
  have : M = 0 ∨ M = 1 ∨ M = 2 ∨ M = 3 ∨ M = 4 := by omega
  rcases this with rfl | rfl | rfl | rfl | rfl <;> rfl
theorem pmL_len {l : List Int} (h : l.length ≤ 6) : (pmL l).length = fct l.length := by
  have e : l = toL (fnL l) l.length := (toL_fnL rfl).symm
  have q := (pm_ok h).2.1
  conv => lhs; rw [e, toL_ix, pmL_map]
  rw [List.length_map, q]
theorem szL_ps {n : Int} {mach : Int → Int} {s : Nat → Nat} (h : ∀ M : Nat, M < 5 → (onM n mach M).length = s M ∧ s M ≤ 6) : szL (psL n mach) = preW s 5 := by
  have e : ∀ M : Nat, M < 5 → (pmL (onM n mach M)).length = fct (s M) := fun M hM => by
    rw [pmL_len (by rw [(h M hM).1]; exact (h M hM).2), (h M hM).1]
  have e0 := e 0 (by omega)
  have e1 := e 1 (by omega)
  have e2 := e 2 (by omega)
  have e3 := e 3 (by omega)
  have e4 := e 4 (by omega)
  show (pmL (onM n mach ((0 : Nat) : Int))).length * ((pmL (onM n mach ((1 : Nat) : Int))).length * ((pmL (onM n mach ((2 : Nat) : Int))).length * ((pmL (onM n mach ((3 : Nat) : Int))).length * ((pmL (onM n mach ((4 : Nat) : Int))).length * 1)))) = 1 * fct (s 0) * fct (s 1) * fct (s 2) * fct (s 3) * fct (s 4)
  rw [e0, e1, e2, e3, e4, Nat.mul_one, Nat.one_mul]
  simp only [Nat.mul_assoc]
theorem six_le {k : Nat} (h : fct k ≤ 720) : k ≤ 6 := by
  refine Classical.byContradiction (fun z => ?_)
  have := fct_mono (k - 7) 7
  rw [show 7 + (k - 7) = k by omega] at this
  have e : fct 7 = 5040 := by decide
  omega
theorem fct_le_pre {s : Nat → Nat} {M : Nat} (h : M < 5) : fct (s M) ≤ preW s 5 := by
  have a := preW_ge (s := s) (M := M) (k := s M) (Nat.le_refl _) h
  have b := Nat.le_mul_of_pos_left (fct (s M)) (preW_pos s M)
  omega
set_option maxHeartbeats 1000000 in
theorem r_lookAtAll {h : aH} {Q : aQ} (hs : cShop h) (hc : cCnt h) (hn0 : 0 < h 3 1) (hw : preW (sN (cSz h)) 5 ≤ 720) (k : ∀ g, (∀ c, (c < 29 ∨ 37 < c) → c ≠ 73 → c ≠ 74 → g c = h c) → evOK (h 3 1) (jA (h 5)) (h 7) (cSz h) (h 6) (g 73 2) (g 73 3) → Q 0 g) : aRun mX2_lookAtAll 3 [aR 73, aR 3, aR 29, aI (preW (sN (cSz h)) 5 : Nat)] h Q := by
  have hn := hs.1.1
  have s6 : ∀ M : Nat, M < 5 → sN (cSz h) M ≤ 6 := fun M x => six_le (by have := fct_le_pre (s := sN (cSz h)) x; omega)
  have cz : ∀ M, 0 ≤ M → M < 5 → cSz h M = cnM (h 6) M (h 3 1) := fun M a b => hc M a b
  have szs : ∀ M : Nat, M < 5 → ((sN (cSz h) M : Nat) : Int) = h 10 ((M : Int) + 1) - h 10 M := by
    intro M x
    have q := hs.2.at (m := (M : Int)) (by omega) (by omega)
    unfold sN cSz
    omega
  have lens : ∀ M : Nat, M < 5 → (onM (h 3 1) (h 6) M).length = sN (cSz h) M := by
    intro M x
    have ln := onM_len (mach := h 6) (M := (M : Int)) (h 3 1).toNat
    rw [show (((h 3 1).toNat : Nat) : Int) = h 3 1 by omega, ← cz M (by omega) (by omega)] at ln
    unfold sN
    omega
  refine e_X2_lookAtAll ?_
  generalize hg0 : a_up (a_up h 73 2 0) 73 3 0 = g0
  have f0 : ∀ c, c ≠ 73 → g0 c = h c := fun c c1 => by rw [← hg0, a_up_ne c1, a_up_ne c1]
  have a0' : ∀ k, 3 ≤ k → k ≤ 10 → g0 k = h k := fun k k1 k2 => f0 k (by omega)
  have eS0 : cSz g0 = cSz h := by unfold cSz; rw [a0' 10 (by omega) (by omega)]
  refine r_byNum (r := 74) (Or.inr rfl) (hs.congr a0') (by
    unfold cCnt at hc ⊢
    rw [eS0, a0' 3 (by omega) (by omega), a0' 6 (by omega) (by omega)]
    exact hc) (fun g1 f1 oN => ?_)
  rw [a0' 3 (by omega) (by omega), a0' 6 (by omega) (by omega)] at oN
  have F1 : ∀ c, c ≠ 73 → c ≠ 74 → g1 c = h c := fun c c1 c2 => (f1 c c2).trans (f0 c c1)
  have v2 : g1 73 2 = 0 := by rw [f1 73 (by omega), ← hg0, a_up_off (by omega), a_up_eq]
  -- the first orders
  generalize haa : (fun (M : Nat) => sgF g1 74 (h 10 M)) = aa
  have eo : ∀ M : Nat, cO g1 74 (M : Int) = aa M := fun M => by
    rw [← haa]
    funext x
    show g1 74 (g1 10 M + x) = g1 74 (h 10 M + x)
    rw [F1 10 (by omega) (by omega)]
  have okA : ∀ M : Nat, M < 5 → okMv (onM (h 3 1) (h 6) M) (aa M) (sN (cSz h) M) := by
    intro M x
    have q := oN.okMv hn.1 cz (M := (M : Int)) (by omega) (by omega)
    rw [eo M] at q
    have : cSz h (M : Int) = ((sN (cSz h) M : Nat) : Int) := by rw [szs M x]; rfl
    rw [this] at q
    exact q
  have grA : ∀ M : Nat, M < 5 → grow (sN (cSz h) M) (aa M) := fun M x => (okA M x).grow onM_grow
  have lA : ∀ M : Nat, M < 5 → onM (h 3 1) (h 6) M = toL (aa M) (sN (cSz h) M) := fun M x => (okMv_toL (okA M x) : onM (h 3 1) (h 6) M = toL (aa M) (((sN (cSz h) M : Nat) : Int)).toNat)
  have st0 : stC (h 10) (sN (cSz h)) aa 0 g1 := by
    intro M x
    have e : dg (sN (cSz h)) M 0 = 0 := by
      have : ∀ M : Nat, dq (sN (cSz h)) M 0 = 0 := by
        intro M
        induction M with
        | zero => rfl
        | succ M ih => show dq (sN (cSz h)) M 0 / _ = 0; rw [ih]; exact Nat.zero_div _
      show dq (sN (cSz h)) M 0 % _ = 0
      rw [this M]
      exact Nat.zero_mod _
    rw [e]
    have z := atW.zero (s := sN (cSz h) M) (a := aa M) (s6 M x)
    have e2 : sgF g1 74 (h 10 M) = aa M := by rw [← haa]
    rw [e2]
    exact z
  -- what a state says
  have stD : ∀ (w : Nat) (g : aH), stC (h 10) (sN (cSz h)) aa w g → ∀ M : Nat, M < 5 → (decL (psL (h 3 1) (h 6)) w).getD M [] = toL (sgF g 74 (h 10 M)) (sN (cSz h) M) := by
    intro w g H M x
    have hl : ∀ M, M < (psL (h 3 1) (h 6)).length → ((psL (h 3 1) (h 6)).getD M []).length = fct (sN (cSz h) M) := by
      intro M x
      have x : M < 5 := x
      rw [psL_get x, pmL_len (by rw [lens M x]; exact s6 M x), lens M x]
    have dlt : dg (sN (cSz h)) M w < fct (sN (cSz h) M) := Nat.mod_lt _ (fct_pos _)
    rw [decL_get _ (sN (cSz h)) hl M w x, psL_get x, (H M x).list (s6 M x) dlt, lA M x, toL_ix, pmL_map]
    rw [List.getD_eq_getElem?_getD, List.getElem?_map, pw_get (s6 M x) dlt]
    rfl
  have stO : ∀ (w : Nat) (g : aH), g 10 = h 10 → stC (h 10) (sN (cSz h)) aa w g → sameO (cSz h) (ofL (decL (psL (h 3 1) (h 6)) w)) (cO g 74) := by
    intro w g e10 H M k k0 k1 k2 k3
    have q := stD w g H M.toNat (by omega)
    have z := szs M.toNat (by omega)
    rw [show ((M.toNat : Nat) : Int) = M by omega] at q z
    have k3 : k < h 10 (M + 1) - h 10 M := k3
    show fnL ((decL (psL (h 3 1) (h 6)) w).getD M.toNat []) k = g 74 (g 10 M + k)
    rw [q, fnL_toL k2 (by omega), e10]
    rfl
  have stK : ∀ (w : Nat) (g : aH), stC (h 10) (sN (cSz h)) aa w g → okOrd (h 3 1) (h 6) (cSz h) (ofL (decL (psL (h 3 1) (h 6)) w)) := by
    intro w g H
    refine ofL_ok hs.mach (fun M x => ?_) (fun M x => ?_)
    · rw [stD w g H M x]
      have dlt : dg (sN (cSz h)) M w < fct (sN (cSz h) M) := Nat.mod_lt _ (fct_pos _)
      rw [(H M x).list (s6 M x) dlt, lA M x]
      refine pmL_isPerm _ _ _ rfl ?_
      exact (pmL_mem (s6 M x) _).2 ⟨_, dlt, rfl⟩
    · rw [stD w g H M x, toL_len, szs M x]
      rfl
  -- the loop
  suffices H : ∀ (d w : Nat) (g : aH), w ≤ preW (sN (cSz h)) 5 → preW (sN (cSz h)) 5 - w ≤ d → (∀ c, (c < 29 ∨ 37 < c) → c ≠ 73 → c ≠ 74 → g c = h c) → stC (h 10) (sN (cSz h)) aa w g → g 73 2 = (spL (h 3 1) (jA (h 5)) (h 7) (cSz h) ((List.range w).map (decL (psL (h 3 1) (h 6))))).length → (spL (h 3 1) (jA (h 5)) (h 7) (cSz h) ((List.range w).map (decL (psL (h 3 1) (h 6)))) = [] ∨ isMn (spL (h 3 1) (jA (h 5)) (h 7) (cSz h) ((List.range w).map (decL (psL (h 3 1) (h 6))))) (g 73 3)) → AW mX2_lookAtAll 3 21 [some (aR 73), some (aR 3), some (aR 29), some (aI (preW (sN (cSz h)) 5 : Nat)), some (aI (w : Int))] [] g Q from
    H 720 0 g1 (by omega) (by omega) (fun c _ c2 c3 => F1 c c2 c3) st0 (by rw [v2]; rfl) (Or.inl rfl)
  have fin : ∀ (w : Nat) (g : aH), w = preW (sN (cSz h)) 5 → (∀ c, (c < 29 ∨ 37 < c) → c ≠ 73 → c ≠ 74 → g c = h c) → g 73 2 = (spL (h 3 1) (jA (h 5)) (h 7) (cSz h) ((List.range w).map (decL (psL (h 3 1) (h 6))))).length → (spL (h 3 1) (jA (h 5)) (h 7) (cSz h) ((List.range w).map (decL (psL (h 3 1) (h 6)))) = [] ∨ isMn (spL (h 3 1) (jA (h 5)) (h 7) (cSz h) ((List.range w).map (decL (psL (h 3 1) (h 6))))) (g 73 3)) → Q 0 g := by
    intro w g ew f hl hm
    refine k g f ?_
    have es : szL (psL (h 3 1) (h 6)) = w := by rw [ew]; exact szL_ps (fun M x => ⟨lens M x, s6 M x⟩)
    have pp : ∀ P ∈ psL (h 3 1) (h 6), 0 < P.length := by
      intro P hP
      obtain ⟨M, hM, e⟩ := List.mem_map.1 hP
      have : M = 0 ∨ M = 1 ∨ M = 2 ∨ M = 3 ∨ M = 4 := by simpa using hM
      have x : ∃ M' : Nat, M' < 5 ∧ (M' : Int) = M := ⟨M.toNat, by omega, by omega⟩
      obtain ⟨M', x1, x2⟩ := x
      rw [← e, ← x2, pmL_len (by rw [lens M' x1]; exact s6 M' x1)]
      exact fct_pos _
    have pm := decL_perm (psL (h 3 1) (h 6)) pp
    rw [es] at pm
    have pf : (spL (h 3 1) (jA (h 5)) (h 7) (cSz h) ((List.range w).map (decL (psL (h 3 1) (h 6))))).Perm (spL (h 3 1) (jA (h 5)) (h 7) (cSz h) (allD (h 3 1) (h 6))) := List.Perm.filterMap _ pm
    refine ⟨by rw [hl, pf.length_eq], ?_⟩
    rcases hm with e | mn
    · exfalso
      have wpos : 0 < w := by rw [ew]; exact preW_pos _ _
      have m0 : decL (psL (h 3 1) (h 6)) 0 ∈ (List.range w).map (decL (psL (h 3 1) (h 6))) := List.mem_map.2 ⟨0, List.mem_range.2 wpos, rfl⟩
      have so := stO 0 g1 (F1 10 (by omega) (by omega)) st0
      have oN' : noR (h 3 1) (jA (h 5)) (cSz h) (cO g1 74) := ordN.noR hs.1 oN cz
      have nr : noR (h 3 1) (jA (h 5)) (cSz h) (ofL (decL (psL (h 3 1) (h 6)) 0)) := oN'.same so.symm (fun _ _ _ => rfl)
      have : ∃ v, spO (h 3 1) (jA (h 5)) (h 7) (cSz h) (ofL (decL (psL (h 3 1) (h 6)) 0)) = some v := by
        unfold spO
        rw [if_pos nr]
        exact ⟨_, rfl⟩
      obtain ⟨v, hv⟩ := this
      have mem : v ∈ spL (h 3 1) (jA (h 5)) (h 7) (cSz h) ((List.range w).map (decL (psL (h 3 1) (h 6)))) := List.mem_filterMap.2 ⟨_, m0, hv⟩
      rw [e] at mem
      exact absurd mem (by simp)
    · exact mn.mem (fun x => pf.mem_iff)
  intro d
  induction d with
  | zero =>
    intro w g w1 hd f st hl hm
    exact s_X2_lookAtAll_21 ⟨fun _ => fin w g (by omega) f hl hm, fun y => by omega⟩
  | succ d ih =>
    intro w g w1 hd f st hl hm
    refine s_X2_lookAtAll_21 ⟨fun y => fin w g (by omega) f hl hm, fun y => ?_⟩
    have a' : ∀ k, 3 ≤ k → k ≤ 10 → g k = h k := fun k k1 k2 => f k (by omega) (by omega) (by omega)
    have e10 := a' 10 (by omega) (by omega)
    have eS : cSz g = cSz h := by unfold cSz; rw [e10]
    have so := stO w g e10 st
    have sk := stK w g st
    have ho : okOrd (g 3 1) (g 6) (cSz g) (cO g 74) := by
      rw [a' 3 (by omega) (by omega), a' 6 (by omega) (by omega), eS]
      exact sk.same hs.mach so
    refine r_lay (x := 29) (Or.inr rfl) (r := 74) (Or.inr rfl) (hs.congr a') ho (fun g2 L => ?_)
    obtain ⟨hf, hR, hN, hcase⟩ := L
    rw [eS] at hN
    rw [a' 3 (by omega) (by omega), a' 5 (by omega) (by omega)] at hcase
    have hN : lnkN (cSz h) (cO g 74) (g2 31) (g2 32) := hN
    have hN' := hN.of so.symm
    have lr : (List.range (w + 1)).map (decL (psL (h 3 1) (h 6))) = (List.range w).map (decL (psL (h 3 1) (h 6))) ++ [decL (psL (h 3 1) (h 6)) w] := by
      rw [List.range_succ, List.map_append]
      rfl
    have sp1 : spL (h 3 1) (jA (h 5)) (h 7) (cSz h) ((List.range (w + 1)).map (decL (psL (h 3 1) (h 6)))) = spL (h 3 1) (jA (h 5)) (h 7) (cSz h) ((List.range w).map (decL (psL (h 3 1) (h 6)))) ++ [decL (psL (h 3 1) (h 6)) w].filterMap (fun d => spO (h 3 1) (jA (h 5)) (h 7) (cSz h) (ofL d)) := by
      unfold spL
      rw [lr, List.filterMap_append]
    have hf' : ∀ c, (c < 29 ∨ 37 < c) → g2 c = g c := fun c hc' => hf c (by omega)
    have nextS : ∀ g3 : aH, g3 74 = g 74 → stC (h 10) (sN (cSz h)) aa w g3 := by
      intro g3 e M x
      have := st M x
      have e2 : sgF g3 74 (h 10 M) = sgF g 74 (h 10 M) := by unfold sgF; rw [e]
      rw [e2]
      exact this
    refine ⟨fun z => ?_, fun z => ?_⟩
    · -- no ring
      rcases hcase with ⟨q, -⟩ | ⟨-, c1, c2, c3, -, c5⟩
      · omega
      have c1 : acyc (h 3 1) (jA (h 5)) (g2 31) := c1
      have e7 : g 7 = h 7 := a' 7 (by omega) (by omega)
      rw [e7] at c2 c3
      have sv : spO (h 3 1) (jA (h 5)) (h 7) (cSz h) (ofL (decL (psL (h 3 1) (h 6)) w)) = some (g2 29 9) := spO_some hn0 sk hs.mach (jA_lt hs) hN' c1 c2 c3
      have e1 : [decL (psL (h 3 1) (h 6)) w].filterMap (fun d => spO (h 3 1) (jA (h 5)) (h 7) (cSz h) (ofL d)) = [g2 29 9] := by
        rw [List.filterMap_cons, sv]
        rfl
      rw [e1] at sp1
      have l720 : (spL (h 3 1) (jA (h 5)) (h 7) (cSz h) ((List.range w).map (decL (psL (h 3 1) (h 6))))).length ≤ w := by
        have := List.length_filterMap_le (fun d => spO (h 3 1) (jA (h 5)) (h 7) (cSz h) (ofL d)) ((List.range w).map (decL (psL (h 3 1) (h 6))))
        rw [List.length_map, List.length_range] at this
        exact this
      rw [hf' 73 (by omega)]
      refine ⟨by clear hm; unfold inR; omega, ?_⟩
      generalize hg3 : a_up (a_up g2 73 3 (if g 73 2 = 0 then g2 29 9 else min (g 73 3) (g2 29 9))) 73 2 (g 73 2 + 1) = g3
      have f3 : ∀ c, (c < 29 ∨ 37 < c) → c ≠ 73 → g3 c = g c := fun c c1 c2 => by rw [← hg3, a_up_ne c2, a_up_ne c2]; exact hf' c c1
      refine r_nextOfAll (σ := h 10) (n := h 3 1) hs.2 hn.2 (fun M x => ⟨szs M x, s6 M x⟩) grA (by rw [f3 10 (by omega) (by omega)]; exact e10) (nextS g3 (f3 74 (by omega) (by omega))) (fun g4 f4 st4 => ⟨by clear hm; unfold inR; omega, ?_⟩)
      have w2 : g4 73 2 = g 73 2 + 1 := by rw [f4 73 (by omega), ← hg3, a_up_eq]
      have w3 : g4 73 3 = if g 73 2 = 0 then g2 29 9 else min (g 73 3) (g2 29 9) := by rw [f4 73 (by omega), ← hg3, a_up_off (by omega), a_up_eq]
      have R := ih (w + 1) g4 (by clear hm; omega) (by clear hm; omega) (fun c c1 c2 c3 => (f4 c c3).trans ((f3 c c1 c2).trans (f c c1 c2 c3))) st4 ?_ (Or.inr ?_)
      · exact R
      · rw [sp1, List.length_append, w2, hl]
        show _ = (((_ + 1 : Nat)) : Int)
        rw [Int.natCast_add]
        rfl
      · rw [sp1, w3]
        rcases hm with e | mn
        · rw [e] at hl ⊢
          rw [if_pos (by rw [hl]; rfl)]
          exact ⟨List.mem_singleton.2 rfl, fun x hx => by
            have : x = g2 29 9 := List.mem_singleton.1 hx
            rw [this]; exact Int.le_refl _⟩
        · have ne : ¬ g 73 2 = 0 := by
            intro e
            rw [hl] at e
            have := List.length_eq_zero_iff.1 (Int.ofNat_inj.1 e)
            rw [this] at mn
            exact absurd mn.1 (by simp)
          rw [if_neg ne]
          refine ⟨?_, fun x hx => ?_⟩
          · rw [List.mem_append]
            by_cases le : g 73 3 ≤ g2 29 9
            · rw [Int.min_eq_left le]; exact Or.inl mn.1
            · rw [Int.min_eq_right (by omega)]; exact Or.inr (List.mem_singleton.2 rfl)
          · rw [List.mem_append] at hx
            rcases hx with hx | hx
            · have := mn.2 x hx
              omega
            · have := List.mem_singleton.1 hx
              omega
    · -- a ring
      rcases hcase with ⟨-, q⟩ | ⟨q, -⟩
      · have q : ¬ acyc (h 3 1) (jA (h 5)) (g2 31) := q
        have sv := spO_ring (l := h 7) hN' q
        have e1 : [decL (psL (h 3 1) (h 6)) w].filterMap (fun d => spO (h 3 1) (jA (h 5)) (h 7) (cSz h) (ofL d)) = [] := by
          rw [List.filterMap_cons, sv]
          rfl
        rw [e1, List.append_nil] at sp1
        refine r_nextOfAll (σ := h 10) (n := h 3 1) hs.2 hn.2 (fun M x => ⟨szs M x, s6 M x⟩) grA (by rw [hf' 10 (by omega)]; exact e10) (nextS g2 (hf' 74 (by omega))) (fun g4 f4 st4 => ⟨by clear hm; unfold inR; omega, ?_⟩)
        have R := ih (w + 1) g4 (by clear hm; omega) (by clear hm; omega) (fun c c1 c2 c3 => (f4 c c3).trans ((hf' c c1).trans (f c c1 c2 c3))) st4 ?_ ?_
        · exact R
        · rw [sp1, f4 73 (by omega), hf' 73 (by omega)]; exact hl
        · rw [sp1, f4 73 (by omega), hf' 73 (by omega)]; exact hm
      · exact absurd q z
