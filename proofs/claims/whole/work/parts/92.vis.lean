/-! ALL ORDERS on the reference: what is visited -/
def Vis (pre : List (List Int)) (p r : List Int) (ts : List (List Int)) : List (List (List Int)) := (pmL r).flatMap (fun q => (prL (ts.map pmL)).map (fun ds => pre ++ ((p ++ q) :: ds)))
theorem Vis_nil {pre : List (List Int)} {p : List Int} {ts : List (List Int)} : Vis pre p [] ts = (prL (ts.map pmL)).map (fun ds => pre ++ (p :: ds)) := by
  show ((prL (ts.map pmL)).map (fun ds => pre ++ ((p ++ []) :: ds))) ++ [] = _
  rw [List.append_nil, List.append_nil]
theorem Vis_cons {pre : List (List Int)} {p t : List Int} {ts : List (List Int)} : Vis pre p [] (t :: ts) = Vis (pre ++ [p]) [] t ts := by
  rw [Vis_nil]
  show ((pmL t).flatMap (fun x => (prL (ts.map pmL)).map (fun r => x :: r))).map (fun ds => pre ++ (p :: ds)) = _
  rw [List.map_flatMap]
  unfold Vis
  rw [List.flatMap_def, List.flatMap_def]
  refine congrArg List.flatten (List.map_congr_left (fun q _ => ?_))
  rw [List.map_map]
  refine List.map_congr_left (fun ds _ => ?_)
  show pre ++ (p :: q :: ds) = pre ++ [p] ++ (([] ++ q) :: ds)
  rw [List.append_assoc]
  rfl
theorem Vis_end {pre : List (List Int)} {p : List Int} : Vis pre p [] [] = [pre ++ [p]] := by
  rw [Vis_nil]
  rfl
theorem Vis_loop {pre : List (List Int)} {p r : List Int} {ts : List (List Int)} (hr : r ≠ []) : Vis pre p r ts = (List.range r.length).flatMap (fun i => Vis pre (p ++ [r.getD i 0]) (r.eraseIdx i) ts) := by
  unfold Vis
  rw [pmL_sl hr]
  unfold slF
  rw [List.flatMap_assoc]
  rw [List.flatMap_def, List.flatMap_def]
  refine congrArg List.flatten (List.map_congr_left (fun i _ => ?_))
  rw [List.flatMap_map, List.flatMap_def, List.flatMap_def]
  refine congrArg List.flatten (List.map_congr_left (fun q _ => ?_))
  refine List.map_congr_left (fun ds _ => ?_)
  rw [List.append_assoc]
  rfl
theorem Vis_perm {pre : List (List Int)} {p r r' : List Int} {ts : List (List Int)} (h : r.Perm r') : (Vis pre p r ts).Perm (Vis pre p r' ts) := fm_left (pmL_perm _ r r' rfl h)
theorem toL_split {g : Int → Int} {a b n : Nat} (h : a + b = n) : toL g n = toL g a ++ toL (fun j => g ((a : Int) + j)) b := by
  subst h
  unfold toL
  rw [List.range_add, List.map_append, List.map_map]
  congr 1
theorem toL_one {g : Int → Int} : toL g 1 = [g 0] := rfl
theorem toL_getD {g : Int → Int} {n i : Nat} (h : i < n) : (toL g n).getD i 0 = g i := by
  unfold toL
  rw [List.getD_eq_getElem?_getD, List.getElem?_map, List.getElem?_range h]
  rfl
/-- one of the rest comes first, what stood there takes its place -/
theorem sw_rest {f : Int → Int} {k i n : Nat} (ki : k ≤ i) (hi : i < n) : toL (swF f k i) (k + 1) = toL f k ++ [(toL (fun j => f ((k : Int) + j)) (n - k)).getD (i - k) 0] ∧ (toL (fun j => swF f k i (((k + 1 : Nat) : Int) + j)) (n - (k + 1))).Perm ((toL (fun j => f ((k : Int) + j)) (n - k)).eraseIdx (i - k)) := by
  have fk : swF f k i k = f i := by
    unfold swF
    by_cases z : (k : Int) = i
    · rw [z, up1_eq]
    · rw [up1_ne z, up1_eq]
  refine ⟨?_, ?_⟩
  · rw [toL_split (show k + 1 = k + 1 from rfl), toL_one, toL_getD (by omega)]
    congr 1
    · refine toL_congr (fun x a b => ?_)
      exact swF_out (by omega) (by omega)
    · show [swF f k i ((k : Int) + 0)] = _
      rw [Int.add_zero, fk]
      congr 2
      omega
  · have ge := get_era (toL (fun j => f ((k : Int) + j)) (n - k)) (i - k) (by rw [toL_len]; omega)
    refine List.Perm.cons_inv (a := f i) ?_
    have e0 : (toL (fun j => f ((k : Int) + j)) (n - k)).getD (i - k) 0 = f i := by
      rw [toL_getD (by omega)]
      congr 1
      omega
    rw [e0] at ge
    refine List.Perm.trans ?_ ge.symm
    rw [toL_split (show 1 + (n - (k + 1)) = n - k by omega), toL_one]
    show (f i :: _).Perm (f ((k : Int) + 0) :: _)
    rw [Int.add_zero]
    by_cases z : i = k
    · subst z
      refine List.Perm.cons _ ?_
      have : toL (fun j => swF f i i (((i + 1 : Nat) : Int) + j)) (n - (i + 1)) = toL (fun j => f ((i : Int) + (((1 : Nat) : Int) + j))) (n - (i + 1)) := by
        refine toL_congr (fun x a b => ?_)
        show swF f i i (((i + 1 : Nat) : Int) + x) = f ((i : Int) + (((1 : Nat) : Int) + x))
        rw [swF_out (by omega) (by omega)]
        congr 1
        omega
      rw [this]
      exact List.Perm.refl _
    · have sp : ∀ g : Int → Int, toL g (n - (k + 1)) = toL g (i - k - 1) ++ (g ((i - k - 1 : Nat) : Int) :: toL (fun j => g (((i - k : Nat) : Int) + j)) (n - i - 1)) := by
        intro g
        rw [toL_split (show (i - k - 1) + (1 + (n - i - 1)) = n - (k + 1) by omega), toL_split (show 1 + (n - i - 1) = 1 + (n - i - 1) from rfl), toL_one]
        congr 1
        show g (((i - k - 1 : Nat) : Int) + 0) :: _ = _
        rw [Int.add_zero]
        congr 1
        refine toL_congr (fun x a b => ?_)
        show g (((i - k - 1 : Nat) : Int) + (((1 : Nat) : Int) + x)) = g (((i - k : Nat) : Int) + x)
        congr 1
        omega
      rw [sp, sp]
      have eA : toL (fun j => swF f k i (((k + 1 : Nat) : Int) + j)) (i - k - 1) = toL (fun j => f ((k : Int) + (((1 : Nat) : Int) + j))) (i - k - 1) := by
        refine toL_congr (fun x a b => ?_)
        show swF f k i (((k + 1 : Nat) : Int) + x) = f ((k : Int) + (((1 : Nat) : Int) + x))
        rw [swF_out (by omega) (by omega)]
        congr 1
        omega
      have eB : toL (fun j => swF f k i (((k + 1 : Nat) : Int) + (((i - k : Nat) : Int) + j))) (n - i - 1) = toL (fun j => f ((k : Int) + (((1 : Nat) : Int) + (((i - k : Nat) : Int) + j)))) (n - i - 1) := by
        refine toL_congr (fun x a b => ?_)
        show swF f k i (((k + 1 : Nat) : Int) + (((i - k : Nat) : Int) + x)) = f ((k : Int) + (((1 : Nat) : Int) + (((i - k : Nat) : Int) + x)))
        rw [swF_out (by omega) (by omega)]
        congr 1
        omega
      have e1 : swF f k i (((k + 1 : Nat) : Int) + ((i - k - 1 : Nat) : Int)) = f k := by
        rw [show (((k + 1 : Nat) : Int) + ((i - k - 1 : Nat) : Int)) = (i : Int) by omega]
        unfold swF
        exact up1_eq
      have e2 : f ((k : Int) + (((1 : Nat) : Int) + ((i - k - 1 : Nat) : Int))) = f i := by congr 1; omega
      rw [eA, eB, e1, e2]
      refine (List.Perm.cons _ List.perm_middle).trans ((List.Perm.swap _ _ _).trans (List.Perm.cons _ List.perm_middle.symm))
def sgM (h : aH) (s : Nat → Nat) (M : Nat) : List Int := toL (fun j => h 90 (24 * (M : Int) + j)) (s M)
def vsH (h : aH) (s : Nat → Nat) (m k : Nat) : List (List (List Int)) :=
  if m < 5 then Vis ((List.range m).map (sgM h s)) (toL (fun j => h 90 (24 * (m : Int) + j)) k) (toL (fun j => h 90 (24 * (m : Int) + ((k : Int) + j))) (s m - k)) ((List.range' (m + 1) (4 - m)).map (sgM h s)) else [(List.range 5).map (sgM h s)]
theorem vsH_next {h : aH} {s : Nat → Nat} {m : Nat} (hm : m < 5) : vsH h s m (s m) = vsH h s (m + 1) 0 := by
  unfold vsH
  rw [if_pos hm, Nat.sub_self]
  have ez : toL (fun j => h 90 (24 * (m : Int) + (((s m : Nat) : Int) + j))) 0 = [] := rfl
  have ep : (List.range m).map (sgM h s) ++ [toL (fun j => h 90 (24 * (m : Int) + j)) (s m)] = (List.range (m + 1)).map (sgM h s) := by
    rw [List.range_succ, List.map_append]
    rfl
  rw [ez]
  by_cases z : m + 1 < 5
  · rw [if_pos z]
    have er : (List.range' (m + 1) (4 - m)).map (sgM h s) = sgM h s (m + 1) :: (List.range' (m + 1 + 1) (4 - (m + 1))).map (sgM h s) := by
      rw [show 4 - m = (4 - (m + 1)) + 1 by omega, List.range'_succ]
      rfl
    rw [er, Vis_cons, ep]
    have e2 : toL (fun j => h 90 (24 * ((m + 1 : Nat) : Int) + (((0 : Nat) : Int) + j))) (s (m + 1) - 0) = sgM h s (m + 1) := by
      refine toL_congr (fun x a b => ?_)
      show h 90 _ = h 90 _
      congr 1
      omega
    rw [e2]
    rfl
  · rw [if_neg z]
    have : m = 4 := by omega
    subst this
    show Vis _ _ [] [] = _
    rw [Vis_end, ep]
theorem vsH_loop {h : aH} {s : Nat → Nat} {m k : Nat} (hm : m < 5) (hk : k < s m) : vsH h s m k = (List.range' 0 (s m - k)).flatMap (fun i => Vis ((List.range m).map (sgM h s)) (toL (fun j => h 90 (24 * (m : Int) + j)) k ++ [(toL (fun j => h 90 (24 * (m : Int) + ((k : Int) + j))) (s m - k)).getD i 0]) ((toL (fun j => h 90 (24 * (m : Int) + ((k : Int) + j))) (s m - k)).eraseIdx i) ((List.range' (m + 1) (4 - m)).map (sgM h s))) := by
  unfold vsH
  rw [if_pos hm, Vis_loop (fun w => by have := congrArg List.length w; rw [toL_len] at this; exact absurd this (by show ¬ (s m - k = 0); omega)), toL_len, ← List.range_eq_range']
theorem sw_sg {h g : aH} {s : Nat → Nat} {m k i M : Nat} (hg : g 90 = swF (h 90) (24 * (m : Int) + k) (24 * (m : Int) + i)) (hs : s M ≤ 24) (hk : k < 24) (hi : i < 24) (ne : M ≠ m) : sgM g s M = sgM h s M := by
  refine toL_congr (fun x a b => ?_)
  show g 90 (24 * (M : Int) + x) = h 90 (24 * (M : Int) + x)
  rw [hg, swF_out (by omega) (by omega)]
theorem sw_fn {h g : aH} {m k i : Nat} (hg : g 90 = swF (h 90) (24 * (m : Int) + k) (24 * (m : Int) + i)) : (fun j => g 90 (24 * (m : Int) + j)) = swF (fun j => h 90 (24 * (m : Int) + j)) k i := by
  funext j
  show g 90 (24 * (m : Int) + j) = _
  rw [hg]
  unfold swF
  by_cases z : j = i
  · rw [z, up1_eq, up1_eq]
  · rw [up1_ne (by omega), up1_ne z]
    by_cases y : j = k
    · rw [y, up1_eq, up1_eq]
    · rw [up1_ne (by omega), up1_ne y]
theorem vsH_sw {h g : aH} {s : Nat → Nat} {m k i : Nat} (hg : g 90 = swF (h 90) (24 * (m : Int) + k) (24 * (m : Int) + i)) (hs : ∀ M, M < 5 → s M ≤ 24) (hm : m < 5) (ki : k ≤ i) (hi : i < s m) : (vsH g s m (k + 1)).Perm (Vis ((List.range m).map (sgM h s)) (toL (fun j => h 90 (24 * (m : Int) + j)) k ++ [(toL (fun j => h 90 (24 * (m : Int) + ((k : Int) + j))) (s m - k)).getD (i - k) 0]) ((toL (fun j => h 90 (24 * (m : Int) + ((k : Int) + j))) (s m - k)).eraseIdx (i - k)) ((List.range' (m + 1) (4 - m)).map (sgM h s))) := by
  have sm := hs m hm
  unfold vsH
  rw [if_pos hm]
  have r := sw_rest (f := fun j => h 90 (24 * (m : Int) + j)) ki hi
  rw [← sw_fn hg] at r
  have e1 : (List.range m).map (sgM g s) = (List.range m).map (sgM h s) := List.map_congr_left (fun M hM => by
    rw [List.mem_range] at hM
    exact sw_sg hg (hs M (by omega)) (by omega) (by omega) (by omega))
  have e2 : (List.range' (m + 1) (4 - m)).map (sgM g s) = (List.range' (m + 1) (4 - m)).map (sgM h s) := List.map_congr_left (fun M hM => by
    rw [List.mem_range'_1] at hM
    exact sw_sg hg (hs M (by omega)) (by omega) (by omega) (by omega))
  rw [e1, e2, r.1]
  exact Vis_perm r.2
theorem sg_sw {h g : aH} {s : Nat → Nat} {m k i : Nat} (hg : g 90 = swF (h 90) (24 * (m : Int) + k) (24 * (m : Int) + i)) (hs : ∀ M, M < 5 → s M ≤ 24) (hm : m < 5) (ki : k ≤ i) (hi : i < s m) : ∀ M, M < 5 → (sgM g s M).Perm (sgM h s M) := by
  intro M hM
  have sm := hs m hm
  by_cases z : M = m
  · subst z
    have r := sw_rest (f := fun j => h 90 (24 * (M : Int) + j)) ki hi
    rw [← sw_fn hg] at r
    unfold sgM
    rw [toL_split (show (k + 1) + (s M - (k + 1)) = s M by omega), r.1, toL_split (g := fun j => h 90 (24 * (M : Int) + j)) (show k + (s M - k) = s M by omega), List.append_assoc]
    refine List.Perm.append_left _ ?_
    refine (List.Perm.cons _ r.2).trans ?_
    exact get_era _ _ (by rw [toL_len]; omega)
  · rw [sw_sg hg (hs M hM) (by omega) (by omega) z]
