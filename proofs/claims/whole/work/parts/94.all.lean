/-! pair: all -/
theorem prL_mem : ∀ (Ps : List (List (List Int))) (d : List (List Int)), d ∈ prL Ps → ∀ i : Nat, i < Ps.length → d.getD i [] ∈ Ps.getD i [] := by
  intro Ps
  induction Ps with
  | nil => intro d _ i h; exact absurd h (by show ¬ i < 0; omega)
  | cons X Ps ih =>
    intro d h i hi
    obtain ⟨x, hx, hd⟩ := List.mem_flatMap.1 (show d ∈ X.flatMap (fun x => (prL Ps).map (fun r => x :: r)) from h)
    obtain ⟨r, hr, e⟩ := List.mem_map.1 hd
    subst e
    rcases i with _ | i
    · exact hx
    · have hi' : i < Ps.length := by
        have : i + 1 < Ps.length + 1 := hi
        omega
      exact ih r hr i hi'
theorem allD_mem {n : Int} {mach : Int → Int} {d : List (List Int)} (h : d ∈ allD n mach) : ∀ M : Nat, M < 5 → (d.getD M []).Perm (onM n mach M) := fun M hM => by
  have m := prL_mem (psL n mach) d h M hM
  rw [psL_get hM] at m
  exact pmL_isPerm _ _ _ rfl m
theorem onM_cgr {n : Int} {mach mach' : Int → Int} {M : Int} (h : ∀ t, 0 ≤ t → t < n → mach t = mach' t) : onM n mach M = onM n mach' M := by
  unfold onM
  refine List.filter_congr (fun x hx => ?_)
  unfold lsN at hx
  obtain ⟨i, hi, e⟩ := List.mem_map.1 hx
  rw [List.mem_range] at hi
  rw [h x (by omega) (by omega)]
theorem allD_congr {n : Int} {mach mach' : Int → Int} (h : ∀ t, 0 ≤ t → t < n → mach t = mach' t) : allD n mach = allD n mach' := by
  unfold allD
  congr 1
  exact List.map_congr_left (fun M _ => by rw [onM_cgr h])
theorem allD_len {n : Int} {mach : Int → Int} {s : Nat → Nat} (h : ∀ M : Nat, M < 5 → (onM n mach M).length = s M ∧ s M ≤ 6) : (allD n mach).length = preW s 5 := by
  have pp : ∀ P ∈ psL n mach, 0 < P.length := by
    intro P hP
    obtain ⟨M, hM, e⟩ := List.mem_map.1 hP
    have : M = 0 ∨ M = 1 ∨ M = 2 ∨ M = 3 ∨ M = 4 := by simpa using hM
    have x : ∃ M' : Nat, M' < 5 ∧ (M' : Int) = M := ⟨M.toNat, by omega, by omega⟩
    obtain ⟨M', x1, x2⟩ := x
    rw [← e, ← x2, pmL_len (by rw [(h M' x1).1]; exact (h M' x1).2)]
    exact fct_pos _
  have := (decL_perm (psL n mach) pp).length_eq
  rw [List.length_map, List.length_range, szL_ps h] at this
  exact this.symm
theorem sgM_onM {n : Int} {h : aH} {s : Nat → Nat} {mach : Int → Int} {sz : Int → Int} (ho : okOrd n mach sz (mO h)) (hz : ∀ M : Nat, M < 5 → ((s M : Nat) : Int) = sz M) : ∀ M : Nat, M < 5 → (sgM h s M).Perm (onM n mach M) := by
  intro M hM
  have z := hz M hM
  refine (List.perm_ext_iff_of_nodup ?_ onM_nodup).2 (fun x => ⟨fun hx => ?_, fun hx => ?_⟩)
  · unfold sgM toL
    rw [List.nodup_iff_pairwise_ne, List.pairwise_map]
    refine List.Pairwise.imp_of_mem ?_ (List.nodup_iff_pairwise_ne.1 List.nodup_range)
    intro a b ha hb ne e
    rw [List.mem_range] at ha hb
    have := ho.2.1 M a b (by omega) (by omega) (by omega) (by omega) (by omega) (by omega) e
    exact ne (by omega)
  · unfold sgM toL at hx
    obtain ⟨i, hi, e⟩ := List.mem_map.1 hx
    rw [List.mem_range] at hi
    have q := ho.1 M i (by omega) (by omega) (by omega) (by omega)
    have e' : mO h M i = x := e
    rw [e'] at q
    exact onM_in q.1.1 q.1.2 q.2
  · have q := onM_mem hx
    obtain ⟨k, k0, k1, e⟩ := ho.2.2 x q.1.1 q.1.2
    rw [q.2] at k1 e
    unfold sgM toL
    refine List.mem_map.2 ⟨k.toNat, List.mem_range.2 (by omega), ?_⟩
    rw [← e]
    show h 90 _ = h 90 _
    congr 1
    omega
theorem vsH_all {n : Int} {h : aH} {s : Nat → Nat} {mach : Int → Int} (hd : ∀ M : Nat, M < 5 → (sgM h s M).Perm (onM n mach M)) : (vsH h s 0 0).Perm (allD n mach) := by
  have e0 : toL (fun j => h 90 (24 * ((0 : Nat) : Int) + (((0 : Nat) : Int) + j))) (s 0 - 0) = sgM h s 0 := by
    refine toL_congr (fun x a b => ?_)
    show h 90 _ = h 90 _
    congr 1
    omega
  have e : vsH h s 0 0 = prL ((List.range 5).map (fun M => pmL (sgM h s M))) := by
    unfold vsH
    rw [if_pos (by omega), e0]
    rfl
  rw [e]
  refine prL_perm _ _ rfl (fun M hM => ?_)
  have hM : M < 5 := hM
  have : ((List.range 5).map (fun M => pmL (sgM h s M))).getD M [] = pmL (sgM h s M) := by
    have : M = 0 ∨ M = 1 ∨ M = 2 ∨ M = 3 ∨ M = 4 := by omega
    rcases this with rfl | rfl | rfl | rfl | rfl <;> rfl
  rw [this]
  show List.Perm _ ((psL n mach).getD M [])
  rw [psL_get hM]
  exact pmL_perm _ _ _ rfl (hd M hM)
theorem fMap_congr {α β : Type} {f g : α → Option β} : ∀ l : List α, (∀ a ∈ l, f a = g a) → l.filterMap f = l.filterMap g := by
  intro l
  induction l with
  | nil => intro _; rfl
  | cons a l ih =>
    intro h
    have e := h a List.mem_cons_self
    have r := ih (fun b hb => h b (List.mem_cons_of_mem _ hb))
    cases q : g a with
    | none => rw [List.filterMap_cons_none (e.trans q), List.filterMap_cons_none q, r]
    | some v => rw [List.filterMap_cons_some (e.trans q), List.filterMap_cons_some q, r]
theorem spH_same {h : aH} (hs : sShop h h) (hc : cCnt h) (hn0 : 0 < h 3 1) : spH h (allD (h 85 1) (h 88)) = spL (h 3 1) (jA (h 5)) (h 7) (cSz h) (allD (h 3 1) (h 6)) := by
  have h1 := hs.2.2.2.1
  have tb := hs.2.2.2.2.1
  have hs' := hs.1.1
  have cz : ∀ M, 0 ≤ M → M < 5 → cSz h M = cnM (h 6) M (h 3 1) := fun M a b => hc M a b
  unfold spH
  rw [h1, allD_congr (fun t a b => (tb t a b).2.2.1)]
  unfold spL
  refine fMap_congr _ (fun d hd => ?_)
  have pd := allD_mem hd
  have ln : ∀ M : Nat, M < 5 → cSz h M = (d.getD M []).length := fun M hM => by
    rw [(pd M hM).length_eq, cz M (by omega) (by omega)]
    have := onM_len (mach := h 6) (M := (M : Int)) (h 3 1).toNat
    rw [show (((h 3 1).toNat : Nat) : Int) = h 3 1 by omega] at this
    exact this.symm
  have hm : ∀ t, 0 ≤ t → t < h 3 1 → 0 ≤ h 6 t ∧ h 6 t < 5 := hs.1.mach
  refine spO_same (n := h 3 1) rfl (fun _ _ _ _ _ _ => rfl) (fun M a b => hs.2.2.2.2.2 M a b) (fun t a b => ⟨?_, (tb t a b).2.2.2⟩) (jA_lt hs.1) (h 6) (ofL_ok hm pd ln) hm hn0
  show jA (h 87) t = jA (h 5) t
  unfold jA
  rw [(tb t a b).2.1]
theorem Inv.every {n : Nat} {h g : aH} (hI : Inv n h) (f : ∀ c, (c < 29 ∨ 37 < c) → c ≠ 73 → c ≠ 74 → g c = h c) (fA : sEvery g) : Inv n g := by
  obtain ⟨⟨h1, h2, h3, h4, h5, h6, h7, h8, h9, h10⟩, hc⟩ := hI
  have a' : ∀ k, 3 ≤ k → k ≤ 10 → g k = h k := fun k k1 k2 => f k (by omega) (by omega) (by omega)
  have e : ∀ k i, (k < 29 ∨ 37 < k) → k ≠ 73 → k ≠ 74 → g k i = h k i := fun k i k1 k2 k3 => congrFun (f k k1 k2 k3) i
  refine ⟨⟨?_, ?_, ?_, ?_, ?_, ?_, ?_, ?_, ?_, fA⟩, ?_⟩
  · exact h1.congr (e 1 1 (by omega) (by omega) (by omega)) (f 2 (by omega) (by omega) (by omega)) (e 85 9 (by omega) (by omega) (by omega)) (f 92 (by omega) (by omega) (by omega))
  · exact h2.congr a' (f 19 (by omega) (by omega) (by omega)) (e 85 0 (by omega) (by omega) (by omega)) (e 85 1 (by omega) (by omega) (by omega)) (fun k k1 k2 => f k (by omega) (by omega) (by omega))
  · exact h3.congr a' (fun k k1 k2 => f k (by omega) (by omega) (by omega)) (fun k k1 k2 => f k (by omega) (by omega) (by omega))
  · exact h4.congr (e 42 1 (by omega) (by omega) (by omega)) (e 42 2 (by omega) (by omega) (by omega)) (f 43 (by omega) (by omega) (by omega)) (e 85 34 (by omega) (by omega) (by omega)) (e 85 36 (by omega) (by omega) (by omega)) (f 107 (by omega) (by omega) (by omega))
  · exact h5.congr a' (e 0 15 (by omega) (by omega) (by omega)) (f 84 (by omega) (by omega) (by omega)) (e 85 37 (by omega) (by omega) (by omega)) (e 85 38 (by omega) (by omega) (by omega)) (f 108 (by omega) (by omega) (by omega))
  · exact h6.congr a' (e 44 1 (by omega) (by omega) (by omega)) (e 44 2 (by omega) (by omega) (by omega)) (fun k k1 k2 => f k (by omega) (by omega) (by omega)) (e 85 18 (by omega) (by omega) (by omega)) (e 85 19 (by omega) (by omega) (by omega)) (f 96 (by omega) (by omega) (by omega))
  · exact h7.congr (by have := h6.1; omega) (a' 10 (by omega) (by omega)) (f 19 (by omega) (by omega) (by omega)) (e 44 1 (by omega) (by omega) (by omega)) (e 44 2 (by omega) (by omega) (by omega)) (e 3 1 (by omega) (by omega) (by omega)) (fun k k1 k2 => f k (by omega) (by omega) (by omega))
  · exact h8.congr (fun k k1 k2 => f k (by omega) (by omega) (by omega)) (e 85 51 (by omega) (by omega) (by omega)) (f 115 (by omega) (by omega) (by omega))
  · exact h9.congr a' (f 72 (by omega) (by omega) (by omega))
  · rw [e 85 40 (by omega) (by omega) (by omega), e 0 16 (by omega) (by omega) (by omega)]; exact hc
theorem all_ref {n : Nat} {a : Int} {g : aH} (hI : Inv n g) (ha : 0 ≤ a ∧ a ≤ 1) (hn0 : 0 < g 3 1) (hw : preW (sN (cSz g)) 5 ≤ 720) {w v : Int} (hE : evOK (g 3 1) (jA (g 5)) (g 7) (cSz g) (g 6) w v) : aRun mX10_all 51 [aR 85, aI a] g (fun r' h2 => (if a = 0 then w else v) = r' ∧ Inv (n + 1) h2) := by
  have hS := hI.1.2.1
  have h1 := hS.1.2.2.2.1
  have hms := hS.1.2.1
  have zz : ∀ M, 0 ≤ M → M < 5 → g 91 M = cSz g M ∧ 0 ≤ cSz g M ∧ cSz g M ≤ 24 := fun M m0 m1 => by
    have x := hS.1.2.2.2.2.2 M m0 m1
    have y := hms.2 M m0 m1
    rw [x] at y
    exact ⟨x, y⟩
  have hz : ∀ M : Nat, M < 5 → ((sN (cSz g) M : Nat) : Int) = g 91 M := fun M hM => by
    have q := zz M (by omega) (by omega)
    rw [q.1]
    unfold sN
    omega
  have h6 : ∀ M : Nat, M < 5 → sN (cSz g) M ≤ 6 := fun M x => six_le (by have := fct_le_pre (s := sN (cSz g)) x; omega)
  have ho : okOrd (g 85 1) (g 88) (g 91) (mO g) := hS.1.mOrd hS.2.1
  have sg := sgM_onM ho hz
  refine e_X10_all ⟨fun y => absurd ha (f_in_0.1 y), fun _ => ⟨fun y => by omega, fun _ => r_waysAll zz (fun y => by omega) (fun _ => ⟨fun y => by omega, fun _ => ?_⟩)⟩⟩
  refine r_triesFrom (h0 := g) (s := sN (cSz g)) hms (by omega) hz h6 38 0 0 _ [] _ (by omega) (fun _ => rfl) (fun _ => by omega) (by omega) ⟨rfl, rfl, rfl, rfl, rfl, rfl, rfl⟩ sg ⟨rfl, Or.inl ⟨rfl, rfl⟩⟩ ?_ (fun g2 B f hB aB => ?_)
  · have vl := (vsH_all sg).length_eq
    have al := allD_len (n := g 85 1) (mach := g 88) (s := sN (cSz g)) (fun M hM => ⟨by rw [← (sg M hM).length_eq]; unfold sgM; exact toL_len, h6 M hM⟩)
    show 0 + (vsH g (sN (cSz g)) 0 0).length ≤ 720
    omega
  · have pB : B.Perm (spL (g 3 1) (jA (g 5)) (g 7) (cSz g) (allD (g 3 1) (g 6))) := by
      rw [← spH_same hS.1 hS.2.2.2 hn0]
      exact hB.trans (spH_perm (vsH_all sg))
    have ew : w = g2 85 48 := by rw [hE.1, aB.1, pB.length_eq]
    have ev : v = g2 85 49 := by
      have mB : isMn B v := hE.2.mem (fun x => pB.mem_iff.symm)
      rcases aB.2 with ⟨e, _⟩ | ⟨e, _⟩
      · rw [e] at mB
        exact absurd mB.1 (List.not_mem_nil)
      · exact mB.unique e
    refine ⟨by rw [ew, ev], hI.frame (fun k _ _ _ _ k5 => ?_) ⟨fun k k1 k2 k3 k4 => ?_, fun i hi => ?_⟩⟩
    · rw [f.1 k (by omega) (by omega), a_up_ne (by omega), a_up_ne (by omega)]
    · rw [f.1 k (by omega) (by omega), a_up_ne (by omega), a_up_ne (by omega)]
    · refine (f.2 i (by omega) (by omega) (by omega)).trans ?_
      rw [a_up_off (by omega), a_up_off (by omega)]
theorem pr_all : a_pair Inv mX9_all mX10_all 5 51 1 := by
  intro n h a b hn hI hh ha hb
  have hS := hI.1.2.1
  have h1 := hS.1.2.2.2.1
  have h0 := hS.1.1.1.1
  by_cases za : 0 ≤ a ∧ a ≤ 1
  · by_cases z : h 3 1 = 0
    · exact e_X9_all ⟨fun y => by omega, fun _ => ⟨fun _ => ⟨fun y => absurd z (ns_iff.1 y), fun _ => e_X10_all ⟨fun y => absurd za (f_in_0.1 y), fun _ => ⟨fun _ => ⟨rfl, hI.mono⟩, fun y => by omega⟩⟩⟩, fun y => by omega⟩⟩
    have hn0 : 0 < h 3 1 := by omega
    have zz : ∀ M, 0 ≤ M → M < 5 → h 91 M = cSz h M ∧ 0 ≤ cSz h M ∧ cSz h M ≤ 24 := fun M m0 m1 => by
      have x := hS.1.2.2.2.2.2 M m0 m1
      have y := hS.1.2.1.2 M m0 m1
      rw [x] at y
      exact ⟨x, y⟩
    refine e_X9_all ⟨fun y => by omega, fun _ => ⟨fun _ => ⟨fun _ => e_X2_look (r_waysOf hS.1.1 (fun r r1 lw => ⟨fun y => by omega, fun _ => ⟨fun _ => ?_, fun w => absurd rfl w⟩⟩) (fun le => ⟨fun _ => ⟨fun e0 => ?_, fun ne => ?_⟩, fun y => by omega⟩)), fun y => absurd (ns_iff.2 z) y⟩, fun y => by omega⟩⟩
    · exact e_X10_all ⟨fun y => absurd za (f_in_0.1 y), fun _ => ⟨fun y => by omega, fun _ => r_waysAll zz (fun _ => ⟨fun _ => ⟨rfl, hI.mono⟩, fun w => absurd rfl w⟩) (fun le => by omega)⟩⟩
    · refine r_lookAtAll hS.1.1 hS.2.2.2 hn0 le (fun g f hE => ⟨fun y => absurd y (by omega), fun _ => ?_⟩)
      have F : ∀ c, (c < 29 ∨ 37 < c) → c ≠ 73 → c ≠ 74 → a_up g 73 1 1 c = h c := fun c c1 c2 c3 => by rw [a_up_ne c2]; exact f c c1 c2 c3
      have E : evOK (a_up g 73 1 1 3 1) (jA (a_up g 73 1 1 5)) (a_up g 73 1 1 7) (cSz (a_up g 73 1 1)) (a_up g 73 1 1 6) (a_up g 73 1 1 73 2) (a_up g 73 1 1 73 3) := by
        unfold cSz
        rw [F 3 (by omega) (by omega) (by omega), F 5 (by omega) (by omega) (by omega), F 6 (by omega) (by omega) (by omega), F 7 (by omega) (by omega) (by omega), F 10 (by omega) (by omega) (by omega), a_up_off (by omega), a_up_off (by omega)]
        exact hE
      refine all_ref (hI.every F (Or.inr E)) za ?_ ?_ E
      · rw [F 3 (by omega) (by omega) (by omega)]
        exact hn0
      · unfold cSz
        rw [F 10 (by omega) (by omega) (by omega)]
        exact le
    · have E := hI.1.2.2.2.2.2.2.2.2.2.resolve_left ne
      exact ⟨fun y => absurd y (by omega), fun _ => all_ref hI za hn0 le E⟩
  · refine e_X9_all ⟨fun _ => ?_, fun x => ⟨fun y => absurd ⟨by omega, y⟩ za, fun _ => ?_⟩⟩
    · exact e_X10_all ⟨fun _ => ⟨rfl, hI.mono⟩, fun y => absurd (f_in_0.2 za) y⟩
    · exact e_X10_all ⟨fun _ => ⟨rfl, hI.mono⟩, fun y => absurd (f_in_0.2 za) y⟩
