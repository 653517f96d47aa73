/-! ONE MACHINE by itself, on the reference -/
def bestIs (bf ls af : Int → Int) (l : List Int) (tm o v : Int) : Prop := isMn ((pmL l).map (fun p => ovL bf ls af p tm o)) v
theorem best_nil {bf ls af : Int → Int} {tm o : Int} : bestIs bf ls af [] tm o o := ⟨List.mem_singleton.2 rfl, fun x hx => by rw [List.mem_singleton.1 hx]; exact Int.le_refl _⟩
theorem pmL_cons {l : List Int} (hl : l ≠ []) (p : List Int) : p ∈ pmL l ↔ ∃ i r, i < l.length ∧ r ∈ pmL (l.eraseIdx i) ∧ p = l.getD i 0 :: r := by
  have e : ∃ k, l.length = k + 1 := ⟨l.length - 1, by have := List.length_pos_iff.2 hl; omega⟩
  obtain ⟨k, e⟩ := e
  unfold pmL
  rw [e]
  show p ∈ (List.range l.length).flatMap (fun i => (pmF k (l.eraseIdx i)).map (fun r => (l.getD i 0) :: r)) ↔ _
  rw [List.mem_flatMap]
  constructor
  · rintro ⟨i, hi, hp⟩
    rw [List.mem_range] at hi
    obtain ⟨r, hr, e2⟩ := List.mem_map.1 hp
    have el : (l.eraseIdx i).length = k := by rw [List.length_eraseIdx_of_lt hi]; omega
    exact ⟨i, r, by omega, by rw [el]; exact hr, e2.symm⟩
  · rintro ⟨i, r, hi, hr, e2⟩
    have hi' : i < l.length := by omega
    have el : (l.eraseIdx i).length = k := by rw [List.length_eraseIdx_of_lt hi']; omega
    rw [el] at hr
    exact ⟨i, List.mem_range.2 hi', List.mem_map.2 ⟨r, hr, e2.symm⟩⟩
theorem best_step {bf ls af : Int → Int} {l : List Int} {tm o v : Int} (hl : l ≠ []) (h1 : ∃ i, i < l.length ∧ bestIs bf ls af (l.eraseIdx i) (max tm (bf (l.getD i 0)) + ls (l.getD i 0)) (max o (max tm (bf (l.getD i 0)) + ls (l.getD i 0) + af (l.getD i 0))) v)
    (h2 : ∀ i, i < l.length → ∃ v', bestIs bf ls af (l.eraseIdx i) (max tm (bf (l.getD i 0)) + ls (l.getD i 0)) (max o (max tm (bf (l.getD i 0)) + ls (l.getD i 0) + af (l.getD i 0))) v' ∧ v ≤ v') : bestIs bf ls af l tm o v := by
  refine ⟨?_, fun x hx => ?_⟩
  · obtain ⟨i, hi, b⟩ := h1
    obtain ⟨r, hr, e⟩ := List.mem_map.1 b.1
    exact List.mem_map.2 ⟨l.getD i 0 :: r, (pmL_cons hl _).2 ⟨i, r, hi, hr, rfl⟩, e⟩
  · obtain ⟨p, hp, e⟩ := List.mem_map.1 hx
    obtain ⟨i, r, hi, hr, e2⟩ := (pmL_cons hl p).1 hp
    obtain ⟨v', b, le⟩ := h2 i hi
    have := b.2 (ovL bf ls af r (max tm (bf (l.getD i 0)) + ls (l.getD i 0)) (max o (max tm (bf (l.getD i 0)) + ls (l.getD i 0) + af (l.getD i 0)))) (List.mem_map.2 ⟨r, hr, rfl⟩)
    rw [← e, e2]
    show v ≤ ovL bf ls af r (max tm (bf (l.getD i 0)) + ls (l.getD i 0)) (max o (max tm (bf (l.getD i 0)) + ls (l.getD i 0) + af (l.getD i 0)))
    omega
/-! bits -/
def idN (m : Nat) : List Nat := (List.range 6).filter (fun k => m.testBit k)
def ctN (m k : Nat) : Nat := ((List.range k).filter (fun k => m.testBit k)).length
theorem bitD1 : ∀ m, m < 64 → ∀ k, k < 6 → (((Int32.ofInt (Int32.ofInt (m : Nat) >>> (Int32.ofInt (k : Nat) &&& 31)).toInt &&& Int32.ofInt 1).toInt = 1) ↔ m.testBit k = true) := by decide +kernel
theorem bitD2 : ∀ m, m < 64 → ∀ k, k < 6 → m.testBit k = true → (Int32.ofInt (m : Nat) &&& Int32.ofInt (Int32.ofInt (Int32.ofInt 1 <<< (Int32.ofInt (k : Nat) &&& 31)).toInt ^^^ Int32.ofInt (-1)).toInt).toInt = ((m - 2 ^ k : Nat) : Int) := by decide +kernel
theorem bitD3 : ∀ m, m < 64 → ∀ k, k < 6 → m.testBit k = true → (idN m)[ctN m k]? = some k ∧ idN (m - 2 ^ k) = (idN m).eraseIdx (ctN m k) := by decide +kernel
theorem bitD4 : ∀ m, m < 64 → ∀ i, i < 6 → i < (idN m).length → ∃ k, k < 6 ∧ m.testBit k = true ∧ ctN m k = i := by decide +kernel
theorem bitD5 : ∀ m, m < 64 → (m = 0 ↔ idN m = []) := by decide +kernel
theorem bitD6 : ∀ s, s ≤ 6 → idN (2 ^ s - 1) = List.range s ∧ (Int32.ofInt 1 <<< (Int32.ofInt (s : Nat) &&& 31)).toInt - 1 = ((2 ^ s - 1 : Nat) : Int) := by decide +kernel
theorem bitD7 : ∀ s, s ≤ 6 → ∀ m, m < 64 → m < 2 ^ s → ∀ k, k < 6 → m.testBit k = true → k < s := by decide +kernel
/-- those that are left -/
def lfL (f : Int → Int) (m : Nat) : List Int := (idN m).map (fun k : Nat => f (k : Int))
theorem eraN_map (f : Nat → Int) : ∀ (l : List Nat) (i : Nat), (l.map f).eraseIdx i = (l.eraseIdx i).map f := by
  intro l
  induction l with
  | nil => intro i; rfl
  | cons a l ih =>
    intro i
    rcases i with _ | i
    · rfl
    · show f a :: (l.map f).eraseIdx i = f a :: (l.eraseIdx i).map f
      rw [ih]
theorem lfL_at {f : Int → Int} {m k : Nat} (hm : m < 64) (hk : k < 6) (b : m.testBit k = true) : (lfL f m).getD (ctN m k) 0 = f k ∧ (lfL f m).eraseIdx (ctN m k) = lfL f (m - 2 ^ k) ∧ ctN m k < (lfL f m).length := by
  have q := bitD3 m hm k hk b
  have hl := (List.getElem?_eq_some_iff.mp q.1).1
  refine ⟨?_, ?_, ?_⟩
  · unfold lfL
    rw [List.getD_eq_getElem?_getD, List.getElem?_map, q.1]
    rfl
  · unfold lfL
    rw [eraN_map, q.2]
  · unfold lfL
    rw [List.length_map]
    exact hl
/-- heads, for tables of one's own -/
def bfOK (n : Int) (place l bf : Int → Int) : Prop := ∀ t, 0 ≤ t → t < n → bf t = (if place t ≤ 0 then 0 else bf (t - 1) + l (t - 1)) ∧ (0 ≤ bf t ∧ bf t ≤ 2376)
theorem okShop.down {n nj : Int} {job place mach l : Int → Int} (hs : okShop n nj job place mach l) : ∀ (d : Nat) (t : Int), 0 ≤ t → t < n → (d : Int) ≤ place t → d ≤ t ∧ place (t - d) = place t - d := by
  intro d
  induction d with
  | zero => intro t a b c; rw [show t - ((0 : Nat) : Int) = t by omega]; omega
  | succ d ih =>
    intro t a b c
    have q := ih t a b (by omega)
    have r := (hs.2.2.2.1 (t - d) (by omega) (by omega)).2 (by omega)
    rw [show t - ((d + 1 : Nat) : Int) = t - d - 1 by omega]
    omega
theorem r_headOf {h : aH} {Q : aQ} {bf : Int → Int} {t : Int} (hs : mShop h) (hb : bfOK (h 85 1) (h 87) (h 89) bf) (ht : 0 ≤ t ∧ t < h 85 1) (k : Q (bf t) h) : aRun mX10_headOf 0 [aR 85, aI t] h Q := by
  have h0 := hs.1.1
  have p := (hs.1.2.2.1 t ht.1 ht.2).2.1
  have dn := fun (d : Nat) (hd : (d : Int) ≤ h 87 t) => hs.1.down d t ht.1 ht.2 hd
  have top := dn (h 87 t).toNat (by omega)
  rw [show ((h 87 t).toNat : Int) = h 87 t by omega] at top
  refine e_X10_headOf ⟨by omega, by unfold inR; omega, ?_⟩
  suffices H : ∀ (d : Nat) (u : Int), t - h 87 t ≤ u → u ≤ t → t - u ≤ d → AW mX10_headOf 0 11 [some (aR 85), some (aI t), some (aI (bf u)), some (aI u)] [] h Q from by
    have := H 6 (t - h 87 t) (by omega) (by omega) (by omega)
    have q := (hb (t - h 87 t) (by omega) (by omega)).1
    rw [if_pos (by omega)] at q
    rw [q] at this
    exact this
  intro d
  induction d with
  | zero =>
    intro u u0 u1 hd
    have e : u = t := by omega
    rw [e]
    exact s_X10_headOf_11 ⟨fun _ => k, fun w => by omega⟩
  | succ d ih =>
    intro u u0 u1 hd
    by_cases e : u = t
    · rw [e]
      exact s_X10_headOf_11 ⟨fun _ => k, fun w => by omega⟩
    · have q := (hb (u + 1) (by omega) (by omega)).1
      have pd := dn (t - (u + 1)).toNat (by omega)
      rw [show t - ((t - (u + 1)).toNat : Int) = u + 1 by omega] at pd
      rw [if_neg (by omega), show u + 1 - 1 = u by omega] at q
      have b := (hb (u + 1) (by omega) (by omega)).2
      refine s_X10_headOf_11 ⟨fun w => by omega, fun w => ⟨by omega, by unfold inR; omega, by unfold inR; omega, ?_⟩⟩
      rw [← q]
      exact ih (u + 1) (by omega) (by omega) (by omega)
theorem r_tailOf {h : aH} {Q : aQ} {af : Int → Int} {t : Int} (hs : mShop h) (ha : afOK (h 85 1) (h 86) (h 89) af) (ht : 0 ≤ t ∧ t < h 85 1) (k : Q (af t) h) : aRun mX10_tailOf 1 [aR 85, aI t] h Q := by
  have h0 := hs.1.1
  have q := (ha t ht.1 ht.2).2
  refine e_X10_tailOf (r_leftOf hs ha ht ⟨by omega, by unfold inR; omega, ?_⟩)
  rw [show h 89 t + af t - h 89 t = af t by omega]
  exact k
theorem r_takes {h : aH} {Q : aQ} {M : Int} (hn : 0 ≤ h 85 1 ∧ h 85 1 ≤ 24) (k : ∀ g, (∀ c, c ≠ 85 → c ≠ 113 → g c = h c) → (∀ i, i ≠ 46 → g 85 i = h 85 i) → okMv (onM (h 85 1) (h 88) M) (g 113) (g 85 46) → Q 0 g) : aRun mX10_takes 0 [aR 85, aI M] h Q := by
  refine e_X10_takes ?_
  suffices H : ∀ (d t : Nat) (g : aH), (t : Int) ≤ h 85 1 → h 85 1 - t ≤ d → (∀ c, c ≠ 85 → c ≠ 113 → g c = h c) → (∀ i, i ≠ 46 → g 85 i = h 85 i) → okMv (onM (t : Int) (h 88) M) (g 113) (g 85 46) → AW mX10_takes 0 7 [some (aR 85), some (aI M), some (aI (t : Int))] [] g Q from
    H (h 85 1).toNat 0 _ (by omega) (by omega) (fun c c1 _ => a_up_ne c1) (fun i i1 => a_up_off i1) ⟨by rw [a_up_eq]; rfl, fun i hi => absurd hi (by show ¬ i < 0; omega)⟩
  have fin : ∀ (t : Nat) (g : aH), (t : Int) = h 85 1 → (∀ c, c ≠ 85 → c ≠ 113 → g c = h c) → (∀ i, i ≠ 46 → g 85 i = h 85 i) → okMv (onM (t : Int) (h 88) M) (g 113) (g 85 46) → Q 0 g := fun t g e f1 f2 f3 => k g f1 f2 (by rw [e] at f3; exact f3)
  intro d
  induction d with
  | zero =>
    intro t g t1 hd f1 f2 f3
    refine s_X10_takes_7 ⟨fun _ => fin t g (by omega) f1 f2 f3, fun w => ?_⟩
    rw [f2 1 (by omega)] at w; omega
  | succ d ih =>
    intro t g t1 hd f1 f2 f3
    refine s_X10_takes_7 ⟨fun w => fin t g (by rw [f2 1 (by omega)] at w; omega) f1 f2 f3, fun w => ?_⟩
    rw [f2 1 (by omega)] at w
    rw [f1 88 (by omega) (by omega)]
    have os := onM_succ (mach := h 88) (M := M) (t := t) (by omega)
    rw [show (t : Int) + 1 = ((t + 1 : Nat) : Int) by omega] at os
    have ln := onM_len (mach := h 88) (M := M) t
    have cr := cnM_rng (mach := h 88) (M := M) (t := (t : Int)) (by omega)
    have e46 := f3.1
    refine ⟨by omega, fun y => ?_, fun y => ⟨by unfold inR; omega, ?_⟩⟩
    · rw [if_pos y] at os
      refine ⟨by omega, by unfold inR; omega, by unfold inR; omega, ?_⟩
      have R := ih (t + 1) (a_up (a_up g 113 (g 85 46) t) 85 46 (g 85 46 + 1)) (by omega) (by omega) (fun c c1 c2 => by rw [a_up_ne c1, a_up_ne c2]; exact f1 c c1 c2) (fun i i1 => by rw [a_up_off i1, a_up_ne (by omega)]; exact f2 i i1) ?_
      · exact R
      · rw [a_up_ne (by omega), a_up_fn, a_up_eq, os]
        exact f3.push
    · rw [if_neg y, List.append_nil] at os
      exact ih (t + 1) g (by omega) (by omega) f1 f2 (by rw [os]; exact f3)
set_option maxHeartbeats 1000000 in
theorem r_bestOf {h : aH} {bf af : Int → Int} {s : Nat} (hs : mShop h) (hb : bfOK (h 85 1) (h 87) (h 89) bf) (ha : afOK (h 85 1) (h 86) (h 89) af) (h6 : s ≤ 6) (h46 : h 85 46 = s) (ht : ∀ k, 0 ≤ k → k < (s : Int) → 0 ≤ h 113 k ∧ h 113 k < h 85 1) : ∀ (d m : Nat) (tm o : Int) (Q : aQ), d ≤ 7 → (idN m).length ≤ d → m < 64 → m < 2 ^ s → (0 ≤ tm ∧ tm ≤ 2376 + 99 * (7 - (d : Int))) → (0 ≤ o ∧ o ≤ 10000) → (∀ v, bestIs bf (h 89) af (lfL (h 113) m) tm o v → Q v h) → aRun mX10_bestOf (13 + d) [aR 85, aI (m : Int), aI tm, aI o] h Q := by
  have h0 := hs.1.1
  intro d
  induction d with
  | zero =>
    intro m tm o Q _ hd m64 ms htm ho k
    have e : idN m = [] := List.length_eq_zero_iff.1 (by omega)
    have m0 := (bitD5 m m64).2 e
    subst m0
    refine e_X10_bestOf (F' := 12) (by omega) (by omega) ⟨fun _ => k o best_nil, fun w => absurd rfl w⟩
  | succ d ih =>
    intro m tm o Q d7 hd m64 ms htm ho k
    refine e_X10_bestOf (F' := 13 + d) (by omega) (by omega) ⟨fun w => ?_, fun w => ?_⟩
    · have m0 : m = 0 := by omega
      subst m0
      exact k o best_nil
    have mne : m ≠ 0 := by omega
    have lne : lfL (h 113) m ≠ [] := by
      unfold lfL
      intro e
      rw [List.map_eq_nil_iff] at e
      exact mne ((bitD5 m m64).2 e)
    suffices H : ∀ (d2 x : Nat) (l4 : Int), x ≤ s → s - x ≤ d2 → ((l4 = -1 ∧ ∀ k', k' < x → ¬ m.testBit k' = true) ∨ (0 ≤ l4 ∧ (∃ k', k' < x ∧ m.testBit k' = true ∧ bestIs bf (h 89) af (lfL (h 113) (m - 2 ^ k')) (max tm (bf (h 113 k')) + h 89 (h 113 k')) (max o (max tm (bf (h 113 k')) + h 89 (h 113 k') + af (h 113 k'))) l4) ∧ ∀ k', k' < x → m.testBit k' = true → ∃ v, bestIs bf (h 89) af (lfL (h 113) (m - 2 ^ k')) (max tm (bf (h 113 k')) + h 89 (h 113 k')) (max o (max tm (bf (h 113 k')) + h 89 (h 113 k') + af (h 113 k'))) v ∧ l4 ≤ v)) → AW mX10_bestOf (13 + (d + 1)) 12 [some (aR 85), some (aI (m : Int)), some (aI tm), some (aI o), some (aI l4), some (aI (x : Int)), none, none] [] h Q from
      H s 0 (-1) (by omega) (by omega) (Or.inl ⟨rfl, fun k' hk => by omega⟩)
    have fin : ∀ (x : Nat) (l4 : Int), x = s → ((l4 = -1 ∧ ∀ k', k' < x → ¬ m.testBit k' = true) ∨ (0 ≤ l4 ∧ (∃ k', k' < x ∧ m.testBit k' = true ∧ bestIs bf (h 89) af (lfL (h 113) (m - 2 ^ k')) (max tm (bf (h 113 k')) + h 89 (h 113 k')) (max o (max tm (bf (h 113 k')) + h 89 (h 113 k') + af (h 113 k'))) l4) ∧ ∀ k', k' < x → m.testBit k' = true → ∃ v, bestIs bf (h 89) af (lfL (h 113) (m - 2 ^ k')) (max tm (bf (h 113 k')) + h 89 (h 113 k')) (max o (max tm (bf (h 113 k')) + h 89 (h 113 k') + af (h 113 k'))) v ∧ l4 ≤ v)) → Q l4 h := by
      intro x l4 ex hI
      subst ex
      rcases hI with ⟨-, no⟩ | ⟨l0, ⟨k', k1, k2, k3⟩, all⟩
      · exfalso
        have : 0 < (idN m).length := by
          refine List.length_pos_iff.2 (fun e => mne ((bitD5 m m64).2 e))
        obtain ⟨k', a1, a2, -⟩ := bitD4 m m64 0 (by omega) this
        exact no k' (bitD7 x h6 m m64 ms k' a1 a2) a2
      · refine k l4 (best_step lne ?_ (fun i hi => ?_))
        · have q := lfL_at (f := h 113) m64 (show k' < 6 by omega) k2
          refine ⟨ctN m k', q.2.2, ?_⟩
          rw [q.1, q.2.1]
          exact k3
        · have hi' : i < (idN m).length := by unfold lfL at hi; rw [List.length_map] at hi; exact hi
          have i6 : i < 6 := by
            have : (idN m).length ≤ 6 := by
              have := List.length_filter_le (fun k => m.testBit k) (List.range 6)
              rw [List.length_range] at this
              exact this
            omega
          obtain ⟨k'', a1, a2, a3⟩ := bitD4 m m64 i i6 hi'
          have q := lfL_at (f := h 113) m64 a1 a2
          rw [a3] at q
          rw [q.1, q.2.1]
          exact all k'' (bitD7 x h6 m m64 ms k'' a1 a2) a2
    intro d2
    induction d2 with
    | zero =>
      intro x l4 x1 hd2 hI
      exact s_X10_bestOf_12 (F' := 13 + d) (by clear hI; omega) (by clear hI; omega) ⟨fun _ => fin x l4 (by clear hI; omega) hI, fun w => by clear hI; omega⟩
    | succ d2 ih2 =>
      intro x l4 x1 hd2 hI
      by_cases ex : x = s
      · exact s_X10_bestOf_12 (F' := 13 + d) (by clear hI; omega) (by clear hI; omega) ⟨fun _ => fin x l4 ex hI, fun w => by clear hI; omega⟩
      have x6 : x < 6 := by omega
      have D1 := bitD1 m m64 x x6
      have tr := ht x (by omega) (by omega)
      have bb := (hb _ tr.1 tr.2).2
      have aa := (ha _ tr.1 tr.2).2
      have ll := (hs.1.2.2.1 _ tr.1 tr.2).2.2.2
      refine s_X10_bestOf_12 (F' := 13 + d) (by omega) (by omega) ⟨fun w => by omega, fun _ => ⟨fun b => ?_, fun b => ⟨by unfold inR; omega, ?_⟩⟩⟩
      · have b := D1.1 b
        rw [bitD2 m m64 x x6 b]
        refine ⟨by omega, r_headOf hs hb tr ⟨by omega, by unfold inR; omega, r_tailOf hs ha tr ⟨by unfold inR; omega, ?_⟩⟩⟩
        have q := bitD3 m m64 x x6 b
        have hl := (List.getElem?_eq_some_iff.mp q.1).1
        have len : (idN (m - 2 ^ x)).length ≤ d := by
          rw [q.2, List.length_eraseIdx_of_lt hl]; omega
        have hle : m - 2 ^ x ≤ m := Nat.sub_le _ _
        refine ih (m - 2 ^ x) _ _ _ (by clear hI; omega) len (Nat.lt_of_le_of_lt hle m64) (Nat.lt_of_le_of_lt hle ms) (by clear hI; omega) (by clear hI; omega) (fun v hv => ⟨by unfold inR; omega, ?_⟩)
        have v0 : 0 ≤ v := by
          obtain ⟨p, -, e⟩ := List.mem_map.1 hv.1
          have := ovL_ge bf (h 89) af p (max tm (bf (h 113 x)) + h 89 (h 113 x)) (max o (max tm (bf (h 113 x)) + h 89 (h 113 x) + af (h 113 x)))
          omega
        have R := ih2 (x + 1) (if l4 < 0 then v else (if l4 ≤ v then l4 else v)) (by clear hI; omega) (by clear hI; omega) ?_
        · exact R
        · right
          rcases hI with ⟨e, no⟩ | ⟨l0, ⟨k', k1, k2, k3⟩, all⟩
          · rw [if_pos (by omega)]
            refine ⟨v0, ⟨x, by omega, b, hv⟩, fun k'' hk b2 => ?_⟩
            by_cases e2 : k'' = x
            · rw [e2]; exact ⟨v, hv, Int.le_refl _⟩
            · exact absurd b2 (no k'' (by omega))
          · rw [if_neg (by omega)]
            by_cases y : l4 ≤ v
            · rw [if_pos y]
              refine ⟨l0, ⟨k', by omega, k2, k3⟩, fun k'' hk b2 => ?_⟩
              by_cases e2 : k'' = x
              · rw [e2]; exact ⟨v, hv, y⟩
              · exact all k'' (by omega) b2
            · rw [if_neg y]
              refine ⟨v0, ⟨x, by omega, b, hv⟩, fun k'' hk b2 => ?_⟩
              by_cases e2 : k'' = x
              · rw [e2]; exact ⟨v, hv, Int.le_refl _⟩
              · obtain ⟨v2, a1, a2⟩ := all k'' (by omega) b2
                exact ⟨v2, a1, by omega⟩
      · have b : ¬ m.testBit x = true := fun y => b (D1.2 y)
        have R := ih2 (x + 1) l4 (by clear hI; omega) (by clear hI; omega) ?_
        · exact R
        · rcases hI with ⟨e, no⟩ | ⟨l0, ⟨k', k1, k2, k3⟩, all⟩
          · refine Or.inl ⟨e, fun k' hk => ?_⟩
            by_cases e2 : k' = x
            · rw [e2]; exact b
            · exact no k' (by omega)
          · refine Or.inr ⟨l0, ⟨k', by omega, k2, k3⟩, fun k'' hk b2 => ?_⟩
            by_cases e2 : k'' = x
            · rw [e2] at b2; exact absurd b2 b
            · exact all k'' (by omega) b2
