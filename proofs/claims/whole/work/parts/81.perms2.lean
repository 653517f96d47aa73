/-! .. of a row whose first order grows -/
theorem pm_ok {s : Nat} (h : s ≤ 6) : chkT s (pmL (ixL s)) = true ∧ (pmL (ixL s)).length = fct s ∧ (pmL (ixL s))[0]? = some (ixL s) := by
  have : s = 0 ∨ s = 1 ∨ s = 2 ∨ s = 3 ∨ s = 4 ∨ s = 5 ∨ s = 6 := by omega
  rcases this with rfl | rfl | rfl | rfl | rfl | rfl | rfl
  · exact ⟨chk0, by decide +kernel, by decide +kernel⟩
  · exact ⟨chk1, by decide +kernel, by decide +kernel⟩
  · exact ⟨chk2, by decide +kernel, by decide +kernel⟩
  · exact ⟨chk3, by decide +kernel, by decide +kernel⟩
  · exact ⟨chk4, by decide +kernel, by decide +kernel⟩
  · exact ⟨chk5, by decide +kernel, by decide +kernel⟩
  · rw [six_ok]
    exact ⟨chk6, by decide +kernel, by decide +kernel⟩
theorem chkT_get {s : Nat} : ∀ (P : List (List Int)), chkT s P = true → ∀ (w : Nat) (l : List Int), P[w]? = some l → l.length = s ∧ (∀ x ∈ l, 0 ≤ x ∧ x < (s : Int)) ∧ (∀ l', P[w + 1]? = some l' → nxL l = l' ∧ nxB (fnL l) s = 1) ∧ (w + 1 = P.length → nxL l = ixL s ∧ nxB (fnL l) s = 0) := by
  intro P
  induction P with
  | nil => intro _ w l e; simp at e
  | cons a P ih =>
    intro h w l e
    rcases P with _ | ⟨b, r⟩
    · unfold chkT at h
      simp only [Bool.and_eq_true, beq_iff_eq, List.all_eq_true, decide_eq_true_eq] at h
      obtain ⟨⟨⟨h1, h2⟩, h3⟩, h4⟩ := h
      rcases w with _ | w
      · have : a = l := by simpa using e
        subst this
        exact ⟨h3, h4, fun l' e' => by simp at e', fun _ => ⟨h1, h2⟩⟩
      · simp at e
    · unfold chkT at h
      simp only [Bool.and_eq_true, beq_iff_eq, List.all_eq_true, decide_eq_true_eq] at h
      obtain ⟨⟨⟨⟨h1, h2⟩, h3⟩, h4⟩, h5⟩ := h
      rcases w with _ | w
      · have : a = l := by simpa using e
        subst this
        refine ⟨h3, h4, fun l' e' => ?_, fun e' => by simp at e'⟩
        have : b = l' := by simpa using e'
        subst this
        exact ⟨h1, h2⟩
      · have e' : (b :: r)[w]? = some l := by simpa using e
        have q := ih h5 w l e'
        refine ⟨q.1, q.2.1, fun l' e2 => q.2.2.1 l' (by simpa using e2), fun e2 => q.2.2.2 (by simpa using e2)⟩
def pw (s w : Nat) : List Int := (pmL (ixL s)).getD w []
theorem pw_get {s w : Nat} (h : s ≤ 6) (hw : w < fct s) : (pmL (ixL s))[w]? = some (pw s w) := by
  have := (pm_ok h).2.1
  unfold pw
  rw [List.getD_eq_getElem?_getD, List.getElem?_eq_getElem (by omega)]
  rfl
theorem pw_zero {s : Nat} (h : s ≤ 6) : pw s 0 = ixL s := by
  unfold pw
  rw [List.getD_eq_getElem?_getD, (pm_ok h).2.2]
  rfl
theorem fct_pos (s : Nat) : 0 < fct s := by
  induction s with
  | zero => decide
  | succ s ih => exact Nat.mul_pos ih (by omega)
theorem pw_len {s w : Nat} (h : s ≤ 6) (hw : w < fct s) : (pw s w).length = s ∧ ∀ i : Int, 0 ≤ i → i < s → 0 ≤ fnL (pw s w) i ∧ fnL (pw s w) i < s := by
  have q := chkT_get _ (pm_ok h).1 w _ (pw_get h hw)
  refine ⟨q.1, fun i a b => ?_⟩
  unfold fnL
  have hi : i.toNat < (pw s w).length := by omega
  have := q.2.1 ((pw s w)[i.toNat]) (List.getElem_mem hi)
  rw [List.getD_eq_getElem?_getD, List.getElem?_eq_getElem hi]
  exact this
theorem pw_next {s w : Nat} (h : s ≤ 6) (hw : w + 1 < fct s) : nxL (pw s w) = pw s (w + 1) ∧ nxB (fnL (pw s w)) s = 1 :=
  (chkT_get _ (pm_ok h).1 w _ (pw_get h (by omega))).2.2.1 _ (pw_get h hw)
theorem pw_last {s w : Nat} (h : s ≤ 6) (hw : w + 1 = fct s) : nxL (pw s w) = pw s 0 ∧ nxB (fnL (pw s w)) s = 0 := by
  rw [pw_zero h]
  exact (chkT_get _ (pm_ok h).1 w _ (pw_get h (by omega))).2.2.2 (by rw [(pm_ok h).2.1]; exact hw)
theorem fnL_toL {f : Int → Int} {s : Nat} {i : Int} (h0 : 0 ≤ i) (h1 : i < s) : fnL (toL f s) i = f i := by
  unfold fnL toL
  rw [List.getD_eq_getElem?_getD, List.getElem?_map, List.getElem?_range (by omega)]
  show f ((i.toNat : Nat) : Int) = f i
  congr 1; omega
theorem toL_len {f : Int → Int} {s : Nat} : (toL f s).length = s := by
  unfold toL
  rw [List.length_map, List.length_range]
theorem toL_congr {f g : Int → Int} {s : Nat} (h : ∀ i : Int, 0 ≤ i → i < s → f i = g i) : toL f s = toL g s := by
  unfold toL
  refine List.map_congr_left (fun i hi => ?_)
  rw [List.mem_range] at hi
  exact h i (by omega) (by omega)
theorem toL_fnL {l : List Int} {s : Nat} (h : l.length = s) : toL (fnL l) s = l := by
  apply List.ext_getElem?
  intro i
  unfold toL
  rw [List.getElem?_map]
  by_cases z : i < s
  · rw [List.getElem?_range z, List.getElem?_eq_getElem (by omega)]
    show some (fnL l ((i : Nat) : Int)) = _
    unfold fnL
    rw [List.getD_eq_getElem?_getD, show ((i : Nat) : Int).toNat = i by omega, List.getElem?_eq_getElem (by omega)]
    rfl
  · rw [List.getElem?_eq_none (by rw [List.length_range]; omega), List.getElem?_eq_none (by omega)]
    rfl
/-- a grows; f is a behind p -/
def grow (s : Nat) (a : Int → Int) : Prop := ∀ x y, 0 ≤ x → x < (s : Int) → 0 ≤ y → y < (s : Int) → (a x ≤ a y ↔ x ≤ y)
def beh (s : Nat) (a f p : Int → Int) : Prop := ∀ i, 0 ≤ i → i < (s : Int) → (0 ≤ p i ∧ p i < s) ∧ f i = a (p i)
theorem fallF_beh {s : Nat} {a f p : Int → Int} (ha : grow s a) (h : beh s a f p) : ∀ (k : Nat) (x : Int), x + 1 < s → fallF f k x = fallF p k x := by
  intro k
  induction k with
  | zero => intro x _; rfl
  | succ k ih =>
    intro x hx
    show (if x < 0 then x else if f x ≤ f (x + 1) then x else fallF f k (x - 1)) = (if x < 0 then x else if p x ≤ p (x + 1) then x else fallF p k (x - 1))
    by_cases z : x < 0
    · rw [if_pos z, if_pos z]
    · have q := h x (by omega) (by omega)
      have q1 := h (x + 1) (by omega) hx
      have e := ha (p x) (p (x + 1)) q.1.1 q.1.2 q1.1.1 q1.1.2
      rw [if_neg z, if_neg z, q.2, q1.2, ih (x - 1) (by omega)]
      by_cases y : p x ≤ p (x + 1)
      · rw [if_pos y, if_pos (e.2 y)]
      · rw [if_neg y, if_neg (fun w => y (e.1 w))]
theorem othF_beh {s : Nat} {a f p : Int → Int} (ha : grow s a) (h : beh s a f p) {fl : Int} (f0 : 0 ≤ fl) (f1 : fl < s) : ∀ (k : Nat) (x : Int), x < s → othF f fl k x = othF p fl k x := by
  intro k
  induction k with
  | zero => intro x _; rfl
  | succ k ih =>
    intro x hx
    show (if x ≤ fl then x else if f fl ≤ f x then x else othF f fl k (x - 1)) = (if x ≤ fl then x else if p fl ≤ p x then x else othF p fl k (x - 1))
    by_cases z : x ≤ fl
    · rw [if_pos z, if_pos z]
    · have q := h fl f0 f1
      have q1 := h x (by omega) hx
      have e := ha (p fl) (p x) q.1.1 q.1.2 q1.1.1 q1.1.2
      rw [if_neg z, if_neg z, q.2, q1.2, ih (x - 1) (by omega)]
      by_cases y : p fl ≤ p x
      · rw [if_pos y, if_pos (e.2 y)]
      · rw [if_neg y, if_neg (fun w => y (e.1 w))]
theorem swF_beh {s : Nat} {a f p : Int → Int} (h : beh s a f p) {i j : Int} (i0 : 0 ≤ i) (i1 : i < s) (j0 : 0 ≤ j) (j1 : j < s) : beh s a (swF f i j) (swF p i j) := by
  intro x x0 x1
  unfold swF
  rw [up1_at, up1_at, up1_at, up1_at]
  by_cases y : x = j
  · rw [if_pos y, if_pos y]; exact h i i0 i1
  · rw [if_neg y, if_neg y]
    by_cases z : x = i
    · rw [if_pos z, if_pos z]; exact h j j0 j1
    · rw [if_neg z, if_neg z]; exact h x x0 x1
theorem revF_beh {s : Nat} {a : Int → Int} : ∀ (k : Nat) (f p : Int → Int) (l r : Int), beh s a f p → 0 ≤ l → r < s → beh s a (revF k f l r) (revF k p l r) := by
  intro k
  induction k with
  | zero => intro f p l r h _ _; exact h
  | succ k ih =>
    intro f p l r h l0 r1
    show beh s a (if r ≤ l then f else revF k (swF f l r) (l + 1) (r - 1)) (if r ≤ l then p else revF k (swF p l r) (l + 1) (r - 1))
    by_cases z : r ≤ l
    · rw [if_pos z, if_pos z]; exact h
    · rw [if_neg z, if_neg z]
      exact ih _ _ _ _ (swF_beh h l0 (by omega) (by omega) r1) (by omega) (by omega)
theorem fallF_rng (f : Int → Int) : ∀ (k : Nat) (x : Int), fallF f k x ≤ x := by
  intro k
  induction k with
  | zero => intro x; exact Int.le_refl _
  | succ k ih =>
    intro x
    show (if x < 0 then x else if f x ≤ f (x + 1) then x else fallF f k (x - 1)) ≤ x
    by_cases z : x < 0
    · rw [if_pos z]; omega
    · rw [if_neg z]
      by_cases y : f x ≤ f (x + 1)
      · rw [if_pos y]; omega
      · rw [if_neg y]
        have := ih (x - 1)
        omega
theorem othF_rng (f : Int → Int) (fl : Int) : ∀ (k : Nat) (x : Int), fl ≤ x → fl ≤ othF f fl k x ∧ othF f fl k x ≤ x := by
  intro k
  induction k with
  | zero => intro x h; exact ⟨h, Int.le_refl _⟩
  | succ k ih =>
    intro x h
    show fl ≤ (if x ≤ fl then x else if f fl ≤ f x then x else othF f fl k (x - 1)) ∧ (if x ≤ fl then x else if f fl ≤ f x then x else othF f fl k (x - 1)) ≤ x
    by_cases z : x ≤ fl
    · rw [if_pos z]; omega
    · rw [if_neg z]
      by_cases y : f fl ≤ f x
      · rw [if_pos y]; omega
      · rw [if_neg y]
        have := ih (x - 1) (by omega)
        omega
theorem nx_beh {s : Nat} {a f p : Int → Int} (ha : grow s a) (h : beh s a f p) : beh s a (nxF f s) (nxF p s) ∧ nxB f s = nxB p s := by
  have e : fallN f s = fallN p s := fallF_beh ha h s _ (by omega)
  have r := fallF_rng p s ((s : Int) - 2)
  have r : fallN p s ≤ (s : Int) - 2 := r
  unfold nxF nxB
  rw [e]
  by_cases z : fallN p s < 0
  · rw [if_pos z, if_pos z, if_pos z]
    exact ⟨revF_beh _ _ _ _ _ h (by omega) (by omega), rfl⟩
  · rw [if_neg z, if_neg z, if_neg z, othF_beh ha h (by omega) (by omega) s _ (by omega)]
    have q := othF_rng p (fallN p s) s ((s : Int) - 1) (by omega)
    exact ⟨revF_beh _ _ _ _ _ (swF_beh h (by omega) (by omega) (by omega) (by omega)) (by omega) (by omega), rfl⟩
/-- the w-th order on a row: a behind the w-th pattern -/
def atW (s w : Nat) (a f : Int → Int) : Prop := beh s a f (fnL (pw s w))
theorem atW.zero {s : Nat} {a : Int → Int} (h : s ≤ 6) : atW s 0 a a := by
  intro i i0 i1
  rw [pw_zero h]
  unfold ixL
  rw [fnL_toL i0 i1]
  exact ⟨⟨i0, i1⟩, rfl⟩
theorem atW.next {s w : Nat} {a f : Int → Int} (h : s ≤ 6) (ha : grow s a) (H : atW s w a f) (hw : w < fct s) : (w + 1 < fct s → atW s (w + 1) a (nxF f s) ∧ nxB f s = 1) ∧ (w + 1 = fct s → atW s 0 a (nxF f s) ∧ nxB f s = 0) := by
  have q := nx_beh ha H
  have pl := (pw_len h hw).1
  have key : ∀ w', nxL (pw s w) = pw s w' → atW s w' a (nxF f s) := by
    intro w' e i i0 i1
    have r := q.1 i i0 i1
    have e2 : fnL (pw s w') i = nxF (fnL (pw s w)) s i := by
      rw [← e]
      unfold nxL
      rw [pl, fnL_toL i0 i1]
    rw [e2]
    exact r
  refine ⟨fun z => ?_, fun z => ?_⟩
  · have n := pw_next h z
    exact ⟨key _ n.1, q.2.trans n.2⟩
  · have n := pw_last h z
    exact ⟨key _ n.1, q.2.trans n.2⟩
/-! all orders of a list, by patterns -/
theorem getD_map {f : Int → Int} {l : List Int} {i : Nat} (h : i < l.length) : (l.map f).getD i 0 = f (l.getD i 0) := by
  rw [List.getD_eq_getElem?_getD, List.getD_eq_getElem?_getD, List.getElem?_map, List.getElem?_eq_getElem h]
  rfl
theorem era_map (f : Int → Int) : ∀ (l : List Int) (i : Nat), (l.map f).eraseIdx i = (l.eraseIdx i).map f := by
  intro l
  induction l with
  | nil => intro i; rfl
  | cons a l ih =>
    intro i
    rcases i with _ | i
    · rfl
    · show f a :: (l.map f).eraseIdx i = f a :: (l.eraseIdx i).map f
      rw [ih]
theorem pmF_map (f : Int → Int) : ∀ (k : Nat) (l : List Int), pmF k (l.map f) = (pmF k l).map (List.map f) := by
  intro k
  induction k with
  | zero => intro l; rfl
  | succ k ih =>
    intro l
    show (List.range (l.map f).length).flatMap (fun i => (pmF k ((l.map f).eraseIdx i)).map (fun r => ((l.map f).getD i 0) :: r)) = ((List.range l.length).flatMap (fun i => (pmF k (l.eraseIdx i)).map (fun r => (l.getD i 0) :: r))).map (List.map f)
    rw [List.length_map, List.map_flatMap, List.flatMap_def, List.flatMap_def]
    refine congrArg List.flatten (List.map_congr_left (fun i hi => ?_))
    rw [List.mem_range] at hi
    rw [getD_map hi, era_map, ih, List.map_map, List.map_map]
    rfl
theorem pmL_map (f : Int → Int) (l : List Int) : pmL (l.map f) = (pmL l).map (List.map f) := by
  unfold pmL
  rw [List.length_map, pmF_map]
theorem toL_ix (f : Int → Int) (s : Nat) : toL f s = (ixL s).map f := by
  unfold ixL toL
  rw [List.map_map]
  rfl
theorem atW.list {s w : Nat} {a f : Int → Int} (h : s ≤ 6) (hw : w < fct s) (H : atW s w a f) : toL f s = (pw s w).map a := by
  have e : toL f s = toL (fun i => a (fnL (pw s w) i)) s := toL_congr (fun i i0 i1 => (H i i0 i1).2)
  rw [e]
  have q := toL_fnL (pw_len h hw).1
  have : toL (fun i => a (fnL (pw s w) i)) s = (toL (fnL (pw s w)) s).map a := by
    unfold toL
    rw [List.map_map]
    rfl
  rw [this, q]
theorem pmL_mem {s : Nat} {a : Int → Int} (h : s ≤ 6) (p : List Int) : p ∈ pmL (toL a s) ↔ ∃ w, w < fct s ∧ p = (pw s w).map a := by
  rw [toL_ix, pmL_map, List.mem_map]
  constructor
  · rintro ⟨q, hq, e⟩
    obtain ⟨w, hw, e2⟩ := List.mem_iff_getElem.1 hq
    have hw' : w < fct s := by rw [(pm_ok h).2.1] at hw; exact hw
    have := pw_get h hw'
    rw [List.getElem?_eq_getElem hw, e2] at this
    have : q = pw s w := Option.some.inj this
    exact ⟨w, hw', by rw [← e, this]⟩
  · rintro ⟨w, hw, e⟩
    exact ⟨pw s w, List.mem_of_getElem? (pw_get h hw), e.symm⟩
