/-! the next order of a row's part: as functions from 0 on -/
def fallF (f : Int → Int) : Nat → Int → Int
  | 0, x => x
  | k + 1, x => if x < 0 then x else if f x ≤ f (x + 1) then x else fallF f k (x - 1)
def othF (f : Int → Int) (fall : Int) : Nat → Int → Int
  | 0, x => x
  | k + 1, x => if x ≤ fall then x else if f fall ≤ f x then x else othF f fall k (x - 1)
def swF (f : Int → Int) (i j : Int) : Int → Int := up1 (up1 f i (f j)) j (f i)
def revF : Nat → (Int → Int) → Int → Int → (Int → Int)
  | 0, f, _, _ => f
  | k + 1, f, l, r => if r ≤ l then f else revF k (swF f l r) (l + 1) (r - 1)
def fallN (f : Int → Int) (s : Nat) : Int := fallF f s ((s : Int) - 2)
def nxF (f : Int → Int) (s : Nat) : Int → Int :=
  if fallN f s < 0 then revF s f 0 ((s : Int) - 1)
  else revF s (swF f (fallN f s) (othF f (fallN f s) s ((s : Int) - 1))) (fallN f s + 1) ((s : Int) - 1)
def nxB (f : Int → Int) (s : Nat) : Int := if fallN f s < 0 then 0 else 1
/-- the row, from a place on -/
def sgF (h : aH) (r : Nat) (a : Int) : Int → Int := fun i => h r (a + i)
theorem sw_row {g : aH} {r : Nat} {a i j : Int} : a_up (a_up g r (a + i) (g r (a + j))) r (a + j) (g r (a + i)) = setC g r (fun x => swF (sgF g r a) i j (x - a)) := by
  funext c x
  by_cases e : c = r
  · rw [e, setC_eq, a_up_at]
    unfold swF
    rw [up1_at, up1_at, a_up_at]
    by_cases y : x = a + j
    · rw [if_pos y, if_pos (show x - a = j by omega)]; rfl
    · rw [if_neg y, if_neg (show ¬ x - a = j by omega)]
      by_cases z : x = a + i
      · rw [if_pos z, if_pos (show x - a = i by omega)]; rfl
      · rw [if_neg z, if_neg (show ¬ x - a = i by omega)]
        show g r x = g r (a + (x - a))
        congr 1; omega
  · rw [setC_ne e, a_up_ne e, a_up_ne e]
theorem sg_set {g : aH} {r : Nat} {a : Int} {F : Int → Int} : sgF (setC g r (fun x => F (x - a))) r a = F := by
  funext i
  unfold sgF
  rw [setC_eq, show a + i - a = i by omega]
theorem set_set {g : aH} {r : Nat} {F G : Int → Int} : setC (setC g r F) r G = setC g r G := by
  funext c
  by_cases e : c = r
  · rw [e, setC_eq, setC_eq]
  · rw [setC_ne e, setC_ne e, setC_ne e]
theorem set_sg {g : aH} {r : Nat} {a : Int} : setC g r (fun x => sgF g r a (x - a)) = g := by
  funext c x
  by_cases e : c = r
  · rw [e, setC_eq]
    show g r (a + (x - a)) = g r x
    congr 1; omega
  · rw [setC_ne e]
set_option maxHeartbeats 1000000 in
theorem r_next {r n br : Nat} (hr : a_T[r]? = some (.inl (0, n, br))) {a b : Int} {s : Nat} {h : aH} {Q : aQ} (ha : 0 ≤ a) (hb : b ≤ n) (hn : (n : Int) ≤ 1000) (hs : b - a = s) (k : Q (nxB (sgF h r a) s) (setC h r (fun x => nxF (sgF h r a) s (x - a)))) : aRun mX9_nextOrder 1 [aR r, aI a, aI b] h Q := by
  refine e_X9_nextOrder hr ⟨by unfold inR; omega, ?_⟩
  -- back again
  have L3 : ∀ (d : Nat) (l q fl : Int) (F : Int → Int), q ≤ l + d → 0 ≤ l → q < s → (fl < a ∨ a ≤ fl) → Q (if fl < a then (0 : Int) else 1) (setC h r (fun x => revF d F l q (x - a))) → AW mX9_nextOrder 1 92 [some (aR r), some (aI a), none, some (aI fl), some (aI (a + l)), some (aI (a + q)), none] [] (setC h r (fun x => F (x - a))) Q := by
    intro d
    induction d with
    | zero =>
      intro l q fl F hd l0 qs _ kk
      exact s_X9_nextOrder_92 hr ⟨fun _ => kk, fun w => by omega⟩
    | succ d ih =>
      intro l q fl F hd l0 qs hfl kk
      by_cases z : q ≤ l
      · refine s_X9_nextOrder_92 hr ⟨fun _ => ?_, fun w => by omega⟩
        have : revF (d + 1) F l q = F := by unfold revF; rw [if_pos z]
        rw [this] at kk
        exact kk
      · refine s_X9_nextOrder_92 hr ⟨fun w => by omega, fun _ => ⟨by omega, by omega, by unfold inR; omega, by unfold inR; omega, ?_⟩⟩
        rw [sw_row, sg_set, set_set, show a + l + 1 = a + (l + 1) by omega, show a + q + -1 = a + (q - 1) by omega]
        refine ih (l + 1) (q - 1) fl _ (by omega) (by omega) (by omega) hfl ?_
        have : revF (d + 1) F l q = revF d (swF F l q) (l + 1) (q - 1) := by
          show (if q ≤ l then F else _) = _
          rw [if_neg z]
        rw [this] at kk
        exact kk
  -- the other one
  have L2 : ∀ (d : Nat) (x fl : Int), x ≤ fl + d → 0 ≤ fl → fl + 1 < s → fl ≤ x → x < s → Q 1 (setC h r (fun y => revF s (swF (sgF h r a) fl (othF (sgF h r a) fl d x)) (fl + 1) ((s : Int) - 1) (y - a))) → AW mX9_nextOrder 1 36 [some (aR r), some (aI a), some (aI b), some (aI (a + fl)), some (aI (a + x)), none, none] [] h Q := by
    have go : ∀ (x fl : Int), 0 ≤ fl → fl + 1 < s → fl ≤ x → x < s → Q 1 (setC h r (fun y => revF s (swF (sgF h r a) fl x) (fl + 1) ((s : Int) - 1) (y - a))) → inR (a - 1) ∧ inR ((max (a + fl) (a - 1)) + 1) ∧ inR (b - 1) ∧ AW mX9_nextOrder 1 92 [some (aR r), some (aI a), none, some (aI (a + fl)), some (aI ((max (a + fl) (a - 1)) + 1)), some (aI (b - 1)), none] [] (a_up (a_up h r (a + fl) (h r (a + x))) r (a + x) (h r (a + fl))) Q := by
      intro x fl f0 f1 fx xs kk
      refine ⟨by unfold inR; omega, by unfold inR; omega, by unfold inR; omega, ?_⟩
      rw [sw_row, show (max (a + fl) (a - 1)) + 1 = a + (fl + 1) by omega, show b - 1 = a + ((s : Int) - 1) by omega]
      refine L3 s (fl + 1) ((s : Int) - 1) (a + fl) _ (by omega) (by omega) (by omega) (by omega) ?_
      rw [if_neg (by omega)]
      exact kk
    intro d
    induction d with
    | zero =>
      intro x fl hd f0 f1 fx xs kk
      refine s_X9_nextOrder_36 hr ⟨fun _ => ⟨by omega, by omega, go x fl f0 f1 fx xs kk⟩, fun w => by omega⟩
    | succ d ih =>
      intro x fl hd f0 f1 fx xs kk
      refine s_X9_nextOrder_36 hr ⟨fun w => ⟨by omega, by omega, go x fl f0 f1 fx xs ?_⟩, fun w => ⟨by omega, by omega, fun v => go x fl f0 f1 fx xs ?_, fun v => ⟨by unfold inR; omega, ?_⟩⟩⟩
      · have : othF (sgF h r a) fl (d + 1) x = x := by unfold othF; rw [if_pos (by omega)]
        rw [this] at kk
        exact kk
      · have v : sgF h r a fl ≤ sgF h r a x := v
        have : othF (sgF h r a) fl (d + 1) x = x := by unfold othF; rw [if_neg (by omega), if_pos v]
        rw [this] at kk
        exact kk
      · rw [show a + x + -1 = a + (x - 1) by omega]
        have v : ¬ sgF h r a fl ≤ sgF h r a x := v
        refine ih (x - 1) fl (by omega) f0 f1 (by omega) (by omega) ?_
        have : othF (sgF h r a) fl (d + 1) x = othF (sgF h r a) fl d (x - 1) := by
          show (if x ≤ fl then x else if sgF h r a fl ≤ sgF h r a x then x else _) = _
          rw [if_neg (by omega), if_neg v]
        rw [this] at kk
        exact kk
  -- where it falls
  have fin0 : ∀ x : Int, x < 0 → -2 ≤ x → fallN (sgF h r a) s = x → inR (a - 1) ∧ inR ((max (a + x) (a - 1)) + 1) ∧ inR (b - 1) ∧ AW mX9_nextOrder 1 92 [some (aR r), some (aI a), none, some (aI (a + x)), some (aI ((max (a + x) (a - 1)) + 1)), some (aI (b - 1)), none] [] h Q := by
    intro x x0 x1 e
    refine ⟨by unfold inR; omega, by unfold inR; omega, by unfold inR; omega, ?_⟩
    rw [show (max (a + x) (a - 1)) + 1 = a + 0 by omega, show b - 1 = a + ((s : Int) - 1) by omega]
    have R := L3 s 0 ((s : Int) - 1) (a + x) (sgF h r a) (by omega) (by omega) (by omega) (by omega) (by
      rw [if_pos (by omega)]
      unfold nxB nxF at k
      rw [e, if_pos x0, if_pos x0] at k
      exact k)
    rw [set_sg] at R
    exact R
  have fin1 : ∀ x : Int, 0 ≤ x → x + 1 < s → fallN (sgF h r a) s = x → inR (b - 1) ∧ AW mX9_nextOrder 1 36 [some (aR r), some (aI a), some (aI b), some (aI (a + x)), some (aI (b - 1)), none, none] [] h Q := by
    intro x x0 x1 e
    refine ⟨by unfold inR; omega, ?_⟩
    rw [show b - 1 = a + ((s : Int) - 1) by omega]
    refine L2 s ((s : Int) - 1) x (by omega) x0 x1 (by omega) (by omega) ?_
    unfold nxB nxF at k
    rw [e, if_neg (by omega), if_neg (by omega)] at k
    exact k
  suffices H : ∀ (d : Nat) (x : Int), -2 ≤ x → x + 2 ≤ s → x < d → fallF (sgF h r a) d x = fallN (sgF h r a) s → AW mX9_nextOrder 1 4 [some (aR r), some (aI a), some (aI b), some (aI (a + x)), none, none, none] [] h Q from by
    have := H s ((s : Int) - 2) (by omega) (by omega) (by omega) rfl
    rw [show a + ((s : Int) - 2) = b - 2 by omega] at this
    exact this
  intro d
  induction d with
  | zero =>
    intro x x0 x1 hd e
    have e : x = fallN (sgF h r a) s := e
    refine s_X9_nextOrder_4 hr ⟨fun w => ⟨fun _ => fin0 x (by omega) x0 e.symm, fun v => absurd w v⟩, fun w => by omega⟩
  | succ d ih =>
    intro x x0 x1 hd e
    have e : (if x < 0 then x else if sgF h r a x ≤ sgF h r a (x + 1) then x else fallF (sgF h r a) d (x - 1)) = fallN (sgF h r a) s := e
    refine s_X9_nextOrder_4 hr ⟨fun w => ⟨fun _ => fin0 x (by omega) x0 ?_, fun v => absurd w v⟩, fun w => ⟨by omega, by unfold inR; omega, by omega, fun v => ⟨fun u => absurd u w, fun _ => fin1 x (by omega) (by omega) ?_⟩, fun v => ⟨by unfold inR; omega, ?_⟩⟩⟩
    · rw [if_pos (by omega)] at e; exact e.symm
    · rw [show a + x + 1 = a + (x + 1) by omega] at v
      have v : sgF h r a x ≤ sgF h r a (x + 1) := v
      rw [if_neg (by omega), if_pos v] at e
      exact e.symm
    · rw [show a + x + 1 = a + (x + 1) by omega] at v
      have v : ¬ sgF h r a x ≤ sgF h r a (x + 1) := v
      rw [if_neg (by omega), if_neg v] at e
      rw [show a + x + -1 = a + (x - 1) by omega]
      exact ih (x - 1) (by omega) (by omega) (by omega) e
