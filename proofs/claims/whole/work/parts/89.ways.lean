/-! ALL ORDERS: how many ways -/
theorem cmp720 {a : Int} (h0 : 0 ≤ a) (h1 : a ≤ 20000) : ((lg_cmp (Int64.ofInt a) (Int64.ofInt 720)).toInt ≤ 0 ↔ a ≤ 720) ∧ (0 < (lg_cmp (Int64.ofInt a) (Int64.ofInt 720)).toInt ↔ 720 < a) ∧ (Int64.ofInt a).toInt32.toInt = a := by
  have ea : (Int64.ofInt a).toInt = a := Int64.toInt_ofInt_of_le (by omega) (by omega)
  have eb : (Int64.ofInt 720).toInt = 720 := by decide
  have lt : Int64.ofInt 720 < Int64.ofInt a ↔ 720 < a := by rw [Int64.lt_iff_toInt_lt, ea, eb]
  have t1 : (1 : Int32).toInt = 1 := by decide
  have t2 : (0 : Int32).toInt = 0 := by decide
  have t3 : (-1 : Int32).toInt = -1 := by decide
  refine ⟨?_, ?_, ?_⟩
  · unfold lg_cmp
    by_cases z : Int64.ofInt a > Int64.ofInt 720
    · rw [if_pos z, t1]
      have := lt.1 z
      omega
    · rw [if_neg z]
      have : ¬ 720 < a := fun w => z (lt.2 w)
      by_cases y : Int64.ofInt a = Int64.ofInt 720
      · rw [if_pos y, t2]; omega
      · rw [if_neg y, t3]; omega
  · unfold lg_cmp
    by_cases z : Int64.ofInt a > Int64.ofInt 720
    · rw [if_pos z, t1]
      have := lt.1 z
      omega
    · rw [if_neg z]
      have : ¬ 720 < a := fun w => z (lt.2 w)
      by_cases y : Int64.ofInt a = Int64.ofInt 720
      · rw [if_pos y, t2]; omega
      · rw [if_neg y, t3]; omega
  · have : (Int64.ofInt a).toInt32 = Int32.ofInt a := Int64.toInt32_ofInt
    rw [this]
    exact a_ti ⟨by omega, by omega⟩
def preW (s : Nat → Nat) : Nat → Nat
  | 0 => 1
  | M + 1 => preW s M * fct (s M)
theorem fct_mono : ∀ (d k : Nat), fct k ≤ fct (k + d) := by
  intro d
  induction d with
  | zero => intro k; exact Nat.le_refl _
  | succ d ih =>
    intro k
    refine Nat.le_trans (ih k) ?_
    show fct (k + d) ≤ fct (k + d) * (k + d + 1)
    exact Nat.le_mul_of_pos_right _ (by omega)
theorem preW_pos (s : Nat → Nat) : ∀ M, 0 < preW s M := by
  intro M
  induction M with
  | zero => exact Nat.one_pos
  | succ M ih => exact Nat.mul_pos ih (fct_pos _)
theorem preW_mono (s : Nat → Nat) : ∀ (d M : Nat), preW s M ≤ preW s (M + d) := by
  intro d
  induction d with
  | zero => intro M; exact Nat.le_refl _
  | succ d ih =>
    intro M
    refine Nat.le_trans (ih M) ?_
    show preW s (M + d) ≤ preW s (M + d) * fct (s (M + d))
    exact Nat.le_mul_of_pos_right _ (fct_pos _)
theorem preW_ge {s : Nat → Nat} {M k : Nat} (hk : k ≤ s M) (hM : M < 5) : preW s M * fct k ≤ preW s 5 := by
  have a : preW s M * fct k ≤ preW s M * fct (s M) := Nat.mul_le_mul_left _ (by
    have := fct_mono (s M - k) k
    rw [show k + (s M - k) = s M by omega] at this
    exact this)
  have b := preW_mono s (5 - (M + 1)) (M + 1)
  rw [show M + 1 + (5 - (M + 1)) = 5 by omega] at b
  exact Nat.le_trans a b
/-- k is the next one: so much stands -/
theorem preW_end {s : Nat → Nat} {M k : Nat} (h : k = s M + 1 ∨ (k = 2 ∧ s M ≤ 1)) : preW s M * fct (k - 1) = preW s (M + 1) := by
  show _ = preW s M * fct (s M)
  congr 1
  rcases h with e | ⟨e, e2⟩
  · rw [e]; rfl
  · rw [e]
    have : s M = 0 ∨ s M = 1 := by omega
    rcases this with x | x <;> rw [x] <;> rfl
def sN (z : Int → Int) (M : Nat) : Nat := (z M).toNat
theorem r_waysOf {h : aH} {Q : aQ} (hs : cShop h) (kL : ∀ r, 720 < r → 720 < preW (sN (cSz h)) 5 → Q r h) (kV : preW (sN (cSz h)) 5 ≤ 720 → Q (preW (sN (cSz h)) 5 : Nat) h) : aRun mX2_waysOf 1 [aR 3] h Q := by
  refine e_X2_waysOf ?_
  have hn := hs.1.1
  suffices H : ∀ (d M : Nat), M ≤ 5 → 5 - M ≤ d → preW (sN (cSz h)) M ≤ 720 → AW mX2_waysOf 1 4 [some (aR 3), some (aI (preW (sN (cSz h)) M : Nat)), some (aI (M : Int)), none] [] h Q from
    H 5 0 (by omega) (by omega) (by show 1 ≤ 720; omega)
  intro d
  induction d with
  | zero =>
    intro M M1 hd hp
    have e : M = 5 := by omega
    subst e
    exact s_X2_waysOf_4 ⟨fun _ => kV hp, fun w => by omega⟩
  | succ d ih =>
    intro M M1 hd hp
    refine s_X2_waysOf_4 ⟨fun w => ?_, fun w => ?_⟩
    · have e : M = 5 := by omega
      subst e
      exact kV hp
    have sl := hs.2.at (m := (M : Int)) (by omega) (by omega)
    have esz : f_X5_tasksOn h (M : Int) = cSz h (M : Int) := rfl
    have ez : cSz h (M : Int) = h 10 ((M : Int) + 1) - h 10 M := rfl
    have es : ((sN (cSz h) M : Nat) : Int) = cSz h M := by unfold sN; omega
    suffices H2 : ∀ (d2 k : Nat), 2 ≤ k → k ≤ 25 → 25 - k ≤ d2 → (k ≤ sN (cSz h) M + 1 ∨ k = 2) → preW (sN (cSz h)) M * fct (k - 1) ≤ 720 → AW mX2_waysOf 1 11 [some (aR 3), some (aI ((preW (sN (cSz h)) M * fct (k - 1) : Nat) : Int)), some (aI (M : Int)), some (aI (k : Int))] [] h Q from by
      have := H2 24 2 (by omega) (by omega) (by omega) (Or.inr rfl) (by rw [show fct (2 - 1) = 1 from rfl, Nat.mul_one]; exact hp)
      rw [show fct (2 - 1) = 1 from rfl, Nat.mul_one] at this
      exact this
    intro d2
    induction d2 with
    | zero =>
      intro k k2 k25 hd2 hk hle
      refine s_X2_waysOf_11 ⟨by unfold o_X5_tasksOn inR; omega, fun v => ⟨by unfold inR; omega, ?_⟩, fun v => by omega⟩
      have e := preW_end (s := sN (cSz h)) (M := M) (k := k) (by omega)
      rw [e] at hle ⊢
      exact ih (M + 1) (by omega) (by omega) hle
    | succ d2 ih2 =>
      intro k k2 k25 hd2 hk hle
      refine s_X2_waysOf_11 ⟨by unfold o_X5_tasksOn inR; omega, fun v => ⟨by unfold inR; omega, ?_⟩, fun v => ?_⟩
      · have e := preW_end (s := sN (cSz h)) (M := M) (k := k) (by omega)
        rw [e] at hle ⊢
        exact ih (M + 1) (by omega) (by omega) hle
      · have ek : (((preW (sN (cSz h)) M * fct (k - 1) : Nat) : Int)) * (k : Int) = ((preW (sN (cSz h)) M * fct k : Nat) : Int) := by
          rw [← Int.natCast_mul]
          congr 1
          rw [Nat.mul_assoc]
          congr 1
          have : k = k - 1 + 1 := by omega
          conv => rhs; rw [this]
          show fct (k - 1) * k = fct (k - 1) * (k - 1 + 1)
          rw [← this]
        have kb : preW (sN (cSz h)) M * fct k ≤ 720 * 25 := by
          have e2 : preW (sN (cSz h)) M * fct k = preW (sN (cSz h)) M * fct (k - 1) * k := by
            have := Int.ofNat_inj.1 (by rw [Int.natCast_mul]; exact ek : (((preW (sN (cSz h)) M * fct (k - 1)) * k : Nat) : Int) = ((preW (sN (cSz h)) M * fct k : Nat) : Int))
            exact this.symm
          rw [e2]
          exact Nat.mul_le_mul hle (by omega)
        rw [ek]
        generalize hw : preW (sN (cSz h)) M * fct k = w at *
        refine ⟨by unfold inR; omega, fun u => ⟨by unfold inR; omega, ?_⟩, fun u => kL _ (by omega) ?_⟩
        · have R := ih2 (k + 1) (by omega) (by omega) (by omega) (by omega) (by rw [show k + 1 - 1 = k by omega, hw]; omega)
          rw [show k + 1 - 1 = k by omega, hw] at R
          exact R
        · have := preW_ge (s := sN (cSz h)) (M := M) (k := k) (by omega) (by omega)
          omega
theorem r_waysAll {h : aH} {Q : aQ} {z : Int → Int} (hz : ∀ M, 0 ≤ M → M < 5 → h 91 M = z M ∧ 0 ≤ z M ∧ z M ≤ 24) (kL : 720 < preW (sN z) 5 → Q (-7) h) (kV : preW (sN z) 5 ≤ 720 → Q (preW (sN z) 5 : Nat) h) : aRun mX10_waysAll 0 [aR 85] h Q := by
  refine e_X10_waysAll ?_
  suffices H : ∀ (d M : Nat) (a : Nat), M ≤ 5 → 5 - M ≤ d → ((a = preW (sN z) M ∧ a ≤ 720) ∨ (720 < a ∧ a ≤ 18000 ∧ 720 < preW (sN z) 5)) → AW mX10_waysAll 0 4 [some (aR 85), some (aJ (a : Int)), none, some (aI (M : Int)), none] [] h Q from
    H 5 0 1 (by omega) (by omega) (Or.inl ⟨rfl, by omega⟩)
  have fin : ∀ a : Nat, ((a = preW (sN z) 5 ∧ a ≤ 720) ∨ (720 < a ∧ a ≤ 18000 ∧ 720 < preW (sN z) 5)) → Q (if (lg_cmp (Int64.ofInt (a : Int)) (Int64.ofInt 720)).toInt ≤ 0 then (Int64.ofInt (a : Int)).toInt32.toInt else ((-7) : Int)) h := by
    intro a ha
    have c := cmp720 (a := (a : Int)) (by omega) (by omega)
    rcases ha with ⟨e, le⟩ | ⟨gt, _, tot⟩
    · rw [if_pos (c.1.2 (by omega)), c.2.2, e]
      exact kV (by omega)
    · rw [if_neg (fun w => by have := c.1.1 w; omega)]
      exact kL tot
  intro d
  induction d with
  | zero =>
    intro M a M1 hd ha
    have e : M = 5 := by omega
    subst e
    exact s_X10_waysAll_4 ⟨fun _ => fin a ha, fun w => by omega⟩
  | succ d ih =>
    intro M a M1 hd ha
    refine s_X10_waysAll_4 ⟨fun w => ?_, fun w => ?_⟩
    · have e : M = 5 := by omega
      subst e
      exact fin a ha
    have hm := hz M (by omega) (by omega)
    have es : ((sN z M : Nat) : Int) = z M := by unfold sN; omega
    suffices H2 : ∀ (d2 k a : Nat), 2 ≤ k → k ≤ 25 → 25 - k ≤ d2 → (k ≤ sN z M + 1 ∨ k = 2) → ((a = preW (sN z) M * fct (k - 1) ∧ a ≤ 720) ∨ (720 < a ∧ a ≤ 18000 ∧ 720 < preW (sN z) 5)) → AW mX10_waysAll 0 12 [some (aR 85), some (aJ (a : Int)), none, some (aI (M : Int)), some (aI (k : Int))] [] h Q from by
      refine H2 24 2 a (by omega) (by omega) (by omega) (Or.inr rfl) ?_
      rw [show fct (2 - 1) = 1 from rfl, Nat.mul_one]
      exact ha
    have nxt : ∀ (k a : Nat), (k = sN z M + 1 ∨ (k = 2 ∧ sN z M ≤ 1)) → ((a = preW (sN z) M * fct (k - 1) ∧ a ≤ 720) ∨ (720 < a ∧ a ≤ 18000 ∧ 720 < preW (sN z) 5)) → AW mX10_waysAll 0 4 [some (aR 85), some (aJ (a : Int)), none, some (aI ((M : Int) + 1)), none] [] h Q := by
      intro k a hk hka
      refine ih (M + 1) a (by omega) (by omega) ?_
      rw [preW_end hk] at hka
      exact hka
    intro d2
    induction d2 with
    | zero =>
      intro k a k2 k25 hd2 hk hka
      refine s_X10_waysAll_12 ⟨by omega, fun v => ⟨by unfold inR; omega, nxt k a (by omega) hka⟩, fun v => by omega⟩
    | succ d2 ih2 =>
      intro k a k2 k25 hd2 hk hka
      have c := cmp720 (a := (a : Int)) (by omega) (by omega)
      refine s_X10_waysAll_12 ⟨by omega, fun v => ⟨by unfold inR; omega, nxt k a (by omega) hka⟩, fun v => ⟨fun u => ⟨by unfold inR; omega, ?_⟩, fun u => ⟨by unfold inR; omega, ?_⟩⟩⟩
      · have u := c.2.1.1 u
        refine ih (M + 1) a (by omega) (by omega) (Or.inr ?_)
        rcases hka with x | x
        · omega
        · exact x
      · have u : ¬ 720 < (a : Int) := fun w => u (c.2.1.2 w)
        have ea : a = preW (sN z) M * fct (k - 1) := by
          rcases hka with x | x
          · exact x.1
          · omega
        have ek : a * k = preW (sN z) M * fct k := by
          rw [ea, Nat.mul_assoc]
          congr 1
          have : k = k - 1 + 1 := by omega
          conv => rhs; rw [this]
          show fct (k - 1) * k = fct (k - 1) * (k - 1 + 1)
          rw [← this]
        have kb : a * k ≤ 720 * 25 := Nat.mul_le_mul (by omega) (by omega)
        rw [← Int.natCast_mul]
        refine ih2 (k + 1) (a * k) (by omega) (by omega) (by omega) (by omega) ?_
        rw [show k + 1 - 1 = k by omega, ← ek]
        by_cases y : a * k ≤ 720
        · exact Or.inl ⟨rfl, y⟩
        · refine Or.inr ⟨by omega, kb, ?_⟩
          have := preW_ge (s := sN z) (M := M) (k := k) (by omega) (by omega)
          rw [← ek] at this
          omega
