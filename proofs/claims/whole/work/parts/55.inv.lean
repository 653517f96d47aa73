/-! THE INVARIANT, whole: what one machine is at best, all orders, the image, what is kept of them -/
def lsN (n : Int) : List Int := (List.range n.toNat).map (fun i : Nat => (i : Int))
def onM (n : Int) (mach : Int → Int) (M : Int) : List Int := (lsN n).filter (fun t => decide (mach t = M))
/-- all orders of a list, each first one in turn -/
def pmF : Nat → List Int → List (List Int)
  | 0, _ => [[]]
  | k + 1, l => (List.range l.length).flatMap (fun i => (pmF k (l.eraseIdx i)).map (fun r => (l.getD i 0) :: r))
def pmL (l : List Int) : List (List Int) := pmF l.length l
def ovL (bf ls af : Int → Int) : List Int → Int → Int → Int
  | [], _, o => o
  | t :: r, tm, o => ovL bf ls af r (max tm (bf t) + ls t) (max o (max tm (bf t) + ls t + af t))
def isMn (l : List Int) (v : Int) : Prop := v ∈ l ∧ ∀ x ∈ l, v ≤ x
theorem isMn.unique {l : List Int} {v v' : Int} (h : isMn l v) (h' : isMn l v') : v = v' := by
  have a := h.2 v' h'.1
  have b := h'.2 v h.1
  omega
def aloneIs (n : Int) (mach bf ls af : Int → Int) (M v : Int) : Prop := isMn ((pmL (onM n mach M)).map (fun p => ovL bf ls af p 0 0)) v
def prL : List (List (List Int)) → List (List (List Int))
  | [] => [[]]
  | X :: Xs => X.flatMap (fun x => (prL Xs).map (fun r => x :: r))
def ofL (d : List (List Int)) : Int → Int → Int := fun m k => (d.getD m.toNat []).getD k.toNat 0
def allD (n : Int) (mach : Int → Int) : List (List (List Int)) := prL ([0, 1, 2, 3, 4].map (fun M => pmL (onM n mach M)))
noncomputable def spO (n : Int) (ja l sz : Int → Int) (o : Int → Int → Int) : Option Int := @ite (Option Int) (noR n ja sz o) (Classical.propDecidable _) (some (Classical.epsilon (spanIs n ja l sz o))) none
noncomputable def spL (n : Int) (ja l sz : Int → Int) (D : List (List (List Int))) : List Int := D.filterMap (fun d => spO n ja l sz (ofL d))
def evOK (n : Int) (ja l sz mach : Int → Int) (w v : Int) : Prop := w = (spL n ja l sz (allD n mach)).length ∧ isMn (spL n ja l sz (allD n mach)) v
/-- what lies ahead and behind in the job; how many a machine has -/
def cBA (c : aH) : Prop := ∀ t, 0 ≤ t → t < c 3 1 → c 8 t = (if c 5 t ≤ 0 then 0 else c 8 (t - 1) + c 7 (t - 1)) ∧ c 9 t = (if jN (c 3 1) (c 4) t < 0 then 0 else c 9 (t + 1) + c 7 (t + 1))
def cCnt (c : aH) : Prop := ∀ M, 0 ≤ M → M < 5 → cSz c M = cntB (fun t => decide (c 6 t = M)) (c 3 1).toNat
def sS (c m : aH) : Prop := sShop c m ∧ sOrd c m ∧ cBA c ∧ cCnt c
def ic (c : aH) : aH := fun k => if k = 3 then c 75 else if k = 4 then c 76 else if k = 5 then c 77 else if k = 6 then c 78 else if k = 7 then c 79 else if k = 8 then c 80 else if k = 9 then c 81 else if k = 10 then c 82 else if k = 19 then c 83 else c k
def im (m : aH) : aH := fun k i => if k = 85 then m 115 i else if k = 86 then m 115 (7 + i) else if k = 87 then m 115 (31 + i) else if k = 88 then m 115 (55 + i) else if k = 89 then m 115 (79 + i) else if k = 90 then m 115 (103 + i) else if k = 91 then m 115 (2 + i) else m k i
def sImg (c m : aH) : Prop := (c 75 1 = 0 ∧ m 85 51 = 0) ∨ (¬ m 85 51 = 0 ∧ 0 < c 75 1 ∧ sS (ic c) (im m))
def sNow (c : aH) : Prop := sameO (cSz c) (cO c 19) (cO c (46 + (c 44 1).toNat)) ∧ (0 < c 44 2 → 0 < c 3 1)
def sAlone (c : aH) : Prop := ∀ M, 0 ≤ M → M < 5 → c 72 M = -1 ∨ aloneIs (c 3 1) (c 6) (c 8) (c 7) (c 9) M (c 72 M)
def sEvery (c : aH) : Prop := c 73 1 = 0 ∨ evOK (c 3 1) (jA (c 5)) (c 7) (cSz c) (c 6) (c 73 2) (c 73 3)
def Sim (c m : aH) : Prop := sTape c m ∧ sS c m ∧ sSet c ∧ sTabu c m ∧ sLeast c m ∧ sHist c m ∧ sNow c ∧ sImg c m ∧ sAlone c ∧ sEvery c
def Inv (n : Nat) (h : aH) : Prop := Sim h h ∧ h 85 40 = h 0 16 ∧ 0 ≤ h 0 16 ∧ h 0 16 ≤ 30 * (n : Int)
theorem Inv.mono {n : Nat} {h : aH} (H : Inv n h) : Inv (n + 1) h := ⟨H.1, H.2.1, by have := H.2.2; omega⟩
/-! pieces under frames -/
theorem sTape.congr {c m c' m' : aH} (H : sTape c m) (a1 : c' 1 1 = c 1 1) (a2 : c' 2 = c 2) (b1 : m' 85 9 = m 85 9) (b2 : m' 92 = m 92) : sTape c' m' := by
  unfold sTape at H ⊢
  rw [a1, a2, b1, b2]; exact H
theorem sS.congr {c m c' m' : aH} (H : sS c m) (a : ∀ k, 3 ≤ k → k ≤ 10 → c' k = c k) (a2 : c' 19 = c 19) (b0 : m' 85 0 = m 85 0) (b1 : m' 85 1 = m 85 1) (b : ∀ k, 86 ≤ k → k ≤ 91 → m' k = m k) : sS c' m' := by
  unfold sS sShop mShop sOrd cShop cBA cCnt cSz cO mO at H ⊢
  rw [a 3 (by omega) (by omega), a 4 (by omega) (by omega), a 5 (by omega) (by omega), a 6 (by omega) (by omega), a 7 (by omega) (by omega), a 8 (by omega) (by omega), a 9 (by omega) (by omega), a 10 (by omega) (by omega), a2, b0, b1, b 86 (by omega) (by omega), b 87 (by omega) (by omega), b 88 (by omega) (by omega), b 89 (by omega) (by omega), b 90 (by omega) (by omega), b 91 (by omega) (by omega)]
  exact H
theorem Settled.congr {c c' : aH} (H : Settled c) (a : ∀ k, 3 ≤ k → k ≤ 10 → c' k = c k) (a2 : ∀ k, 19 ≤ k → k ≤ 28 → c' k = c k) (a3 : ∀ k, 38 ≤ k → k ≤ 41 → c' k = c k) : Settled c' := by
  unfold Settled timesOK pathOK cSz cO at H ⊢
  rw [a 3 (by omega) (by omega), a 4 (by omega) (by omega), a 5 (by omega) (by omega), a 6 (by omega) (by omega), a 7 (by omega) (by omega), a 10 (by omega) (by omega), a2 19 (by omega) (by omega), a2 20 (by omega) (by omega), a2 21 (by omega) (by omega), a2 22 (by omega) (by omega), a2 23 (by omega) (by omega), a2 24 (by omega) (by omega), a2 25 (by omega) (by omega), a2 26 (by omega) (by omega), a3 38 (by omega) (by omega), a3 39 (by omega) (by omega), a3 40 (by omega) (by omega), a3 41 (by omega) (by omega)]
  exact H
theorem sSet.congr {c c' : aH} (H : sSet c) (a : ∀ k, 3 ≤ k → k ≤ 10 → c' k = c k) (a2 : ∀ k, 19 ≤ k → k ≤ 28 → c' k = c k) (a3 : ∀ k, 38 ≤ k → k ≤ 41 → c' k = c k) : sSet c' := by
  intro z
  rw [a 3 (by omega) (by omega)] at z
  exact (H z).congr a a2 a3
theorem sTabu.congr {c m c' m' : aH} (H : sTabu c m) (a1 : c' 42 1 = c 42 1) (a2 : c' 42 2 = c 42 2) (a3 : c' 43 = c 43) (b1 : m' 85 34 = m 85 34) (b2 : m' 85 36 = m 85 36) (b3 : m' 107 = m 107) : sTabu c' m' := by
  unfold sTabu at H ⊢
  rw [a1, a2, a3, b1, b2, b3]; exact H
theorem sLeast.congr {c m c' m' : aH} (H : sLeast c m) (a : ∀ k, 3 ≤ k → k ≤ 10 → c' k = c k) (a1 : c' 0 15 = c 0 15) (a2 : c' 84 = c 84) (b1 : m' 85 37 = m 85 37) (b2 : m' 85 38 = m 85 38) (b3 : m' 108 = m 108) : sLeast c' m' := by
  unfold sLeast cSz cO at H ⊢
  rw [a 3 (by omega) (by omega), a 5 (by omega) (by omega), a 6 (by omega) (by omega), a 7 (by omega) (by omega), a 10 (by omega) (by omega), a1, a2, b1, b2, b3]; exact H
theorem sHist.congr {c m c' m' : aH} (H : sHist c m) (a : ∀ k, 3 ≤ k → k ≤ 10 → c' k = c k) (a1 : c' 44 1 = c 44 1) (a2 : c' 44 2 = c 44 2) (a3 : ∀ k, 46 ≤ k → k ≤ 62 → c' k = c k) (b1 : m' 85 18 = m 85 18) (b2 : m' 85 19 = m 85 19) (b3 : m' 96 = m 96) : sHist c' m' := by
  unfold sHist cSz cO at H ⊢
  rw [a 3 (by omega) (by omega), a 6 (by omega) (by omega), a 10 (by omega) (by omega), a1, a2, b1, b2, b3]
  refine ⟨H.1, H.2.1, H.2.2.1, fun j hj => ?_⟩
  have h1 := H.1
  rw [a3 (46 + j) (by omega) (by omega)]
  exact H.2.2.2 j hj
theorem sNow.congr {c c' : aH} (H : sNow c) (hD : 0 ≤ c 44 1 ∧ c 44 1 ≤ 16) (a : c' 10 = c 10) (a0 : c' 19 = c 19) (a1 : c' 44 1 = c 44 1) (a1' : c' 44 2 = c 44 2) (a2 : c' 3 1 = c 3 1) (a3 : ∀ k, 46 ≤ k → k ≤ 62 → c' k = c k) : sNow c' := by
  unfold sNow cSz cO at H ⊢
  rw [a, a0, a1, a1', a2, a3 _ (by omega) (by omega)]
  exact H
theorem sImg.congr {c m c' m' : aH} (H : sImg c m) (a : ∀ k, 75 ≤ k → k ≤ 83 → c' k = c k) (b1 : m' 85 51 = m 85 51) (b2 : m' 115 = m 115) : sImg c' m' := by
  unfold sImg at H ⊢
  rw [a 75 (by omega) (by omega), b1]
  rcases H with x | ⟨x, y, z⟩
  · exact Or.inl x
  · refine Or.inr ⟨x, y, z.congr (fun k k1 k2 => ?_) ?_ ?_ ?_ (fun k k1 k2 => ?_)⟩
    · have : k = 3 ∨ k = 4 ∨ k = 5 ∨ k = 6 ∨ k = 7 ∨ k = 8 ∨ k = 9 ∨ k = 10 := by omega
      rcases this with rfl | rfl | rfl | rfl | rfl | rfl | rfl | rfl
      · exact a 75 (by omega) (by omega)
      · exact a 76 (by omega) (by omega)
      · exact a 77 (by omega) (by omega)
      · exact a 78 (by omega) (by omega)
      · exact a 79 (by omega) (by omega)
      · exact a 80 (by omega) (by omega)
      · exact a 81 (by omega) (by omega)
      · exact a 82 (by omega) (by omega)
    · exact a 83 (by omega) (by omega)
    · exact congrFun b2 0
    · exact congrFun b2 1
    · have : k = 86 ∨ k = 87 ∨ k = 88 ∨ k = 89 ∨ k = 90 ∨ k = 91 := by omega
      rcases this with rfl | rfl | rfl | rfl | rfl | rfl
      · exact funext (fun i => congrFun b2 (7 + i))
      · exact funext (fun i => congrFun b2 (31 + i))
      · exact funext (fun i => congrFun b2 (55 + i))
      · exact funext (fun i => congrFun b2 (79 + i))
      · exact funext (fun i => congrFun b2 (103 + i))
      · exact funext (fun i => congrFun b2 (2 + i))
theorem sAlone.congr {c c' : aH} (H : sAlone c) (a : ∀ k, 3 ≤ k → k ≤ 10 → c' k = c k) (a1 : c' 72 = c 72) : sAlone c' := by
  unfold sAlone at H ⊢
  rw [a 3 (by omega) (by omega), a 6 (by omega) (by omega), a 7 (by omega) (by omega), a 8 (by omega) (by omega), a 9 (by omega) (by omega), a1]
  exact H
theorem sEvery.congr {c c' : aH} (H : sEvery c) (a : ∀ k, 3 ≤ k → k ≤ 10 → c' k = c k) (a1 : c' 73 1 = c 73 1) (a2 : c' 73 2 = c 73 2) (a3 : c' 73 3 = c 73 3) : sEvery c' := by
  unfold sEvery cSz at H ⊢
  rw [a 3 (by omega) (by omega), a 5 (by omega) (by omega), a 6 (by omega) (by omega), a 7 (by omega) (by omega), a 10 (by omega) (by omega), a1, a2, a3]
  exact H
/-- nothing of the state is changed: the class, the reference -/
def cK (c c' : aH) : Prop := ∀ k, (k < 11 ∨ 18 < k) → (k < 29 ∨ 37 < k) → (k < 63 ∨ 71 < k) → k ≠ 74 → k < 85 → c' k = c k
def mK (m m' : aH) : Prop := (∀ k, 85 < k → (k < 93 ∨ 95 < k) → (k < 97 ∨ 106 < k) → (k < 109 ∨ 114 < k) → m' k = m k) ∧ ∀ i, (i = 0 ∨ i = 1 ∨ i = 9 ∨ i = 18 ∨ i = 19 ∨ i = 34 ∨ i = 36 ∨ i = 37 ∨ i = 38 ∨ i = 40 ∨ i = 51) → m' 85 i = m 85 i
theorem cK.refl {c : aH} : cK c c := fun _ _ _ _ _ _ => rfl
theorem mK.refl {c : aH} : mK c c := ⟨fun _ _ _ _ _ => rfl, fun _ _ => rfl⟩
theorem cK.trans {a b c : aH} (x : cK a b) (y : cK b c) : cK a c := fun k k1 k2 k3 k4 k5 => (y k k1 k2 k3 k4 k5).trans (x k k1 k2 k3 k4 k5)
theorem mK.trans {a b c : aH} (x : mK a b) (y : mK b c) : mK a c := ⟨fun k k1 k2 k3 k4 => (y.1 k k1 k2 k3 k4).trans (x.1 k k1 k2 k3 k4), fun i hi => (y.2 i hi).trans (x.2 i hi)⟩
theorem Sim.frame {c m c' m' : aH} (H : Sim c m) (x : cK c c') (y : mK m m') : Sim c' m' := by
  obtain ⟨h1, h2, h3, h4, h5, h6, h7, h8, h9, h10⟩ := H
  have a : ∀ k, 3 ≤ k → k ≤ 10 → c' k = c k := fun k k1 k2 => x k (by omega) (by omega) (by omega) (by omega) (by omega)
  have e : ∀ k, (k < 11 ∨ 18 < k) → (k < 29 ∨ 37 < k) → (k < 63 ∨ 71 < k) → k ≠ 74 → k < 85 → ∀ i, c' k i = c k i := fun k k1 k2 k3 k4 k5 i => congrFun (x k k1 k2 k3 k4 k5) i
  have f : ∀ k, 85 < k → (k < 93 ∨ 95 < k) → (k < 97 ∨ 106 < k) → (k < 109 ∨ 114 < k) → m' k = m k := y.1
  refine ⟨h1.congr (e 1 (by omega) (by omega) (by omega) (by omega) (by omega) 1) (x 2 (by omega) (by omega) (by omega) (by omega) (by omega)) (y.2 9 (by omega)) (f 92 (by omega) (by omega) (by omega) (by omega)), ?_, ?_, ?_, ?_, ?_, ?_, ?_, ?_, ?_⟩
  · exact h2.congr a (x 19 (by omega) (by omega) (by omega) (by omega) (by omega)) (y.2 0 (by omega)) (y.2 1 (by omega)) (fun k k1 k2 => f k (by omega) (by omega) (by omega) (by omega))
  · exact h3.congr a (fun k k1 k2 => x k (by omega) (by omega) (by omega) (by omega) (by omega)) (fun k k1 k2 => x k (by omega) (by omega) (by omega) (by omega) (by omega))
  · exact h4.congr (e 42 (by omega) (by omega) (by omega) (by omega) (by omega) 1) (e 42 (by omega) (by omega) (by omega) (by omega) (by omega) 2) (x 43 (by omega) (by omega) (by omega) (by omega) (by omega)) (y.2 34 (by omega)) (y.2 36 (by omega)) (f 107 (by omega) (by omega) (by omega) (by omega))
  · exact h5.congr a (e 0 (by omega) (by omega) (by omega) (by omega) (by omega) 15) (x 84 (by omega) (by omega) (by omega) (by omega) (by omega)) (y.2 37 (by omega)) (y.2 38 (by omega)) (f 108 (by omega) (by omega) (by omega) (by omega))
  · exact h6.congr a (e 44 (by omega) (by omega) (by omega) (by omega) (by omega) 1) (e 44 (by omega) (by omega) (by omega) (by omega) (by omega) 2) (fun k k1 k2 => x k (by omega) (by omega) (by omega) (by omega) (by omega)) (y.2 18 (by omega)) (y.2 19 (by omega)) (f 96 (by omega) (by omega) (by omega) (by omega))
  · exact h7.congr (by have := h6.1; omega) (a 10 (by omega) (by omega)) (x 19 (by omega) (by omega) (by omega) (by omega) (by omega)) (e 44 (by omega) (by omega) (by omega) (by omega) (by omega) 1) (e 44 (by omega) (by omega) (by omega) (by omega) (by omega) 2) (congrFun (a 3 (by omega) (by omega)) 1) (fun k k1 k2 => x k (by omega) (by omega) (by omega) (by omega) (by omega))
  · exact h8.congr (fun k k1 k2 => x k (by omega) (by omega) (by omega) (by omega) (by omega)) (y.2 51 (by omega)) (f 115 (by omega) (by omega) (by omega) (by omega))
  · exact h9.congr a (x 72 (by omega) (by omega) (by omega) (by omega) (by omega))
  · exact h10.congr a (e 73 (by omega) (by omega) (by omega) (by omega) (by omega) 1) (e 73 (by omega) (by omega) (by omega) (by omega) (by omega) 2) (e 73 (by omega) (by omega) (by omega) (by omega) (by omega) 3)
theorem Inv.frame {n : Nat} {h h' : aH} (H : Inv n h) (x : cK h h') (y : mK h h') : Inv (n + 1) h' := by
  refine ⟨H.1.frame x y, ?_⟩
  rw [y.2 40 (by omega), congrFun (x 0 (by omega) (by omega) (by omega) (by omega) (by omega)) 16]
  have := H.2
  omega
theorem mK.fm {h g : aH} (hF : fmF h g) : mK h g := ⟨fun k k1 k2 k3 k4 => hF.1 k (by omega) k3, fun i hi => hF.2 i (by omega) (by omega) (by omega) (by omega)⟩
theorem cK.fm {h g : aH} (hF : fmF h g) : cK h g := fun k k1 k2 k3 k4 k5 => hF.1 k (by omega) (by omega)
theorem mK.rk {h g : aH} (hF : rkF h g) : mK h g := ⟨fun k k1 k2 k3 k4 => hF.1 k (by omega) (by omega), fun i hi => hF.2 i (by omega)⟩
theorem cK.rk {h g : aH} (hF : rkF h g) : cK h g := fun k k1 k2 k3 k4 k5 => hF.1 k (by omega) (by omega)
