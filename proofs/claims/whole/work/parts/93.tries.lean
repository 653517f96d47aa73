/-! ALL ORDERS on the reference: tried -/
def tF (h g : aH) : Prop := (∀ c, c ≠ 85 → (c < 97 ∨ 102 < c) → g c = h c) ∧ ∀ i, i ≠ 26 → i ≠ 48 → i ≠ 49 → g 85 i = h 85 i
theorem tF.refl {h : aH} : tF h h := ⟨fun _ _ _ => rfl, fun _ _ _ _ => rfl⟩
theorem tF.trans {a b c : aH} (x : tF a b) (y : tF b c) : tF a c := ⟨fun k k1 k2 => (y.1 k k1 k2).trans (x.1 k k1 k2), fun i i1 i2 i3 => (y.2 i i1 i2 i3).trans (x.2 i i1 i2 i3)⟩
def Acc (A : List Int) (g : aH) : Prop := g 85 48 = (A.length : Int) ∧ ((A = [] ∧ g 85 49 = -1) ∨ (isMn A (g 85 49) ∧ 0 ≤ g 85 49))
theorem Acc.perm {A B : List Int} {g : aH} (h : Acc A g) (p : A.Perm B) : Acc B g := by
  refine ⟨by rw [h.1, p.length_eq], ?_⟩
  rcases h.2 with ⟨e, x⟩ | ⟨e, x⟩
  · subst e
    exact Or.inl ⟨List.Perm.nil_eq p |>.symm, x⟩
  · exact Or.inr ⟨e.mem (fun x => p.mem_iff), x⟩
theorem Acc.of {A : List Int} {g g' : aH} (h : Acc A g) (e1 : g' 85 48 = g 85 48) (e2 : g' 85 49 = g 85 49) : Acc A g' := by
  unfold Acc at h ⊢
  rw [e1, e2]
  exact h
theorem Acc.more {A : List Int} {v : Int} {g : aH} (h : Acc A g) (hv : 0 ≤ v) : Acc (A ++ [v]) (a_up (a_up g 85 48 ((g 85 48) + 1)) 85 49 (if 0 ≤ (g 85 49) then (min (g 85 49) v) else v)) := by
  refine ⟨?_, ?_⟩
  · rw [a_up_off (by omega), a_up_eq, h.1, List.length_append]
    show (A.length : Int) + 1 = ((A.length + 1 : Nat) : Int)
    omega
  · rw [a_up_eq]
    right
    rcases h.2 with ⟨e, x⟩ | ⟨e, x⟩
    · rw [x, if_neg (by omega), e]
      exact ⟨⟨List.mem_singleton.2 rfl, fun y hy => by rw [List.mem_singleton.1 hy]; exact Int.le_refl _⟩, hv⟩
    · rw [if_pos x]
      refine ⟨⟨?_, fun y hy => ?_⟩, by omega⟩
      · rcases Int.le_total (g 85 49) v with z | z
        · rw [Int.min_eq_left z]
          exact List.mem_append_left _ e.1
        · rw [Int.min_eq_right z]
          exact List.mem_append_right _ (List.mem_singleton.2 rfl)
      · rcases List.mem_append.1 hy with w | w
        · have := e.2 y w
          omega
        · rw [List.mem_singleton.1 w]
          omega
theorem a_up_swF {h : aH} {c : Nat} {i j : Int} : a_up (a_up h c i (h c j)) c j (h c i) = setC h c (swF (h c) i j) := by
  funext c'
  by_cases z : c' = c
  · subst z
    rw [setC_eq]
    funext x
    rw [a_up_at, a_up_at]
    rfl
  · rw [setC_ne z, a_up_ne z, a_up_ne z]
theorem swF_swF {f : Int → Int} {i j : Int} : swF (swF f i j) i j = f := by
  have ej : swF f i j j = f i := by unfold swF; exact up1_eq
  have ei : swF f i j i = f j := by
    unfold swF
    by_cases z : i = j
    · rw [z, up1_eq]
    · rw [up1_ne z, up1_eq]
  funext x
  show up1 (up1 (swF f i j) i (swF f i j j)) j (swF f i j i) x = f x
  rw [ej, ei]
  by_cases z : x = j
  · rw [z, up1_eq]
  · rw [up1_ne z]
    by_cases y : x = i
    · rw [y, up1_eq]
    · rw [up1_ne y, swF_out y z]
def tK (h0 g : aH) : Prop := g 85 0 = h0 85 0 ∧ g 85 1 = h0 85 1 ∧ g 86 = h0 86 ∧ g 87 = h0 87 ∧ g 88 = h0 88 ∧ g 89 = h0 89 ∧ g 91 = h0 91
theorem tF.tK {h0 h g : aH} (x : tF h g) (y : tK h0 h) : tK h0 g := ⟨(x.2 0 (by omega) (by omega) (by omega)).trans y.1, (x.2 1 (by omega) (by omega) (by omega)).trans y.2.1, (x.1 86 (by omega) (by omega)).trans y.2.2.1, (x.1 87 (by omega) (by omega)).trans y.2.2.2.1, (x.1 88 (by omega) (by omega)).trans y.2.2.2.2.1, (x.1 89 (by omega) (by omega)).trans y.2.2.2.2.2.1, (x.1 91 (by omega) (by omega)).trans y.2.2.2.2.2.2⟩
theorem tK.shop {h g : aH} (x : tK h g) (hs : mShop h) : mShop g := by
  unfold mShop at hs ⊢
  rw [x.1, x.2.1, x.2.2.1, x.2.2.2.1, x.2.2.2.2.1, x.2.2.2.2.2.1, x.2.2.2.2.2.2]
  exact hs
theorem tK.setC {h g : aH} {f : Int → Int} (x : tK h g) : tK h (setC g 90 f) := x
noncomputable def spH (h : aH) (D : List (List (List Int))) : List Int := spL (h 85 1) (jA (h 87)) (h 89) (h 91) D
theorem spH_app {h : aH} {D E : List (List (List Int))} : spH h (D ++ E) = spH h D ++ spH h E := List.filterMap_append
theorem spH_perm {h : aH} {D E : List (List (List Int))} (p : D.Perm E) : (spH h D).Perm (spH h E) := List.Perm.filterMap _ p
theorem spH_len {h : aH} {D : List (List (List Int))} : (spH h D).length ≤ D.length := List.length_filterMap_le _ _
theorem r_triesLeaf {h0 h : aH} {s : Nat → Nat} {F F' : Nat} (hF : F' + 1 ≤ F) (hB : 12 ≤ F) {A : List Int} {Q : aQ} (hs0 : mShop h0) (hn : 0 < h0 85 1) (hK : tK h0 h) (hz : ∀ M : Nat, M < 5 → ((s M : Nat) : Int) = h0 91 M) (hd : ∀ M, M < 5 → (sgM h s M).Perm (onM (h0 85 1) (h0 88) M)) (hA : Acc A h) (hl : A.length + 1 ≤ 720) (k : ∀ g B, tF h g → B.Perm (A ++ spH h0 [(List.range 5).map (sgM h s)]) → Acc B g → Q 0 g) : aRun mX10_triesFrom F [aR 85, aI 5, aI 0] h Q := by
  have hs := hK.shop hs0
  have gd : ∀ M : Nat, M < 5 → ((List.range 5).map (sgM h s)).getD M [] = sgM h s M := fun M x => by
    have : M = 0 ∨ M = 1 ∨ M = 2 ∨ M = 3 ∨ M = 4 := by omega
    rcases this with rfl | rfl | rfl | rfl | rfl <;> rfl
  have hm0 := hs0.mach
  have ho1 : okOrd (h0 85 1) (h0 88) (h0 91) (ofL ((List.range 5).map (sgM h s))) := ofL_ok hm0 (fun M x => by rw [gd M x]; exact hd M x) (fun M x => by
    rw [gd M x, ← hz M x]
    unfold sgM
    rw [toL_len])
  have so : sameO (h0 91) (ofL ((List.range 5).map (sgM h s))) (mO h) := fun M j a b c e => by
    have z := hz M.toNat (by omega)
    rw [show ((M.toNat : Nat) : Int) = M by omega] at z
    unfold ofL
    rw [gd M.toNat (by omega)]
    unfold sgM
    rw [toL_getD (by omega)]
    show h 90 _ = h 90 _
    congr 1
    omega
  have ho2 := ho1.same hm0 so
  have ho : okOrd (h 85 1) (h 88) (h 91) (mO h) := by
    rw [hK.2.1, hK.2.2.2.2.1, hK.2.2.2.2.2.2]
    exact ho2
  have hr : ∀ t, 0 ≤ t → t < h0 85 1 → jA (h0 87) t < h0 85 1 := fun t a b => by
    have := hs0.1.dual t a b
    omega
  have sm : spO (h0 85 1) (jA (h0 87)) (h0 89) (h0 91) (mO h) = spO (h0 85 1) (jA (h0 87)) (h0 89) (h0 91) (ofL ((List.range 5).map (sgM h s))) := spO_same rfl so (fun _ _ _ => rfl) (fun _ _ _ => ⟨rfl, rfl⟩) hr (h0 88) ho1 hm0 hn
  refine e_X10_triesFrom hF hB ⟨fun _ => r_reckons hs ho (fun r g F lk R => ?_), fun w => absurd rfl w⟩
  have tf : tF h g := ⟨F.1, fun i i1 _ _ => F.2 i i1⟩
  have gK := tf.tK hK
  rw [hK.2.2.2.2.2.2] at lk
  rcases R with ⟨r0, na⟩ | ⟨r1, T⟩
  · rw [hK.2.1, hK.2.2.2.1] at na
    have e := sm.symm.trans (spO_ring (l := h0 89) lk na)
    refine ⟨fun _ => k g A tf ?_ (hA.of (F.2 48 (by omega)) (F.2 49 (by omega))), fun w => absurd r0 w⟩
    have : spH h0 [(List.range 5).map (sgM h s)] = [] := by
      unfold spH spL
      exact List.filterMap_cons_none (l := []) e
    rw [this, List.append_nil]
  · have T' := T.1
    rw [gK.2.1, gK.2.2.2.1, gK.2.2.1, gK.2.2.2.2.2.1] at T'
    have e := sm.symm.trans (spO_some (l := h0 89) hn ho2 hm0 hr lk T'.2.2.1 T'.2.2.2.1 T'.2.2.2.2.2.1)
    have hAg := hA.of (F.2 48 (by omega)) (F.2 49 (by omega))
    refine ⟨fun w => by omega, fun _ => ⟨by rw [hAg.1]; unfold inR; omega, k _ (A ++ [g 85 26]) ?_ ?_ (hAg.more T.2.1.1)⟩⟩
    · refine ⟨fun c c1 c2 => ?_, fun i i1 i2 i3 => ?_⟩
      · rw [a_up_ne c1, a_up_ne c1]
        exact F.1 c c1 c2
      · rw [a_up_off i3, a_up_off i2]
        exact F.2 i i1
    · have : spH h0 [(List.range 5).map (sgM h s)] = [g 85 26] := by
        unfold spH spL
        exact List.filterMap_cons_some (l := []) e
      rw [this]
theorem r_triesFrom {h0 : aH} {s : Nat → Nat} (hs0 : mShop h0) (hn : 0 < h0 85 1) (hz : ∀ M : Nat, M < 5 → ((s M : Nat) : Int) = h0 91 M) (h6 : ∀ M : Nat, M < 5 → s M ≤ 6) : ∀ (D m k : Nat) (h : aH) (A : List Int) (Q : aQ), m ≤ 5 → (m = 5 → k = 0) → (m < 5 → k ≤ s m) → 7 * (5 - m) ≤ D + k → tK h0 h → (∀ M, M < 5 → (sgM h s M).Perm (onM (h0 85 1) (h0 88) M)) → Acc A h → A.length + (vsH h s m k).length ≤ 720 → (∀ g B, tF h g → B.Perm (A ++ spH h0 (vsH h s m k)) → Acc B g → Q 0 g) → aRun mX10_triesFrom (D + 12) [aR 85, aI m, aI k] h Q := by
  have h24 : ∀ M : Nat, M < 5 → s M ≤ 24 := fun M x => by have := h6 M x; omega
  have leaf : ∀ (F F' : Nat) (hF : F' + 1 ≤ F) (hB : 12 ≤ F) (h : aH) (A : List Int) (Q : aQ), tK h0 h → (∀ M, M < 5 → (sgM h s M).Perm (onM (h0 85 1) (h0 88) M)) → Acc A h → A.length + (vsH h s 5 0).length ≤ 720 → (∀ g B, tF h g → B.Perm (A ++ spH h0 (vsH h s 5 0)) → Acc B g → Q 0 g) → aRun mX10_triesFrom F [aR 85, aI 5, aI 0] h Q :=
    fun F F' hF hB h A Q hK hd hA hl k => r_triesLeaf hF hB hs0 hn hK hz hd hA hl k
  intro D
  induction D with
  | zero =>
    intro m k h A Q m5 e5 lk ms hK hd hA hl kq
    have : m = 5 := by
      by_cases z : m < 5
      · have := lk z
        have := h6 m z
        omega
      · omega
    subst this
    have := e5 rfl
    subst this
    exact leaf 12 11 (by omega) (by omega) h A Q hK hd hA hl kq
  | succ D ih =>
    intro m k h A Q m5 e5 lk ms hK hd hA hl kq
    by_cases z : m = 5
    · subst z
      have := e5 rfl
      subst this
      exact leaf (D + 1 + 12) (D + 12) (by omega) (by omega) h A Q hK hd hA hl kq
    have m5' : m < 5 := by omega
    have zm := hz m m5'
    have km := lk m5'
    have sm6 := h6 m m5'
    have e91 : h 91 m = ((s m : Nat) : Int) := by rw [hK.2.2.2.2.2.2, zm]
    refine e_X10_triesFrom (F' := D + 12) (by omega) (by omega) ⟨fun w => by omega, fun _ => ⟨⟨by omega, by omega⟩, fun lt => ?_, fun ge => ⟨by unfold inR; omega, ?_⟩⟩⟩
    · rw [e91] at lt
      have kl : k < s m := by omega
      generalize hFi : (fun i => Vis ((List.range m).map (sgM h s)) (toL (fun j => h 90 (24 * (m : Int) + j)) k ++ [(toL (fun j => h 90 (24 * (m : Int) + ((k : Int) + j))) (s m - k)).getD i 0]) ((toL (fun j => h 90 (24 * (m : Int) + ((k : Int) + j))) (s m - k)).eraseIdx i) ((List.range' (m + 1) (4 - m)).map (sgM h s))) = Fi
      have hV : vsH h s m k = (List.range' 0 (s m - k)).flatMap Fi := by rw [← hFi]; exact vsH_loop m5' kl
      suffices H : ∀ (d i : Nat) (g : aH) (B : List Int) (W : List (List (List Int))), k ≤ i → i ≤ s m → s m - i ≤ d → tF h g → Acc B g → B.Perm (A ++ spH h0 W) → W ++ (List.range' (i - k) (s m - i)).flatMap Fi = vsH h s m k → AW mX10_triesFrom (D + 1 + 12) 73 [some (aR 85), some (aI m), some (aI k), some (aI i)] [] g Q by
        refine H (s m) k h A [] (Nat.le_refl _) km (by omega) tF.refl hA ?_ ?_
        · show A.Perm (A ++ [])
          rw [List.append_nil]
        · rw [Nat.sub_self, hV]
          rfl
      intro d
      induction d with
      | zero =>
        intro i g B W ki is hd' f hB hP hW
        have : i = s m := by omega
        subst this
        rw [Nat.sub_self] at hW
        have hW' : W = vsH h s m k := by rw [← hW]; exact (List.append_nil W).symm
        rw [hW'] at hP
        refine s_X10_triesFrom_73 (F' := D + 12) (by omega) (by omega) ⟨⟨by omega, by omega⟩, fun _ => kq g B f hP hB, fun w => ?_⟩
        rw [f.1 91 (by omega) (by omega), e91] at w
        omega
      | succ d ihd =>
        intro i g B W ki is hd' f hB hP hW
        by_cases y : i = s m
        · subst y
          rw [Nat.sub_self] at hW
          have hW' : W = vsH h s m k := by rw [← hW]; exact (List.append_nil W).symm
          rw [hW'] at hP
          refine s_X10_triesFrom_73 (F' := D + 12) (by omega) (by omega) ⟨⟨by omega, by omega⟩, fun _ => kq g B f hP hB, fun w => ?_⟩
          rw [f.1 91 (by omega) (by omega), e91] at w
          omega
        have il : i < s m := by omega
        have g90 : g 90 = h 90 := f.1 90 (by omega) (by omega)
        have nx : (List.range' (i - k) (s m - i)).flatMap Fi = Fi (i - k) ++ (List.range' (i + 1 - k) (s m - (i + 1))).flatMap Fi := by
          rw [show s m - i = (s m - (i + 1)) + 1 by omega, List.range'_succ, show i + 1 - k = i - k + 1 by omega]
          rfl
        rw [nx, ← List.append_assoc] at hW
        have hlW : W.length + (Fi (i - k)).length ≤ (vsH h s m k).length := by
          rw [← hW, List.length_append, List.length_append]
          omega
        refine s_X10_triesFrom_73 (F' := D + 12) (by omega) (by omega) ⟨⟨by omega, by omega⟩, fun w => ?_, fun _ => ⟨by unfold inR; omega, by unfold inR; omega, by unfold inR; omega, ⟨⟨by omega, by omega⟩, ⟨by omega, by omega⟩, ⟨by omega, by omega⟩, ⟨by omega, by omega⟩⟩, by unfold inR; omega, ?_⟩⟩
        · rw [f.1 91 (by omega) (by omega), e91] at w
          omega
        rw [a_up_swF]
        have hg1 : setC g 90 (swF (g 90) (24 * (m : Int) + k) (24 * (m : Int) + i)) 90 = swF (h 90) (24 * (m : Int) + k) (24 * (m : Int) + i) := by rw [setC_eq, g90]
        have vp : (vsH (setC g 90 (swF (g 90) (24 * (m : Int) + k) (24 * (m : Int) + i))) s m (k + 1)).Perm (Fi (i - k)) := by rw [← hFi]; exact vsH_sw hg1 h24 m5' ki il
        refine ih m (k + 1) _ B _ m5 (fun w => absurd w z) (fun _ => by omega) (by omega) (f.tK hK).setC (fun M x => (sg_sw hg1 h24 m5' ki il M x).trans (hd M x)) (hB.of rfl rfl) ?_ (fun g2 C f2 hC aC => ⟨by unfold inR; omega, ?_⟩)
        · rw [vp.length_eq, hP.length_eq, List.length_append]
          have := spH_len (h := h0) (D := W)
          omega
        · rw [a_up_swF]
          have e90 : swF (g2 90) (24 * (m : Int) + k) (24 * (m : Int) + i) = h 90 := by
            rw [f2.1 90 (by omega) (by omega), hg1, swF_swF]
          rw [e90]
          refine ihd (i + 1) _ C (W ++ Fi (i - k)) (by omega) (by omega) (by omega) ⟨fun c c1 c2 => ?_, fun j j1 j2 j3 => ?_⟩ (aC.of rfl rfl) ?_ hW
          · by_cases q : c = 90
            · subst q
              exact setC_eq
            · rw [setC_ne q, f2.1 c c1 c2, setC_ne q]
              exact f.1 c c1 c2
          · exact (f2.2 j j1 j2 j3).trans (f.2 j j1 j2 j3)
          · rw [spH_app, ← List.append_assoc]
            exact hC.trans (List.Perm.append hP (spH_perm vp))
    · rw [e91] at ge
      have : k = s m := by omega
      subst this
      rw [vsH_next m5'] at hl kq
      exact ih (m + 1) 0 h A _ (by omega) (fun _ => rfl) (fun _ => Nat.zero_le _) (by omega) hK hd hA hl kq
