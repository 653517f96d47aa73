/-! what a move brings -/
def spanIs (n : Int) (ja l sz : Int → Int) (o : Int → Int → Int) (v : Int) : Prop := ∃ pa pn S : Int → Int, lnkN sz o pa pn ∧ acyc n ja pa ∧ okS n ja pa l S ∧ okSpan n l S v
theorem spanIs.unique {n : Int} {mach ja ja' l l' sz : Int → Int} {o o' : Int → Int → Int} {v v' : Int} (hn : 0 < n) (ho : okOrd n mach sz o) (hm : ∀ t, 0 ≤ t → t < n → 0 ≤ mach t ∧ mach t < 5) (hso : sameO sz o o') (hja : ∀ t, 0 ≤ t → t < n → ja t < n ∧ ja' t = ja t ∧ l' t = l t) (h : spanIs n ja l sz o v) (h' : spanIs n ja' l' sz o' v') : v = v' := by
  obtain ⟨pa, pn, S, h1, h2, h3, h4⟩ := h
  obtain ⟨pa', pn', S', h1', h2', h3', h4'⟩ := h'
  have hp := lnkN.same ho hm hso h1 h1'
  have hd := ho.dual hm h1
  have hS := okS.unique (fun t a b => ⟨⟨(hja t a b).1, by have := hd t a b; omega⟩, (hja t a b).2.1, (hp t a b).1.symm, (hja t a b).2.2⟩) h2 h3 h3'
  obtain ⟨t, a, b, c⟩ := h4.2 hn
  obtain ⟨t', a', b', c'⟩ := h4'.2 hn
  have x := h4.1 t' a' b'
  have y := h4'.1 t a b
  have z1 := hS t a b
  have z2 := hS t' a' b'
  have w1 := (hja t a b).2.2
  have w2 := (hja t' a' b').2.2
  omega
/-- a place of a move: two neighbours of one machine on the way, of unlike jobs -/
def mvOK (mach job w : Int → Int) (wl p : Int) : Prop := (0 ≤ p ∧ p + 1 < wl) ∧ mach (w (p + 1)) = mach (w p) ∧ job (w p) ≠ job (w (p + 1))
theorem mvAdd_mem {mach job w : Int → Int} {wl p to x : Int} {L : List Int} (hL : ∀ y ∈ L, mvOK mach job w wl y) (hp : p + 1 < to → (0 ≤ p ∧ p + 1 < wl) ∧ mach (w (p + 1)) = mach (w p)) (hx : x ∈ mvAdd job w p to L) : mvOK mach job w wl x := by
  unfold mvAdd at hx
  split at hx
  · rename_i z
    rcases List.mem_append.mp hx with y | y
    · exact hL x y
    · rw [List.mem_singleton.mp y]
      exact ⟨(hp z.1).1, (hp z.1).2, z.2⟩
  · exact hL x hx
theorem mvL_mem {mach job w e : Int → Int} {wl nb : Int} (hb : okBlocks mach w wl e nb) : ∀ (b : Nat), (b : Int) ≤ nb → ∀ x ∈ mvL nb e job w b, mvOK mach job w wl x := by
  intro b
  induction b with
  | zero => intro _ x hx; exact absurd hx List.not_mem_nil
  | succ b ih =>
    intro hb1 x hx
    have ih := ih (by omega)
    have c0 := hb.at (b := b) (by omega) (by omega)
    have c1 := hb.at (b := (b : Int) + 1) (by omega) (by omega)
    have hsame := hb.2.2.2.2.1 b
    have hin : ∀ p, e b ≤ p → p + 1 < e ((b : Int) + 1) → (0 ≤ p ∧ p + 1 < wl) ∧ mach (w (p + 1)) = mach (w p) := fun p y z => ⟨by omega, hsame p (by omega) (by omega) y z⟩
    have h1 : ∀ y ∈ (if 0 < (b : Int) then mvAdd job w (e b) (e ((b : Int) + 1)) (mvL nb e job w b) else mvL nb e job w b), mvOK mach job w wl y := by
      intro y hy
      split at hy
      · exact mvAdd_mem ih (fun z => hin _ (by omega) z) hy
      · exact ih y hy
    unfold mvL mvStep at hx
    split at hx
    · rename_i z
      exact mvAdd_mem h1 (fun y => hin _ (by omega) (by omega)) hx
    · exact h1 x hx
theorem mvF_mem {mach job w e : Int → Int} {wl nb : Int} (hb : okBlocks mach w wl e nb) {x : Int} (hx : x ∈ mvF nb e job w) : mvOK mach job w wl x := by
  unfold mvF at hx
  split at hx
  · exact absurd hx List.not_mem_nil
  · exact mvL_mem hb nb.toNat (by have := hb.1; omega) x hx
/-- the two of a move stand side by side in their order, the second starts as the first ends -/
theorem mv_adj {n : Int} {mach sz job : Int → Int} {o : Int → Int → Int} {pa pn l S w : Int → Int} {cr : Int → Prop} {span wl p : Int} (ho : okOrd n mach sz o) (hm : ∀ t, 0 ≤ t → t < n → 0 ≤ mach t ∧ mach t < 5) (hl : lnkN sz o pa pn) (hw : okWay n (jN n job) pn l S cr span w wl) (hp : mvOK mach job w wl p) : ∃ k, (0 ≤ k ∧ k + 1 < sz (mach (w p))) ∧ o (mach (w p)) k = w p ∧ o (mach (w p)) (k + 1) = w (p + 1) ∧ S (w (p + 1)) = S (w p) + l (w p) := by
  obtain ⟨⟨p0, p1⟩, hmm, hj⟩ := hp
  have r1 := (hw.2.2.2.2 p p0 (by omega)).1
  have q := hw.2.2.1 p p0 p1
  obtain ⟨k, k0, k1, k2⟩ := ho.2.2 (w p) r1.1 r1.2
  have hmp := hm _ r1.1 r1.2
  have hpn : w (p + 1) = pn (w p) := by
    rcases q.2.1 with e | e
    · exfalso
      rcases jN_cases (n := n) (job := job) (w p) with ⟨-, z⟩ | ⟨-, z2, z⟩
      · rw [z] at e; have := q.1.1; omega
      · rw [z] at e
        rw [e] at hj
        exact hj z2.symm
    · exact e
  have hlk := (hl (mach (w p)) k hmp.1 hmp.2 k0 k1).2
  rw [k2, ← hpn] at hlk
  by_cases z : sz (mach (w p)) ≤ k + 1
  · rw [if_pos z] at hlk
    have := q.1.1
    omega
  · rw [if_neg z] at hlk
    exact ⟨k, by omega, k2, hlk.symm, q.2.2.1⟩
