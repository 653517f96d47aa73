/-! what both sides find is the same -/
theorem mvAdd_congr {job job' w w' : Int → Int} {p to : Int} {L : List Int} (h : p + 1 < to → job' (w' p) = job (w p) ∧ job' (w' (p + 1)) = job (w (p + 1))) : mvAdd job' w' p to L = mvAdd job w p to L := by
  unfold mvAdd
  by_cases z : p + 1 < to
  · rw [(h z).1, (h z).2]
  · rw [if_neg (fun y => z y.1), if_neg (fun y => z y.1)]
theorem mvL_congr {mach job job' w w' e e' : Int → Int} {wl nb : Int} (hb : okBlocks mach w wl e nb) (he : ∀ b, 0 ≤ b → b ≤ nb → e' b = e b) (hj : ∀ i, 0 ≤ i → i < wl → job' (w' i) = job (w i)) : ∀ (b : Nat), (b : Int) ≤ nb → mvL nb e' job' w' b = mvL nb e job w b := by
  intro b
  induction b with
  | zero => intro _; rfl
  | succ b ih =>
    intro hb1
    have c0 := hb.at (b := b) (by omega) (by omega)
    have c1 := hb.at (b := (b : Int) + 1) (by omega) (by omega)
    unfold mvL mvStep
    rw [ih (by omega), he b (by omega) (by omega), he ((b : Int) + 1) (by omega) (by omega)]
    rw [mvAdd_congr (p := e b) (fun z => ⟨hj _ (by omega) (by omega), hj _ (by omega) (by omega)⟩)]
    by_cases z : (b : Int) < nb - 1 ∧ e b ≤ e ((b : Int) + 1) - 2 ∧ ¬ (0 < (b : Int) ∧ e ((b : Int) + 1) - e b = 2)
    · rw [if_pos z, if_pos z]
      exact mvAdd_congr (fun _ => ⟨hj _ (by omega) (by omega), hj _ (by omega) (by omega)⟩)
    · rw [if_neg z, if_neg z]
theorem mvF_congr {mach job job' w w' e e' : Int → Int} {wl nb : Int} (hb : okBlocks mach w wl e nb) (he : ∀ b, 0 ≤ b → b ≤ nb → e' b = e b) (hj : ∀ i, 0 ≤ i → i < wl → job' (w' i) = job (w i)) : mvF nb e' job' w' = mvF nb e job w := by
  unfold mvF
  by_cases z : nb < 2
  · rw [if_pos z, if_pos z]
  · rw [if_neg z, if_neg z]
    exact mvL_congr hb he hj nb.toNat (by omega)
/-- two graphs of one shop: the same starts, tails, span -/
theorem grT.same {n : Int} {ja ja' jn jn' pa pa' pn pn' l l' S S' T T' : Int → Int} {span span' : Int} (hn : 0 < n) (g : grT n ja jn pa pn l S T span) (g' : grT n ja' jn' pa' pn' l' S' T' span') (hd : ∀ t, 0 ≤ t → t < n → ja' t = ja t ∧ jn' t = jn t ∧ pa' t = pa t ∧ pn' t = pn t ∧ l' t = l t) : span' = span ∧ ∀ t, 0 ≤ t → t < n → S' t = S t ∧ T' t = T t := by
  have hS := okS.unique (fun t a b => ⟨⟨(g.rng a b).1, (g.rng a b).2.1⟩, (hd t a b).1, (hd t a b).2.2.1, (hd t a b).2.2.2.2⟩) g.2.2.1 g.2.2.2.1 g'.2.2.2.1
  have hT := okT.unique g.1 g.2.1 (fun t a b => ⟨(hd t a b).2.1, (hd t a b).2.2.2.1, (hd t a b).2.2.2.2⟩) g.2.2.1 g.2.2.2.2.1 g'.2.2.2.2.1
  refine ⟨?_, fun t a b => ⟨(hS t a b).symm, (hT t a b).symm⟩⟩
  obtain ⟨t, a, b, c⟩ := g.2.2.2.2.2.1.2 hn
  obtain ⟨t', a', b', c'⟩ := g'.2.2.2.2.2.1.2 hn
  have x := g.2.2.2.2.2.1.1 t' a' b'
  have y := g'.2.2.2.2.2.1.1 t a b
  have z1 := hS t a b
  have z2 := hS t' a' b'
  have w1 := (hd t a b).2.2.2.2
  have w2 := (hd t' a' b').2.2.2.2
  omega
