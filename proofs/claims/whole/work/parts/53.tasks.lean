/-! task, order, kept, count: both answer alike -/
theorem r_taskS {h : aH} {Q : Int → Int → aH → Prop} {a b : Int} (hs : sShop h h) (ho : sOrd h h) (hS : sSet h)
    (k : ∀ r, Q r r h) : aRun mX9_task 1 [aR 0, aI a, aI b] h (fun r h1 => aRun mX10_task 2 [aR 85, aI a, aI b] h1 (fun r' h2 => Q r r' h2)) := by
  have h0 := hs.1.1.1
  have h1 := hs.2.2.2.1
  refine p_X9_task (fun z y x => ?_) ?_
  · have q := noTask_0.1 z
    omega
  · refine e_X10_task ⟨by unfold o_X10_isTask inR; omega, fun z => ?_, fun z => ⟨fun y => ?_, fun y => ?_⟩⟩
    · have q := f_in_0.1 z
      have e2 : f_X9_task h a b = -1 := by
        unfold f_X9_task
        rw [if_neg (fun e => by have := noTask_0.1 e; omega)]
      rw [e2]
      exact k _
    · have q := f_in_0.1 y
      have e2 : f_X9_task h a b = -1 := by
        unfold f_X9_task
        by_cases u : f_X9_noTask h a = 0
        · rw [if_pos u]
          by_cases v : b < 0
          · rw [if_pos v]
          · rw [if_neg v, if_neg (by omega)]
        · rw [if_neg u]
      rw [e2]
      exact k _
    · have za : 0 ≤ a ∧ a ≤ h 85 1 - 1 := Classical.byContradiction (fun n => z (f_in_0.2 n))
      have yb : 0 ≤ b ∧ b ≤ 4 := Classical.byContradiction (fun n => y (f_in_0.2 n))
      have hn : 0 < h 3 1 := by omega
      have e1 : f_X9_task h a b = (if b = 0 then (h 4 a) else (if b = 1 then (h 5 a) else (if b = 2 then (h 6 a) else (if b = 3 then (h 7 a) else (h 21 a))))) := by
        unfold f_X9_task
        rw [if_pos (noTask_0.2 (by omega)), if_neg (by omega), if_pos (by omega)]
      have tb := hs.2.2.2.2.1 a za.1 (by omega)
      refine ⟨fun u => ⟨by omega, ?_⟩, fun u0 => ⟨fun u => ⟨by omega, ?_⟩, fun u1 => ⟨fun u => ⟨by omega, ?_⟩, fun u2 => ⟨fun u => ⟨by omega, ?_⟩, fun u3 => ?_⟩⟩⟩⟩
      · rw [if_pos u] at e1
        rw [e1, tb.1]
        exact k _
      · rw [if_neg u0, if_pos u] at e1
        rw [e1, tb.2.1]
        exact k _
      · rw [if_neg u0, if_neg u1, if_pos u] at e1
        rw [e1, tb.2.2.1]
        exact k _
      · rw [if_neg u0, if_neg u1, if_neg u2, if_pos u] at e1
        rw [e1, tb.2.2.2]
        exact k _
      · rw [if_neg u0, if_neg u1, if_neg u2, if_neg u3] at e1
        refine r_placeOf hs.2.1 (hs.mOrd ho) (by omega) (fun i hi hi2 => ?_)
        have hm := hs.1.mach a za.1 (by omega)
        rw [tb.2.2.1] at hi hi2
        rw [hs.2.2.2.2.2 _ hm.1 hm.2] at hi
        have q := ho.2 (h 6 a) i hm.1 hm.2 hi.1 hi.2
        rw [hi2] at q
        have rk := (hS hn).1 (h 6 a) i hm.1 hm.2 hi.1 hi.2
        rw [q] at rk
        rw [e1, rk]
        exact k _
theorem r_countS {h : aH} {Q : Int → Int → aH → Prop} {a : Int} (hs : sShop h h) (hT : sTape h h) (hH : sHist h h) (hc : h 85 40 = h 0 16)
    (k : ∀ r, Q r r h) : aRun mX9_count 0 [aR 0, aI a] h (fun r h1 => aRun mX10_count 0 [aR 85, aI a] h1 (fun r' h2 => Q r r' h2)) := by
  have hh := hH.1
  refine p_X9_count ⟨fun _ => trivial, fun _ => trivial, fun _ => trivial, fun _ => trivial, fun _ => by unfold inR; omega, fun _ => trivial, fun _ => trivial⟩ ?_
  refine p_X10_count ?_
  have e : f_X10_count h a = f_X9_count h a := by
    unfold f_X10_count f_X9_count
    rw [hs.2.2.1, hs.2.2.2.1, hT.2.1, hH.2.1, hH.2.2.1, hc]
  rw [e]
  exact k _
theorem r_keptS {h : aH} {Q : Int → Int → aH → Prop} {a : Int} (hT : sTabu h h)
    (k : ∀ r, Q r r h) : aRun mX9_kept 0 [aR 0, aI a] h (fun r h1 => aRun mX10_kept 1 [aR 85, aI a] h1 (fun r' h2 => Q r r' h2)) := by
  obtain ⟨L, l1, l2, l3, l4, l5, l6⟩ := hT
  have n1 := l1.1
  have n2 := l2.1
  refine p_X9_kept (fun x y z => by omega) ?_
  refine p_X10_kept (fun x y z => by omega) ?_
  have e : f_X10_kept h a = f_X9_kept h a := by
    unfold f_X10_kept f_X9_kept f_X10_toldAt
    by_cases x : -1 ≤ a
    · rw [if_pos x, if_pos x]
      by_cases y : a = -1
      · rw [if_pos y, if_neg (by omega)]
        omega
      · rw [if_neg y, if_pos (by omega)]
        by_cases z : h 42 1 ≤ a
        · rw [if_pos z, if_pos (by omega)]
        · rw [if_neg z, if_neg (by omega)]
          have g1 := l1.get (i := a) (by omega) (by omega)
          have g2 := l2.get (i := a) (by omega) (by omega)
          rw [g1] at g2
          exact (Option.some.inj g2).symm
    · rw [if_neg x, if_neg x]
  rw [e]
  exact k _
