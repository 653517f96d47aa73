/-! move: both answer alike -/
theorem r_moveS {h : aH} {Q : Int → Int → aH → Prop} {a : Int} (hs : sShop h h) (ho : sOrd h h) (hS : sSet h)
    (k : ∀ r g, fmF h g → Q r r g) : aRun mX9_move 2 [aR 0, aI a] h (fun r h1 => aRun mX10_move 6 [aR 85, aI a] h1 (fun r' h2 => Q r r' h2)) := by
  have h0 := hs.1.1.1
  have main : ∀ hr : f_X9_refusedByState h = 0, 0 < h 3 1 ∧ h 20 10 = 0 := by
    intro hr
    unfold f_X9_refusedByState f_X9_noShop at hr
    by_cases z : h 3 1 = 0
    · rw [if_pos z, if_neg (by omega)] at hr
      omega
    · rw [if_neg z, if_pos rfl] at hr
      by_cases y : h 20 10 = 0
      · exact ⟨by omega, y⟩
      · rw [if_neg y] at hr
        omega
  have mv : 0 < h 3 1 → h 20 10 = 0 → ∀ i, 0 ≤ i → i < h 38 5 → mvOK (h 6) (h 4) (h 39) (h 38 1) (h 41 i) := by
    intro hn hr i a b
    have hP := ((hS hn).paths hr).2
    exact mvF_mem hP.2.1 (List.mem_of_getElem? (hP.2.2.get a b))
  refine p_X9_move (fun z hr y x => ?_) ?_
  · have q := main hr
    have hL := ((hS q.1).paths q.2).2.cnt hs.1
    have m := mv_rng hs.1 q.1 ((hS q.1).paths q.2).2 (mv q.1 q.2 a (by omega) (by omega))
    unfold o_X6_first o_X6_second o_X9_pair f_X6_first f_X6_second inR
    omega
  · refine e_X10_move ⟨fun z => ?_, fun z => ?_⟩
    · refine r_wrongS hs ho hS (fun n e => ⟨fun w => by omega, fun _ => ?_⟩) (fun g n hF _ _ _ e => ⟨fun w => by omega, fun _ => ?_⟩) (fun g n hF hs' ho' hN hr hT e => ⟨fun _ => ?_, fun w => by omega⟩)
      · have e2 : f_X9_move h a = -5 := by
          unfold f_X9_move
          rw [if_pos z, e, if_neg (by omega)]
        rw [e2]
        exact k _ h ⟨fun _ _ _ => rfl, fun _ _ _ _ _ => rfl⟩
      · have e2 : f_X9_move h a = -4 := by
          unfold f_X9_move
          rw [if_pos z, e, if_neg (by omega)]
        rw [e2]
        exact k _ g ⟨fun c x y => hF.1 c x (by omega), fun i x _ _ _ => hF.2 i x⟩
      · have hp := (hS n).paths hr
        have hL := hp.2.cnt hs.1
        refine r_findsS hs' ho' n (hS n).2.1 hp.1 hp.2 hN hT (fun g2 f1 f2 _ _ e33 hmv => ?_)
        have e2 : f_X9_move h a = f_X10_toldAt g2 105 48 (g2 85 33) a := by
          unfold f_X9_move f_X10_toldAt
          rw [if_pos z, e, if_pos rfl, e33]
          by_cases y : a = -1
          · rw [if_pos y, if_neg (by omega)]
          · rw [if_neg y, if_pos (show 0 ≤ a by omega)]
            by_cases x : h 38 5 ≤ a
            · rw [if_pos x, if_pos x]
            · rw [if_neg x, if_neg x, (hmv a (by omega) (by omega)).2.1]
              rfl
        rw [e2]
        refine ⟨fun x y => ⟨x, by omega⟩, k _ g2 ⟨fun c x y => (f1 c x (by omega)).trans (hF.1 c x (by omega)), fun i x1 x2 x3 x4 => (f2 i x2 x3 x4).trans (hF.2 i x1)⟩⟩
    · have e2 : f_X9_move h a = -1 := by
        unfold f_X9_move
        rw [if_neg z]
      rw [e2]
      exact k _ h ⟨fun _ _ _ => rfl, fun _ _ _ _ _ => rfl⟩
