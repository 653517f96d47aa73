/-! pairs: feed, task, order, span, of, way, block, move, kept, count -/
theorem pr_feed : a_pair Inv mX9_feed mX10_feed 1 1 1 := by
  intro n h a b hn hI hh ha hb
  refine r_feed (Q := fun r r' h2 => r = r' ∧ Inv (n + 1) h2) hI.1.1 (fun r => ⟨rfl, hI.mono⟩) (fun r g f1 f2 f3 f4 => ⟨rfl, ?_, ?_⟩)
  · have H := hI.1
    obtain ⟨h1, h2, h3, h4, h5, h6, h7, h8, h9, h10⟩ := H
    have a' : ∀ k, 3 ≤ k → k ≤ 10 → g k = h k := fun k k1 k2 => f1 k (by omega) (by omega) (by omega) (by omega)
    have e : ∀ k i, k ≠ 1 → k ≠ 2 → k ≠ 85 → k ≠ 92 → g k i = h k i := fun k i k1 k2 k3 k4 => congrFun (f1 k k1 k2 k3 k4) i
    refine ⟨f4, ?_, ?_, ?_, ?_, ?_, ?_, ?_, ?_, ?_⟩
    · exact h2.congr a' (f1 19 (by omega) (by omega) (by omega) (by omega)) (f3 0 (by omega)) (f3 1 (by omega)) (fun k k1 k2 => f1 k (by omega) (by omega) (by omega) (by omega))
    · exact h3.congr a' (fun k k1 k2 => f1 k (by omega) (by omega) (by omega) (by omega)) (fun k k1 k2 => f1 k (by omega) (by omega) (by omega) (by omega))
    · exact h4.congr (e 42 1 (by omega) (by omega) (by omega) (by omega)) (e 42 2 (by omega) (by omega) (by omega) (by omega)) (f1 43 (by omega) (by omega) (by omega) (by omega)) (f3 34 (by omega)) (f3 36 (by omega)) (f1 107 (by omega) (by omega) (by omega) (by omega))
    · exact h5.congr a' (e 0 15 (by omega) (by omega) (by omega) (by omega)) (f1 84 (by omega) (by omega) (by omega) (by omega)) (f3 37 (by omega)) (f3 38 (by omega)) (f1 108 (by omega) (by omega) (by omega) (by omega))
    · exact h6.congr a' (e 44 1 (by omega) (by omega) (by omega) (by omega)) (e 44 2 (by omega) (by omega) (by omega) (by omega)) (fun k k1 k2 => f1 k (by omega) (by omega) (by omega) (by omega)) (f3 18 (by omega)) (f3 19 (by omega)) (f1 96 (by omega) (by omega) (by omega) (by omega))
    · exact h7.congr (by have := h6.1; omega) (a' 10 (by omega) (by omega)) (f1 19 (by omega) (by omega) (by omega) (by omega)) (e 44 1 (by omega) (by omega) (by omega) (by omega)) (e 44 2 (by omega) (by omega) (by omega) (by omega)) (congrFun (a' 3 (by omega) (by omega)) 1) (fun k k1 k2 => f1 k (by omega) (by omega) (by omega) (by omega))
    · exact h8.congr (fun k k1 k2 => f1 k (by omega) (by omega) (by omega) (by omega)) (f3 51 (by omega)) (f1 115 (by omega) (by omega) (by omega) (by omega))
    · exact h9.congr a' (f1 72 (by omega) (by omega) (by omega) (by omega))
    · exact h10.congr a' (e 73 1 (by omega) (by omega) (by omega) (by omega)) (e 73 2 (by omega) (by omega) (by omega) (by omega)) (e 73 3 (by omega) (by omega) (by omega) (by omega))
  · rw [f3 40 (by omega), congrFun (f1 0 (by omega) (by omega) (by omega) (by omega)) 16]
    have := hI.2
    omega
theorem pr_task : a_pair Inv mX9_task mX10_task 1 2 2 := fun n h a b hn hI hh ha hb => r_taskS (Q := fun r r' h2 => r = r' ∧ Inv (n + 1) h2) hI.1.2.1.1 hI.1.2.1.2.1 hI.1.2.2.1 (fun r => ⟨rfl, hI.mono⟩)
theorem pr_order : a_pair Inv mX9_order mX10_order 1 2 2 := fun n h a b hn hI hh ha hb => r_orderS (Q := fun r r' h2 => r = r' ∧ Inv (n + 1) h2) hI.1.2.1.1 hI.1.2.1.2.1 (fun r => ⟨rfl, hI.mono⟩)
theorem pr_span : a_pair Inv mX9_span mX10_span 2 4 0 := fun n h a b hn hI hh ha hb => p_X9_span (r_spanS hI.1.2.1.1 hI.1.2.1.2.1 hI.1.2.2.1 (fun g hF => ⟨rfl, hI.frame (cK.rk hF) (mK.rk hF)⟩))
theorem pr_of : a_pair Inv mX9_of mX10_of 2 4 2 := fun n h a b hn hI hh ha hb => r_ofS (Q := fun r r' h2 => r = r' ∧ Inv (n + 1) h2) hI.1.2.1.1 hI.1.2.1.2.1 hI.1.2.2.1 (fun r g hF => ⟨rfl, hI.frame (cK.fm hF) (mK.fm hF)⟩)
theorem pr_way : a_pair Inv mX9_way mX10_way 2 5 1 := fun n h a b hn hI hh ha hb => r_wayS (Q := fun r r' h2 => r = r' ∧ Inv (n + 1) h2) hI.1.2.1.1 hI.1.2.1.2.1 hI.1.2.2.1 (fun r g hF => ⟨rfl, hI.frame (cK.fm hF) (mK.fm hF)⟩)
theorem pr_block : a_pair Inv mX9_block mX10_block 2 5 1 := fun n h a b hn hI hh ha hb => r_blockS (Q := fun r r' h2 => r = r' ∧ Inv (n + 1) h2) hI.1.2.1.1 hI.1.2.1.2.1 hI.1.2.2.1 (fun r g hF => ⟨rfl, hI.frame (cK.fm hF) (mK.fm hF)⟩)
theorem pr_move : a_pair Inv mX9_move mX10_move 2 6 1 := fun n h a b hn hI hh ha hb => r_moveS (Q := fun r r' h2 => r = r' ∧ Inv (n + 1) h2) hI.1.2.1.1 hI.1.2.1.2.1 hI.1.2.2.1 (fun r g hF => ⟨rfl, hI.frame (cK.fm hF) (mK.fm hF)⟩)
theorem pr_kept : a_pair Inv mX9_kept mX10_kept 0 1 1 := fun n h a b hn hI hh ha hb => r_keptS (Q := fun r r' h2 => r = r' ∧ Inv (n + 1) h2) hI.1.2.2.2.1 (fun r => ⟨rfl, hI.mono⟩)
theorem pr_count : a_pair Inv mX9_count mX10_count 0 0 1 := fun n h a b hn hI hh ha hb => r_countS (Q := fun r r' h2 => r = r' ∧ Inv (n + 1) h2) hI.1.2.1.1 hI.1.1 hI.1.2.2.2.2.2.1 hI.2.1 (fun r => ⟨rfl, hI.mono⟩)
