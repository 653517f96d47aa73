/-! all pairs; the law's start -/
theorem pr_pairs : law_pairs Inv := ⟨pr_feed, pr_shop, pr_task, pr_order, pr_turn, pr_span, pr_of, pr_way, pr_block, pr_move, pr_brings, pr_does, pr_tabu, pr_step, pr_kept, pr_best, pr_dispatch, pr_would, pr_machine, pr_bound, pr_all, pr_chart, pr_undo, pr_redo, pr_image, pr_back, pr_count⟩
/-- from the entry, for every script of at most 1536 ints, the law comes to its end with true -/
theorem whole_start {p : Program} {e : Env} {s : State} {m : MethodId} {below : List Frame} {meth : Method} {c : Code} (l : Launch) (_hflags : l.flags = flags0) {b L : Nat} {xs : Nat → Int32} (hL : L ≤ 1536) (C0 : lw_At p s m meth c b L xs) : W p l e room_1 s m #[Value.ref b] below meth c s.heap [] 0 0 (lw_Z below #[Value.ref b] s) (entryFrame m ([Value.ref b] : List Value).toArray 4) :=
  law_start inv_zero pr_pairs (fun _ _ h => h.mono) l hL C0
