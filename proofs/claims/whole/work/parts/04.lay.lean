/-! the cells: what each is (arrays: kind, length, first of its rows; objects: class, fields) -/
abbrev aS : Type := (Nat × Nat × Nat) ⊕ (Nat × List (Option Nat))
def a_T : List aS := [
  .inr (9, [some 1, some 3, some 11, some 19, some 20, some 29, some 38, some 42, some 44, some 63, some 69, some 73, some 75, some 83, some 84, none, none]),
  .inr (7, [some 2, none]),
  .inl (0, 140, 0),
  .inr (5, [none, none, some 4, some 5, some 6, some 7, some 8, some 9, some 10]),
  .inl (0, 24, 0),
  .inl (0, 24, 0),
  .inl (0, 24, 0),
  .inl (0, 24, 0),
  .inl (0, 24, 0),
  .inl (0, 24, 0),
  .inl (0, 6, 0),
  .inr (5, [none, none, some 12, some 13, some 14, some 15, some 16, some 17, some 18]),
  .inl (0, 24, 0),
  .inl (0, 24, 0),
  .inl (0, 24, 0),
  .inl (0, 24, 0),
  .inl (0, 24, 0),
  .inl (0, 24, 0),
  .inl (0, 6, 0),
  .inl (0, 24, 0),
  .inr (8, [some 21, some 22, some 23, some 24, some 25, some 26, some 27, some 28, none, none, none]),
  .inl (0, 24, 0),
  .inl (0, 24, 0),
  .inl (0, 24, 0),
  .inl (0, 24, 0),
  .inl (0, 24, 0),
  .inl (0, 24, 0),
  .inl (0, 24, 0),
  .inl (0, 24, 0),
  .inr (8, [some 30, some 31, some 32, some 33, some 34, some 35, some 36, some 37, none, none, none]),
  .inl (0, 24, 0),
  .inl (0, 24, 0),
  .inl (0, 24, 0),
  .inl (0, 24, 0),
  .inl (0, 24, 0),
  .inl (0, 24, 0),
  .inl (0, 24, 0),
  .inl (0, 24, 0),
  .inr (6, [some 39, none, some 40, none, some 41, none]),
  .inl (0, 24, 0),
  .inl (0, 25, 0),
  .inl (0, 24, 0),
  .inr (3, [some 43, none, none]),
  .inl (0, 9, 0),
  .inr (4, [some 45, none, none]),
  .inl (2, 17, 46),
  .inl (0, 24, 0),
  .inl (0, 24, 0),
  .inl (0, 24, 0),
  .inl (0, 24, 0),
  .inl (0, 24, 0),
  .inl (0, 24, 0),
  .inl (0, 24, 0),
  .inl (0, 24, 0),
  .inl (0, 24, 0),
  .inl (0, 24, 0),
  .inl (0, 24, 0),
  .inl (0, 24, 0),
  .inl (0, 24, 0),
  .inl (0, 24, 0),
  .inl (0, 24, 0),
  .inl (0, 24, 0),
  .inl (0, 24, 0),
  .inr (1, [some 64, some 65, some 66, some 67, some 68, none]),
  .inl (0, 24, 0),
  .inl (0, 5, 0),
  .inl (0, 5, 0),
  .inl (0, 6, 0),
  .inl (1, 24, 0),
  .inr (0, [some 70, some 71, some 72]),
  .inl (0, 6, 0),
  .inl (0, 24, 0),
  .inl (0, 5, 0),
  .inr (2, [some 74, none, none, none]),
  .inl (0, 24, 0),
  .inr (5, [none, none, some 76, some 77, some 78, some 79, some 80, some 81, some 82]),
  .inl (0, 24, 0),
  .inl (0, 24, 0),
  .inl (0, 24, 0),
  .inl (0, 24, 0),
  .inl (0, 24, 0),
  .inl (0, 24, 0),
  .inl (0, 6, 0),
  .inl (0, 24, 0),
  .inl (0, 24, 0),
  .inr (10, [none, none, some 86, some 87, some 88, some 89, some 90, some 91, some 92, none, none, none, none, none, some 93, some 94, some 95, some 96, none, none, some 97, some 98, some 99, some 100, some 101, some 102, none, some 103, none, some 104, none, some 105, some 106, none, none, some 107, none, none, none, some 108, none, some 109, some 110, some 111, some 112, some 113, none, some 114, none, none, some 115, none, none, none]),
  .inl (0, 24, 0),
  .inl (0, 24, 0),
  .inl (0, 24, 0),
  .inl (0, 24, 0),
  .inl (0, 120, 0),
  .inl (0, 5, 0),
  .inl (0, 140, 0),
  .inl (0, 24, 0),
  .inl (0, 24, 0),
  .inl (0, 24, 0),
  .inl (0, 2040, 0),
  .inl (0, 24, 0),
  .inl (0, 24, 0),
  .inl (0, 24, 0),
  .inl (0, 24, 0),
  .inl (0, 24, 0),
  .inl (1, 24, 0),
  .inl (0, 24, 0),
  .inl (0, 25, 0),
  .inl (0, 48, 0),
  .inl (0, 48, 0),
  .inl (0, 10, 0),
  .inl (0, 120, 0),
  .inl (0, 48, 0),
  .inl (0, 6, 0),
  .inl (0, 6, 0),
  .inl (0, 5, 0),
  .inl (0, 24, 0),
  .inl (0, 24, 0),
  .inl (0, 223, 0)]
abbrev a_N : Nat := 116
theorem a_T_len : a_T.length = a_N := by decide +kernel
abbrev aM : Type := MethodName × ByteArray × Nat × Option FieldType
def mX0_atBest : aM := (yX0_atBest, cX0_atBest, 3, some .int)
def mX0_forget : aM := (yX0_forget, cX0_forget, 2, none)
def mX0_init : aM := (yX0_init, cX0_init, 1, none)
def mX0_leastOfAllOrders : aM := (yX0_leastOfAllOrders, cX0_leastOfAllOrders, 7, some .int)
def mX0_nextHead : aM := (yX0_nextHead, cX0_nextHead, 5, some .int)
def mX0_over : aM := (yX0_over, cX0_over, 7, some .int)
def mX0_preempted : aM := (yX0_preempted, cX0_preempted, 9, some .int)
def mX0_workedOn : aM := (yX0_workedOn, cX0_workedOn, 5, some .int)
def mX10_all : aM := (yX10_all, cX10_all, 2, some .int)
def mX10_alone : aM := (yX10_alone, cX10_alone, 2, some .int)
def mX10_back : aM := (yX10_back, cX10_back, 1, some .int)
def mX10_begins : aM := (yX10_begins, cX10_begins, 1, none)
def mX10_best : aM := (yX10_best, cX10_best, 3, some .int)
def mX10_bestOf : aM := (yX10_bestOf, cX10_bestOf, 8, some .int)
def mX10_block : aM := (yX10_block, cX10_block, 3, some .int)
def mX10_bound : aM := (yX10_bound, cX10_bound, 4, some .int)
def mX10_brings : aM := (yX10_brings, cX10_brings, 4, some .int)
def mX10_byteAt : aM := (yX10_byteAt, cX10_byteAt, 5, some .int)
def mX10_changed : aM := (yX10_changed, cX10_changed, 2, none)
def mX10_changesOver : aM := (yX10_changesOver, cX10_changesOver, 4, none)
def mX10_chart : aM := (yX10_chart, cX10_chart, 4, some .int)
def mX10_chosen : aM := (yX10_chosen, cX10_chosen, 4, some .int)
def mX10_comesBehind : aM := (yX10_comesBehind, cX10_comesBehind, 3, some .boolean)
def mX10_comesMove : aM := (yX10_comesMove, cX10_comesMove, 4, none)
def mX10_count : aM := (yX10_count, cX10_count, 2, some .int)
def mX10_dispatch : aM := (yX10_dispatch, cX10_dispatch, 3, some .int)
def mX10_dispatchedBy : aM := (yX10_dispatchedBy, cX10_dispatchedBy, 6, some .int)
def mX10_does : aM := (yX10_does, cX10_does, 3, some .int)
def mX10_endOf : aM := (yX10_endOf, cX10_endOf, 2, some .int)
def mX10_feed : aM := (yX10_feed, cX10_feed, 2, some .int)
def mX10_fetches : aM := (yX10_fetches, cX10_fetches, 2, none)
def mX10_findsMoves : aM := (yX10_findsMoves, cX10_findsMoves, 4, none)
def mX10_firstOf : aM := (yX10_firstOf, cX10_firstOf, 3, some .int)
def mX10_forgets : aM := (yX10_forgets, cX10_forgets, 1, none)
def mX10_headOf : aM := (yX10_headOf, cX10_headOf, 4, some .int)
def mX10_image : aM := (yX10_image, cX10_image, 1, some .int)
def mX10_in : aM := (yX10_in, cX10_in, 3, some .boolean)
def mX10_init : aM := (yX10_init, cX10_init, 1, none)
def mX10_is : aM := (yX10_is, cX10_is, 2, some .boolean)
def mX10_isBetter : aM := (yX10_isBetter, cX10_isBetter, 4, some .boolean)
def mX10_isCritical : aM := (yX10_isCritical, cX10_isCritical, 2, some .boolean)
def mX10_isFigure : aM := (yX10_isFigure, cX10_isFigure, 3, some .boolean)
def mX10_isLongest : aM := (yX10_isLongest, cX10_isLongest, 4, some .boolean)
def mX10_isMachine : aM := (yX10_isMachine, cX10_isMachine, 1, some .boolean)
def mX10_isOpen : aM := (yX10_isOpen, cX10_isOpen, 2, some .boolean)
def mX10_isReady : aM := (yX10_isReady, cX10_isReady, 2, some .boolean)
def mX10_isTask : aM := (yX10_isTask, cX10_isTask, 2, some .boolean)
def mX10_jobAhead : aM := (yX10_jobAhead, cX10_jobAhead, 2, some .int)
def mX10_jobBehind : aM := (yX10_jobBehind, cX10_jobBehind, 2, some .int)
def mX10_keepsMove : aM := (yX10_keepsMove, cX10_keepsMove, 2, none)
def mX10_kept : aM := (yX10_kept, cX10_kept, 2, some .int)
def mX10_lays : aM := (yX10_lays, cX10_lays, 2, none)
def mX10_leastBy : aM := (yX10_leastBy, cX10_leastBy, 7, some .int)
def mX10_leftOf : aM := (yX10_leftOf, cX10_leftOf, 4, some .int)
def mX10_machine : aM := (yX10_machine, cX10_machine, 3, some .int)
def mX10_mayStart : aM := (yX10_mayStart, cX10_mayStart, 2, some .int)
def mX10_move : aM := (yX10_move, cX10_move, 3, some .int)
def mX10_must : aM := (yX10_must, cX10_must, 2, none)
def mX10_neighbours : aM := (yX10_neighbours, cX10_neighbours, 4, none)
def mX10_nextAt : aM := (yX10_nextAt, cX10_nextAt, 5, some .int)
def mX10_nextOnWay : aM := (yX10_nextOnWay, cX10_nextOnWay, 6, some .int)
def mX10_nextReady : aM := (yX10_nextReady, cX10_nextReady, 2, some .int)
def mX10_notes : aM := (yX10_notes, cX10_notes, 3, none)
def mX10_of : aM := (yX10_of, cX10_of, 3, some .int)
def mX10_order : aM := (yX10_order, cX10_order, 3, some .int)
def mX10_parts : aM := (yX10_parts, cX10_parts, 2, none)
def mX10_passes : aM := (yX10_passes, cX10_passes, 3, some .int)
def mX10_passesAll : aM := (yX10_passesAll, cX10_passesAll, 2, none)
def mX10_passesRow : aM := (yX10_passesRow, cX10_passesRow, 3, none)
def mX10_placeOf : aM := (yX10_placeOf, cX10_placeOf, 3, some .int)
def mX10_preempted : aM := (yX10_preempted, cX10_preempted, 5, some .int)
def mX10_puts : aM := (yX10_puts, cX10_puts, 3, none)
def mX10_readsAll : aM := (yX10_readsAll, cX10_readsAll, 2, none)
def mX10_readsJob : aM := (yX10_readsJob, cX10_readsJob, 3, none)
def mX10_readsTask : aM := (yX10_readsTask, cX10_readsTask, 2, none)
def mX10_reckons : aM := (yX10_reckons, cX10_reckons, 3, some .boolean)
def mX10_redo : aM := (yX10_redo, cX10_redo, 1, some .int)
def mX10_restOf : aM := (yX10_restOf, cX10_restOf, 2, some .int)
def mX10_shop : aM := (yX10_shop, cX10_shop, 2, some .int)
def mX10_span : aM := (yX10_span, cX10_span, 1, some .int)
def mX10_spanBehind : aM := (yX10_spanBehind, cX10_spanBehind, 3, some .int)
def mX10_step : aM := (yX10_step, cX10_step, 4, some .int)
def mX10_steps : aM := (yX10_steps, cX10_steps, 4, some .boolean)
def mX10_swaps : aM := (yX10_swaps, cX10_swaps, 5, none)
def mX10_swapsMove : aM := (yX10_swapsMove, cX10_swapsMove, 4, none)
def mX10_tabu : aM := (yX10_tabu, cX10_tabu, 3, some .int)
def mX10_tabuAt : aM := (yX10_tabuAt, cX10_tabuAt, 3, some .int)
def mX10_tailOf : aM := (yX10_tailOf, cX10_tailOf, 2, some .int)
def mX10_takes : aM := (yX10_takes, cX10_takes, 3, none)
def mX10_takesOff : aM := (yX10_takesOff, cX10_takesOff, 3, none)
def mX10_task : aM := (yX10_task, cX10_task, 3, some .int)
def mX10_toldAt : aM := (yX10_toldAt, cX10_toldAt, 3, some .int)
def mX10_triesFrom : aM := (yX10_triesFrom, cX10_triesFrom, 4, none)
def mX10_turn : aM := (yX10_turn, cX10_turn, 3, some .int)
def mX10_undo : aM := (yX10_undo, cX10_undo, 1, some .int)
def mX10_walks : aM := (yX10_walks, cX10_walks, 2, none)
def mX10_way : aM := (yX10_way, cX10_way, 3, some .int)
def mX10_waysAll : aM := (yX10_waysAll, cX10_waysAll, 5, some .int)
def mX10_worthOf : aM := (yX10_worthOf, cX10_worthOf, 3, some .int)
def mX10_would : aM := (yX10_would, cX10_would, 3, some .int)
def mX10_wrong : aM := (yX10_wrong, cX10_wrong, 1, some .int)
def mX1_choose : aM := (yX1_choose, cX1_choose, 9, some .int)
def mX1_clear : aM := (yX1_clear, cX1_clear, 2, none)
def mX1_init : aM := (yX1_init, cX1_init, 1, none)
def mX1_isNext : aM := (yX1_isNext, cX1_isNext, 4, some .boolean)
def mX1_key : aM := (yX1_key, cX1_key, 3, some .int)
def mX1_lay : aM := (yX1_lay, cX1_lay, 5, none)
def mX1_putLast : aM := (yX1_putLast, cX1_putLast, 5, none)
def mX1_startOf : aM := (yX1_startOf, cX1_startOf, 3, some .int)
def mX2_forget : aM := (yX2_forget, cX2_forget, 1, none)
def mX2_init : aM := (yX2_init, cX2_init, 1, none)
def mX2_look : aM := (yX2_look, cX2_look, 4, some .boolean)
def mX2_lookAtAll : aM := (yX2_lookAtAll, cX2_lookAtAll, 5, none)
def mX2_nextOfAll : aM := (yX2_nextOfAll, cX2_nextOfAll, 3, none)
def mX2_waysOf : aM := (yX2_waysOf, cX2_waysOf, 4, some .int)
def mX3_find : aM := (yX3_find, cX3_find, 3, some .int)
def mX3_init : aM := (yX3_init, cX3_init, 1, none)
def mX3_keep : aM := (yX3_keep, cX3_keep, 3, none)
def mX3_takeOff : aM := (yX3_takeOff, cX3_takeOff, 3, none)
def mX4_begin : aM := (yX4_begin, cX4_begin, 2, none)
def mX4_goAhead : aM := (yX4_goAhead, cX4_goAhead, 2, some .boolean)
def mX4_goBack : aM := (yX4_goBack, cX4_goBack, 2, some .boolean)
def mX4_init : aM := (yX4_init, cX4_init, 1, none)
def mX4_note : aM := (yX4_note, cX4_note, 3, none)
def mX5_add : aM := (yX5_add, cX5_add, 5, none)
def mX5_clear : aM := (yX5_clear, cX5_clear, 1, none)
def mX5_copyOf : aM := (yX5_copyOf, cX5_copyOf, 2, none)
def mX5_finish : aM := (yX5_finish, cX5_finish, 4, none)
def mX5_init : aM := (yX5_init, cX5_init, 1, none)
def mX5_jobAhead : aM := (yX5_jobAhead, cX5_jobAhead, 2, some .int)
def mX5_jobNext : aM := (yX5_jobNext, cX5_jobNext, 2, some .int)
def mX5_longestJob : aM := (yX5_longestJob, cX5_longestJob, 3, some .int)
def mX5_orderByNumbers : aM := (yX5_orderByNumbers, cX5_orderByNumbers, 5, none)
def mX5_tasksOn : aM := (yX5_tasksOn, cX5_tasksOn, 2, some .int)
def mX6_addMove : aM := (yX6_addMove, cX6_addMove, 4, none)
def mX6_beginning : aM := (yX6_beginning, cX6_beginning, 3, some .int)
def mX6_cutBlocks : aM := (yX6_cutBlocks, cX6_cutBlocks, 3, none)
def mX6_find : aM := (yX6_find, cX6_find, 3, none)
def mX6_findMoves : aM := (yX6_findMoves, cX6_findMoves, 6, none)
def mX6_first : aM := (yX6_first, cX6_first, 2, some .int)
def mX6_goesOn : aM := (yX6_goesOn, cX6_goesOn, 3, some .int)
def mX6_init : aM := (yX6_init, cX6_init, 1, none)
def mX6_second : aM := (yX6_second, cX6_second, 2, some .int)
def mX6_walk : aM := (yX6_walk, cX6_walk, 7, none)
def mX7_init : aM := (yX7_init, cX7_init, 1, none)
def mX7_isFigure : aM := (yX7_isFigure, cX7_isFigure, 5, some .boolean)
def mX7_isTask : aM := (yX7_isTask, cX7_isTask, 2, some .boolean)
def mX7_letterAt : aM := (yX7_letterAt, cX7_letterAt, 2, some .int)
def mX7_number : aM := (yX7_number, cX7_number, 5, some .int)
def mX7_put : aM := (yX7_put, cX7_put, 2, none)
def mX7_readInto : aM := (yX7_readInto, cX7_readInto, 7, some .int)
def mX7_taskEnd : aM := (yX7_taskEnd, cX7_taskEnd, 2, some .int)
def mX8_atLeast : aM := (yX8_atLeast, cX8_atLeast, 8, some .int)
def mX8_endOf : aM := (yX8_endOf, cX8_endOf, 3, some .int)
def mX8_init : aM := (yX8_init, cX8_init, 1, none)
def mX8_lay : aM := (yX8_lay, cX8_lay, 6, none)
def mX8_layTails : aM := (yX8_layTails, cX8_layTails, 4, none)
def mX8_link : aM := (yX8_link, cX8_link, 8, none)
def mX8_queueFree : aM := (yX8_queueFree, cX8_queueFree, 3, none)
def mX8_release : aM := (yX8_release, cX8_release, 3, none)
def mX8_toCome : aM := (yX8_toCome, cX8_toCome, 3, some .int)
def mX9_all : aM := (yX9_all, cX9_all, 2, some .int)
def mX9_back : aM := (yX9_back, cX9_back, 1, some .int)
def mX9_best : aM := (yX9_best, cX9_best, 2, some .int)
def mX9_block : aM := (yX9_block, cX9_block, 3, some .int)
def mX9_bound : aM := (yX9_bound, cX9_bound, 4, some .int)
def mX9_brings : aM := (yX9_brings, cX9_brings, 4, some .int)
def mX9_changePlaces : aM := (yX9_changePlaces, cX9_changePlaces, 3, none)
def mX9_changed : aM := (yX9_changed, cX9_changed, 1, none)
def mX9_chart : aM := (yX9_chart, cX9_chart, 4, some .int)
def mX9_chartByte : aM := (yX9_chartByte, cX9_chartByte, 6, some .int)
def mX9_chosen : aM := (yX9_chosen, cX9_chosen, 8, some .int)
def mX9_copyRow : aM := (yX9_copyRow, cX9_copyRow, 2, none)
def mX9_count : aM := (yX9_count, cX9_count, 2, some .int)
def mX9_dispatch : aM := (yX9_dispatch, cX9_dispatch, 3, some .int)
def mX9_does : aM := (yX9_does, cX9_does, 3, some .int)
def mX9_feed : aM := (yX9_feed, cX9_feed, 2, some .int)
def mX9_forgetSteps : aM := (yX9_forgetSteps, cX9_forgetSteps, 1, none)
def mX9_goOn : aM := (yX9_goOn, cX9_goOn, 4, some .boolean)
def mX9_image : aM := (yX9_image, cX9_image, 1, some .int)
def mX9_init : aM := (yX9_init, cX9_init, 1, none)
def mX9_kept : aM := (yX9_kept, cX9_kept, 2, some .int)
def mX9_keptSince : aM := (yX9_keptSince, cX9_keptSince, 2, some .int)
def mX9_lookForLeast : aM := (yX9_lookForLeast, cX9_lookForLeast, 1, none)
def mX9_machine : aM := (yX9_machine, cX9_machine, 3, some .int)
def mX9_move : aM := (yX9_move, cX9_move, 3, some .int)
def mX9_nextOrder : aM := (yX9_nextOrder, cX9_nextOrder, 7, some .boolean)
def mX9_noMachine : aM := (yX9_noMachine, cX9_noMachine, 1, some .boolean)
def mX9_noShop : aM := (yX9_noShop, cX9_noShop, 1, some .boolean)
def mX9_noTask : aM := (yX9_noTask, cX9_noTask, 2, some .boolean)
def mX9_of : aM := (yX9_of, cX9_of, 4, some .int)
def mX9_order : aM := (yX9_order, cX9_order, 4, some .int)
def mX9_pair : aM := (yX9_pair, cX9_pair, 2, some .int)
def mX9_redo : aM := (yX9_redo, cX9_redo, 1, some .int)
def mX9_refusedByState : aM := (yX9_refusedByState, cX9_refusedByState, 1, some .int)
def mX9_settle : aM := (yX9_settle, cX9_settle, 1, none)
def mX9_shop : aM := (yX9_shop, cX9_shop, 2, some .int)
def mX9_slotOf : aM := (yX9_slotOf, cX9_slotOf, 2, some .int)
def mX9_span : aM := (yX9_span, cX9_span, 2, some .int)
def mX9_spanBehind : aM := (yX9_spanBehind, cX9_spanBehind, 3, some .int)
def mX9_spanOrRing : aM := (yX9_spanOrRing, cX9_spanOrRing, 1, some .int)
def mX9_startAnew : aM := (yX9_startAnew, cX9_startAnew, 1, none)
def mX9_step : aM := (yX9_step, cX9_step, 4, some .int)
def mX9_tabu : aM := (yX9_tabu, cX9_tabu, 3, some .int)
def mX9_task : aM := (yX9_task, cX9_task, 3, some .int)
def mX9_turn : aM := (yX9_turn, cX9_turn, 3, some .int)
def mX9_undo : aM := (yX9_undo, cX9_undo, 1, some .int)
def mX9_way : aM := (yX9_way, cX9_way, 3, some .int)
def mX9_would : aM := (yX9_would, cX9_would, 2, some .int)
/-- the words that go with a method into another -/
def a_ws : List Cond := lw_tbl.filter goodWord
theorem a_in (i : Nat) {w : Cond} (h : lw_tbl[i]? = some w) (hg : goodWord w = true) : w ∈ a_ws := List.mem_filter.mpr ⟨List.mem_of_getElem? h, hg⟩
theorem a_ws_good : GoodIn a_ws a_ws := fun _ hw => ⟨hw, good_of_word (List.mem_filter.mp hw).2⟩
def a_inst (M : aM) : Prop := Cond.code M.1 M.2.1 M.2.2.1 M.2.2.2 ∈ a_ws ∧ Cond.initialized M.1.cls ∈ a_ws ∧ (Cond.instanceMethod M.1 ∈ a_ws ∧ Cond.selects M.1.cls M.1 M.1 ∈ a_ws) ∧ M.1.cls ≠ "java/lang/invoke/MethodHandle" ∧ M.1.cls ≠ "java/lang/invoke/VarHandle" ∧ M.2.2.1 ≤ 20
def a_stat (M : aM) : Prop := Cond.code M.1 M.2.1 M.2.2.1 M.2.2.2 ∈ a_ws ∧ Cond.initialized M.1.cls ∈ a_ws ∧ Cond.static M.1 ∈ a_ws ∧ M.1.cls ≠ "java/lang/invoke/MethodHandle" ∧ M.1.cls ≠ "java/lang/invoke/VarHandle" ∧ M.2.2.1 ≤ 20
theorem iw_9 : Cond.initialized RX9 ∈ a_ws := a_in 104 (by decide +kernel) (by decide +kernel)
theorem iw_0 : Cond.initialized RX0 ∈ a_ws := a_in 112 (by decide +kernel) (by decide +kernel)
theorem iw_1 : Cond.initialized RX1 ∈ a_ws := a_in 111 (by decide +kernel) (by decide +kernel)
theorem iw_2 : Cond.initialized RX2 ∈ a_ws := a_in 113 (by decide +kernel) (by decide +kernel)
theorem iw_3 : Cond.initialized RX3 ∈ a_ws := a_in 109 (by decide +kernel) (by decide +kernel)
theorem iw_4 : Cond.initialized RX4 ∈ a_ws := a_in 110 (by decide +kernel) (by decide +kernel)
theorem iw_5 : Cond.initialized RX5 ∈ a_ws := a_in 106 (by decide +kernel) (by decide +kernel)
theorem iw_6 : Cond.initialized RX6 ∈ a_ws := a_in 108 (by decide +kernel) (by decide +kernel)
theorem iw_7 : Cond.initialized RX7 ∈ a_ws := a_in 105 (by decide +kernel) (by decide +kernel)
theorem iw_8 : Cond.initialized RX8 ∈ a_ws := a_in 107 (by decide +kernel) (by decide +kernel)
theorem iw_10 : Cond.initialized RX10 ∈ a_ws := a_in 114 (by decide +kernel) (by decide +kernel)
theorem iw_Math : Cond.initialized "java/lang/Math" ∈ a_ws := a_in 116 (by decide +kernel) (by decide +kernel)
theorem iw_System : Cond.initialized "java/lang/System" ∈ a_ws := a_in 115 (by decide +kernel) (by decide +kernel)
theorem cw_max : Cond.code Lib.Math.max.name Lib.Math.max.code 2 (some .int) ∈ a_ws := a_in 547 (by decide +kernel) (by decide +kernel)
theorem sw_max : Cond.static Lib.Math.max.name ∈ a_ws := a_in 546 (by decide +kernel) (by decide +kernel)
theorem cw_min : Cond.code Lib.Math.min.name Lib.Math.min.code 2 (some .int) ∈ a_ws := a_in 579 (by decide +kernel) (by decide +kernel)
theorem sw_min : Cond.static Lib.Math.min.name ∈ a_ws := a_in 578 (by decide +kernel) (by decide +kernel)
theorem nw_copy : Cond.native arraycopyName ∈ a_ws := a_in 501 (by decide +kernel) (by decide +kernel)
theorem sw_copy : Cond.static arraycopyName ∈ a_ws := a_in 500 (by decide +kernel) (by decide +kernel)
theorem kX0_atBest : a_inst mX0_atBest := ⟨a_in 785 (by decide +kernel) (by decide +kernel), iw_0, ⟨a_in 783 (by decide +kernel) (by decide +kernel), a_in 784 (by decide +kernel) (by decide +kernel)⟩, by decide +kernel, by decide +kernel, by decide⟩
theorem kX0_forget : a_inst mX0_forget := ⟨a_in 523 (by decide +kernel) (by decide +kernel), iw_0, ⟨a_in 521 (by decide +kernel) (by decide +kernel), a_in 522 (by decide +kernel) (by decide +kernel)⟩, by decide +kernel, by decide +kernel, by decide⟩
theorem kX0_leastOfAllOrders : a_inst mX0_leastOfAllOrders := ⟨a_in 790 (by decide +kernel) (by decide +kernel), iw_0, ⟨a_in 789 (by decide +kernel) (by decide +kernel), a_in 34 (by decide +kernel) (by decide +kernel)⟩, by decide +kernel, by decide +kernel, by decide⟩
theorem kX0_nextHead : a_inst mX0_nextHead := ⟨a_in 812 (by decide +kernel) (by decide +kernel), iw_0, ⟨a_in 811 (by decide +kernel) (by decide +kernel), a_in 37 (by decide +kernel) (by decide +kernel)⟩, by decide +kernel, by decide +kernel, by decide⟩
theorem kX0_over : a_inst mX0_over := ⟨a_in 794 (by decide +kernel) (by decide +kernel), iw_0, ⟨a_in 793 (by decide +kernel) (by decide +kernel), a_in 35 (by decide +kernel) (by decide +kernel)⟩, by decide +kernel, by decide +kernel, by decide⟩
theorem kX0_preempted : a_inst mX0_preempted := ⟨a_in 804 (by decide +kernel) (by decide +kernel), iw_0, ⟨a_in 802 (by decide +kernel) (by decide +kernel), a_in 803 (by decide +kernel) (by decide +kernel)⟩, by decide +kernel, by decide +kernel, by decide⟩
theorem kX0_workedOn : a_inst mX0_workedOn := ⟨a_in 808 (by decide +kernel) (by decide +kernel), iw_0, ⟨a_in 807 (by decide +kernel) (by decide +kernel), a_in 36 (by decide +kernel) (by decide +kernel)⟩, by decide +kernel, by decide +kernel, by decide⟩
theorem kX10_all : a_inst mX10_all := ⟨a_in 1373 (by decide +kernel) (by decide +kernel), iw_10, ⟨a_in 1371 (by decide +kernel) (by decide +kernel), a_in 1372 (by decide +kernel) (by decide +kernel)⟩, by decide +kernel, by decide +kernel, by decide⟩
theorem kX10_alone : a_inst mX10_alone := ⟨a_in 1341 (by decide +kernel) (by decide +kernel), iw_10, ⟨a_in 1340 (by decide +kernel) (by decide +kernel), a_in 89 (by decide +kernel) (by decide +kernel)⟩, by decide +kernel, by decide +kernel, by decide⟩
theorem kX10_back : a_inst mX10_back := ⟨a_in 1414 (by decide +kernel) (by decide +kernel), iw_10, ⟨a_in 1412 (by decide +kernel) (by decide +kernel), a_in 1413 (by decide +kernel) (by decide +kernel)⟩, by decide +kernel, by decide +kernel, by decide⟩
theorem kX10_begins : a_inst mX10_begins := ⟨a_in 1093 (by decide +kernel) (by decide +kernel), iw_10, ⟨a_in 1092 (by decide +kernel) (by decide +kernel), a_in 48 (by decide +kernel) (by decide +kernel)⟩, by decide +kernel, by decide +kernel, by decide⟩
theorem kX10_best : a_inst mX10_best := ⟨a_in 1297 (by decide +kernel) (by decide +kernel), iw_10, ⟨a_in 1295 (by decide +kernel) (by decide +kernel), a_in 1296 (by decide +kernel) (by decide +kernel)⟩, by decide +kernel, by decide +kernel, by decide⟩
theorem kX10_bestOf : a_inst mX10_bestOf := ⟨a_in 1349 (by decide +kernel) (by decide +kernel), iw_10, ⟨a_in 1348 (by decide +kernel) (by decide +kernel), a_in 91 (by decide +kernel) (by decide +kernel)⟩, by decide +kernel, by decide +kernel, by decide⟩
theorem kX10_block : a_inst mX10_block := ⟨a_in 1216 (by decide +kernel) (by decide +kernel), iw_10, ⟨a_in 1214 (by decide +kernel) (by decide +kernel), a_in 1215 (by decide +kernel) (by decide +kernel)⟩, by decide +kernel, by decide +kernel, by decide⟩
theorem kX10_bound : a_inst mX10_bound := ⟨a_in 1369 (by decide +kernel) (by decide +kernel), iw_10, ⟨a_in 1367 (by decide +kernel) (by decide +kernel), a_in 1368 (by decide +kernel) (by decide +kernel)⟩, by decide +kernel, by decide +kernel, by decide⟩
theorem kX10_brings : a_inst mX10_brings := ⟨a_in 1240 (by decide +kernel) (by decide +kernel), iw_10, ⟨a_in 1238 (by decide +kernel) (by decide +kernel), a_in 1239 (by decide +kernel) (by decide +kernel)⟩, by decide +kernel, by decide +kernel, by decide⟩
theorem kX10_byteAt : a_inst mX10_byteAt := ⟨a_in 1394 (by decide +kernel) (by decide +kernel), iw_10, ⟨a_in 1393 (by decide +kernel) (by decide +kernel), a_in 99 (by decide +kernel) (by decide +kernel)⟩, by decide +kernel, by decide +kernel, by decide⟩
theorem kX10_changed : a_inst mX10_changed := ⟨a_in 1144 (by decide +kernel) (by decide +kernel), iw_10, ⟨a_in 1143 (by decide +kernel) (by decide +kernel), a_in 55 (by decide +kernel) (by decide +kernel)⟩, by decide +kernel, by decide +kernel, by decide⟩
theorem kX10_changesOver : a_inst mX10_changesOver := ⟨a_in 1386 (by decide +kernel) (by decide +kernel), iw_10, ⟨a_in 1385 (by decide +kernel) (by decide +kernel), a_in 98 (by decide +kernel) (by decide +kernel)⟩, by decide +kernel, by decide +kernel, by decide⟩
theorem kX10_chart : a_inst mX10_chart := ⟨a_in 1390 (by decide +kernel) (by decide +kernel), iw_10, ⟨a_in 1388 (by decide +kernel) (by decide +kernel), a_in 1389 (by decide +kernel) (by decide +kernel)⟩, by decide +kernel, by decide +kernel, by decide⟩
theorem kX10_chosen : a_inst mX10_chosen := ⟨a_in 1277 (by decide +kernel) (by decide +kernel), iw_10, ⟨a_in 1276 (by decide +kernel) (by decide +kernel), a_in 78 (by decide +kernel) (by decide +kernel)⟩, by decide +kernel, by decide +kernel, by decide⟩
theorem kX10_comesBehind : a_inst mX10_comesBehind := ⟨a_in 1209 (by decide +kernel) (by decide +kernel), iw_10, ⟨a_in 1208 (by decide +kernel) (by decide +kernel), a_in 68 (by decide +kernel) (by decide +kernel)⟩, by decide +kernel, by decide +kernel, by decide⟩
theorem kX10_comesMove : a_inst mX10_comesMove := ⟨a_in 1232 (by decide +kernel) (by decide +kernel), iw_10, ⟨a_in 1231 (by decide +kernel) (by decide +kernel), a_in 71 (by decide +kernel) (by decide +kernel)⟩, by decide +kernel, by decide +kernel, by decide⟩
theorem kX10_count : a_inst mX10_count := ⟨a_in 1418 (by decide +kernel) (by decide +kernel), iw_10, ⟨a_in 1416 (by decide +kernel) (by decide +kernel), a_in 1417 (by decide +kernel) (by decide +kernel)⟩, by decide +kernel, by decide +kernel, by decide⟩
theorem kX10_dispatch : a_inst mX10_dispatch := ⟨a_in 1301 (by decide +kernel) (by decide +kernel), iw_10, ⟨a_in 1299 (by decide +kernel) (by decide +kernel), a_in 1300 (by decide +kernel) (by decide +kernel)⟩, by decide +kernel, by decide +kernel, by decide⟩
theorem kX10_dispatchedBy : a_inst mX10_dispatchedBy := ⟨a_in 1305 (by decide +kernel) (by decide +kernel), iw_10, ⟨a_in 1304 (by decide +kernel) (by decide +kernel), a_in 82 (by decide +kernel) (by decide +kernel)⟩, by decide +kernel, by decide +kernel, by decide⟩
theorem kX10_does : a_inst mX10_does := ⟨a_in 1257 (by decide +kernel) (by decide +kernel), iw_10, ⟨a_in 1255 (by decide +kernel) (by decide +kernel), a_in 1256 (by decide +kernel) (by decide +kernel)⟩, by decide +kernel, by decide +kernel, by decide⟩
theorem kX10_endOf : a_inst mX10_endOf := ⟨a_in 1168 (by decide +kernel) (by decide +kernel), iw_10, ⟨a_in 1167 (by decide +kernel) (by decide +kernel), a_in 61 (by decide +kernel) (by decide +kernel)⟩, by decide +kernel, by decide +kernel, by decide⟩
theorem kX10_feed : a_inst mX10_feed := ⟨a_in 1054 (by decide +kernel) (by decide +kernel), iw_10, ⟨a_in 1052 (by decide +kernel) (by decide +kernel), a_in 1053 (by decide +kernel) (by decide +kernel)⟩, by decide +kernel, by decide +kernel, by decide⟩
theorem kX10_fetches : a_inst mX10_fetches := ⟨a_in 1109 (by decide +kernel) (by decide +kernel), iw_10, ⟨a_in 1108 (by decide +kernel) (by decide +kernel), a_in 51 (by decide +kernel) (by decide +kernel)⟩, by decide +kernel, by decide +kernel, by decide⟩
theorem kX10_findsMoves : a_inst mX10_findsMoves := ⟨a_in 1228 (by decide +kernel) (by decide +kernel), iw_10, ⟨a_in 1227 (by decide +kernel) (by decide +kernel), a_in 70 (by decide +kernel) (by decide +kernel)⟩, by decide +kernel, by decide +kernel, by decide⟩
theorem kX10_firstOf : a_inst mX10_firstOf := ⟨a_in 1309 (by decide +kernel) (by decide +kernel), iw_10, ⟨a_in 1308 (by decide +kernel) (by decide +kernel), a_in 83 (by decide +kernel) (by decide +kernel)⟩, by decide +kernel, by decide +kernel, by decide⟩
theorem kX10_forgets : a_inst mX10_forgets := ⟨a_in 1101 (by decide +kernel) (by decide +kernel), iw_10, ⟨a_in 1100 (by decide +kernel) (by decide +kernel), a_in 50 (by decide +kernel) (by decide +kernel)⟩, by decide +kernel, by decide +kernel, by decide⟩
theorem kX10_headOf : a_inst mX10_headOf := ⟨a_in 1353 (by decide +kernel) (by decide +kernel), iw_10, ⟨a_in 1352 (by decide +kernel) (by decide +kernel), a_in 92 (by decide +kernel) (by decide +kernel)⟩, by decide +kernel, by decide +kernel, by decide⟩
theorem kX10_image : a_inst mX10_image := ⟨a_in 1398 (by decide +kernel) (by decide +kernel), iw_10, ⟨a_in 1396 (by decide +kernel) (by decide +kernel), a_in 1397 (by decide +kernel) (by decide +kernel)⟩, by decide +kernel, by decide +kernel, by decide⟩
theorem kX10_in : a_stat mX10_in := ⟨a_in 1057 (by decide +kernel) (by decide +kernel), iw_10, a_in 1056 (by decide +kernel) (by decide +kernel), by decide +kernel, by decide +kernel, by decide⟩
theorem kX10_is : a_inst mX10_is := ⟨a_in 1085 (by decide +kernel) (by decide +kernel), iw_10, ⟨a_in 1084 (by decide +kernel) (by decide +kernel), a_in 46 (by decide +kernel) (by decide +kernel)⟩, by decide +kernel, by decide +kernel, by decide⟩
theorem kX10_isBetter : a_inst mX10_isBetter := ⟨a_in 1317 (by decide +kernel) (by decide +kernel), iw_10, ⟨a_in 1316 (by decide +kernel) (by decide +kernel), a_in 85 (by decide +kernel) (by decide +kernel)⟩, by decide +kernel, by decide +kernel, by decide⟩
theorem kX10_isCritical : a_inst mX10_isCritical := ⟨a_in 1189 (by decide +kernel) (by decide +kernel), iw_10, ⟨a_in 1188 (by decide +kernel) (by decide +kernel), a_in 64 (by decide +kernel) (by decide +kernel)⟩, by decide +kernel, by decide +kernel, by decide⟩
theorem kX10_isFigure : a_inst mX10_isFigure := ⟨a_in 1077 (by decide +kernel) (by decide +kernel), iw_10, ⟨a_in 1076 (by decide +kernel) (by decide +kernel), a_in 44 (by decide +kernel) (by decide +kernel)⟩, by decide +kernel, by decide +kernel, by decide⟩
theorem kX10_isLongest : a_inst mX10_isLongest := ⟨a_in 1281 (by decide +kernel) (by decide +kernel), iw_10, ⟨a_in 1280 (by decide +kernel) (by decide +kernel), a_in 79 (by decide +kernel) (by decide +kernel)⟩, by decide +kernel, by decide +kernel, by decide⟩
theorem kX10_isMachine : a_stat mX10_isMachine := ⟨a_in 1132 (by decide +kernel) (by decide +kernel), iw_10, a_in 1131 (by decide +kernel) (by decide +kernel), by decide +kernel, by decide +kernel, by decide⟩
theorem kX10_isOpen : a_inst mX10_isOpen := ⟨a_in 1313 (by decide +kernel) (by decide +kernel), iw_10, ⟨a_in 1312 (by decide +kernel) (by decide +kernel), a_in 84 (by decide +kernel) (by decide +kernel)⟩, by decide +kernel, by decide +kernel, by decide⟩
theorem kX10_isReady : a_inst mX10_isReady := ⟨a_in 1160 (by decide +kernel) (by decide +kernel), iw_10, ⟨a_in 1159 (by decide +kernel) (by decide +kernel), a_in 59 (by decide +kernel) (by decide +kernel)⟩, by decide +kernel, by decide +kernel, by decide⟩
theorem kX10_isTask : a_inst mX10_isTask := ⟨a_in 1121 (by decide +kernel) (by decide +kernel), iw_10, ⟨a_in 1120 (by decide +kernel) (by decide +kernel), a_in 52 (by decide +kernel) (by decide +kernel)⟩, by decide +kernel, by decide +kernel, by decide⟩
theorem kX10_jobAhead : a_inst mX10_jobAhead := ⟨a_in 1164 (by decide +kernel) (by decide +kernel), iw_10, ⟨a_in 1163 (by decide +kernel) (by decide +kernel), a_in 60 (by decide +kernel) (by decide +kernel)⟩, by decide +kernel, by decide +kernel, by decide⟩
theorem kX10_jobBehind : a_inst mX10_jobBehind := ⟨a_in 1173 (by decide +kernel) (by decide +kernel), iw_10, ⟨a_in 1172 (by decide +kernel) (by decide +kernel), a_in 62 (by decide +kernel) (by decide +kernel)⟩, by decide +kernel, by decide +kernel, by decide⟩
theorem kX10_keepsMove : a_inst mX10_keepsMove := ⟨a_in 1285 (by decide +kernel) (by decide +kernel), iw_10, ⟨a_in 1284 (by decide +kernel) (by decide +kernel), a_in 80 (by decide +kernel) (by decide +kernel)⟩, by decide +kernel, by decide +kernel, by decide⟩
theorem kX10_kept : a_inst mX10_kept := ⟨a_in 1293 (by decide +kernel) (by decide +kernel), iw_10, ⟨a_in 1291 (by decide +kernel) (by decide +kernel), a_in 1292 (by decide +kernel) (by decide +kernel)⟩, by decide +kernel, by decide +kernel, by decide⟩
theorem kX10_lays : a_inst mX10_lays := ⟨a_in 1097 (by decide +kernel) (by decide +kernel), iw_10, ⟨a_in 1096 (by decide +kernel) (by decide +kernel), a_in 49 (by decide +kernel) (by decide +kernel)⟩, by decide +kernel, by decide +kernel, by decide⟩
theorem kX10_leastBy : a_inst mX10_leastBy := ⟨a_in 1236 (by decide +kernel) (by decide +kernel), iw_10, ⟨a_in 1235 (by decide +kernel) (by decide +kernel), a_in 72 (by decide +kernel) (by decide +kernel)⟩, by decide +kernel, by decide +kernel, by decide⟩
theorem kX10_leftOf : a_inst mX10_leftOf := ⟨a_in 1329 (by decide +kernel) (by decide +kernel), iw_10, ⟨a_in 1328 (by decide +kernel) (by decide +kernel), a_in 88 (by decide +kernel) (by decide +kernel)⟩, by decide +kernel, by decide +kernel, by decide⟩
theorem kX10_machine : a_inst mX10_machine := ⟨a_in 1337 (by decide +kernel) (by decide +kernel), iw_10, ⟨a_in 1335 (by decide +kernel) (by decide +kernel), a_in 1336 (by decide +kernel) (by decide +kernel)⟩, by decide +kernel, by decide +kernel, by decide⟩
theorem kX10_mayStart : a_inst mX10_mayStart := ⟨a_in 1321 (by decide +kernel) (by decide +kernel), iw_10, ⟨a_in 1320 (by decide +kernel) (by decide +kernel), a_in 86 (by decide +kernel) (by decide +kernel)⟩, by decide +kernel, by decide +kernel, by decide⟩
theorem kX10_move : a_inst mX10_move := ⟨a_in 1224 (by decide +kernel) (by decide +kernel), iw_10, ⟨a_in 1222 (by decide +kernel) (by decide +kernel), a_in 1223 (by decide +kernel) (by decide +kernel)⟩, by decide +kernel, by decide +kernel, by decide⟩
theorem kX10_must : a_inst mX10_must := ⟨a_in 1081 (by decide +kernel) (by decide +kernel), iw_10, ⟨a_in 1080 (by decide +kernel) (by decide +kernel), a_in 45 (by decide +kernel) (by decide +kernel)⟩, by decide +kernel, by decide +kernel, by decide⟩
theorem kX10_neighbours : a_inst mX10_neighbours := ⟨a_in 1152 (by decide +kernel) (by decide +kernel), iw_10, ⟨a_in 1151 (by decide +kernel) (by decide +kernel), a_in 57 (by decide +kernel) (by decide +kernel)⟩, by decide +kernel, by decide +kernel, by decide⟩
theorem kX10_nextAt : a_inst mX10_nextAt := ⟨a_in 1365 (by decide +kernel) (by decide +kernel), iw_10, ⟨a_in 1364 (by decide +kernel) (by decide +kernel), a_in 95 (by decide +kernel) (by decide +kernel)⟩, by decide +kernel, by decide +kernel, by decide⟩
theorem kX10_nextOnWay : a_inst mX10_nextOnWay := ⟨a_in 1205 (by decide +kernel) (by decide +kernel), iw_10, ⟨a_in 1204 (by decide +kernel) (by decide +kernel), a_in 67 (by decide +kernel) (by decide +kernel)⟩, by decide +kernel, by decide +kernel, by decide⟩
theorem kX10_nextReady : a_inst mX10_nextReady := ⟨a_in 1156 (by decide +kernel) (by decide +kernel), iw_10, ⟨a_in 1155 (by decide +kernel) (by decide +kernel), a_in 58 (by decide +kernel) (by decide +kernel)⟩, by decide +kernel, by decide +kernel, by decide⟩
theorem kX10_notes : a_inst mX10_notes := ⟨a_in 1273 (by decide +kernel) (by decide +kernel), iw_10, ⟨a_in 1272 (by decide +kernel) (by decide +kernel), a_in 77 (by decide +kernel) (by decide +kernel)⟩, by decide +kernel, by decide +kernel, by decide⟩
theorem kX10_of : a_inst mX10_of := ⟨a_in 1185 (by decide +kernel) (by decide +kernel), iw_10, ⟨a_in 1183 (by decide +kernel) (by decide +kernel), a_in 1184 (by decide +kernel) (by decide +kernel)⟩, by decide +kernel, by decide +kernel, by decide⟩
theorem kX10_order : a_inst mX10_order := ⟨a_in 1129 (by decide +kernel) (by decide +kernel), iw_10, ⟨a_in 1127 (by decide +kernel) (by decide +kernel), a_in 1128 (by decide +kernel) (by decide +kernel)⟩, by decide +kernel, by decide +kernel, by decide⟩
theorem kX10_parts : a_inst mX10_parts := ⟨a_in 1220 (by decide +kernel) (by decide +kernel), iw_10, ⟨a_in 1219 (by decide +kernel) (by decide +kernel), a_in 69 (by decide +kernel) (by decide +kernel)⟩, by decide +kernel, by decide +kernel, by decide⟩
theorem kX10_passes : a_inst mX10_passes := ⟨a_in 1406 (by decide +kernel) (by decide +kernel), iw_10, ⟨a_in 1405 (by decide +kernel) (by decide +kernel), a_in 101 (by decide +kernel) (by decide +kernel)⟩, by decide +kernel, by decide +kernel, by decide⟩
theorem kX10_passesAll : a_inst mX10_passesAll := ⟨a_in 1402 (by decide +kernel) (by decide +kernel), iw_10, ⟨a_in 1401 (by decide +kernel) (by decide +kernel), a_in 100 (by decide +kernel) (by decide +kernel)⟩, by decide +kernel, by decide +kernel, by decide⟩
theorem kX10_passesRow : a_inst mX10_passesRow := ⟨a_in 1410 (by decide +kernel) (by decide +kernel), iw_10, ⟨a_in 1409 (by decide +kernel) (by decide +kernel), a_in 102 (by decide +kernel) (by decide +kernel)⟩, by decide +kernel, by decide +kernel, by decide⟩
theorem kX10_placeOf : a_inst mX10_placeOf := ⟨a_in 1125 (by decide +kernel) (by decide +kernel), iw_10, ⟨a_in 1124 (by decide +kernel) (by decide +kernel), a_in 53 (by decide +kernel) (by decide +kernel)⟩, by decide +kernel, by decide +kernel, by decide⟩
theorem kX10_preempted : a_inst mX10_preempted := ⟨a_in 1361 (by decide +kernel) (by decide +kernel), iw_10, ⟨a_in 1360 (by decide +kernel) (by decide +kernel), a_in 94 (by decide +kernel) (by decide +kernel)⟩, by decide +kernel, by decide +kernel, by decide⟩
theorem kX10_puts : a_inst mX10_puts := ⟨a_in 1089 (by decide +kernel) (by decide +kernel), iw_10, ⟨a_in 1088 (by decide +kernel) (by decide +kernel), a_in 47 (by decide +kernel) (by decide +kernel)⟩, by decide +kernel, by decide +kernel, by decide⟩
theorem kX10_readsAll : a_inst mX10_readsAll := ⟨a_in 1065 (by decide +kernel) (by decide +kernel), iw_10, ⟨a_in 1064 (by decide +kernel) (by decide +kernel), a_in 41 (by decide +kernel) (by decide +kernel)⟩, by decide +kernel, by decide +kernel, by decide⟩
theorem kX10_readsJob : a_inst mX10_readsJob := ⟨a_in 1069 (by decide +kernel) (by decide +kernel), iw_10, ⟨a_in 1068 (by decide +kernel) (by decide +kernel), a_in 42 (by decide +kernel) (by decide +kernel)⟩, by decide +kernel, by decide +kernel, by decide⟩
theorem kX10_readsTask : a_inst mX10_readsTask := ⟨a_in 1073 (by decide +kernel) (by decide +kernel), iw_10, ⟨a_in 1072 (by decide +kernel) (by decide +kernel), a_in 43 (by decide +kernel) (by decide +kernel)⟩, by decide +kernel, by decide +kernel, by decide⟩
theorem kX10_reckons : a_inst mX10_reckons := ⟨a_in 1148 (by decide +kernel) (by decide +kernel), iw_10, ⟨a_in 1147 (by decide +kernel) (by decide +kernel), a_in 56 (by decide +kernel) (by decide +kernel)⟩, by decide +kernel, by decide +kernel, by decide⟩
theorem kX10_redo : a_inst mX10_redo := ⟨a_in 1113 (by decide +kernel) (by decide +kernel), iw_10, ⟨a_in 1111 (by decide +kernel) (by decide +kernel), a_in 1112 (by decide +kernel) (by decide +kernel)⟩, by decide +kernel, by decide +kernel, by decide⟩
theorem kX10_restOf : a_inst mX10_restOf := ⟨a_in 1177 (by decide +kernel) (by decide +kernel), iw_10, ⟨a_in 1176 (by decide +kernel) (by decide +kernel), a_in 63 (by decide +kernel) (by decide +kernel)⟩, by decide +kernel, by decide +kernel, by decide⟩
theorem kX10_shop : a_inst mX10_shop := ⟨a_in 1061 (by decide +kernel) (by decide +kernel), iw_10, ⟨a_in 1059 (by decide +kernel) (by decide +kernel), a_in 1060 (by decide +kernel) (by decide +kernel)⟩, by decide +kernel, by decide +kernel, by decide⟩
theorem kX10_span : a_inst mX10_span := ⟨a_in 1181 (by decide +kernel) (by decide +kernel), iw_10, ⟨a_in 1179 (by decide +kernel) (by decide +kernel), a_in 1180 (by decide +kernel) (by decide +kernel)⟩, by decide +kernel, by decide +kernel, by decide⟩
theorem kX10_spanBehind : a_inst mX10_spanBehind := ⟨a_in 1244 (by decide +kernel) (by decide +kernel), iw_10, ⟨a_in 1243 (by decide +kernel) (by decide +kernel), a_in 73 (by decide +kernel) (by decide +kernel)⟩, by decide +kernel, by decide +kernel, by decide⟩
theorem kX10_step : a_inst mX10_step := ⟨a_in 1265 (by decide +kernel) (by decide +kernel), iw_10, ⟨a_in 1263 (by decide +kernel) (by decide +kernel), a_in 1264 (by decide +kernel) (by decide +kernel)⟩, by decide +kernel, by decide +kernel, by decide⟩
theorem kX10_steps : a_inst mX10_steps := ⟨a_in 1269 (by decide +kernel) (by decide +kernel), iw_10, ⟨a_in 1268 (by decide +kernel) (by decide +kernel), a_in 76 (by decide +kernel) (by decide +kernel)⟩, by decide +kernel, by decide +kernel, by decide⟩
theorem kX10_swaps : a_inst mX10_swaps := ⟨a_in 1140 (by decide +kernel) (by decide +kernel), iw_10, ⟨a_in 1139 (by decide +kernel) (by decide +kernel), a_in 54 (by decide +kernel) (by decide +kernel)⟩, by decide +kernel, by decide +kernel, by decide⟩
theorem kX10_swapsMove : a_inst mX10_swapsMove := ⟨a_in 1248 (by decide +kernel) (by decide +kernel), iw_10, ⟨a_in 1247 (by decide +kernel) (by decide +kernel), a_in 74 (by decide +kernel) (by decide +kernel)⟩, by decide +kernel, by decide +kernel, by decide⟩
theorem kX10_tabu : a_inst mX10_tabu := ⟨a_in 1261 (by decide +kernel) (by decide +kernel), iw_10, ⟨a_in 1259 (by decide +kernel) (by decide +kernel), a_in 1260 (by decide +kernel) (by decide +kernel)⟩, by decide +kernel, by decide +kernel, by decide⟩
theorem kX10_tabuAt : a_inst mX10_tabuAt := ⟨a_in 1253 (by decide +kernel) (by decide +kernel), iw_10, ⟨a_in 1252 (by decide +kernel) (by decide +kernel), a_in 75 (by decide +kernel) (by decide +kernel)⟩, by decide +kernel, by decide +kernel, by decide⟩
theorem kX10_tailOf : a_inst mX10_tailOf := ⟨a_in 1357 (by decide +kernel) (by decide +kernel), iw_10, ⟨a_in 1356 (by decide +kernel) (by decide +kernel), a_in 93 (by decide +kernel) (by decide +kernel)⟩, by decide +kernel, by decide +kernel, by decide⟩
theorem kX10_takes : a_inst mX10_takes := ⟨a_in 1345 (by decide +kernel) (by decide +kernel), iw_10, ⟨a_in 1344 (by decide +kernel) (by decide +kernel), a_in 90 (by decide +kernel) (by decide +kernel)⟩, by decide +kernel, by decide +kernel, by decide⟩
theorem kX10_takesOff : a_inst mX10_takesOff := ⟨a_in 1289 (by decide +kernel) (by decide +kernel), iw_10, ⟨a_in 1288 (by decide +kernel) (by decide +kernel), a_in 81 (by decide +kernel) (by decide +kernel)⟩, by decide +kernel, by decide +kernel, by decide⟩
theorem kX10_task : a_inst mX10_task := ⟨a_in 1117 (by decide +kernel) (by decide +kernel), iw_10, ⟨a_in 1115 (by decide +kernel) (by decide +kernel), a_in 1116 (by decide +kernel) (by decide +kernel)⟩, by decide +kernel, by decide +kernel, by decide⟩
theorem kX10_toldAt : a_stat mX10_toldAt := ⟨a_in 1212 (by decide +kernel) (by decide +kernel), iw_10, a_in 1211 (by decide +kernel) (by decide +kernel), by decide +kernel, by decide +kernel, by decide⟩
theorem kX10_triesFrom : a_inst mX10_triesFrom := ⟨a_in 1382 (by decide +kernel) (by decide +kernel), iw_10, ⟨a_in 1381 (by decide +kernel) (by decide +kernel), a_in 97 (by decide +kernel) (by decide +kernel)⟩, by decide +kernel, by decide +kernel, by decide⟩
theorem kX10_turn : a_inst mX10_turn := ⟨a_in 1136 (by decide +kernel) (by decide +kernel), iw_10, ⟨a_in 1134 (by decide +kernel) (by decide +kernel), a_in 1135 (by decide +kernel) (by decide +kernel)⟩, by decide +kernel, by decide +kernel, by decide⟩
theorem kX10_undo : a_inst mX10_undo := ⟨a_in 1105 (by decide +kernel) (by decide +kernel), iw_10, ⟨a_in 1103 (by decide +kernel) (by decide +kernel), a_in 1104 (by decide +kernel) (by decide +kernel)⟩, by decide +kernel, by decide +kernel, by decide⟩
theorem kX10_walks : a_inst mX10_walks := ⟨a_in 1201 (by decide +kernel) (by decide +kernel), iw_10, ⟨a_in 1200 (by decide +kernel) (by decide +kernel), a_in 66 (by decide +kernel) (by decide +kernel)⟩, by decide +kernel, by decide +kernel, by decide⟩
theorem kX10_way : a_inst mX10_way := ⟨a_in 1193 (by decide +kernel) (by decide +kernel), iw_10, ⟨a_in 1191 (by decide +kernel) (by decide +kernel), a_in 1192 (by decide +kernel) (by decide +kernel)⟩, by decide +kernel, by decide +kernel, by decide⟩
theorem kX10_waysAll : a_inst mX10_waysAll := ⟨a_in 1377 (by decide +kernel) (by decide +kernel), iw_10, ⟨a_in 1376 (by decide +kernel) (by decide +kernel), a_in 96 (by decide +kernel) (by decide +kernel)⟩, by decide +kernel, by decide +kernel, by decide⟩
theorem kX10_worthOf : a_inst mX10_worthOf := ⟨a_in 1325 (by decide +kernel) (by decide +kernel), iw_10, ⟨a_in 1324 (by decide +kernel) (by decide +kernel), a_in 87 (by decide +kernel) (by decide +kernel)⟩, by decide +kernel, by decide +kernel, by decide⟩
theorem kX10_would : a_inst mX10_would := ⟨a_in 1333 (by decide +kernel) (by decide +kernel), iw_10, ⟨a_in 1331 (by decide +kernel) (by decide +kernel), a_in 1332 (by decide +kernel) (by decide +kernel)⟩, by decide +kernel, by decide +kernel, by decide⟩
theorem kX10_wrong : a_inst mX10_wrong := ⟨a_in 1197 (by decide +kernel) (by decide +kernel), iw_10, ⟨a_in 1196 (by decide +kernel) (by decide +kernel), a_in 65 (by decide +kernel) (by decide +kernel)⟩, by decide +kernel, by decide +kernel, by decide⟩
theorem kX1_choose : a_inst mX1_choose := ⟨a_in 759 (by decide +kernel) (by decide +kernel), iw_1, ⟨a_in 758 (by decide +kernel) (by decide +kernel), a_in 30 (by decide +kernel) (by decide +kernel)⟩, by decide +kernel, by decide +kernel, by decide⟩
theorem kX1_clear : a_inst mX1_clear := ⟨a_in 755 (by decide +kernel) (by decide +kernel), iw_1, ⟨a_in 754 (by decide +kernel) (by decide +kernel), a_in 29 (by decide +kernel) (by decide +kernel)⟩, by decide +kernel, by decide +kernel, by decide⟩
theorem kX1_isNext : a_inst mX1_isNext := ⟨a_in 763 (by decide +kernel) (by decide +kernel), iw_1, ⟨a_in 762 (by decide +kernel) (by decide +kernel), a_in 31 (by decide +kernel) (by decide +kernel)⟩, by decide +kernel, by decide +kernel, by decide⟩
theorem kX1_key : a_stat mX1_key := ⟨a_in 772 (by decide +kernel) (by decide +kernel), iw_1, a_in 771 (by decide +kernel) (by decide +kernel), by decide +kernel, by decide +kernel, by decide⟩
theorem kX1_lay : a_inst mX1_lay := ⟨a_in 751 (by decide +kernel) (by decide +kernel), iw_1, ⟨a_in 749 (by decide +kernel) (by decide +kernel), a_in 750 (by decide +kernel) (by decide +kernel)⟩, by decide +kernel, by decide +kernel, by decide⟩
theorem kX1_putLast : a_inst mX1_putLast := ⟨a_in 776 (by decide +kernel) (by decide +kernel), iw_1, ⟨a_in 775 (by decide +kernel) (by decide +kernel), a_in 33 (by decide +kernel) (by decide +kernel)⟩, by decide +kernel, by decide +kernel, by decide⟩
theorem kX1_startOf : a_inst mX1_startOf := ⟨a_in 768 (by decide +kernel) (by decide +kernel), iw_1, ⟨a_in 767 (by decide +kernel) (by decide +kernel), a_in 32 (by decide +kernel) (by decide +kernel)⟩, by decide +kernel, by decide +kernel, by decide⟩
theorem kX2_forget : a_inst mX2_forget := ⟨a_in 527 (by decide +kernel) (by decide +kernel), iw_2, ⟨a_in 525 (by decide +kernel) (by decide +kernel), a_in 526 (by decide +kernel) (by decide +kernel)⟩, by decide +kernel, by decide +kernel, by decide⟩
theorem kX2_look : a_inst mX2_look := ⟨a_in 829 (by decide +kernel) (by decide +kernel), iw_2, ⟨a_in 827 (by decide +kernel) (by decide +kernel), a_in 828 (by decide +kernel) (by decide +kernel)⟩, by decide +kernel, by decide +kernel, by decide⟩
theorem kX2_lookAtAll : a_inst mX2_lookAtAll := ⟨a_in 837 (by decide +kernel) (by decide +kernel), iw_2, ⟨a_in 836 (by decide +kernel) (by decide +kernel), a_in 38 (by decide +kernel) (by decide +kernel)⟩, by decide +kernel, by decide +kernel, by decide⟩
theorem kX2_nextOfAll : a_inst mX2_nextOfAll := ⟨a_in 844 (by decide +kernel) (by decide +kernel), iw_2, ⟨a_in 843 (by decide +kernel) (by decide +kernel), a_in 39 (by decide +kernel) (by decide +kernel)⟩, by decide +kernel, by decide +kernel, by decide⟩
theorem kX2_waysOf : a_stat mX2_waysOf := ⟨a_in 832 (by decide +kernel) (by decide +kernel), iw_2, a_in 831 (by decide +kernel) (by decide +kernel), by decide +kernel, by decide +kernel, by decide⟩
theorem kX3_find : a_inst mX3_find := ⟨a_in 697 (by decide +kernel) (by decide +kernel), iw_3, ⟨a_in 695 (by decide +kernel) (by decide +kernel), a_in 696 (by decide +kernel) (by decide +kernel)⟩, by decide +kernel, by decide +kernel, by decide⟩
theorem kX3_keep : a_inst mX3_keep := ⟨a_in 726 (by decide +kernel) (by decide +kernel), iw_3, ⟨a_in 724 (by decide +kernel) (by decide +kernel), a_in 725 (by decide +kernel) (by decide +kernel)⟩, by decide +kernel, by decide +kernel, by decide⟩
theorem kX3_takeOff : a_inst mX3_takeOff := ⟨a_in 731 (by decide +kernel) (by decide +kernel), iw_3, ⟨a_in 730 (by decide +kernel) (by decide +kernel), a_in 28 (by decide +kernel) (by decide +kernel)⟩, by decide +kernel, by decide +kernel, by decide⟩
theorem kX4_begin : a_inst mX4_begin := ⟨a_in 514 (by decide +kernel) (by decide +kernel), iw_4, ⟨a_in 512 (by decide +kernel) (by decide +kernel), a_in 513 (by decide +kernel) (by decide +kernel)⟩, by decide +kernel, by decide +kernel, by decide⟩
theorem kX4_goAhead : a_inst mX4_goAhead := ⟨a_in 869 (by decide +kernel) (by decide +kernel), iw_4, ⟨a_in 867 (by decide +kernel) (by decide +kernel), a_in 868 (by decide +kernel) (by decide +kernel)⟩, by decide +kernel, by decide +kernel, by decide⟩
theorem kX4_goBack : a_inst mX4_goBack := ⟨a_in 861 (by decide +kernel) (by decide +kernel), iw_4, ⟨a_in 859 (by decide +kernel) (by decide +kernel), a_in 860 (by decide +kernel) (by decide +kernel)⟩, by decide +kernel, by decide +kernel, by decide⟩
theorem kX4_note : a_inst mX4_note := ⟨a_in 630 (by decide +kernel) (by decide +kernel), iw_4, ⟨a_in 628 (by decide +kernel) (by decide +kernel), a_in 629 (by decide +kernel) (by decide +kernel)⟩, by decide +kernel, by decide +kernel, by decide⟩
theorem kX5_add : a_inst mX5_add := ⟨a_in 479 (by decide +kernel) (by decide +kernel), iw_5, ⟨a_in 477 (by decide +kernel) (by decide +kernel), a_in 478 (by decide +kernel) (by decide +kernel)⟩, by decide +kernel, by decide +kernel, by decide⟩
theorem kX5_clear : a_inst mX5_clear := ⟨a_in 456 (by decide +kernel) (by decide +kernel), iw_5, ⟨a_in 454 (by decide +kernel) (by decide +kernel), a_in 455 (by decide +kernel) (by decide +kernel)⟩, by decide +kernel, by decide +kernel, by decide⟩
theorem kX5_copyOf : a_inst mX5_copyOf := ⟨a_in 495 (by decide +kernel) (by decide +kernel), iw_5, ⟨a_in 493 (by decide +kernel) (by decide +kernel), a_in 494 (by decide +kernel) (by decide +kernel)⟩, by decide +kernel, by decide +kernel, by decide⟩
theorem kX5_finish : a_inst mX5_finish := ⟨a_in 483 (by decide +kernel) (by decide +kernel), iw_5, ⟨a_in 481 (by decide +kernel) (by decide +kernel), a_in 482 (by decide +kernel) (by decide +kernel)⟩, by decide +kernel, by decide +kernel, by decide⟩
theorem kX5_jobAhead : a_inst mX5_jobAhead := ⟨a_in 487 (by decide +kernel) (by decide +kernel), iw_5, ⟨a_in 485 (by decide +kernel) (by decide +kernel), a_in 486 (by decide +kernel) (by decide +kernel)⟩, by decide +kernel, by decide +kernel, by decide⟩
theorem kX5_jobNext : a_inst mX5_jobNext := ⟨a_in 491 (by decide +kernel) (by decide +kernel), iw_5, ⟨a_in 489 (by decide +kernel) (by decide +kernel), a_in 490 (by decide +kernel) (by decide +kernel)⟩, by decide +kernel, by decide +kernel, by decide⟩
theorem kX5_longestJob : a_inst mX5_longestJob := ⟨a_in 820 (by decide +kernel) (by decide +kernel), iw_5, ⟨a_in 818 (by decide +kernel) (by decide +kernel), a_in 819 (by decide +kernel) (by decide +kernel)⟩, by decide +kernel, by decide +kernel, by decide⟩
theorem kX5_orderByNumbers : a_inst mX5_orderByNumbers := ⟨a_in 506 (by decide +kernel) (by decide +kernel), iw_5, ⟨a_in 504 (by decide +kernel) (by decide +kernel), a_in 505 (by decide +kernel) (by decide +kernel)⟩, by decide +kernel, by decide +kernel, by decide⟩
theorem kX5_tasksOn : a_inst mX5_tasksOn := ⟨a_in 614 (by decide +kernel) (by decide +kernel), iw_5, ⟨a_in 612 (by decide +kernel) (by decide +kernel), a_in 613 (by decide +kernel) (by decide +kernel)⟩, by decide +kernel, by decide +kernel, by decide⟩
theorem kX6_addMove : a_inst mX6_addMove := ⟨a_in 591 (by decide +kernel) (by decide +kernel), iw_6, ⟨a_in 590 (by decide +kernel) (by decide +kernel), a_in 14 (by decide +kernel) (by decide +kernel)⟩, by decide +kernel, by decide +kernel, by decide⟩
theorem kX6_beginning : a_stat mX6_beginning := ⟨a_in 571 (by decide +kernel) (by decide +kernel), iw_6, a_in 570 (by decide +kernel) (by decide +kernel), by decide +kernel, by decide +kernel, by decide⟩
theorem kX6_cutBlocks : a_inst mX6_cutBlocks := ⟨a_in 583 (by decide +kernel) (by decide +kernel), iw_6, ⟨a_in 582 (by decide +kernel) (by decide +kernel), a_in 12 (by decide +kernel) (by decide +kernel)⟩, by decide +kernel, by decide +kernel, by decide⟩
theorem kX6_find : a_inst mX6_find := ⟨a_in 564 (by decide +kernel) (by decide +kernel), iw_6, ⟨a_in 562 (by decide +kernel) (by decide +kernel), a_in 563 (by decide +kernel) (by decide +kernel)⟩, by decide +kernel, by decide +kernel, by decide⟩
theorem kX6_findMoves : a_inst mX6_findMoves := ⟨a_in 587 (by decide +kernel) (by decide +kernel), iw_6, ⟨a_in 586 (by decide +kernel) (by decide +kernel), a_in 13 (by decide +kernel) (by decide +kernel)⟩, by decide +kernel, by decide +kernel, by decide⟩
theorem kX6_first : a_inst mX6_first := ⟨a_in 662 (by decide +kernel) (by decide +kernel), iw_6, ⟨a_in 660 (by decide +kernel) (by decide +kernel), a_in 661 (by decide +kernel) (by decide +kernel)⟩, by decide +kernel, by decide +kernel, by decide⟩
theorem kX6_goesOn : a_stat mX6_goesOn := ⟨a_in 575 (by decide +kernel) (by decide +kernel), iw_6, a_in 574 (by decide +kernel) (by decide +kernel), by decide +kernel, by decide +kernel, by decide⟩
theorem kX6_second : a_inst mX6_second := ⟨a_in 666 (by decide +kernel) (by decide +kernel), iw_6, ⟨a_in 664 (by decide +kernel) (by decide +kernel), a_in 665 (by decide +kernel) (by decide +kernel)⟩, by decide +kernel, by decide +kernel, by decide⟩
theorem kX6_walk : a_inst mX6_walk := ⟨a_in 568 (by decide +kernel) (by decide +kernel), iw_6, ⟨a_in 567 (by decide +kernel) (by decide +kernel), a_in 11 (by decide +kernel) (by decide +kernel)⟩, by decide +kernel, by decide +kernel, by decide⟩
theorem kX7_isFigure : a_inst mX7_isFigure := ⟨a_in 464 (by decide +kernel) (by decide +kernel), iw_7, ⟨a_in 463 (by decide +kernel) (by decide +kernel), a_in 1 (by decide +kernel) (by decide +kernel)⟩, by decide +kernel, by decide +kernel, by decide⟩
theorem kX7_isTask : a_stat mX7_isTask := ⟨a_in 471 (by decide +kernel) (by decide +kernel), iw_7, a_in 470 (by decide +kernel) (by decide +kernel), by decide +kernel, by decide +kernel, by decide⟩
theorem kX7_letterAt : a_inst mX7_letterAt := ⟨a_in 468 (by decide +kernel) (by decide +kernel), iw_7, ⟨a_in 467 (by decide +kernel) (by decide +kernel), a_in 2 (by decide +kernel) (by decide +kernel)⟩, by decide +kernel, by decide +kernel, by decide⟩
theorem kX7_number : a_inst mX7_number := ⟨a_in 475 (by decide +kernel) (by decide +kernel), iw_7, ⟨a_in 474 (by decide +kernel) (by decide +kernel), a_in 3 (by decide +kernel) (by decide +kernel)⟩, by decide +kernel, by decide +kernel, by decide⟩
theorem kX7_put : a_inst mX7_put := ⟨a_in 444 (by decide +kernel) (by decide +kernel), iw_7, ⟨a_in 442 (by decide +kernel) (by decide +kernel), a_in 443 (by decide +kernel) (by decide +kernel)⟩, by decide +kernel, by decide +kernel, by decide⟩
theorem kX7_readInto : a_inst mX7_readInto := ⟨a_in 452 (by decide +kernel) (by decide +kernel), iw_7, ⟨a_in 450 (by decide +kernel) (by decide +kernel), a_in 451 (by decide +kernel) (by decide +kernel)⟩, by decide +kernel, by decide +kernel, by decide⟩
theorem kX7_taskEnd : a_inst mX7_taskEnd := ⟨a_in 460 (by decide +kernel) (by decide +kernel), iw_7, ⟨a_in 459 (by decide +kernel) (by decide +kernel), a_in 0 (by decide +kernel) (by decide +kernel)⟩, by decide +kernel, by decide +kernel, by decide⟩
theorem kX8_atLeast : a_inst mX8_atLeast := ⟨a_in 677 (by decide +kernel) (by decide +kernel), iw_8, ⟨a_in 675 (by decide +kernel) (by decide +kernel), a_in 676 (by decide +kernel) (by decide +kernel)⟩, by decide +kernel, by decide +kernel, by decide⟩
theorem kX8_endOf : a_inst mX8_endOf := ⟨a_in 681 (by decide +kernel) (by decide +kernel), iw_8, ⟨a_in 680 (by decide +kernel) (by decide +kernel), a_in 21 (by decide +kernel) (by decide +kernel)⟩, by decide +kernel, by decide +kernel, by decide⟩
theorem kX8_lay : a_inst mX8_lay := ⟨a_in 535 (by decide +kernel) (by decide +kernel), iw_8, ⟨a_in 533 (by decide +kernel) (by decide +kernel), a_in 534 (by decide +kernel) (by decide +kernel)⟩, by decide +kernel, by decide +kernel, by decide⟩
theorem kX8_layTails : a_inst mX8_layTails := ⟨a_in 556 (by decide +kernel) (by decide +kernel), iw_8, ⟨a_in 554 (by decide +kernel) (by decide +kernel), a_in 555 (by decide +kernel) (by decide +kernel)⟩, by decide +kernel, by decide +kernel, by decide⟩
theorem kX8_link : a_inst mX8_link := ⟨a_in 539 (by decide +kernel) (by decide +kernel), iw_8, ⟨a_in 538 (by decide +kernel) (by decide +kernel), a_in 7 (by decide +kernel) (by decide +kernel)⟩, by decide +kernel, by decide +kernel, by decide⟩
theorem kX8_queueFree : a_inst mX8_queueFree := ⟨a_in 543 (by decide +kernel) (by decide +kernel), iw_8, ⟨a_in 542 (by decide +kernel) (by decide +kernel), a_in 8 (by decide +kernel) (by decide +kernel)⟩, by decide +kernel, by decide +kernel, by decide⟩
theorem kX8_release : a_inst mX8_release := ⟨a_in 552 (by decide +kernel) (by decide +kernel), iw_8, ⟨a_in 551 (by decide +kernel) (by decide +kernel), a_in 9 (by decide +kernel) (by decide +kernel)⟩, by decide +kernel, by decide +kernel, by decide⟩
theorem kX8_toCome : a_inst mX8_toCome := ⟨a_in 560 (by decide +kernel) (by decide +kernel), iw_8, ⟨a_in 559 (by decide +kernel) (by decide +kernel), a_in 10 (by decide +kernel) (by decide +kernel)⟩, by decide +kernel, by decide +kernel, by decide⟩
theorem kX9_all : a_inst mX9_all := ⟨a_in 825 (by decide +kernel) (by decide +kernel), iw_9, ⟨a_in 823 (by decide +kernel) (by decide +kernel), a_in 824 (by decide +kernel) (by decide +kernel)⟩, by decide +kernel, by decide +kernel, by decide⟩
theorem kX9_back : a_inst mX9_back := ⟨a_in 877 (by decide +kernel) (by decide +kernel), iw_9, ⟨a_in 875 (by decide +kernel) (by decide +kernel), a_in 876 (by decide +kernel) (by decide +kernel)⟩, by decide +kernel, by decide +kernel, by decide⟩
theorem kX9_best : a_inst mX9_best := ⟨a_in 739 (by decide +kernel) (by decide +kernel), iw_9, ⟨a_in 737 (by decide +kernel) (by decide +kernel), a_in 738 (by decide +kernel) (by decide +kernel)⟩, by decide +kernel, by decide +kernel, by decide⟩
theorem kX9_block : a_inst mX9_block := ⟨a_in 654 (by decide +kernel) (by decide +kernel), iw_9, ⟨a_in 652 (by decide +kernel) (by decide +kernel), a_in 653 (by decide +kernel) (by decide +kernel)⟩, by decide +kernel, by decide +kernel, by decide⟩
theorem kX9_bound : a_inst mX9_bound := ⟨a_in 816 (by decide +kernel) (by decide +kernel), iw_9, ⟨a_in 814 (by decide +kernel) (by decide +kernel), a_in 815 (by decide +kernel) (by decide +kernel)⟩, by decide +kernel, by decide +kernel, by decide⟩
theorem kX9_brings : a_inst mX9_brings := ⟨a_in 673 (by decide +kernel) (by decide +kernel), iw_9, ⟨a_in 671 (by decide +kernel) (by decide +kernel), a_in 672 (by decide +kernel) (by decide +kernel)⟩, by decide +kernel, by decide +kernel, by decide⟩
theorem kX9_changePlaces : a_inst mX9_changePlaces := ⟨a_in 622 (by decide +kernel) (by decide +kernel), iw_9, ⟨a_in 621 (by decide +kernel) (by decide +kernel), a_in 17 (by decide +kernel) (by decide +kernel)⟩, by decide +kernel, by decide +kernel, by decide⟩
theorem kX9_changed : a_inst mX9_changed := ⟨a_in 626 (by decide +kernel) (by decide +kernel), iw_9, ⟨a_in 625 (by decide +kernel) (by decide +kernel), a_in 18 (by decide +kernel) (by decide +kernel)⟩, by decide +kernel, by decide +kernel, by decide⟩
theorem kX9_chart : a_inst mX9_chart := ⟨a_in 849 (by decide +kernel) (by decide +kernel), iw_9, ⟨a_in 847 (by decide +kernel) (by decide +kernel), a_in 848 (by decide +kernel) (by decide +kernel)⟩, by decide +kernel, by decide +kernel, by decide⟩
theorem kX9_chartByte : a_inst mX9_chartByte := ⟨a_in 853 (by decide +kernel) (by decide +kernel), iw_9, ⟨a_in 852 (by decide +kernel) (by decide +kernel), a_in 40 (by decide +kernel) (by decide +kernel)⟩, by decide +kernel, by decide +kernel, by decide⟩
theorem kX9_chosen : a_inst mX9_chosen := ⟨a_in 722 (by decide +kernel) (by decide +kernel), iw_9, ⟨a_in 721 (by decide +kernel) (by decide +kernel), a_in 27 (by decide +kernel) (by decide +kernel)⟩, by decide +kernel, by decide +kernel, by decide⟩
theorem kX9_copyRow : a_stat mX9_copyRow := ⟨a_in 498 (by decide +kernel) (by decide +kernel), iw_9, a_in 497 (by decide +kernel) (by decide +kernel), by decide +kernel, by decide +kernel, by decide⟩
theorem kX9_count : a_inst mX9_count := ⟨a_in 881 (by decide +kernel) (by decide +kernel), iw_9, ⟨a_in 879 (by decide +kernel) (by decide +kernel), a_in 880 (by decide +kernel) (by decide +kernel)⟩, by decide +kernel, by decide +kernel, by decide⟩
theorem kX9_dispatch : a_inst mX9_dispatch := ⟨a_in 743 (by decide +kernel) (by decide +kernel), iw_9, ⟨a_in 741 (by decide +kernel) (by decide +kernel), a_in 742 (by decide +kernel) (by decide +kernel)⟩, by decide +kernel, by decide +kernel, by decide⟩
theorem kX9_does : a_inst mX9_does := ⟨a_in 701 (by decide +kernel) (by decide +kernel), iw_9, ⟨a_in 699 (by decide +kernel) (by decide +kernel), a_in 700 (by decide +kernel) (by decide +kernel)⟩, by decide +kernel, by decide +kernel, by decide⟩
theorem kX9_feed : a_inst mX9_feed := ⟨a_in 440 (by decide +kernel) (by decide +kernel), iw_9, ⟨a_in 438 (by decide +kernel) (by decide +kernel), a_in 439 (by decide +kernel) (by decide +kernel)⟩, by decide +kernel, by decide +kernel, by decide⟩
theorem kX9_forgetSteps : a_inst mX9_forgetSteps := ⟨a_in 519 (by decide +kernel) (by decide +kernel), iw_9, ⟨a_in 518 (by decide +kernel) (by decide +kernel), a_in 5 (by decide +kernel) (by decide +kernel)⟩, by decide +kernel, by decide +kernel, by decide⟩
theorem kX9_goOn : a_inst mX9_goOn := ⟨a_in 713 (by decide +kernel) (by decide +kernel), iw_9, ⟨a_in 712 (by decide +kernel) (by decide +kernel), a_in 25 (by decide +kernel) (by decide +kernel)⟩, by decide +kernel, by decide +kernel, by decide⟩
theorem kX9_image : a_inst mX9_image := ⟨a_in 873 (by decide +kernel) (by decide +kernel), iw_9, ⟨a_in 871 (by decide +kernel) (by decide +kernel), a_in 872 (by decide +kernel) (by decide +kernel)⟩, by decide +kernel, by decide +kernel, by decide⟩
theorem kX9_kept : a_inst mX9_kept := ⟨a_in 735 (by decide +kernel) (by decide +kernel), iw_9, ⟨a_in 733 (by decide +kernel) (by decide +kernel), a_in 734 (by decide +kernel) (by decide +kernel)⟩, by decide +kernel, by decide +kernel, by decide⟩
theorem kX9_keptSince : a_inst mX9_keptSince := ⟨a_in 693 (by decide +kernel) (by decide +kernel), iw_9, ⟨a_in 692 (by decide +kernel) (by decide +kernel), a_in 24 (by decide +kernel) (by decide +kernel)⟩, by decide +kernel, by decide +kernel, by decide⟩
theorem kX9_lookForLeast : a_inst mX9_lookForLeast := ⟨a_in 717 (by decide +kernel) (by decide +kernel), iw_9, ⟨a_in 716 (by decide +kernel) (by decide +kernel), a_in 26 (by decide +kernel) (by decide +kernel)⟩, by decide +kernel, by decide +kernel, by decide⟩
theorem kX9_machine : a_inst mX9_machine := ⟨a_in 781 (by decide +kernel) (by decide +kernel), iw_9, ⟨a_in 779 (by decide +kernel) (by decide +kernel), a_in 780 (by decide +kernel) (by decide +kernel)⟩, by decide +kernel, by decide +kernel, by decide⟩
theorem kX9_move : a_inst mX9_move := ⟨a_in 658 (by decide +kernel) (by decide +kernel), iw_9, ⟨a_in 656 (by decide +kernel) (by decide +kernel), a_in 657 (by decide +kernel) (by decide +kernel)⟩, by decide +kernel, by decide +kernel, by decide⟩
theorem kX9_nextOrder : a_stat mX9_nextOrder := ⟨a_in 798 (by decide +kernel) (by decide +kernel), iw_9, a_in 797 (by decide +kernel) (by decide +kernel), by decide +kernel, by decide +kernel, by decide⟩
theorem kX9_noMachine : a_stat mX9_noMachine := ⟨a_in 606 (by decide +kernel) (by decide +kernel), iw_9, a_in 605 (by decide +kernel) (by decide +kernel), by decide +kernel, by decide +kernel, by decide⟩
theorem kX9_noShop : a_inst mX9_noShop := ⟨a_in 610 (by decide +kernel) (by decide +kernel), iw_9, ⟨a_in 609 (by decide +kernel) (by decide +kernel), a_in 16 (by decide +kernel) (by decide +kernel)⟩, by decide +kernel, by decide +kernel, by decide⟩
theorem kX9_noTask : a_inst mX9_noTask := ⟨a_in 599 (by decide +kernel) (by decide +kernel), iw_9, ⟨a_in 598 (by decide +kernel) (by decide +kernel), a_in 15 (by decide +kernel) (by decide +kernel)⟩, by decide +kernel, by decide +kernel, by decide⟩
theorem kX9_of : a_inst mX9_of := ⟨a_in 646 (by decide +kernel) (by decide +kernel), iw_9, ⟨a_in 644 (by decide +kernel) (by decide +kernel), a_in 645 (by decide +kernel) (by decide +kernel)⟩, by decide +kernel, by decide +kernel, by decide⟩
theorem kX9_order : a_inst mX9_order := ⟨a_in 603 (by decide +kernel) (by decide +kernel), iw_9, ⟨a_in 601 (by decide +kernel) (by decide +kernel), a_in 602 (by decide +kernel) (by decide +kernel)⟩, by decide +kernel, by decide +kernel, by decide⟩
theorem kX9_pair : a_stat mX9_pair := ⟨a_in 669 (by decide +kernel) (by decide +kernel), iw_9, a_in 668 (by decide +kernel) (by decide +kernel), by decide +kernel, by decide +kernel, by decide⟩
theorem kX9_redo : a_inst mX9_redo := ⟨a_in 865 (by decide +kernel) (by decide +kernel), iw_9, ⟨a_in 863 (by decide +kernel) (by decide +kernel), a_in 864 (by decide +kernel) (by decide +kernel)⟩, by decide +kernel, by decide +kernel, by decide⟩
theorem kX9_refusedByState : a_inst mX9_refusedByState := ⟨a_in 642 (by decide +kernel) (by decide +kernel), iw_9, ⟨a_in 641 (by decide +kernel) (by decide +kernel), a_in 20 (by decide +kernel) (by decide +kernel)⟩, by decide +kernel, by decide +kernel, by decide⟩
theorem kX9_settle : a_inst mX9_settle := ⟨a_in 531 (by decide +kernel) (by decide +kernel), iw_9, ⟨a_in 530 (by decide +kernel) (by decide +kernel), a_in 6 (by decide +kernel) (by decide +kernel)⟩, by decide +kernel, by decide +kernel, by decide⟩
theorem kX9_shop : a_inst mX9_shop := ⟨a_in 448 (by decide +kernel) (by decide +kernel), iw_9, ⟨a_in 446 (by decide +kernel) (by decide +kernel), a_in 447 (by decide +kernel) (by decide +kernel)⟩, by decide +kernel, by decide +kernel, by decide⟩
theorem kX9_slotOf : a_inst mX9_slotOf := ⟨a_in 689 (by decide +kernel) (by decide +kernel), iw_9, ⟨a_in 688 (by decide +kernel) (by decide +kernel), a_in 23 (by decide +kernel) (by decide +kernel)⟩, by decide +kernel, by decide +kernel, by decide⟩
theorem kX9_span : a_inst mX9_span := ⟨a_in 638 (by decide +kernel) (by decide +kernel), iw_9, ⟨a_in 636 (by decide +kernel) (by decide +kernel), a_in 637 (by decide +kernel) (by decide +kernel)⟩, by decide +kernel, by decide +kernel, by decide⟩
theorem kX9_spanBehind : a_inst mX9_spanBehind := ⟨a_in 685 (by decide +kernel) (by decide +kernel), iw_9, ⟨a_in 684 (by decide +kernel) (by decide +kernel), a_in 22 (by decide +kernel) (by decide +kernel)⟩, by decide +kernel, by decide +kernel, by decide⟩
theorem kX9_spanOrRing : a_inst mX9_spanOrRing := ⟨a_in 634 (by decide +kernel) (by decide +kernel), iw_9, ⟨a_in 633 (by decide +kernel) (by decide +kernel), a_in 19 (by decide +kernel) (by decide +kernel)⟩, by decide +kernel, by decide +kernel, by decide⟩
theorem kX9_startAnew : a_inst mX9_startAnew := ⟨a_in 510 (by decide +kernel) (by decide +kernel), iw_9, ⟨a_in 509 (by decide +kernel) (by decide +kernel), a_in 4 (by decide +kernel) (by decide +kernel)⟩, by decide +kernel, by decide +kernel, by decide⟩
theorem kX9_step : a_inst mX9_step := ⟨a_in 709 (by decide +kernel) (by decide +kernel), iw_9, ⟨a_in 707 (by decide +kernel) (by decide +kernel), a_in 708 (by decide +kernel) (by decide +kernel)⟩, by decide +kernel, by decide +kernel, by decide⟩
theorem kX9_tabu : a_inst mX9_tabu := ⟨a_in 705 (by decide +kernel) (by decide +kernel), iw_9, ⟨a_in 703 (by decide +kernel) (by decide +kernel), a_in 704 (by decide +kernel) (by decide +kernel)⟩, by decide +kernel, by decide +kernel, by decide⟩
theorem kX9_task : a_inst mX9_task := ⟨a_in 595 (by decide +kernel) (by decide +kernel), iw_9, ⟨a_in 593 (by decide +kernel) (by decide +kernel), a_in 594 (by decide +kernel) (by decide +kernel)⟩, by decide +kernel, by decide +kernel, by decide⟩
theorem kX9_turn : a_inst mX9_turn := ⟨a_in 618 (by decide +kernel) (by decide +kernel), iw_9, ⟨a_in 616 (by decide +kernel) (by decide +kernel), a_in 617 (by decide +kernel) (by decide +kernel)⟩, by decide +kernel, by decide +kernel, by decide⟩
theorem kX9_undo : a_inst mX9_undo := ⟨a_in 857 (by decide +kernel) (by decide +kernel), iw_9, ⟨a_in 855 (by decide +kernel) (by decide +kernel), a_in 856 (by decide +kernel) (by decide +kernel)⟩, by decide +kernel, by decide +kernel, by decide⟩
theorem kX9_way : a_inst mX9_way := ⟨a_in 650 (by decide +kernel) (by decide +kernel), iw_9, ⟨a_in 648 (by decide +kernel) (by decide +kernel), a_in 649 (by decide +kernel) (by decide +kernel)⟩, by decide +kernel, by decide +kernel, by decide⟩
theorem kX9_would : a_inst mX9_would := ⟨a_in 747 (by decide +kernel) (by decide +kernel), iw_9, ⟨a_in 745 (by decide +kernel) (by decide +kernel), a_in 746 (by decide +kernel) (by decide +kernel)⟩, by decide +kernel, by decide +kernel, by decide⟩
theorem fl_9_10 : Cond.fieldLink RX9 10 (TX9 0).1 (TX9 0).2.1 (TX9 0).2.2.1 ∈ a_ws := a_in 385 (by decide +kernel) (by decide +kernel)
theorem fl_9_19 : Cond.fieldLink RX9 19 (TX9 1).1 (TX9 1).2.1 (TX9 1).2.2.1 ∈ a_ws := a_in 386 (by decide +kernel) (by decide +kernel)
theorem fl_9_23 : Cond.fieldLink RX9 23 (TX9 2).1 (TX9 2).2.1 (TX9 2).2.2.1 ∈ a_ws := a_in 387 (by decide +kernel) (by decide +kernel)
theorem fl_9_26 : Cond.fieldLink RX9 26 (TX9 3).1 (TX9 3).2.1 (TX9 3).2.2.1 ∈ a_ws := a_in 388 (by decide +kernel) (by decide +kernel)
theorem fl_9_33 : Cond.fieldLink RX9 33 (TX9 4).1 (TX9 4).2.1 (TX9 4).2.2.1 ∈ a_ws := a_in 389 (by decide +kernel) (by decide +kernel)
theorem fl_9_37 : Cond.fieldLink RX9 37 (TX9 5).1 (TX9 5).2.1 (TX9 5).2.2.1 ∈ a_ws := a_in 390 (by decide +kernel) (by decide +kernel)
theorem fl_9_43 : Cond.fieldLink RX9 43 (TX9 6).1 (TX9 6).2.1 (TX9 6).2.2.1 ∈ a_ws := a_in 391 (by decide +kernel) (by decide +kernel)
theorem fl_9_50 : Cond.fieldLink RX9 50 (TX9 7).1 (TX9 7).2.1 (TX9 7).2.2.1 ∈ a_ws := a_in 392 (by decide +kernel) (by decide +kernel)
theorem fl_9_57 : Cond.fieldLink RX9 57 (TX9 8).1 (TX9 8).2.1 (TX9 8).2.2.1 ∈ a_ws := a_in 393 (by decide +kernel) (by decide +kernel)
theorem fl_9_64 : Cond.fieldLink RX9 64 (TX9 9).1 (TX9 9).2.1 (TX9 9).2.2.1 ∈ a_ws := a_in 394 (by decide +kernel) (by decide +kernel)
theorem fl_9_71 : Cond.fieldLink RX9 71 (TX9 10).1 (TX9 10).2.1 (TX9 10).2.2.1 ∈ a_ws := a_in 395 (by decide +kernel) (by decide +kernel)
theorem fl_9_78 : Cond.fieldLink RX9 78 (TX9 11).1 (TX9 11).2.1 (TX9 11).2.2.1 ∈ a_ws := a_in 396 (by decide +kernel) (by decide +kernel)
theorem fl_9_82 : Cond.fieldLink RX9 82 (TX9 12).1 (TX9 12).2.1 (TX9 12).2.2.1 ∈ a_ws := a_in 397 (by decide +kernel) (by decide +kernel)
theorem fl_9_85 : Cond.fieldLink RX9 85 (TX9 13).1 (TX9 13).2.1 (TX9 13).2.2.1 ∈ a_ws := a_in 398 (by decide +kernel) (by decide +kernel)
theorem fl_9_88 : Cond.fieldLink RX9 88 (TX9 14).1 (TX9 14).2.1 (TX9 14).2.2.1 ∈ a_ws := a_in 399 (by decide +kernel) (by decide +kernel)
theorem fl_9_91 : Cond.fieldLink RX9 91 (TX9 15).1 (TX9 15).2.1 (TX9 15).2.2.1 ∈ a_ws := a_in 400 (by decide +kernel) (by decide +kernel)
theorem fl_9_95 : Cond.fieldLink RX9 95 (TX9 16).1 (TX9 16).2.1 (TX9 16).2.2.1 ∈ a_ws := a_in 401 (by decide +kernel) (by decide +kernel)
theorem fl_9_98 : Cond.fieldLink RX9 98 (TX7 1).1 (TX7 1).2.1 (TX7 1).2.2.1 ∈ a_ws := a_in 133 (by decide +kernel) (by decide +kernel)
theorem fl_9_120 : Cond.fieldLink RX9 120 (TX5 1).1 (TX5 1).2.1 (TX5 1).2.2.1 ∈ a_ws := a_in 151 (by decide +kernel) (by decide +kernel)
theorem fl_9_127 : Cond.fieldLink RX9 127 (TX5 2).1 (TX5 2).2.1 (TX5 2).2.2.1 ∈ a_ws := a_in 155 (by decide +kernel) (by decide +kernel)
theorem fl_9_130 : Cond.fieldLink RX9 130 (TX5 3).1 (TX5 3).2.1 (TX5 3).2.2.1 ∈ a_ws := a_in 159 (by decide +kernel) (by decide +kernel)
theorem fl_9_133 : Cond.fieldLink RX9 133 (TX5 4).1 (TX5 4).2.1 (TX5 4).2.2.1 ∈ a_ws := a_in 162 (by decide +kernel) (by decide +kernel)
theorem fl_9_136 : Cond.fieldLink RX9 136 (TX5 5).1 (TX5 5).2.1 (TX5 5).2.2.1 ∈ a_ws := a_in 167 (by decide +kernel) (by decide +kernel)
theorem fl_9_139 : Cond.fieldLink RX9 139 (TX8 0).1 (TX8 0).2.1 (TX8 0).2.2.1 ∈ a_ws := a_in 207 (by decide +kernel) (by decide +kernel)
theorem fl_9_153 : Cond.fieldLink RX9 153 (TX5 8).1 (TX5 8).2.1 (TX5 8).2.2.1 ∈ a_ws := a_in 178 (by decide +kernel) (by decide +kernel)
theorem fl_9_169 : Cond.fieldLink RX9 169 (TX8 9).1 (TX8 9).2.1 (TX8 9).2.2.1 ∈ a_ws := a_in 224 (by decide +kernel) (by decide +kernel)
theorem fl_9_172 : Cond.fieldLink RX9 172 (TX8 3).1 (TX8 3).2.1 (TX8 3).2.2.1 ∈ a_ws := a_in 213 (by decide +kernel) (by decide +kernel)
theorem fl_9_175 : Cond.fieldLink RX9 175 (TX8 4).1 (TX8 4).2.1 (TX8 4).2.2.1 ∈ a_ws := a_in 215 (by decide +kernel) (by decide +kernel)
theorem fl_9_178 : Cond.fieldLink RX9 178 (TX8 5).1 (TX8 5).2.1 (TX8 5).2.2.1 ∈ a_ws := a_in 218 (by decide +kernel) (by decide +kernel)
theorem fl_9_181 : Cond.fieldLink RX9 181 (TX6 1).1 (TX6 1).2.1 (TX6 1).2.2.1 ∈ a_ws := a_in 260 (by decide +kernel) (by decide +kernel)
theorem fl_9_182 : Cond.fieldLink RX9 182 (TX6 0).1 (TX6 0).2.1 (TX6 0).2.2.1 ∈ a_ws := a_in 258 (by decide +kernel) (by decide +kernel)
theorem fl_9_184 : Cond.fieldLink RX9 184 (TX6 3).1 (TX6 3).2.1 (TX6 3).2.2.1 ∈ a_ws := a_in 264 (by decide +kernel) (by decide +kernel)
theorem fl_9_187 : Cond.fieldLink RX9 187 (TX6 2).1 (TX6 2).2.1 (TX6 2).2.2.1 ∈ a_ws := a_in 262 (by decide +kernel) (by decide +kernel)
theorem fl_9_190 : Cond.fieldLink RX9 190 (TX6 5).1 (TX6 5).2.1 (TX6 5).2.2.1 ∈ a_ws := a_in 267 (by decide +kernel) (by decide +kernel)
theorem fl_9_216 : Cond.fieldLink RX9 216 (TX3 2).1 (TX3 2).2.1 (TX3 2).2.2.1 ∈ a_ws := a_in 292 (by decide +kernel) (by decide +kernel)
theorem fl_9_225 : Cond.fieldLink RX9 225 (TX3 1).1 (TX3 1).2.1 (TX3 1).2.2.1 ∈ a_ws := a_in 290 (by decide +kernel) (by decide +kernel)
theorem fl_9_228 : Cond.fieldLink RX9 228 (TX3 0).1 (TX3 0).2.1 (TX3 0).2.2.1 ∈ a_ws := a_in 288 (by decide +kernel) (by decide +kernel)
theorem fl_9_238 : Cond.fieldLink RX9 238 (TX1 0).1 (TX1 0).2.1 (TX1 0).2.2.1 ∈ a_ws := a_in 327 (by decide +kernel) (by decide +kernel)
theorem fl_9_243 : Cond.fieldLink RX9 243 (TX1 5).1 (TX1 5).2.1 (TX1 5).2.2.1 ∈ a_ws := a_in 333 (by decide +kernel) (by decide +kernel)
theorem fl_9_263 : Cond.fieldLink RX9 263 (TX2 2).1 (TX2 2).2.1 (TX2 2).2.2.1 ∈ a_ws := a_in 373 (by decide +kernel) (by decide +kernel)
theorem fl_9_266 : Cond.fieldLink RX9 266 (TX2 3).1 (TX2 3).2.1 (TX2 3).2.2.1 ∈ a_ws := a_in 375 (by decide +kernel) (by decide +kernel)
theorem fl_9_277 : Cond.fieldLink RX9 277 (TX4 1).1 (TX4 1).2.1 (TX4 1).2.2.1 ∈ a_ws := a_in 310 (by decide +kernel) (by decide +kernel)
theorem fl_9_283 : Cond.fieldLink RX9 283 (TX4 2).1 (TX4 2).2.1 (TX4 2).2.2.1 ∈ a_ws := a_in 312 (by decide +kernel) (by decide +kernel)
theorem fl_9_286 : Cond.fieldLink RX9 286 (TX5 0).1 (TX5 0).2.1 (TX5 0).2.2.1 ∈ a_ws := a_in 147 (by decide +kernel) (by decide +kernel)
theorem fl_9_288 : Cond.fieldLink RX9 288 (TX8 10).1 (TX8 10).2.1 (TX8 10).2.2.1 ∈ a_ws := a_in 227 (by decide +kernel) (by decide +kernel)
theorem fl_0_9 : Cond.fieldLink RX0 9 (TX0 0).1 (TX0 0).2.1 (TX0 0).2.2.1 ∈ a_ws := a_in 354 (by decide +kernel) (by decide +kernel)
theorem fl_0_15 : Cond.fieldLink RX0 15 (TX0 1).1 (TX0 1).2.1 (TX0 1).2.2.1 ∈ a_ws := a_in 355 (by decide +kernel) (by decide +kernel)
theorem fl_0_18 : Cond.fieldLink RX0 18 (TX0 2).1 (TX0 2).2.1 (TX0 2).2.2.1 ∈ a_ws := a_in 356 (by decide +kernel) (by decide +kernel)
theorem fl_0_31 : Cond.fieldLink RX0 31 (TX5 1).1 (TX5 1).2.1 (TX5 1).2.2.1 ∈ a_ws := a_in 152 (by decide +kernel) (by decide +kernel)
theorem fl_0_34 : Cond.fieldLink RX0 34 (TX5 4).1 (TX5 4).2.1 (TX5 4).2.2.1 ∈ a_ws := a_in 161 (by decide +kernel) (by decide +kernel)
theorem fl_0_50 : Cond.fieldLink RX0 50 (TX5 6).1 (TX5 6).2.1 (TX5 6).2.2.1 ∈ a_ws := a_in 172 (by decide +kernel) (by decide +kernel)
theorem fl_0_56 : Cond.fieldLink RX0 56 (TX5 5).1 (TX5 5).2.1 (TX5 5).2.2.1 ∈ a_ws := a_in 168 (by decide +kernel) (by decide +kernel)
theorem fl_0_59 : Cond.fieldLink RX0 59 (TX5 7).1 (TX5 7).2.1 (TX5 7).2.2.1 ∈ a_ws := a_in 174 (by decide +kernel) (by decide +kernel)
theorem fl_1_9 : Cond.fieldLink RX1 9 (TX1 0).1 (TX1 0).2.1 (TX1 0).2.2.1 ∈ a_ws := a_in 326 (by decide +kernel) (by decide +kernel)
theorem fl_1_15 : Cond.fieldLink RX1 15 (TX1 1).1 (TX1 1).2.1 (TX1 1).2.2.1 ∈ a_ws := a_in 328 (by decide +kernel) (by decide +kernel)
theorem fl_1_18 : Cond.fieldLink RX1 18 (TX1 2).1 (TX1 2).2.1 (TX1 2).2.2.1 ∈ a_ws := a_in 329 (by decide +kernel) (by decide +kernel)
theorem fl_1_21 : Cond.fieldLink RX1 21 (TX1 3).1 (TX1 3).2.1 (TX1 3).2.2.1 ∈ a_ws := a_in 330 (by decide +kernel) (by decide +kernel)
theorem fl_1_24 : Cond.fieldLink RX1 24 (TX1 4).1 (TX1 4).2.1 (TX1 4).2.2.1 ∈ a_ws := a_in 331 (by decide +kernel) (by decide +kernel)
theorem fl_1_28 : Cond.fieldLink RX1 28 (TX1 5).1 (TX1 5).2.1 (TX1 5).2.2.1 ∈ a_ws := a_in 332 (by decide +kernel) (by decide +kernel)
theorem fl_1_35 : Cond.fieldLink RX1 35 (TX5 1).1 (TX5 1).2.1 (TX5 1).2.2.1 ∈ a_ws := a_in 149 (by decide +kernel) (by decide +kernel)
theorem fl_1_63 : Cond.fieldLink RX1 63 (TX5 4).1 (TX5 4).2.1 (TX5 4).2.2.1 ∈ a_ws := a_in 163 (by decide +kernel) (by decide +kernel)
theorem fl_1_66 : Cond.fieldLink RX1 66 (TX5 2).1 (TX5 2).2.1 (TX5 2).2.2.1 ∈ a_ws := a_in 156 (by decide +kernel) (by decide +kernel)
theorem fl_1_75 : Cond.fieldLink RX1 75 (TX5 5).1 (TX5 5).2.1 (TX5 5).2.2.1 ∈ a_ws := a_in 170 (by decide +kernel) (by decide +kernel)
theorem fl_1_78 : Cond.fieldLink RX1 78 (TX5 7).1 (TX5 7).2.1 (TX5 7).2.2.1 ∈ a_ws := a_in 175 (by decide +kernel) (by decide +kernel)
theorem fl_1_81 : Cond.fieldLink RX1 81 (TX5 8).1 (TX5 8).2.1 (TX5 8).2.2.1 ∈ a_ws := a_in 180 (by decide +kernel) (by decide +kernel)
theorem fl_2_9 : Cond.fieldLink RX2 9 (TX2 0).1 (TX2 0).2.1 (TX2 0).2.2.1 ∈ a_ws := a_in 370 (by decide +kernel) (by decide +kernel)
theorem fl_2_15 : Cond.fieldLink RX2 15 (TX2 1).1 (TX2 1).2.1 (TX2 1).2.2.1 ∈ a_ws := a_in 371 (by decide +kernel) (by decide +kernel)
theorem fl_2_19 : Cond.fieldLink RX2 19 (TX2 2).1 (TX2 2).2.1 (TX2 2).2.2.1 ∈ a_ws := a_in 372 (by decide +kernel) (by decide +kernel)
theorem fl_2_23 : Cond.fieldLink RX2 23 (TX2 3).1 (TX2 3).2.1 (TX2 3).2.2.1 ∈ a_ws := a_in 374 (by decide +kernel) (by decide +kernel)
theorem fl_2_50 : Cond.fieldLink RX2 50 (TX8 10).1 (TX8 10).2.1 (TX8 10).2.2.1 ∈ a_ws := a_in 226 (by decide +kernel) (by decide +kernel)
theorem fl_2_53 : Cond.fieldLink RX2 53 (TX8 9).1 (TX8 9).2.1 (TX8 9).2.2.1 ∈ a_ws := a_in 223 (by decide +kernel) (by decide +kernel)
theorem fl_2_66 : Cond.fieldLink RX2 66 (TX5 8).1 (TX5 8).2.1 (TX5 8).2.2.1 ∈ a_ws := a_in 179 (by decide +kernel) (by decide +kernel)
theorem fl_3_9 : Cond.fieldLink RX3 9 (TX3 0).1 (TX3 0).2.1 (TX3 0).2.2.1 ∈ a_ws := a_in 287 (by decide +kernel) (by decide +kernel)
theorem fl_3_15 : Cond.fieldLink RX3 15 (TX3 1).1 (TX3 1).2.1 (TX3 1).2.2.1 ∈ a_ws := a_in 289 (by decide +kernel) (by decide +kernel)
theorem fl_3_19 : Cond.fieldLink RX3 19 (TX3 2).1 (TX3 2).2.1 (TX3 2).2.2.1 ∈ a_ws := a_in 291 (by decide +kernel) (by decide +kernel)
theorem fl_4_11 : Cond.fieldLink RX4 11 (TX4 0).1 (TX4 0).2.1 (TX4 0).2.2.1 ∈ a_ws := a_in 308 (by decide +kernel) (by decide +kernel)
theorem fl_4_16 : Cond.fieldLink RX4 16 (TX4 1).1 (TX4 1).2.1 (TX4 1).2.2.1 ∈ a_ws := a_in 309 (by decide +kernel) (by decide +kernel)
theorem fl_4_20 : Cond.fieldLink RX4 20 (TX4 2).1 (TX4 2).2.1 (TX4 2).2.2.1 ∈ a_ws := a_in 311 (by decide +kernel) (by decide +kernel)
theorem fl_5_9 : Cond.fieldLink RX5 9 (TX5 0).1 (TX5 0).2.1 (TX5 0).2.2.1 ∈ a_ws := a_in 146 (by decide +kernel) (by decide +kernel)
theorem fl_5_15 : Cond.fieldLink RX5 15 (TX5 1).1 (TX5 1).2.1 (TX5 1).2.2.1 ∈ a_ws := a_in 148 (by decide +kernel) (by decide +kernel)
theorem fl_5_18 : Cond.fieldLink RX5 18 (TX5 2).1 (TX5 2).2.1 (TX5 2).2.2.1 ∈ a_ws := a_in 154 (by decide +kernel) (by decide +kernel)
theorem fl_5_22 : Cond.fieldLink RX5 22 (TX5 3).1 (TX5 3).2.1 (TX5 3).2.2.1 ∈ a_ws := a_in 158 (by decide +kernel) (by decide +kernel)
theorem fl_5_25 : Cond.fieldLink RX5 25 (TX5 4).1 (TX5 4).2.1 (TX5 4).2.2.1 ∈ a_ws := a_in 160 (by decide +kernel) (by decide +kernel)
theorem fl_5_28 : Cond.fieldLink RX5 28 (TX5 5).1 (TX5 5).2.1 (TX5 5).2.2.1 ∈ a_ws := a_in 165 (by decide +kernel) (by decide +kernel)
theorem fl_5_31 : Cond.fieldLink RX5 31 (TX5 6).1 (TX5 6).2.1 (TX5 6).2.2.1 ∈ a_ws := a_in 171 (by decide +kernel) (by decide +kernel)
theorem fl_5_34 : Cond.fieldLink RX5 34 (TX5 7).1 (TX5 7).2.1 (TX5 7).2.2.1 ∈ a_ws := a_in 173 (by decide +kernel) (by decide +kernel)
theorem fl_5_37 : Cond.fieldLink RX5 37 (TX5 8).1 (TX5 8).2.1 (TX5 8).2.2.1 ∈ a_ws := a_in 176 (by decide +kernel) (by decide +kernel)
theorem fl_6_9 : Cond.fieldLink RX6 9 (TX6 0).1 (TX6 0).2.1 (TX6 0).2.2.1 ∈ a_ws := a_in 257 (by decide +kernel) (by decide +kernel)
theorem fl_6_15 : Cond.fieldLink RX6 15 (TX6 1).1 (TX6 1).2.1 (TX6 1).2.2.1 ∈ a_ws := a_in 259 (by decide +kernel) (by decide +kernel)
theorem fl_6_19 : Cond.fieldLink RX6 19 (TX6 2).1 (TX6 2).2.1 (TX6 2).2.2.1 ∈ a_ws := a_in 261 (by decide +kernel) (by decide +kernel)
theorem fl_6_22 : Cond.fieldLink RX6 22 (TX6 3).1 (TX6 3).2.1 (TX6 3).2.2.1 ∈ a_ws := a_in 263 (by decide +kernel) (by decide +kernel)
theorem fl_6_25 : Cond.fieldLink RX6 25 (TX6 4).1 (TX6 4).2.1 (TX6 4).2.2.1 ∈ a_ws := a_in 265 (by decide +kernel) (by decide +kernel)
theorem fl_6_28 : Cond.fieldLink RX6 28 (TX6 5).1 (TX6 5).2.1 (TX6 5).2.2.1 ∈ a_ws := a_in 266 (by decide +kernel) (by decide +kernel)
theorem fl_6_46 : Cond.fieldLink RX6 46 (TX8 3).1 (TX8 3).2.1 (TX8 3).2.2.1 ∈ a_ws := a_in 212 (by decide +kernel) (by decide +kernel)
theorem fl_6_51 : Cond.fieldLink RX6 51 (TX5 5).1 (TX5 5).2.1 (TX5 5).2.2.1 ∈ a_ws := a_in 169 (by decide +kernel) (by decide +kernel)
theorem fl_6_64 : Cond.fieldLink RX6 64 (TX8 2).1 (TX8 2).2.1 (TX8 2).2.2.1 ∈ a_ws := a_in 210 (by decide +kernel) (by decide +kernel)
theorem fl_6_76 : Cond.fieldLink RX6 76 (TX5 1).1 (TX5 1).2.1 (TX5 1).2.2.1 ∈ a_ws := a_in 153 (by decide +kernel) (by decide +kernel)
theorem fl_6_78 : Cond.fieldLink RX6 78 (TX8 5).1 (TX8 5).2.1 (TX8 5).2.2.1 ∈ a_ws := a_in 217 (by decide +kernel) (by decide +kernel)
theorem fl_6_81 : Cond.fieldLink RX6 81 (TX5 4).1 (TX5 4).2.1 (TX5 4).2.2.1 ∈ a_ws := a_in 164 (by decide +kernel) (by decide +kernel)
theorem fl_6_88 : Cond.fieldLink RX6 88 (TX5 2).1 (TX5 2).2.1 (TX5 2).2.2.1 ∈ a_ws := a_in 157 (by decide +kernel) (by decide +kernel)
theorem fl_7_9 : Cond.fieldLink RX7 9 (TX7 0).1 (TX7 0).2.1 (TX7 0).2.2.1 ∈ a_ws := a_in 131 (by decide +kernel) (by decide +kernel)
theorem fl_7_15 : Cond.fieldLink RX7 15 (TX7 1).1 (TX7 1).2.1 (TX7 1).2.2.1 ∈ a_ws := a_in 132 (by decide +kernel) (by decide +kernel)
theorem fl_8_9 : Cond.fieldLink RX8 9 (TX8 0).1 (TX8 0).2.1 (TX8 0).2.2.1 ∈ a_ws := a_in 206 (by decide +kernel) (by decide +kernel)
theorem fl_8_15 : Cond.fieldLink RX8 15 (TX8 1).1 (TX8 1).2.1 (TX8 1).2.2.1 ∈ a_ws := a_in 208 (by decide +kernel) (by decide +kernel)
theorem fl_8_18 : Cond.fieldLink RX8 18 (TX8 2).1 (TX8 2).2.1 (TX8 2).2.2.1 ∈ a_ws := a_in 209 (by decide +kernel) (by decide +kernel)
theorem fl_8_21 : Cond.fieldLink RX8 21 (TX8 3).1 (TX8 3).2.1 (TX8 3).2.2.1 ∈ a_ws := a_in 211 (by decide +kernel) (by decide +kernel)
theorem fl_8_24 : Cond.fieldLink RX8 24 (TX8 4).1 (TX8 4).2.1 (TX8 4).2.2.1 ∈ a_ws := a_in 214 (by decide +kernel) (by decide +kernel)
theorem fl_8_27 : Cond.fieldLink RX8 27 (TX8 5).1 (TX8 5).2.1 (TX8 5).2.2.1 ∈ a_ws := a_in 216 (by decide +kernel) (by decide +kernel)
theorem fl_8_30 : Cond.fieldLink RX8 30 (TX8 6).1 (TX8 6).2.1 (TX8 6).2.2.1 ∈ a_ws := a_in 219 (by decide +kernel) (by decide +kernel)
theorem fl_8_33 : Cond.fieldLink RX8 33 (TX8 7).1 (TX8 7).2.1 (TX8 7).2.2.1 ∈ a_ws := a_in 220 (by decide +kernel) (by decide +kernel)
theorem fl_8_36 : Cond.fieldLink RX8 36 (TX8 8).1 (TX8 8).2.1 (TX8 8).2.2.1 ∈ a_ws := a_in 221 (by decide +kernel) (by decide +kernel)
theorem fl_8_40 : Cond.fieldLink RX8 40 (TX8 9).1 (TX8 9).2.1 (TX8 9).2.2.1 ∈ a_ws := a_in 222 (by decide +kernel) (by decide +kernel)
theorem fl_8_43 : Cond.fieldLink RX8 43 (TX8 10).1 (TX8 10).2.1 (TX8 10).2.2.1 ∈ a_ws := a_in 225 (by decide +kernel) (by decide +kernel)
theorem fl_8_55 : Cond.fieldLink RX8 55 (TX5 1).1 (TX5 1).2.1 (TX5 1).2.2.1 ∈ a_ws := a_in 150 (by decide +kernel) (by decide +kernel)
theorem fl_8_60 : Cond.fieldLink RX8 60 (TX5 5).1 (TX5 5).2.1 (TX5 5).2.2.1 ∈ a_ws := a_in 166 (by decide +kernel) (by decide +kernel)
theorem fl_8_77 : Cond.fieldLink RX8 77 (TX5 8).1 (TX5 8).2.1 (TX5 8).2.2.1 ∈ a_ws := a_in 177 (by decide +kernel) (by decide +kernel)
theorem fl_10_9 : Cond.fieldLink RX10 9 (TX10 2).1 (TX10 2).2.1 (TX10 2).2.2.1 ∈ a_ws := a_in 890 (by decide +kernel) (by decide +kernel)
theorem fl_10_13 : Cond.fieldLink RX10 13 (TX10 3).1 (TX10 3).2.1 (TX10 3).2.2.1 ∈ a_ws := a_in 891 (by decide +kernel) (by decide +kernel)
theorem fl_10_16 : Cond.fieldLink RX10 16 (TX10 4).1 (TX10 4).2.1 (TX10 4).2.2.1 ∈ a_ws := a_in 892 (by decide +kernel) (by decide +kernel)
theorem fl_10_19 : Cond.fieldLink RX10 19 (TX10 5).1 (TX10 5).2.1 (TX10 5).2.2.1 ∈ a_ws := a_in 893 (by decide +kernel) (by decide +kernel)
theorem fl_10_22 : Cond.fieldLink RX10 22 (TX10 6).1 (TX10 6).2.1 (TX10 6).2.2.1 ∈ a_ws := a_in 894 (by decide +kernel) (by decide +kernel)
theorem fl_10_25 : Cond.fieldLink RX10 25 (TX10 7).1 (TX10 7).2.1 (TX10 7).2.2.1 ∈ a_ws := a_in 895 (by decide +kernel) (by decide +kernel)
theorem fl_10_28 : Cond.fieldLink RX10 28 (TX10 8).1 (TX10 8).2.1 (TX10 8).2.2.1 ∈ a_ws := a_in 896 (by decide +kernel) (by decide +kernel)
theorem fl_10_31 : Cond.fieldLink RX10 31 (TX10 14).1 (TX10 14).2.1 (TX10 14).2.2.1 ∈ a_ws := a_in 902 (by decide +kernel) (by decide +kernel)
theorem fl_10_34 : Cond.fieldLink RX10 34 (TX10 15).1 (TX10 15).2.1 (TX10 15).2.2.1 ∈ a_ws := a_in 903 (by decide +kernel) (by decide +kernel)
theorem fl_10_37 : Cond.fieldLink RX10 37 (TX10 16).1 (TX10 16).2.1 (TX10 16).2.2.1 ∈ a_ws := a_in 904 (by decide +kernel) (by decide +kernel)
theorem fl_10_40 : Cond.fieldLink RX10 40 (TX10 17).1 (TX10 17).2.1 (TX10 17).2.2.1 ∈ a_ws := a_in 905 (by decide +kernel) (by decide +kernel)
theorem fl_10_43 : Cond.fieldLink RX10 43 (TX10 20).1 (TX10 20).2.1 (TX10 20).2.2.1 ∈ a_ws := a_in 908 (by decide +kernel) (by decide +kernel)
theorem fl_10_46 : Cond.fieldLink RX10 46 (TX10 21).1 (TX10 21).2.1 (TX10 21).2.2.1 ∈ a_ws := a_in 909 (by decide +kernel) (by decide +kernel)
theorem fl_10_49 : Cond.fieldLink RX10 49 (TX10 22).1 (TX10 22).2.1 (TX10 22).2.2.1 ∈ a_ws := a_in 910 (by decide +kernel) (by decide +kernel)
theorem fl_10_52 : Cond.fieldLink RX10 52 (TX10 23).1 (TX10 23).2.1 (TX10 23).2.2.1 ∈ a_ws := a_in 911 (by decide +kernel) (by decide +kernel)
theorem fl_10_55 : Cond.fieldLink RX10 55 (TX10 24).1 (TX10 24).2.1 (TX10 24).2.2.1 ∈ a_ws := a_in 912 (by decide +kernel) (by decide +kernel)
theorem fl_10_58 : Cond.fieldLink RX10 58 (TX10 25).1 (TX10 25).2.1 (TX10 25).2.2.1 ∈ a_ws := a_in 913 (by decide +kernel) (by decide +kernel)
theorem fl_10_62 : Cond.fieldLink RX10 62 (TX10 27).1 (TX10 27).2.1 (TX10 27).2.2.1 ∈ a_ws := a_in 915 (by decide +kernel) (by decide +kernel)
theorem fl_10_65 : Cond.fieldLink RX10 65 (TX10 29).1 (TX10 29).2.1 (TX10 29).2.2.1 ∈ a_ws := a_in 917 (by decide +kernel) (by decide +kernel)
theorem fl_10_68 : Cond.fieldLink RX10 68 (TX10 31).1 (TX10 31).2.1 (TX10 31).2.2.1 ∈ a_ws := a_in 919 (by decide +kernel) (by decide +kernel)
theorem fl_10_71 : Cond.fieldLink RX10 71 (TX10 32).1 (TX10 32).2.1 (TX10 32).2.2.1 ∈ a_ws := a_in 920 (by decide +kernel) (by decide +kernel)
theorem fl_10_74 : Cond.fieldLink RX10 74 (TX10 34).1 (TX10 34).2.1 (TX10 34).2.2.1 ∈ a_ws := a_in 922 (by decide +kernel) (by decide +kernel)
theorem fl_10_78 : Cond.fieldLink RX10 78 (TX10 35).1 (TX10 35).2.1 (TX10 35).2.2.1 ∈ a_ws := a_in 923 (by decide +kernel) (by decide +kernel)
theorem fl_10_81 : Cond.fieldLink RX10 81 (TX10 39).1 (TX10 39).2.1 (TX10 39).2.2.1 ∈ a_ws := a_in 927 (by decide +kernel) (by decide +kernel)
theorem fl_10_84 : Cond.fieldLink RX10 84 (TX10 41).1 (TX10 41).2.1 (TX10 41).2.2.1 ∈ a_ws := a_in 929 (by decide +kernel) (by decide +kernel)
theorem fl_10_87 : Cond.fieldLink RX10 87 (TX10 42).1 (TX10 42).2.1 (TX10 42).2.2.1 ∈ a_ws := a_in 930 (by decide +kernel) (by decide +kernel)
theorem fl_10_90 : Cond.fieldLink RX10 90 (TX10 43).1 (TX10 43).2.1 (TX10 43).2.2.1 ∈ a_ws := a_in 931 (by decide +kernel) (by decide +kernel)
theorem fl_10_93 : Cond.fieldLink RX10 93 (TX10 44).1 (TX10 44).2.1 (TX10 44).2.2.1 ∈ a_ws := a_in 932 (by decide +kernel) (by decide +kernel)
theorem fl_10_96 : Cond.fieldLink RX10 96 (TX10 45).1 (TX10 45).2.1 (TX10 45).2.2.1 ∈ a_ws := a_in 933 (by decide +kernel) (by decide +kernel)
theorem fl_10_99 : Cond.fieldLink RX10 99 (TX10 47).1 (TX10 47).2.1 (TX10 47).2.2.1 ∈ a_ws := a_in 935 (by decide +kernel) (by decide +kernel)
theorem fl_10_102 : Cond.fieldLink RX10 102 (TX10 50).1 (TX10 50).2.1 (TX10 50).2.2.1 ∈ a_ws := a_in 938 (by decide +kernel) (by decide +kernel)
theorem fl_10_105 : Cond.fieldLink RX10 105 (TX10 1).1 (TX10 1).2.1 (TX10 1).2.2.1 ∈ a_ws := a_in 889 (by decide +kernel) (by decide +kernel)
theorem fl_10_112 : Cond.fieldLink RX10 112 (TX10 9).1 (TX10 9).2.1 (TX10 9).2.2.1 ∈ a_ws := a_in 897 (by decide +kernel) (by decide +kernel)
theorem fl_10_115 : Cond.fieldLink RX10 115 (TX10 10).1 (TX10 10).2.1 (TX10 10).2.2.1 ∈ a_ws := a_in 898 (by decide +kernel) (by decide +kernel)
theorem fl_10_118 : Cond.fieldLink RX10 118 (TX10 11).1 (TX10 11).2.1 (TX10 11).2.2.1 ∈ a_ws := a_in 899 (by decide +kernel) (by decide +kernel)
theorem fl_10_122 : Cond.fieldLink RX10 122 (TX10 13).1 (TX10 13).2.1 (TX10 13).2.2.1 ∈ a_ws := a_in 901 (by decide +kernel) (by decide +kernel)
theorem fl_10_137 : Cond.fieldLink RX10 137 (TX10 12).1 (TX10 12).2.1 (TX10 12).2.2.1 ∈ a_ws := a_in 900 (by decide +kernel) (by decide +kernel)
theorem fl_10_150 : Cond.fieldLink RX10 150 (TX10 0).1 (TX10 0).2.1 (TX10 0).2.2.1 ∈ a_ws := a_in 888 (by decide +kernel) (by decide +kernel)
theorem fl_10_159 : Cond.fieldLink RX10 159 (TX10 18).1 (TX10 18).2.1 (TX10 18).2.2.1 ∈ a_ws := a_in 906 (by decide +kernel) (by decide +kernel)
theorem fl_10_162 : Cond.fieldLink RX10 162 (TX10 19).1 (TX10 19).2.1 (TX10 19).2.2.1 ∈ a_ws := a_in 907 (by decide +kernel) (by decide +kernel)
theorem fl_10_195 : Cond.fieldLink RX10 195 (TX10 26).1 (TX10 26).2.1 (TX10 26).2.2.1 ∈ a_ws := a_in 914 (by decide +kernel) (by decide +kernel)
theorem fl_10_232 : Cond.fieldLink RX10 232 (TX10 28).1 (TX10 28).2.1 (TX10 28).2.2.1 ∈ a_ws := a_in 916 (by decide +kernel) (by decide +kernel)
theorem fl_10_241 : Cond.fieldLink RX10 241 (TX10 30).1 (TX10 30).2.1 (TX10 30).2.2.1 ∈ a_ws := a_in 918 (by decide +kernel) (by decide +kernel)
theorem fl_10_254 : Cond.fieldLink RX10 254 (TX10 33).1 (TX10 33).2.1 (TX10 33).2.2.1 ∈ a_ws := a_in 921 (by decide +kernel) (by decide +kernel)
theorem fl_10_278 : Cond.fieldLink RX10 278 (TX10 36).1 (TX10 36).2.1 (TX10 36).2.2.1 ∈ a_ws := a_in 924 (by decide +kernel) (by decide +kernel)
theorem fl_10_281 : Cond.fieldLink RX10 281 (TX10 37).1 (TX10 37).2.1 (TX10 37).2.2.1 ∈ a_ws := a_in 925 (by decide +kernel) (by decide +kernel)
theorem fl_10_287 : Cond.fieldLink RX10 287 (TX10 38).1 (TX10 38).2.1 (TX10 38).2.2.1 ∈ a_ws := a_in 926 (by decide +kernel) (by decide +kernel)
theorem fl_10_299 : Cond.fieldLink RX10 299 (TX10 40).1 (TX10 40).2.1 (TX10 40).2.2.1 ∈ a_ws := a_in 928 (by decide +kernel) (by decide +kernel)
theorem fl_10_329 : Cond.fieldLink RX10 329 (TX10 46).1 (TX10 46).2.1 (TX10 46).2.2.1 ∈ a_ws := a_in 934 (by decide +kernel) (by decide +kernel)
theorem fl_10_354 : Cond.fieldLink RX10 354 (TX10 48).1 (TX10 48).2.1 (TX10 48).2.2.1 ∈ a_ws := a_in 936 (by decide +kernel) (by decide +kernel)
theorem fl_10_357 : Cond.fieldLink RX10 357 (TX10 49).1 (TX10 49).2.1 (TX10 49).2.2.1 ∈ a_ws := a_in 937 (by decide +kernel) (by decide +kernel)
theorem fl_10_374 : Cond.fieldLink RX10 374 (TX10 53).1 (TX10 53).2.1 (TX10 53).2.2.1 ∈ a_ws := a_in 941 (by decide +kernel) (by decide +kernel)
theorem fl_10_377 : Cond.fieldLink RX10 377 (TX10 52).1 (TX10 52).2.1 (TX10 52).2.2.1 ∈ a_ws := a_in 940 (by decide +kernel) (by decide +kernel)
theorem fl_10_387 : Cond.fieldLink RX10 387 (TX10 51).1 (TX10 51).2.1 (TX10 51).2.2.1 ∈ a_ws := a_in 939 (by decide +kernel) (by decide +kernel)
theorem ml_9_101 : Cond.methodLink RX9 101 yX7_put ∈ a_ws := a_in 441 (by decide +kernel) (by decide +kernel)
theorem ml_9_105 : Cond.methodLink RX9 105 yX7_readInto ∈ a_ws := a_in 449 (by decide +kernel) (by decide +kernel)
theorem ml_9_109 : Cond.methodLink RX9 109 yX5_copyOf ∈ a_ws := a_in 492 (by decide +kernel) (by decide +kernel)
theorem ml_9_113 : Cond.methodLink RX9 113 yX5_orderByNumbers ∈ a_ws := a_in 503 (by decide +kernel) (by decide +kernel)
theorem ml_9_117 : Cond.methodLink RX9 117 yX9_startAnew ∈ a_ws := a_in 507 (by decide +kernel) (by decide +kernel)
theorem ml_9_123 : Cond.methodLink RX9 123 yX9_noTask ∈ a_ws := a_in 596 (by decide +kernel) (by decide +kernel)
theorem ml_9_142 : Cond.methodLink RX9 142 yX9_noMachine ∈ a_ws := a_in 604 (by decide +kernel) (by decide +kernel)
theorem ml_9_145 : Cond.methodLink RX9 145 yX9_noShop ∈ a_ws := a_in 607 (by decide +kernel) (by decide +kernel)
theorem ml_9_149 : Cond.methodLink RX9 149 yX5_tasksOn ∈ a_ws := a_in 611 (by decide +kernel) (by decide +kernel)
theorem ml_9_156 : Cond.methodLink RX9 156 yX9_changePlaces ∈ a_ws := a_in 619 (by decide +kernel) (by decide +kernel)
theorem ml_9_159 : Cond.methodLink RX9 159 yX9_changed ∈ a_ws := a_in 623 (by decide +kernel) (by decide +kernel)
theorem ml_9_162 : Cond.methodLink RX9 162 yX9_spanOrRing ∈ a_ws := a_in 631 (by decide +kernel) (by decide +kernel)
theorem ml_9_166 : Cond.methodLink RX9 166 yX9_refusedByState ∈ a_ws := a_in 639 (by decide +kernel) (by decide +kernel)
theorem ml_9_193 : Cond.methodLink RX9 193 yX6_first ∈ a_ws := a_in 659 (by decide +kernel) (by decide +kernel)
theorem ml_9_196 : Cond.methodLink RX9 196 yX6_second ∈ a_ws := a_in 663 (by decide +kernel) (by decide +kernel)
theorem ml_9_199 : Cond.methodLink RX9 199 yX9_pair ∈ a_ws := a_in 667 (by decide +kernel) (by decide +kernel)
theorem ml_9_203 : Cond.methodLink RX9 203 yX8_atLeast ∈ a_ws := a_in 674 (by decide +kernel) (by decide +kernel)
theorem ml_9_207 : Cond.methodLink RX9 207 yX9_spanBehind ∈ a_ws := a_in 682 (by decide +kernel) (by decide +kernel)
theorem ml_9_210 : Cond.methodLink RX9 210 yX9_keptSince ∈ a_ws := a_in 690 (by decide +kernel) (by decide +kernel)
theorem ml_9_213 : Cond.methodLink RX9 213 yX9_slotOf ∈ a_ws := a_in 686 (by decide +kernel) (by decide +kernel)
theorem ml_9_219 : Cond.methodLink RX9 219 yX9_forgetSteps ∈ a_ws := a_in 516 (by decide +kernel) (by decide +kernel)
theorem ml_9_222 : Cond.methodLink RX9 222 yX9_goOn ∈ a_ws := a_in 710 (by decide +kernel) (by decide +kernel)
theorem ml_9_231 : Cond.methodLink RX9 231 yX9_copyRow ∈ a_ws := a_in 718 (by decide +kernel) (by decide +kernel)
theorem ml_9_235 : Cond.methodLink RX9 235 yX9_would ∈ a_ws := a_in 744 (by decide +kernel) (by decide +kernel)
theorem ml_9_239 : Cond.methodLink RX9 239 yX1_lay ∈ a_ws := a_in 748 (by decide +kernel) (by decide +kernel)
theorem ml_9_244 : Cond.methodLink RX9 244 yX0_atBest ∈ a_ws := a_in 782 (by decide +kernel) (by decide +kernel)
theorem ml_9_248 : Cond.methodLink RX9 248 yX0_preempted ∈ a_ws := a_in 801 (by decide +kernel) (by decide +kernel)
theorem ml_9_251 : Cond.methodLink RX9 251 yX5_longestJob ∈ a_ws := a_in 817 (by decide +kernel) (by decide +kernel)
theorem ml_9_254 : Cond.methodLink RX9 254 Lib.Math.max.name ∈ a_ws := a_in 799 (by decide +kernel) (by decide +kernel)
theorem ml_9_259 : Cond.methodLink RX9 259 yX2_look ∈ a_ws := a_in 826 (by decide +kernel) (by decide +kernel)
theorem ml_9_267 : Cond.methodLink RX9 267 yX9_chartByte ∈ a_ws := a_in 850 (by decide +kernel) (by decide +kernel)
theorem ml_9_270 : Cond.methodLink RX9 270 yX4_goBack ∈ a_ws := a_in 858 (by decide +kernel) (by decide +kernel)
theorem ml_9_274 : Cond.methodLink RX9 274 yX9_settle ∈ a_ws := a_in 528 (by decide +kernel) (by decide +kernel)
theorem ml_9_280 : Cond.methodLink RX9 280 yX4_goAhead ∈ a_ws := a_in 866 (by decide +kernel) (by decide +kernel)
theorem ml_9_292 : Cond.methodLink RX9 292 arraycopyName ∈ a_ws := a_in 499 (by decide +kernel) (by decide +kernel)
theorem ml_9_298 : Cond.methodLink RX9 298 yX4_begin ∈ a_ws := a_in 511 (by decide +kernel) (by decide +kernel)
theorem ml_9_301 : Cond.methodLink RX9 301 yX0_forget ∈ a_ws := a_in 520 (by decide +kernel) (by decide +kernel)
theorem ml_9_304 : Cond.methodLink RX9 304 yX2_forget ∈ a_ws := a_in 524 (by decide +kernel) (by decide +kernel)
theorem ml_9_305 : Cond.methodLink RX9 305 yX4_note ∈ a_ws := a_in 627 (by decide +kernel) (by decide +kernel)
theorem ml_9_308 : Cond.methodLink RX9 308 yX8_lay ∈ a_ws := a_in 532 (by decide +kernel) (by decide +kernel)
theorem ml_9_311 : Cond.methodLink RX9 311 yX8_layTails ∈ a_ws := a_in 553 (by decide +kernel) (by decide +kernel)
theorem ml_9_314 : Cond.methodLink RX9 314 yX6_find ∈ a_ws := a_in 561 (by decide +kernel) (by decide +kernel)
theorem ml_9_318 : Cond.methodLink RX9 318 yX3_find ∈ a_ws := a_in 694 (by decide +kernel) (by decide +kernel)
theorem ml_9_320 : Cond.methodLink RX9 320 yX9_lookForLeast ∈ a_ws := a_in 714 (by decide +kernel) (by decide +kernel)
theorem ml_9_323 : Cond.methodLink RX9 323 yX9_chosen ∈ a_ws := a_in 719 (by decide +kernel) (by decide +kernel)
theorem ml_9_326 : Cond.methodLink RX9 326 yX3_keep ∈ a_ws := a_in 723 (by decide +kernel) (by decide +kernel)
theorem ml_0_21 : Cond.methodLink RX0 21 yX5_tasksOn ∈ a_ws := a_in 786 (by decide +kernel) (by decide +kernel)
theorem ml_0_27 : Cond.methodLink RX0 27 yX0_leastOfAllOrders ∈ a_ws := a_in 787 (by decide +kernel) (by decide +kernel)
theorem ml_0_37 : Cond.methodLink RX0 37 yX0_over ∈ a_ws := a_in 791 (by decide +kernel) (by decide +kernel)
theorem ml_0_44 : Cond.methodLink RX0 44 Lib.Math.min.name ∈ a_ws := a_in 800 (by decide +kernel) (by decide +kernel)
theorem ml_0_53 : Cond.methodLink RX0 53 Lib.Math.max.name ∈ a_ws := a_in 795 (by decide +kernel) (by decide +kernel)
theorem ml_0_62 : Cond.methodLink RX0 62 yX0_workedOn ∈ a_ws := a_in 805 (by decide +kernel) (by decide +kernel)
theorem ml_0_65 : Cond.methodLink RX0 65 yX0_nextHead ∈ a_ws := a_in 809 (by decide +kernel) (by decide +kernel)
theorem ml_1_32 : Cond.methodLink RX1 32 yX1_clear ∈ a_ws := a_in 752 (by decide +kernel) (by decide +kernel)
theorem ml_1_40 : Cond.methodLink RX1 40 yX1_choose ∈ a_ws := a_in 756 (by decide +kernel) (by decide +kernel)
theorem ml_1_44 : Cond.methodLink RX1 44 yX1_putLast ∈ a_ws := a_in 773 (by decide +kernel) (by decide +kernel)
theorem ml_1_48 : Cond.methodLink RX1 48 yX1_isNext ∈ a_ws := a_in 760 (by decide +kernel) (by decide +kernel)
theorem ml_1_52 : Cond.methodLink RX1 52 yX1_startOf ∈ a_ws := a_in 765 (by decide +kernel) (by decide +kernel)
theorem ml_1_55 : Cond.methodLink RX1 55 yX1_key ∈ a_ws := a_in 770 (by decide +kernel) (by decide +kernel)
theorem ml_1_59 : Cond.methodLink RX1 59 yX5_jobAhead ∈ a_ws := a_in 764 (by decide +kernel) (by decide +kernel)
theorem ml_1_69 : Cond.methodLink RX1 69 Lib.Math.max.name ∈ a_ws := a_in 769 (by decide +kernel) (by decide +kernel)
theorem ml_2_26 : Cond.methodLink RX2 26 yX2_waysOf ∈ a_ws := a_in 830 (by decide +kernel) (by decide +kernel)
theorem ml_2_30 : Cond.methodLink RX2 30 yX2_lookAtAll ∈ a_ws := a_in 834 (by decide +kernel) (by decide +kernel)
theorem ml_2_34 : Cond.methodLink RX2 34 yX5_tasksOn ∈ a_ws := a_in 833 (by decide +kernel) (by decide +kernel)
theorem ml_2_40 : Cond.methodLink RX2 40 yX5_orderByNumbers ∈ a_ws := a_in 838 (by decide +kernel) (by decide +kernel)
theorem ml_2_44 : Cond.methodLink RX2 44 yX8_lay ∈ a_ws := a_in 839 (by decide +kernel) (by decide +kernel)
theorem ml_2_56 : Cond.methodLink RX2 56 Lib.Math.min.name ∈ a_ws := a_in 840 (by decide +kernel) (by decide +kernel)
theorem ml_2_62 : Cond.methodLink RX2 62 yX2_nextOfAll ∈ a_ws := a_in 841 (by decide +kernel) (by decide +kernel)
theorem ml_3_22 : Cond.methodLink RX3 22 yX3_find ∈ a_ws := a_in 727 (by decide +kernel) (by decide +kernel)
theorem ml_3_26 : Cond.methodLink RX3 26 yX3_takeOff ∈ a_ws := a_in 728 (by decide +kernel) (by decide +kernel)
theorem ml_5_40 : Cond.methodLink RX5 40 yX5_jobAhead ∈ a_ws := a_in 484 (by decide +kernel) (by decide +kernel)
theorem ml_5_44 : Cond.methodLink RX5 44 yX5_jobNext ∈ a_ws := a_in 488 (by decide +kernel) (by decide +kernel)
theorem ml_5_51 : Cond.methodLink RX5 51 arraycopyName ∈ a_ws := a_in 502 (by decide +kernel) (by decide +kernel)
theorem ml_5_57 : Cond.methodLink RX5 57 Lib.Math.max.name ∈ a_ws := a_in 821 (by decide +kernel) (by decide +kernel)
theorem ml_6_31 : Cond.methodLink RX6 31 yX6_walk ∈ a_ws := a_in 565 (by decide +kernel) (by decide +kernel)
theorem ml_6_35 : Cond.methodLink RX6 35 yX6_cutBlocks ∈ a_ws := a_in 580 (by decide +kernel) (by decide +kernel)
theorem ml_6_39 : Cond.methodLink RX6 39 yX6_findMoves ∈ a_ws := a_in 584 (by decide +kernel) (by decide +kernel)
theorem ml_6_42 : Cond.methodLink RX6 42 yX6_beginning ∈ a_ws := a_in 569 (by decide +kernel) (by decide +kernel)
theorem ml_6_56 : Cond.methodLink RX6 56 yX5_jobNext ∈ a_ws := a_in 572 (by decide +kernel) (by decide +kernel)
theorem ml_6_60 : Cond.methodLink RX6 60 yX6_goesOn ∈ a_ws := a_in 573 (by decide +kernel) (by decide +kernel)
theorem ml_6_67 : Cond.methodLink RX6 67 Lib.Math.max.name ∈ a_ws := a_in 576 (by decide +kernel) (by decide +kernel)
theorem ml_6_73 : Cond.methodLink RX6 73 Lib.Math.min.name ∈ a_ws := a_in 577 (by decide +kernel) (by decide +kernel)
theorem ml_6_84 : Cond.methodLink RX6 84 yX6_addMove ∈ a_ws := a_in 588 (by decide +kernel) (by decide +kernel)
theorem ml_7_19 : Cond.methodLink RX7 19 yX5_clear ∈ a_ws := a_in 453 (by decide +kernel) (by decide +kernel)
theorem ml_7_24 : Cond.methodLink RX7 24 yX7_taskEnd ∈ a_ws := a_in 457 (by decide +kernel) (by decide +kernel)
theorem ml_7_28 : Cond.methodLink RX7 28 yX7_isTask ∈ a_ws := a_in 469 (by decide +kernel) (by decide +kernel)
theorem ml_7_32 : Cond.methodLink RX7 32 yX7_number ∈ a_ws := a_in 472 (by decide +kernel) (by decide +kernel)
theorem ml_7_36 : Cond.methodLink RX7 36 yX5_add ∈ a_ws := a_in 476 (by decide +kernel) (by decide +kernel)
theorem ml_7_40 : Cond.methodLink RX7 40 yX5_finish ∈ a_ws := a_in 480 (by decide +kernel) (by decide +kernel)
theorem ml_7_43 : Cond.methodLink RX7 43 yX7_letterAt ∈ a_ws := a_in 465 (by decide +kernel) (by decide +kernel)
theorem ml_7_46 : Cond.methodLink RX7 46 yX7_isFigure ∈ a_ws := a_in 461 (by decide +kernel) (by decide +kernel)
theorem ml_8_47 : Cond.methodLink RX8 47 yX8_link ∈ a_ws := a_in 536 (by decide +kernel) (by decide +kernel)
theorem ml_8_51 : Cond.methodLink RX8 51 yX8_queueFree ∈ a_ws := a_in 540 (by decide +kernel) (by decide +kernel)
theorem ml_8_63 : Cond.methodLink RX8 63 Lib.Math.max.name ∈ a_ws := a_in 545 (by decide +kernel) (by decide +kernel)
theorem ml_8_69 : Cond.methodLink RX8 69 yX5_jobNext ∈ a_ws := a_in 548 (by decide +kernel) (by decide +kernel)
theorem ml_8_73 : Cond.methodLink RX8 73 yX8_release ∈ a_ws := a_in 549 (by decide +kernel) (by decide +kernel)
theorem ml_8_80 : Cond.methodLink RX8 80 yX5_jobAhead ∈ a_ws := a_in 544 (by decide +kernel) (by decide +kernel)
theorem ml_8_83 : Cond.methodLink RX8 83 yX8_toCome ∈ a_ws := a_in 557 (by decide +kernel) (by decide +kernel)
theorem ml_8_87 : Cond.methodLink RX8 87 yX8_endOf ∈ a_ws := a_in 678 (by decide +kernel) (by decide +kernel)
theorem ml_10_108 : Cond.methodLink RX10 108 yX10_in ∈ a_ws := a_in 1055 (by decide +kernel) (by decide +kernel)
theorem ml_10_125 : Cond.methodLink RX10 125 yX10_isFigure ∈ a_ws := a_in 1074 (by decide +kernel) (by decide +kernel)
theorem ml_10_129 : Cond.methodLink RX10 129 yX10_must ∈ a_ws := a_in 1078 (by decide +kernel) (by decide +kernel)
theorem ml_10_133 : Cond.methodLink RX10 133 yX10_is ∈ a_ws := a_in 1082 (by decide +kernel) (by decide +kernel)
theorem ml_10_140 : Cond.methodLink RX10 140 yX10_readsTask ∈ a_ws := a_in 1070 (by decide +kernel) (by decide +kernel)
theorem ml_10_144 : Cond.methodLink RX10 144 yX10_readsJob ∈ a_ws := a_in 1066 (by decide +kernel) (by decide +kernel)
theorem ml_10_147 : Cond.methodLink RX10 147 yX10_readsAll ∈ a_ws := a_in 1062 (by decide +kernel) (by decide +kernel)
theorem ml_10_153 : Cond.methodLink RX10 153 yX10_puts ∈ a_ws := a_in 1086 (by decide +kernel) (by decide +kernel)
theorem ml_10_156 : Cond.methodLink RX10 156 yX10_begins ∈ a_ws := a_in 1090 (by decide +kernel) (by decide +kernel)
theorem ml_10_165 : Cond.methodLink RX10 165 yX10_lays ∈ a_ws := a_in 1094 (by decide +kernel) (by decide +kernel)
theorem ml_10_168 : Cond.methodLink RX10 168 yX10_fetches ∈ a_ws := a_in 1106 (by decide +kernel) (by decide +kernel)
theorem ml_10_171 : Cond.methodLink RX10 171 yX10_forgets ∈ a_ws := a_in 1098 (by decide +kernel) (by decide +kernel)
theorem ml_10_174 : Cond.methodLink RX10 174 yX10_isTask ∈ a_ws := a_in 1118 (by decide +kernel) (by decide +kernel)
theorem ml_10_177 : Cond.methodLink RX10 177 yX10_placeOf ∈ a_ws := a_in 1122 (by decide +kernel) (by decide +kernel)
theorem ml_10_181 : Cond.methodLink RX10 181 yX10_isMachine ∈ a_ws := a_in 1130 (by decide +kernel) (by decide +kernel)
theorem ml_10_184 : Cond.methodLink RX10 184 yX10_swaps ∈ a_ws := a_in 1137 (by decide +kernel) (by decide +kernel)
theorem ml_10_188 : Cond.methodLink RX10 188 yX10_changed ∈ a_ws := a_in 1141 (by decide +kernel) (by decide +kernel)
theorem ml_10_191 : Cond.methodLink RX10 191 yX10_reckons ∈ a_ws := a_in 1145 (by decide +kernel) (by decide +kernel)
theorem ml_10_198 : Cond.methodLink RX10 198 yX10_jobAhead ∈ a_ws := a_in 1161 (by decide +kernel) (by decide +kernel)
theorem ml_10_201 : Cond.methodLink RX10 201 yX10_isReady ∈ a_ws := a_in 1157 (by decide +kernel) (by decide +kernel)
theorem ml_10_204 : Cond.methodLink RX10 204 yX10_neighbours ∈ a_ws := a_in 1149 (by decide +kernel) (by decide +kernel)
theorem ml_10_207 : Cond.methodLink RX10 207 yX10_nextReady ∈ a_ws := a_in 1153 (by decide +kernel) (by decide +kernel)
theorem ml_10_211 : Cond.methodLink RX10 211 yX10_endOf ∈ a_ws := a_in 1165 (by decide +kernel) (by decide +kernel)
theorem ml_10_214 : Cond.methodLink RX10 214 Lib.Math.max.name ∈ a_ws := a_in 1169 (by decide +kernel) (by decide +kernel)
theorem ml_10_220 : Cond.methodLink RX10 220 yX10_jobBehind ∈ a_ws := a_in 1170 (by decide +kernel) (by decide +kernel)
theorem ml_10_223 : Cond.methodLink RX10 223 yX10_restOf ∈ a_ws := a_in 1174 (by decide +kernel) (by decide +kernel)
theorem ml_10_226 : Cond.methodLink RX10 226 yX10_isCritical ∈ a_ws := a_in 1186 (by decide +kernel) (by decide +kernel)
theorem ml_10_229 : Cond.methodLink RX10 229 yX10_comesBehind ∈ a_ws := a_in 1206 (by decide +kernel) (by decide +kernel)
theorem ml_10_235 : Cond.methodLink RX10 235 yX10_nextOnWay ∈ a_ws := a_in 1202 (by decide +kernel) (by decide +kernel)
theorem ml_10_238 : Cond.methodLink RX10 238 yX10_walks ∈ a_ws := a_in 1198 (by decide +kernel) (by decide +kernel)
theorem ml_10_244 : Cond.methodLink RX10 244 yX10_wrong ∈ a_ws := a_in 1194 (by decide +kernel) (by decide +kernel)
theorem ml_10_247 : Cond.methodLink RX10 247 yX10_toldAt ∈ a_ws := a_in 1210 (by decide +kernel) (by decide +kernel)
theorem ml_10_251 : Cond.methodLink RX10 251 yX10_parts ∈ a_ws := a_in 1217 (by decide +kernel) (by decide +kernel)
theorem ml_10_257 : Cond.methodLink RX10 257 yX10_leastBy ∈ a_ws := a_in 1233 (by decide +kernel) (by decide +kernel)
theorem ml_10_260 : Cond.methodLink RX10 260 yX10_comesMove ∈ a_ws := a_in 1229 (by decide +kernel) (by decide +kernel)
theorem ml_10_263 : Cond.methodLink RX10 263 Lib.Math.min.name ∈ a_ws := a_in 1249 (by decide +kernel) (by decide +kernel)
theorem ml_10_266 : Cond.methodLink RX10 266 yX10_swapsMove ∈ a_ws := a_in 1245 (by decide +kernel) (by decide +kernel)
theorem ml_10_269 : Cond.methodLink RX10 269 yX10_findsMoves ∈ a_ws := a_in 1225 (by decide +kernel) (by decide +kernel)
theorem ml_10_272 : Cond.methodLink RX10 272 yX10_spanBehind ∈ a_ws := a_in 1241 (by decide +kernel) (by decide +kernel)
theorem ml_10_275 : Cond.methodLink RX10 275 yX10_tabuAt ∈ a_ws := a_in 1250 (by decide +kernel) (by decide +kernel)
theorem ml_10_284 : Cond.methodLink RX10 284 yX10_takesOff ∈ a_ws := a_in 1286 (by decide +kernel) (by decide +kernel)
theorem ml_10_290 : Cond.methodLink RX10 290 yX10_isLongest ∈ a_ws := a_in 1278 (by decide +kernel) (by decide +kernel)
theorem ml_10_293 : Cond.methodLink RX10 293 yX10_notes ∈ a_ws := a_in 1270 (by decide +kernel) (by decide +kernel)
theorem ml_10_296 : Cond.methodLink RX10 296 yX10_chosen ∈ a_ws := a_in 1274 (by decide +kernel) (by decide +kernel)
theorem ml_10_302 : Cond.methodLink RX10 302 yX10_keepsMove ∈ a_ws := a_in 1282 (by decide +kernel) (by decide +kernel)
theorem ml_10_305 : Cond.methodLink RX10 305 yX10_steps ∈ a_ws := a_in 1266 (by decide +kernel) (by decide +kernel)
theorem ml_10_308 : Cond.methodLink RX10 308 yX10_leftOf ∈ a_ws := a_in 1326 (by decide +kernel) (by decide +kernel)
theorem ml_10_311 : Cond.methodLink RX10 311 yX10_mayStart ∈ a_ws := a_in 1318 (by decide +kernel) (by decide +kernel)
theorem ml_10_314 : Cond.methodLink RX10 314 yX10_worthOf ∈ a_ws := a_in 1322 (by decide +kernel) (by decide +kernel)
theorem ml_10_317 : Cond.methodLink RX10 317 yX10_firstOf ∈ a_ws := a_in 1306 (by decide +kernel) (by decide +kernel)
theorem ml_10_320 : Cond.methodLink RX10 320 yX10_isOpen ∈ a_ws := a_in 1310 (by decide +kernel) (by decide +kernel)
theorem ml_10_323 : Cond.methodLink RX10 323 yX10_isBetter ∈ a_ws := a_in 1314 (by decide +kernel) (by decide +kernel)
theorem ml_10_326 : Cond.methodLink RX10 326 yX10_dispatchedBy ∈ a_ws := a_in 1302 (by decide +kernel) (by decide +kernel)
theorem ml_10_332 : Cond.methodLink RX10 332 yX10_headOf ∈ a_ws := a_in 1350 (by decide +kernel) (by decide +kernel)
theorem ml_10_335 : Cond.methodLink RX10 335 yX10_tailOf ∈ a_ws := a_in 1354 (by decide +kernel) (by decide +kernel)
theorem ml_10_338 : Cond.methodLink RX10 338 yX10_bestOf ∈ a_ws := a_in 1346 (by decide +kernel) (by decide +kernel)
theorem ml_10_342 : Cond.methodLink RX10 342 yX10_nextAt ∈ a_ws := a_in 1362 (by decide +kernel) (by decide +kernel)
theorem ml_10_345 : Cond.methodLink RX10 345 yX10_takes ∈ a_ws := a_in 1342 (by decide +kernel) (by decide +kernel)
theorem ml_10_348 : Cond.methodLink RX10 348 yX10_alone ∈ a_ws := a_in 1338 (by decide +kernel) (by decide +kernel)
theorem ml_10_351 : Cond.methodLink RX10 351 yX10_preempted ∈ a_ws := a_in 1358 (by decide +kernel) (by decide +kernel)
theorem ml_10_360 : Cond.methodLink RX10 360 yX10_triesFrom ∈ a_ws := a_in 1379 (by decide +kernel) (by decide +kernel)
theorem ml_10_363 : Cond.methodLink RX10 363 yX10_changesOver ∈ a_ws := a_in 1383 (by decide +kernel) (by decide +kernel)
theorem ml_10_368 : Cond.methodLink RX10 368 yX10_waysAll ∈ a_ws := a_in 1374 (by decide +kernel) (by decide +kernel)
theorem ml_10_371 : Cond.methodLink RX10 371 yX10_byteAt ∈ a_ws := a_in 1391 (by decide +kernel) (by decide +kernel)
theorem ml_10_380 : Cond.methodLink RX10 380 yX10_passes ∈ a_ws := a_in 1403 (by decide +kernel) (by decide +kernel)
theorem ml_10_383 : Cond.methodLink RX10 383 yX10_passesRow ∈ a_ws := a_in 1407 (by decide +kernel) (by decide +kernel)
theorem ml_10_390 : Cond.methodLink RX10 390 yX10_passesAll ∈ a_ws := a_in 1399 (by decide +kernel) (by decide +kernel)
/-- links to a nest mate's private methods -/
def a_nest : List (String × Nat × MethodName × String) := [(RX0, 40, yX9_nextOrder, "ShopFloor"), (RX2, 69, yX9_nextOrder, "ShopFloor"), (RX4, 23, yX9_copyRow, "ShopFloor"), (RX5, 47, yX9_copyRow, "ShopFloor")]
theorem nl_0_40 : (RX0, 40, yX9_nextOrder, "ShopFloor") ∈ a_nest := List.mem_of_getElem? (i := 0) rfl
theorem nl_2_69 : (RX2, 69, yX9_nextOrder, "ShopFloor") ∈ a_nest := List.mem_of_getElem? (i := 1) rfl
theorem nl_4_23 : (RX4, 23, yX9_copyRow, "ShopFloor") ∈ a_nest := List.mem_of_getElem? (i := 2) rfl
theorem nl_5_47 : (RX5, 47, yX9_copyRow, "ShopFloor") ∈ a_nest := List.mem_of_getElem? (i := 3) rfl
theorem a_nest_in : ∀ q ∈ a_nest, Cond.methodLinkNest q.1 q.2.1 q.2.2.1 q.2.2.2 ∈ lw_tbl := List.forall_mem_cons.mpr ⟨List.mem_of_getElem? (i := 796) (by decide +kernel), List.forall_mem_cons.mpr ⟨List.mem_of_getElem? (i := 845) (by decide +kernel), List.forall_mem_cons.mpr ⟨List.mem_of_getElem? (i := 515) (by decide +kernel), List.forall_mem_cons.mpr ⟨List.mem_of_getElem? (i := 496) (by decide +kernel), fun _ h => absurd h List.not_mem_nil⟩⟩⟩⟩
theorem uw_0 : ∀ w ∈ u_ws RX0 TX0 3, w ∈ a_ws := fun w h => List.mem_filter.mpr ⟨(goodIn_r (big := lw_tbl) _ [357, 359, 361] (by decide +kernel) (by decide +kernel) w h).1, List.all_eq_true.mp (by decide +kernel : (u_ws RX0 TX0 3).all goodWord = true) w h⟩
theorem uw_1 : ∀ w ∈ u_ws RX1 TX1 6, w ∈ a_ws := fun w h => List.mem_filter.mpr ⟨(goodIn_r (big := lw_tbl) _ [334, 336, 338, 340, 342, 344] (by decide +kernel) (by decide +kernel) w h).1, List.all_eq_true.mp (by decide +kernel : (u_ws RX1 TX1 6).all goodWord = true) w h⟩
theorem uw_2 : ∀ w ∈ u_ws RX2 TX2 4, w ∈ a_ws := fun w h => List.mem_filter.mpr ⟨(goodIn_r (big := lw_tbl) _ [376, 378, 380, 382] (by decide +kernel) (by decide +kernel) w h).1, List.all_eq_true.mp (by decide +kernel : (u_ws RX2 TX2 4).all goodWord = true) w h⟩
theorem uw_3 : ∀ w ∈ u_ws RX3 TX3 3, w ∈ a_ws := fun w h => List.mem_filter.mpr ⟨(goodIn_r (big := lw_tbl) _ [293, 295, 297] (by decide +kernel) (by decide +kernel) w h).1, List.all_eq_true.mp (by decide +kernel : (u_ws RX3 TX3 3).all goodWord = true) w h⟩
theorem uw_4 : ∀ w ∈ u_ws RX4 TX4 3, w ∈ a_ws := fun w h => List.mem_filter.mpr ⟨(goodIn_r (big := lw_tbl) _ [313, 315, 317] (by decide +kernel) (by decide +kernel) w h).1, List.all_eq_true.mp (by decide +kernel : (u_ws RX4 TX4 3).all goodWord = true) w h⟩
theorem uw_5 : ∀ w ∈ u_ws RX5 TX5 9, w ∈ a_ws := fun w h => List.mem_filter.mpr ⟨(goodIn_r (big := lw_tbl) _ [181, 183, 185, 187, 189, 191, 193, 195, 197] (by decide +kernel) (by decide +kernel) w h).1, List.all_eq_true.mp (by decide +kernel : (u_ws RX5 TX5 9).all goodWord = true) w h⟩
theorem uw_6 : ∀ w ∈ u_ws RX6 TX6 6, w ∈ a_ws := fun w h => List.mem_filter.mpr ⟨(goodIn_r (big := lw_tbl) _ [268, 270, 272, 274, 276, 278] (by decide +kernel) (by decide +kernel) w h).1, List.all_eq_true.mp (by decide +kernel : (u_ws RX6 TX6 6).all goodWord = true) w h⟩
theorem uw_7 : ∀ w ∈ u_ws RX7 TX7 2, w ∈ a_ws := fun w h => List.mem_filter.mpr ⟨(goodIn_r (big := lw_tbl) _ [134, 136] (by decide +kernel) (by decide +kernel) w h).1, List.all_eq_true.mp (by decide +kernel : (u_ws RX7 TX7 2).all goodWord = true) w h⟩
theorem uw_8 : ∀ w ∈ u_ws RX8 TX8 11, w ∈ a_ws := fun w h => List.mem_filter.mpr ⟨(goodIn_r (big := lw_tbl) _ [228, 230, 232, 234, 236, 238, 240, 242, 244, 246, 248] (by decide +kernel) (by decide +kernel) w h).1, List.all_eq_true.mp (by decide +kernel : (u_ws RX8 TX8 11).all goodWord = true) w h⟩
theorem uw_9 : ∀ w ∈ u_ws RX9 TX9 17, w ∈ a_ws := fun w h => List.mem_filter.mpr ⟨(goodIn_r (big := lw_tbl) _ [402, 404, 406, 408, 410, 412, 414, 416, 418, 420, 422, 424, 426, 428, 430, 432, 434] (by decide +kernel) (by decide +kernel) w h).1, List.all_eq_true.mp (by decide +kernel : (u_ws RX9 TX9 17).all goodWord = true) w h⟩
theorem uw_10 : ∀ w ∈ u_ws RX10 TX10 54, w ∈ a_ws := fun w h => List.mem_filter.mpr ⟨(goodIn_r (big := lw_tbl) _ [942, 944, 946, 948, 950, 952, 954, 956, 958, 960, 962, 964, 966, 968, 970, 972, 974, 976, 978, 980, 982, 984, 986, 988, 990, 992, 994, 996, 998, 1000, 1002, 1004, 1006, 1008, 1010, 1012, 1014, 1016, 1018, 1020, 1022, 1024, 1026, 1028, 1030, 1032, 1034, 1036, 1038, 1040, 1042, 1044, 1046, 1048] (by decide +kernel) (by decide +kernel) w h).1, List.all_eq_true.mp (by decide +kernel : (u_ws RX10 TX10 54).all goodWord = true) w h⟩
