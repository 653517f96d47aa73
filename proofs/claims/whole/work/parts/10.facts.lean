theorem ac_0 : a_cls 0 RX0 TX0 3 tyX0 := ⟨rfl, uw_0, tyX0_ok, nmX0⟩
theorem ac_1 : a_cls 1 RX1 TX1 6 tyX1 := ⟨rfl, uw_1, tyX1_ok, nmX1⟩
theorem ac_2 : a_cls 2 RX2 TX2 4 tyX2 := ⟨rfl, uw_2, tyX2_ok, nmX2⟩
theorem ac_3 : a_cls 3 RX3 TX3 3 tyX3 := ⟨rfl, uw_3, tyX3_ok, nmX3⟩
theorem ac_4 : a_cls 4 RX4 TX4 3 tyX4 := ⟨rfl, uw_4, tyX4_ok, nmX4⟩
theorem ac_5 : a_cls 5 RX5 TX5 9 tyX5 := ⟨rfl, uw_5, tyX5_ok, nmX5⟩
theorem ac_6 : a_cls 6 RX6 TX6 6 tyX6 := ⟨rfl, uw_6, tyX6_ok, nmX6⟩
theorem ac_7 : a_cls 7 RX7 TX7 2 tyX7 := ⟨rfl, uw_7, tyX7_ok, nmX7⟩
theorem ac_8 : a_cls 8 RX8 TX8 11 tyX8 := ⟨rfl, uw_8, tyX8_ok, nmX8⟩
theorem ac_9 : a_cls 9 RX9 TX9 17 tyX9 := ⟨rfl, uw_9, tyX9_ok, nmX9⟩
theorem ac_10 : a_cls 10 RX10 TX10 54 tyX10 := ⟨rfl, uw_10, tyX10_ok, nmX10⟩
theorem sh_0 : a_T[0]? = some (.inr (9, [some 1, some 3, some 11, some 19, some 20, some 29, some 38, some 42, some 44, some 63, some 69, some 73, some 75, some 83, some 84, none, none])) := rfl
theorem ob_0 : a_obj 0 RX9 := ⟨9, _, _, sh_0, rfl, rfl⟩
theorem sh_1 : a_T[1]? = some (.inr (7, [some 2, none])) := rfl
theorem ob_1 : a_obj 1 RX7 := ⟨7, _, _, sh_1, rfl, rfl⟩
theorem sh_2 : a_T[2]? = some (.inl (0, 140, 0)) := rfl
theorem sh_3 : a_T[3]? = some (.inr (5, [none, none, some 4, some 5, some 6, some 7, some 8, some 9, some 10])) := rfl
theorem ob_3 : a_obj 3 RX5 := ⟨5, _, _, sh_3, rfl, rfl⟩
theorem sh_4 : a_T[4]? = some (.inl (0, 24, 0)) := rfl
theorem sh_5 : a_T[5]? = some (.inl (0, 24, 0)) := rfl
theorem sh_6 : a_T[6]? = some (.inl (0, 24, 0)) := rfl
theorem sh_7 : a_T[7]? = some (.inl (0, 24, 0)) := rfl
theorem sh_8 : a_T[8]? = some (.inl (0, 24, 0)) := rfl
theorem sh_9 : a_T[9]? = some (.inl (0, 24, 0)) := rfl
theorem sh_10 : a_T[10]? = some (.inl (0, 6, 0)) := rfl
theorem sh_11 : a_T[11]? = some (.inr (5, [none, none, some 12, some 13, some 14, some 15, some 16, some 17, some 18])) := rfl
theorem ob_11 : a_obj 11 RX5 := ⟨5, _, _, sh_11, rfl, rfl⟩
theorem sh_12 : a_T[12]? = some (.inl (0, 24, 0)) := rfl
theorem sh_13 : a_T[13]? = some (.inl (0, 24, 0)) := rfl
theorem sh_14 : a_T[14]? = some (.inl (0, 24, 0)) := rfl
theorem sh_15 : a_T[15]? = some (.inl (0, 24, 0)) := rfl
theorem sh_16 : a_T[16]? = some (.inl (0, 24, 0)) := rfl
theorem sh_17 : a_T[17]? = some (.inl (0, 24, 0)) := rfl
theorem sh_18 : a_T[18]? = some (.inl (0, 6, 0)) := rfl
theorem sh_19 : a_T[19]? = some (.inl (0, 24, 0)) := rfl
theorem sh_20 : a_T[20]? = some (.inr (8, [some 21, some 22, some 23, some 24, some 25, some 26, some 27, some 28, none, none, none])) := rfl
theorem ob_20 : a_obj 20 RX8 := ⟨8, _, _, sh_20, rfl, rfl⟩
theorem sh_21 : a_T[21]? = some (.inl (0, 24, 0)) := rfl
theorem sh_22 : a_T[22]? = some (.inl (0, 24, 0)) := rfl
theorem sh_23 : a_T[23]? = some (.inl (0, 24, 0)) := rfl
theorem sh_24 : a_T[24]? = some (.inl (0, 24, 0)) := rfl
theorem sh_25 : a_T[25]? = some (.inl (0, 24, 0)) := rfl
theorem sh_26 : a_T[26]? = some (.inl (0, 24, 0)) := rfl
theorem sh_27 : a_T[27]? = some (.inl (0, 24, 0)) := rfl
theorem sh_28 : a_T[28]? = some (.inl (0, 24, 0)) := rfl
theorem sh_29 : a_T[29]? = some (.inr (8, [some 30, some 31, some 32, some 33, some 34, some 35, some 36, some 37, none, none, none])) := rfl
theorem ob_29 : a_obj 29 RX8 := ⟨8, _, _, sh_29, rfl, rfl⟩
theorem sh_30 : a_T[30]? = some (.inl (0, 24, 0)) := rfl
theorem sh_31 : a_T[31]? = some (.inl (0, 24, 0)) := rfl
theorem sh_32 : a_T[32]? = some (.inl (0, 24, 0)) := rfl
theorem sh_33 : a_T[33]? = some (.inl (0, 24, 0)) := rfl
theorem sh_34 : a_T[34]? = some (.inl (0, 24, 0)) := rfl
theorem sh_35 : a_T[35]? = some (.inl (0, 24, 0)) := rfl
theorem sh_36 : a_T[36]? = some (.inl (0, 24, 0)) := rfl
theorem sh_37 : a_T[37]? = some (.inl (0, 24, 0)) := rfl
theorem sh_38 : a_T[38]? = some (.inr (6, [some 39, none, some 40, none, some 41, none])) := rfl
theorem ob_38 : a_obj 38 RX6 := ⟨6, _, _, sh_38, rfl, rfl⟩
theorem sh_39 : a_T[39]? = some (.inl (0, 24, 0)) := rfl
theorem sh_40 : a_T[40]? = some (.inl (0, 25, 0)) := rfl
theorem sh_41 : a_T[41]? = some (.inl (0, 24, 0)) := rfl
theorem sh_42 : a_T[42]? = some (.inr (3, [some 43, none, none])) := rfl
theorem ob_42 : a_obj 42 RX3 := ⟨3, _, _, sh_42, rfl, rfl⟩
theorem sh_43 : a_T[43]? = some (.inl (0, 9, 0)) := rfl
theorem sh_44 : a_T[44]? = some (.inr (4, [some 45, none, none])) := rfl
theorem ob_44 : a_obj 44 RX4 := ⟨4, _, _, sh_44, rfl, rfl⟩
theorem sh_45 : a_T[45]? = some (.inl (2, 17, 46)) := rfl
theorem sh_46 : a_T[46]? = some (.inl (0, 24, 0)) := rfl
theorem sh_47 : a_T[47]? = some (.inl (0, 24, 0)) := rfl
theorem sh_48 : a_T[48]? = some (.inl (0, 24, 0)) := rfl
theorem sh_49 : a_T[49]? = some (.inl (0, 24, 0)) := rfl
theorem sh_50 : a_T[50]? = some (.inl (0, 24, 0)) := rfl
theorem sh_51 : a_T[51]? = some (.inl (0, 24, 0)) := rfl
theorem sh_52 : a_T[52]? = some (.inl (0, 24, 0)) := rfl
theorem sh_53 : a_T[53]? = some (.inl (0, 24, 0)) := rfl
theorem sh_54 : a_T[54]? = some (.inl (0, 24, 0)) := rfl
theorem sh_55 : a_T[55]? = some (.inl (0, 24, 0)) := rfl
theorem sh_56 : a_T[56]? = some (.inl (0, 24, 0)) := rfl
theorem sh_57 : a_T[57]? = some (.inl (0, 24, 0)) := rfl
theorem sh_58 : a_T[58]? = some (.inl (0, 24, 0)) := rfl
theorem sh_59 : a_T[59]? = some (.inl (0, 24, 0)) := rfl
theorem sh_60 : a_T[60]? = some (.inl (0, 24, 0)) := rfl
theorem sh_61 : a_T[61]? = some (.inl (0, 24, 0)) := rfl
theorem sh_62 : a_T[62]? = some (.inl (0, 24, 0)) := rfl
theorem sh_63 : a_T[63]? = some (.inr (1, [some 64, some 65, some 66, some 67, some 68, none])) := rfl
theorem ob_63 : a_obj 63 RX1 := ⟨1, _, _, sh_63, rfl, rfl⟩
theorem sh_64 : a_T[64]? = some (.inl (0, 24, 0)) := rfl
theorem sh_65 : a_T[65]? = some (.inl (0, 5, 0)) := rfl
theorem sh_66 : a_T[66]? = some (.inl (0, 5, 0)) := rfl
theorem sh_67 : a_T[67]? = some (.inl (0, 6, 0)) := rfl
theorem sh_68 : a_T[68]? = some (.inl (1, 24, 0)) := rfl
theorem sh_69 : a_T[69]? = some (.inr (0, [some 70, some 71, some 72])) := rfl
theorem ob_69 : a_obj 69 RX0 := ⟨0, _, _, sh_69, rfl, rfl⟩
theorem sh_70 : a_T[70]? = some (.inl (0, 6, 0)) := rfl
theorem sh_71 : a_T[71]? = some (.inl (0, 24, 0)) := rfl
theorem sh_72 : a_T[72]? = some (.inl (0, 5, 0)) := rfl
theorem sh_73 : a_T[73]? = some (.inr (2, [some 74, none, none, none])) := rfl
theorem ob_73 : a_obj 73 RX2 := ⟨2, _, _, sh_73, rfl, rfl⟩
theorem sh_74 : a_T[74]? = some (.inl (0, 24, 0)) := rfl
theorem sh_75 : a_T[75]? = some (.inr (5, [none, none, some 76, some 77, some 78, some 79, some 80, some 81, some 82])) := rfl
theorem ob_75 : a_obj 75 RX5 := ⟨5, _, _, sh_75, rfl, rfl⟩
theorem sh_76 : a_T[76]? = some (.inl (0, 24, 0)) := rfl
theorem sh_77 : a_T[77]? = some (.inl (0, 24, 0)) := rfl
theorem sh_78 : a_T[78]? = some (.inl (0, 24, 0)) := rfl
theorem sh_79 : a_T[79]? = some (.inl (0, 24, 0)) := rfl
theorem sh_80 : a_T[80]? = some (.inl (0, 24, 0)) := rfl
theorem sh_81 : a_T[81]? = some (.inl (0, 24, 0)) := rfl
theorem sh_82 : a_T[82]? = some (.inl (0, 6, 0)) := rfl
theorem sh_83 : a_T[83]? = some (.inl (0, 24, 0)) := rfl
theorem sh_84 : a_T[84]? = some (.inl (0, 24, 0)) := rfl
theorem sh_85 : a_T[85]? = some (.inr (10, [none, none, some 86, some 87, some 88, some 89, some 90, some 91, some 92, none, none, none, none, none, some 93, some 94, some 95, some 96, none, none, some 97, some 98, some 99, some 100, some 101, some 102, none, some 103, none, some 104, none, some 105, some 106, none, none, some 107, none, none, none, some 108, none, some 109, some 110, some 111, some 112, some 113, none, some 114, none, none, some 115, none, none, none])) := rfl
theorem ob_85 : a_obj 85 RX10 := ⟨10, _, _, sh_85, rfl, rfl⟩
theorem sh_86 : a_T[86]? = some (.inl (0, 24, 0)) := rfl
theorem sh_87 : a_T[87]? = some (.inl (0, 24, 0)) := rfl
theorem sh_88 : a_T[88]? = some (.inl (0, 24, 0)) := rfl
theorem sh_89 : a_T[89]? = some (.inl (0, 24, 0)) := rfl
theorem sh_90 : a_T[90]? = some (.inl (0, 120, 0)) := rfl
theorem sh_91 : a_T[91]? = some (.inl (0, 5, 0)) := rfl
theorem sh_92 : a_T[92]? = some (.inl (0, 140, 0)) := rfl
theorem sh_93 : a_T[93]? = some (.inl (0, 24, 0)) := rfl
theorem sh_94 : a_T[94]? = some (.inl (0, 24, 0)) := rfl
theorem sh_95 : a_T[95]? = some (.inl (0, 24, 0)) := rfl
theorem sh_96 : a_T[96]? = some (.inl (0, 2040, 0)) := rfl
theorem sh_97 : a_T[97]? = some (.inl (0, 24, 0)) := rfl
theorem sh_98 : a_T[98]? = some (.inl (0, 24, 0)) := rfl
theorem sh_99 : a_T[99]? = some (.inl (0, 24, 0)) := rfl
theorem sh_100 : a_T[100]? = some (.inl (0, 24, 0)) := rfl
theorem sh_101 : a_T[101]? = some (.inl (0, 24, 0)) := rfl
theorem sh_102 : a_T[102]? = some (.inl (1, 24, 0)) := rfl
theorem sh_103 : a_T[103]? = some (.inl (0, 24, 0)) := rfl
theorem sh_104 : a_T[104]? = some (.inl (0, 25, 0)) := rfl
theorem sh_105 : a_T[105]? = some (.inl (0, 48, 0)) := rfl
theorem sh_106 : a_T[106]? = some (.inl (0, 48, 0)) := rfl
theorem sh_107 : a_T[107]? = some (.inl (0, 10, 0)) := rfl
theorem sh_108 : a_T[108]? = some (.inl (0, 120, 0)) := rfl
theorem sh_109 : a_T[109]? = some (.inl (0, 48, 0)) := rfl
theorem sh_110 : a_T[110]? = some (.inl (0, 6, 0)) := rfl
theorem sh_111 : a_T[111]? = some (.inl (0, 6, 0)) := rfl
theorem sh_112 : a_T[112]? = some (.inl (0, 5, 0)) := rfl
theorem sh_113 : a_T[113]? = some (.inl (0, 24, 0)) := rfl
theorem sh_114 : a_T[114]? = some (.inl (0, 24, 0)) := rfl
theorem sh_115 : a_T[115]? = some (.inl (0, 223, 0)) := rfl
theorem npX0_atBest : a_np mX0_atBest 2 := by unfold a_np; decide +kernel
theorem npX0_forget : a_np mX0_forget 0 := by unfold a_np; decide +kernel
theorem npX0_init : a_np mX0_init 0 := by unfold a_np; decide +kernel
theorem npX0_leastOfAllOrders : a_np mX0_leastOfAllOrders 2 := by unfold a_np; decide +kernel
theorem npX0_nextHead : a_np mX0_nextHead 2 := by unfold a_np; decide +kernel
theorem npX0_over : a_np mX0_over 2 := by unfold a_np; decide +kernel
theorem npX0_preempted : a_np mX0_preempted 2 := by unfold a_np; decide +kernel
theorem npX0_workedOn : a_np mX0_workedOn 2 := by unfold a_np; decide +kernel
theorem npX10_all : a_np mX10_all 1 := by unfold a_np; decide +kernel
theorem npX10_alone : a_np mX10_alone 1 := by unfold a_np; decide +kernel
theorem npX10_back : a_np mX10_back 0 := by unfold a_np; decide +kernel
theorem npX10_begins : a_np mX10_begins 0 := by unfold a_np; decide +kernel
theorem npX10_best : a_np mX10_best 1 := by unfold a_np; decide +kernel
theorem npX10_bestOf : a_np mX10_bestOf 3 := by unfold a_np; decide +kernel
theorem npX10_block : a_np mX10_block 1 := by unfold a_np; decide +kernel
theorem npX10_bound : a_np mX10_bound 0 := by unfold a_np; decide +kernel
theorem npX10_brings : a_np mX10_brings 2 := by unfold a_np; decide +kernel
theorem npX10_byteAt : a_np mX10_byteAt 2 := by unfold a_np; decide +kernel
theorem npX10_changed : a_np mX10_changed 0 := by unfold a_np; decide +kernel
theorem npX10_changesOver : a_np mX10_changesOver 2 := by unfold a_np; decide +kernel
theorem npX10_chart : a_np mX10_chart 1 := by unfold a_np; decide +kernel
theorem npX10_chosen : a_np mX10_chosen 0 := by unfold a_np; decide +kernel
theorem npX10_comesBehind : a_np mX10_comesBehind 2 := by unfold a_np; decide +kernel
theorem npX10_comesMove : a_np mX10_comesMove 1 := by unfold a_np; decide +kernel
theorem npX10_count : a_np mX10_count 1 := by unfold a_np; decide +kernel
theorem npX10_dispatch : a_np mX10_dispatch 1 := by unfold a_np; decide +kernel
theorem npX10_dispatchedBy : a_np mX10_dispatchedBy 1 := by unfold a_np; decide +kernel
theorem npX10_does : a_np mX10_does 1 := by unfold a_np; decide +kernel
theorem npX10_endOf : a_np mX10_endOf 1 := by unfold a_np; decide +kernel
theorem npX10_feed : a_np mX10_feed 1 := by unfold a_np; decide +kernel
theorem npX10_fetches : a_np mX10_fetches 0 := by unfold a_np; decide +kernel
theorem npX10_findsMoves : a_np mX10_findsMoves 0 := by unfold a_np; decide +kernel
theorem npX10_firstOf : a_np mX10_firstOf 1 := by unfold a_np; decide +kernel
theorem npX10_forgets : a_np mX10_forgets 0 := by unfold a_np; decide +kernel
theorem npX10_headOf : a_np mX10_headOf 1 := by unfold a_np; decide +kernel
theorem npX10_image : a_np mX10_image 0 := by unfold a_np; decide +kernel
theorem npX10_in : a_np mX10_in 3 := by unfold a_np; decide +kernel
theorem npX10_init : a_np mX10_init 0 := by unfold a_np; decide +kernel
theorem npX10_is : a_np mX10_is 1 := by unfold a_np; decide +kernel
theorem npX10_isBetter : a_np mX10_isBetter 3 := by unfold a_np; decide +kernel
theorem npX10_isCritical : a_np mX10_isCritical 1 := by unfold a_np; decide +kernel
theorem npX10_isFigure : a_np mX10_isFigure 2 := by unfold a_np; decide +kernel
theorem npX10_isLongest : a_np mX10_isLongest 1 := by unfold a_np; decide +kernel
theorem npX10_isMachine : a_np mX10_isMachine 1 := by unfold a_np; decide +kernel
theorem npX10_isOpen : a_np mX10_isOpen 1 := by unfold a_np; decide +kernel
theorem npX10_isReady : a_np mX10_isReady 1 := by unfold a_np; decide +kernel
theorem npX10_isTask : a_np mX10_isTask 1 := by unfold a_np; decide +kernel
theorem npX10_jobAhead : a_np mX10_jobAhead 1 := by unfold a_np; decide +kernel
theorem npX10_jobBehind : a_np mX10_jobBehind 1 := by unfold a_np; decide +kernel
theorem npX10_keepsMove : a_np mX10_keepsMove 1 := by unfold a_np; decide +kernel
theorem npX10_kept : a_np mX10_kept 1 := by unfold a_np; decide +kernel
theorem npX10_lays : a_np mX10_lays 0 := by unfold a_np; decide +kernel
theorem npX10_leastBy : a_np mX10_leastBy 2 := by unfold a_np; decide +kernel
theorem npX10_leftOf : a_np mX10_leftOf 1 := by unfold a_np; decide +kernel
theorem npX10_machine : a_np mX10_machine 2 := by unfold a_np; decide +kernel
theorem npX10_mayStart : a_np mX10_mayStart 1 := by unfold a_np; decide +kernel
theorem npX10_move : a_np mX10_move 1 := by unfold a_np; decide +kernel
theorem npX10_must : a_np mX10_must 1 := by unfold a_np; decide +kernel
theorem npX10_neighbours : a_np mX10_neighbours 0 := by unfold a_np; decide +kernel
theorem npX10_nextAt : a_np mX10_nextAt 1 := by unfold a_np; decide +kernel
theorem npX10_nextOnWay : a_np mX10_nextOnWay 1 := by unfold a_np; decide +kernel
theorem npX10_nextReady : a_np mX10_nextReady 0 := by unfold a_np; decide +kernel
theorem npX10_notes : a_np mX10_notes 1 := by unfold a_np; decide +kernel
theorem npX10_of : a_np mX10_of 2 := by unfold a_np; decide +kernel
theorem npX10_order : a_np mX10_order 2 := by unfold a_np; decide +kernel
theorem npX10_parts : a_np mX10_parts 0 := by unfold a_np; decide +kernel
theorem npX10_passes : a_np mX10_passes 1 := by unfold a_np; decide +kernel
theorem npX10_passesAll : a_np mX10_passesAll 1 := by unfold a_np; decide +kernel
theorem npX10_passesRow : a_np mX10_passesRow 1 := by unfold a_np; decide +kernel
theorem npX10_placeOf : a_np mX10_placeOf 1 := by unfold a_np; decide +kernel
theorem npX10_preempted : a_np mX10_preempted 0 := by unfold a_np; decide +kernel
theorem npX10_puts : a_np mX10_puts 1 := by unfold a_np; decide +kernel
theorem npX10_readsAll : a_np mX10_readsAll 0 := by unfold a_np; decide +kernel
theorem npX10_readsJob : a_np mX10_readsJob 0 := by unfold a_np; decide +kernel
theorem npX10_readsTask : a_np mX10_readsTask 1 := by unfold a_np; decide +kernel
theorem npX10_reckons : a_np mX10_reckons 0 := by unfold a_np; decide +kernel
theorem npX10_redo : a_np mX10_redo 0 := by unfold a_np; decide +kernel
theorem npX10_restOf : a_np mX10_restOf 1 := by unfold a_np; decide +kernel
theorem npX10_shop : a_np mX10_shop 0 := by unfold a_np; decide +kernel
theorem npX10_span : a_np mX10_span 0 := by unfold a_np; decide +kernel
theorem npX10_spanBehind : a_np mX10_spanBehind 1 := by unfold a_np; decide +kernel
theorem npX10_step : a_np mX10_step 1 := by unfold a_np; decide +kernel
theorem npX10_steps : a_np mX10_steps 0 := by unfold a_np; decide +kernel
theorem npX10_swaps : a_np mX10_swaps 2 := by unfold a_np; decide +kernel
theorem npX10_swapsMove : a_np mX10_swapsMove 1 := by unfold a_np; decide +kernel
theorem npX10_tabu : a_np mX10_tabu 1 := by unfold a_np; decide +kernel
theorem npX10_tabuAt : a_np mX10_tabuAt 1 := by unfold a_np; decide +kernel
theorem npX10_tailOf : a_np mX10_tailOf 1 := by unfold a_np; decide +kernel
theorem npX10_takes : a_np mX10_takes 1 := by unfold a_np; decide +kernel
theorem npX10_takesOff : a_np mX10_takesOff 1 := by unfold a_np; decide +kernel
theorem npX10_task : a_np mX10_task 2 := by unfold a_np; decide +kernel
theorem npX10_toldAt : a_np mX10_toldAt 3 := by unfold a_np; decide +kernel
theorem npX10_triesFrom : a_np mX10_triesFrom 2 := by unfold a_np; decide +kernel
theorem npX10_turn : a_np mX10_turn 2 := by unfold a_np; decide +kernel
theorem npX10_undo : a_np mX10_undo 0 := by unfold a_np; decide +kernel
theorem npX10_walks : a_np mX10_walks 0 := by unfold a_np; decide +kernel
theorem npX10_way : a_np mX10_way 1 := by unfold a_np; decide +kernel
theorem npX10_waysAll : a_np mX10_waysAll 0 := by unfold a_np; decide +kernel
theorem npX10_worthOf : a_np mX10_worthOf 2 := by unfold a_np; decide +kernel
theorem npX10_would : a_np mX10_would 1 := by unfold a_np; decide +kernel
theorem npX10_wrong : a_np mX10_wrong 0 := by unfold a_np; decide +kernel
theorem npX1_choose : a_np mX1_choose 2 := by unfold a_np; decide +kernel
theorem npX1_clear : a_np mX1_clear 0 := by unfold a_np; decide +kernel
theorem npX1_init : a_np mX1_init 0 := by unfold a_np; decide +kernel
theorem npX1_isNext : a_np mX1_isNext 2 := by unfold a_np; decide +kernel
theorem npX1_key : a_np mX1_key 3 := by unfold a_np; decide +kernel
theorem npX1_lay : a_np mX1_lay 2 := by unfold a_np; decide +kernel
theorem npX1_putLast : a_np mX1_putLast 2 := by unfold a_np; decide +kernel
theorem npX1_startOf : a_np mX1_startOf 2 := by unfold a_np; decide +kernel
theorem npX2_forget : a_np mX2_forget 0 := by unfold a_np; decide +kernel
theorem npX2_init : a_np mX2_init 0 := by unfold a_np; decide +kernel
theorem npX2_look : a_np mX2_look 2 := by unfold a_np; decide +kernel
theorem npX2_lookAtAll : a_np mX2_lookAtAll 3 := by unfold a_np; decide +kernel
theorem npX2_nextOfAll : a_np mX2_nextOfAll 1 := by unfold a_np; decide +kernel
theorem npX2_waysOf : a_np mX2_waysOf 1 := by unfold a_np; decide +kernel
theorem npX3_find : a_np mX3_find 1 := by unfold a_np; decide +kernel
theorem npX3_init : a_np mX3_init 0 := by unfold a_np; decide +kernel
theorem npX3_keep : a_np mX3_keep 1 := by unfold a_np; decide +kernel
theorem npX3_takeOff : a_np mX3_takeOff 1 := by unfold a_np; decide +kernel
theorem npX4_begin : a_np mX4_begin 1 := by unfold a_np; decide +kernel
theorem npX4_goAhead : a_np mX4_goAhead 1 := by unfold a_np; decide +kernel
theorem npX4_goBack : a_np mX4_goBack 1 := by unfold a_np; decide +kernel
theorem npX4_init : a_np mX4_init 0 := by unfold a_np; decide +kernel
theorem npX4_note : a_np mX4_note 1 := by unfold a_np; decide +kernel
theorem npX5_add : a_np mX5_add 4 := by unfold a_np; decide +kernel
theorem npX5_clear : a_np mX5_clear 0 := by unfold a_np; decide +kernel
theorem npX5_copyOf : a_np mX5_copyOf 1 := by unfold a_np; decide +kernel
theorem npX5_finish : a_np mX5_finish 0 := by unfold a_np; decide +kernel
theorem npX5_init : a_np mX5_init 0 := by unfold a_np; decide +kernel
theorem npX5_jobAhead : a_np mX5_jobAhead 1 := by unfold a_np; decide +kernel
theorem npX5_jobNext : a_np mX5_jobNext 1 := by unfold a_np; decide +kernel
theorem npX5_longestJob : a_np mX5_longestJob 0 := by unfold a_np; decide +kernel
theorem npX5_orderByNumbers : a_np mX5_orderByNumbers 1 := by unfold a_np; decide +kernel
theorem npX5_tasksOn : a_np mX5_tasksOn 1 := by unfold a_np; decide +kernel
theorem npX6_addMove : a_np mX6_addMove 3 := by unfold a_np; decide +kernel
theorem npX6_beginning : a_np mX6_beginning 2 := by unfold a_np; decide +kernel
theorem npX6_cutBlocks : a_np mX6_cutBlocks 1 := by unfold a_np; decide +kernel
theorem npX6_find : a_np mX6_find 2 := by unfold a_np; decide +kernel
theorem npX6_findMoves : a_np mX6_findMoves 1 := by unfold a_np; decide +kernel
theorem npX6_first : a_np mX6_first 1 := by unfold a_np; decide +kernel
theorem npX6_goesOn : a_np mX6_goesOn 3 := by unfold a_np; decide +kernel
theorem npX6_init : a_np mX6_init 0 := by unfold a_np; decide +kernel
theorem npX6_second : a_np mX6_second 1 := by unfold a_np; decide +kernel
theorem npX6_walk : a_np mX6_walk 2 := by unfold a_np; decide +kernel
theorem npX7_init : a_np mX7_init 0 := by unfold a_np; decide +kernel
theorem npX7_isFigure : a_np mX7_isFigure 3 := by unfold a_np; decide +kernel
theorem npX7_isTask : a_np mX7_isTask 2 := by unfold a_np; decide +kernel
theorem npX7_letterAt : a_np mX7_letterAt 1 := by unfold a_np; decide +kernel
theorem npX7_number : a_np mX7_number 2 := by unfold a_np; decide +kernel
theorem npX7_put : a_np mX7_put 1 := by unfold a_np; decide +kernel
theorem npX7_readInto : a_np mX7_readInto 1 := by unfold a_np; decide +kernel
theorem npX7_taskEnd : a_np mX7_taskEnd 1 := by unfold a_np; decide +kernel
theorem npX8_atLeast : a_np mX8_atLeast 3 := by unfold a_np; decide +kernel
theorem npX8_endOf : a_np mX8_endOf 2 := by unfold a_np; decide +kernel
theorem npX8_init : a_np mX8_init 0 := by unfold a_np; decide +kernel
theorem npX8_lay : a_np mX8_lay 2 := by unfold a_np; decide +kernel
theorem npX8_layTails : a_np mX8_layTails 1 := by unfold a_np; decide +kernel
theorem npX8_link : a_np mX8_link 2 := by unfold a_np; decide +kernel
theorem npX8_queueFree : a_np mX8_queueFree 1 := by unfold a_np; decide +kernel
theorem npX8_release : a_np mX8_release 2 := by unfold a_np; decide +kernel
theorem npX8_toCome : a_np mX8_toCome 2 := by unfold a_np; decide +kernel
theorem npX9_all : a_np mX9_all 1 := by unfold a_np; decide +kernel
theorem npX9_back : a_np mX9_back 0 := by unfold a_np; decide +kernel
theorem npX9_best : a_np mX9_best 1 := by unfold a_np; decide +kernel
theorem npX9_block : a_np mX9_block 1 := by unfold a_np; decide +kernel
theorem npX9_bound : a_np mX9_bound 0 := by unfold a_np; decide +kernel
theorem npX9_brings : a_np mX9_brings 2 := by unfold a_np; decide +kernel
theorem npX9_changePlaces : a_np mX9_changePlaces 1 := by unfold a_np; decide +kernel
theorem npX9_changed : a_np mX9_changed 0 := by unfold a_np; decide +kernel
theorem npX9_chart : a_np mX9_chart 1 := by unfold a_np; decide +kernel
theorem npX9_chartByte : a_np mX9_chartByte 2 := by unfold a_np; decide +kernel
theorem npX9_chosen : a_np mX9_chosen 0 := by unfold a_np; decide +kernel
theorem npX9_copyRow : a_np mX9_copyRow 2 := by unfold a_np; decide +kernel
theorem npX9_count : a_np mX9_count 1 := by unfold a_np; decide +kernel
theorem npX9_dispatch : a_np mX9_dispatch 1 := by unfold a_np; decide +kernel
theorem npX9_does : a_np mX9_does 1 := by unfold a_np; decide +kernel
theorem npX9_feed : a_np mX9_feed 1 := by unfold a_np; decide +kernel
theorem npX9_forgetSteps : a_np mX9_forgetSteps 0 := by unfold a_np; decide +kernel
theorem npX9_goOn : a_np mX9_goOn 0 := by unfold a_np; decide +kernel
theorem npX9_image : a_np mX9_image 0 := by unfold a_np; decide +kernel
theorem npX9_init : a_np mX9_init 0 := by unfold a_np; decide +kernel
theorem npX9_kept : a_np mX9_kept 1 := by unfold a_np; decide +kernel
theorem npX9_keptSince : a_np mX9_keptSince 1 := by unfold a_np; decide +kernel
theorem npX9_lookForLeast : a_np mX9_lookForLeast 0 := by unfold a_np; decide +kernel
theorem npX9_machine : a_np mX9_machine 2 := by unfold a_np; decide +kernel
theorem npX9_move : a_np mX9_move 1 := by unfold a_np; decide +kernel
theorem npX9_nextOrder : a_np mX9_nextOrder 3 := by unfold a_np; decide +kernel
theorem npX9_noMachine : a_np mX9_noMachine 1 := by unfold a_np; decide +kernel
theorem npX9_noShop : a_np mX9_noShop 0 := by unfold a_np; decide +kernel
theorem npX9_noTask : a_np mX9_noTask 1 := by unfold a_np; decide +kernel
theorem npX9_of : a_np mX9_of 2 := by unfold a_np; decide +kernel
theorem npX9_order : a_np mX9_order 2 := by unfold a_np; decide +kernel
theorem npX9_pair : a_np mX9_pair 2 := by unfold a_np; decide +kernel
theorem npX9_redo : a_np mX9_redo 0 := by unfold a_np; decide +kernel
theorem npX9_refusedByState : a_np mX9_refusedByState 0 := by unfold a_np; decide +kernel
theorem npX9_settle : a_np mX9_settle 0 := by unfold a_np; decide +kernel
theorem npX9_shop : a_np mX9_shop 0 := by unfold a_np; decide +kernel
theorem npX9_slotOf : a_np mX9_slotOf 1 := by unfold a_np; decide +kernel
theorem npX9_span : a_np mX9_span 0 := by unfold a_np; decide +kernel
theorem npX9_spanBehind : a_np mX9_spanBehind 1 := by unfold a_np; decide +kernel
theorem npX9_spanOrRing : a_np mX9_spanOrRing 0 := by unfold a_np; decide +kernel
theorem npX9_startAnew : a_np mX9_startAnew 0 := by unfold a_np; decide +kernel
theorem npX9_step : a_np mX9_step 1 := by unfold a_np; decide +kernel
theorem npX9_tabu : a_np mX9_tabu 1 := by unfold a_np; decide +kernel
theorem npX9_task : a_np mX9_task 2 := by unfold a_np; decide +kernel
theorem npX9_turn : a_np mX9_turn 2 := by unfold a_np; decide +kernel
theorem npX9_undo : a_np mX9_undo 0 := by unfold a_np; decide +kernel
theorem npX9_way : a_np mX9_way 1 := by unfold a_np; decide +kernel
theorem npX9_would : a_np mX9_would 1 := by unfold a_np; decide +kernel
theorem pn_0 : plainName RX0 = true := by decide +kernel
theorem pn_1 : plainName RX1 = true := by decide +kernel
theorem pn_2 : plainName RX2 = true := by decide +kernel
theorem pn_3 : plainName RX3 = true := by decide +kernel
theorem pn_4 : plainName RX4 = true := by decide +kernel
theorem pn_5 : plainName RX5 = true := by decide +kernel
theorem pn_6 : plainName RX6 = true := by decide +kernel
theorem pn_7 : plainName RX7 = true := by decide +kernel
theorem pn_8 : plainName RX8 = true := by decide +kernel
theorem pn_9 : plainName RX9 = true := by decide +kernel
theorem pn_10 : plainName RX10 = true := by decide +kernel
abbrev isJ (x : Nat) : Prop := x = 3 ∨ x = 11 ∨ x = 75
theorem sh_isJ {x : Nat} (hx : isJ x) : a_T[x]? = some (.inr (5, [none, none, some (x + 1), some (x + 2), some (x + 3), some (x + 4), some (x + 5), some (x + 6), some (x + 7)])) := by rcases hx with rfl | rfl | rfl <;> rfl
theorem ob_isJ {x : Nat} (hx : isJ x) : a_obj x RX5 := ⟨5, _, _, sh_isJ hx, rfl, rfl⟩
theorem sh_isJ_1 {x : Nat} (hx : isJ x) : a_T[x + 1]? = some (.inl (0, 24, 0)) := by rcases hx with rfl | rfl | rfl <;> rfl
theorem sh_isJ_2 {x : Nat} (hx : isJ x) : a_T[x + 2]? = some (.inl (0, 24, 0)) := by rcases hx with rfl | rfl | rfl <;> rfl
theorem sh_isJ_3 {x : Nat} (hx : isJ x) : a_T[x + 3]? = some (.inl (0, 24, 0)) := by rcases hx with rfl | rfl | rfl <;> rfl
theorem sh_isJ_4 {x : Nat} (hx : isJ x) : a_T[x + 4]? = some (.inl (0, 24, 0)) := by rcases hx with rfl | rfl | rfl <;> rfl
theorem sh_isJ_5 {x : Nat} (hx : isJ x) : a_T[x + 5]? = some (.inl (0, 24, 0)) := by rcases hx with rfl | rfl | rfl <;> rfl
theorem sh_isJ_6 {x : Nat} (hx : isJ x) : a_T[x + 6]? = some (.inl (0, 24, 0)) := by rcases hx with rfl | rfl | rfl <;> rfl
theorem sh_isJ_7 {x : Nat} (hx : isJ x) : a_T[x + 7]? = some (.inl (0, 6, 0)) := by rcases hx with rfl | rfl | rfl <;> rfl
abbrev isT (x : Nat) : Prop := x = 20 ∨ x = 29
theorem sh_isT {x : Nat} (hx : isT x) : a_T[x]? = some (.inr (8, [some (x + 1), some (x + 2), some (x + 3), some (x + 4), some (x + 5), some (x + 6), some (x + 7), some (x + 8), none, none, none])) := by rcases hx with rfl | rfl <;> rfl
theorem ob_isT {x : Nat} (hx : isT x) : a_obj x RX8 := ⟨8, _, _, sh_isT hx, rfl, rfl⟩
theorem sh_isT_1 {x : Nat} (hx : isT x) : a_T[x + 1]? = some (.inl (0, 24, 0)) := by rcases hx with rfl | rfl <;> rfl
theorem sh_isT_2 {x : Nat} (hx : isT x) : a_T[x + 2]? = some (.inl (0, 24, 0)) := by rcases hx with rfl | rfl <;> rfl
theorem sh_isT_3 {x : Nat} (hx : isT x) : a_T[x + 3]? = some (.inl (0, 24, 0)) := by rcases hx with rfl | rfl <;> rfl
theorem sh_isT_4 {x : Nat} (hx : isT x) : a_T[x + 4]? = some (.inl (0, 24, 0)) := by rcases hx with rfl | rfl <;> rfl
theorem sh_isT_5 {x : Nat} (hx : isT x) : a_T[x + 5]? = some (.inl (0, 24, 0)) := by rcases hx with rfl | rfl <;> rfl
theorem sh_isT_6 {x : Nat} (hx : isT x) : a_T[x + 6]? = some (.inl (0, 24, 0)) := by rcases hx with rfl | rfl <;> rfl
theorem sh_isT_7 {x : Nat} (hx : isT x) : a_T[x + 7]? = some (.inl (0, 24, 0)) := by rcases hx with rfl | rfl <;> rfl
theorem sh_isT_8 {x : Nat} (hx : isT x) : a_T[x + 8]? = some (.inl (0, 24, 0)) := by rcases hx with rfl | rfl <;> rfl
abbrev isRow (r : Nat) : Prop := r = 19 ∨ r = 74
theorem sh_isRow {r : Nat} (hr : isRow r) : a_T[r]? = some (.inl (0, 24, 0)) := by rcases hr with rfl | rfl <;> rfl
abbrev isHist (r : Nat) : Prop := 46 ≤ r ∧ r ≤ 62
theorem sh_isHist {r : Nat} (hr : isHist r) : a_T[r]? = some (.inl (0, 24, 0)) := by
  have : r = 46 ∨ r = 47 ∨ r = 48 ∨ r = 49 ∨ r = 50 ∨ r = 51 ∨ r = 52 ∨ r = 53 ∨ r = 54 ∨ r = 55 ∨ r = 56 ∨ r = 57 ∨ r = 58 ∨ r = 59 ∨ r = 60 ∨ r = 61 ∨ r = 62 := by omega
  rcases this with rfl | rfl | rfl | rfl | rfl | rfl | rfl | rfl | rfl | rfl | rfl | rfl | rfl | rfl | rfl | rfl | rfl <;> rfl
