theorem dX10_steps_30 : decode cX10_steps 30 = .ok (.iconst 0, 1) := by decide +kernel
theorem dX10_steps_31 : decode cX10_steps 31 = .ok (.ireturn, 1) := by decide +kernel
theorem dX10_steps_32 : decode cX10_steps 32 = .ok (.aload_n 0, 1) := by decide +kernel
theorem dX10_steps_33 : decode cX10_steps 33 = .ok (.getfield 68, 3) := by decide +kernel
theorem dX10_steps_36 : decode cX10_steps 36 = .ok (.iload_n 2, 1) := by decide +kernel
theorem dX10_steps_37 : decode cX10_steps 37 = .ok (.iaload, 1) := by decide +kernel
theorem dX10_steps_38 : decode cX10_steps 38 = .ok (.istore_n 3, 1) := by decide +kernel
theorem dX10_steps_39 : decode cX10_steps 39 = .ok (.aload_n 0, 1) := by decide +kernel
theorem dX10_steps_40 : decode cX10_steps 40 = .ok (.iload_n 3, 1) := by decide +kernel
theorem dX10_steps_41 : decode cX10_steps 41 = .ok (.invokevirtual 266, 3) := by decide +kernel
theorem dX10_steps_44 : decode cX10_steps 44 = .ok (.aload_n 0, 1) := by decide +kernel
theorem dX10_steps_45 : decode cX10_steps 45 = .ok (.invokevirtual 188, 3) := by decide +kernel
theorem dX10_steps_48 : decode cX10_steps 48 = .ok (.aload_n 0, 1) := by decide +kernel
theorem dX10_steps_49 : decode cX10_steps 49 = .ok (.dup, 1) := by decide +kernel
theorem dX10_steps_50 : decode cX10_steps 50 = .ok (.getfield 299, 3) := by decide +kernel
theorem dX10_steps_53 : decode cX10_steps 53 = .ok (.iconst 1, 1) := by decide +kernel
theorem dX10_steps_54 : decode cX10_steps 54 = .ok (.iadd, 1) := by decide +kernel
theorem dX10_steps_55 : decode cX10_steps 55 = .ok (.putfield 299, 3) := by decide +kernel
theorem dX10_steps_58 : decode cX10_steps 58 = .ok (.aload_n 0, 1) := by decide +kernel
theorem dX10_steps_59 : decode cX10_steps 59 = .ok (.bipush 100, 2) := by decide +kernel
theorem dX10_steps_61 : decode cX10_steps 61 = .ok (.iload_n 3, 1) := by decide +kernel
theorem dX10_steps_62 : decode cX10_steps 62 = .ok (.bipush 100, 2) := by decide +kernel
theorem dX10_steps_64 : decode cX10_steps 64 = .ok (.irem, 1) := by decide +kernel
theorem dX10_steps_65 : decode cX10_steps 65 = .ok (.imul, 1) := by decide +kernel
theorem dX10_steps_66 : decode cX10_steps 66 = .ok (.iload_n 3, 1) := by decide +kernel
theorem dX10_steps_67 : decode cX10_steps 67 = .ok (.bipush 100, 2) := by decide +kernel
theorem dX10_steps_69 : decode cX10_steps 69 = .ok (.idiv, 1) := by decide +kernel
theorem dX10_steps_70 : decode cX10_steps 70 = .ok (.iadd, 1) := by decide +kernel
theorem dX10_steps_71 : decode cX10_steps 71 = .ok (.invokevirtual 302, 3) := by decide +kernel
theorem dX10_steps_74 : decode cX10_steps 74 = .ok (.aload_n 0, 1) := by decide +kernel
theorem dX10_steps_75 : decode cX10_steps 75 = .ok (.aload_n 0, 1) := by decide +kernel
theorem dX10_steps_76 : decode cX10_steps 76 = .ok (.getfield 84, 3) := by decide +kernel
theorem dX10_steps_79 : decode cX10_steps 79 = .ok (.iload_n 2, 1) := by decide +kernel
theorem dX10_steps_80 : decode cX10_steps 80 = .ok (.iaload, 1) := by decide +kernel
theorem dX10_steps_81 : decode cX10_steps 81 = .ok (.invokevirtual 293, 3) := by decide +kernel
theorem dX10_steps_84 : decode cX10_steps 84 = .ok (.iconst 1, 1) := by decide +kernel
theorem dX10_steps_85 : decode cX10_steps 85 = .ok (.ireturn, 1) := by decide +kernel
theorem dX10_step_0 : decode cX10_step 0 = .ok (.iload_n 1, 1) := by decide +kernel
theorem dX10_step_1 : decode cX10_step 1 = .ok (.iconst 1, 1) := by decide +kernel
theorem dX10_step_2 : decode cX10_step 2 = .ok (.bipush 30, 2) := by decide +kernel
theorem dX10_step_4 : decode cX10_step 4 = .ok (.invokestatic 108, 3) := by decide +kernel
theorem dX10_step_7 : decode cX10_step 7 = .ok (.ifCond .ne 5, 3) := by decide +kernel
theorem dX10_step_10 : decode cX10_step 10 = .ok (.iconst (-1), 1) := by decide +kernel
theorem dX10_step_11 : decode cX10_step 11 = .ok (.ireturn, 1) := by decide +kernel
theorem dX10_step_12 : decode cX10_step 12 = .ok (.aload_n 0, 1) := by decide +kernel
theorem dX10_step_13 : decode cX10_step 13 = .ok (.invokevirtual 244, 3) := by decide +kernel
theorem dX10_step_16 : decode cX10_step 16 = .ok (.istore_n 2, 1) := by decide +kernel
theorem dX10_step_17 : decode cX10_step 17 = .ok (.iload_n 2, 1) := by decide +kernel
theorem dX10_step_18 : decode cX10_step 18 = .ok (.ifCond .ge 5, 3) := by decide +kernel
theorem dX10_step_21 : decode cX10_step 21 = .ok (.iload_n 2, 1) := by decide +kernel
theorem dX10_step_22 : decode cX10_step 22 = .ok (.ireturn, 1) := by decide +kernel
theorem dX10_step_23 : decode cX10_step 23 = .ok (.iconst 0, 1) := by decide +kernel
theorem dX10_step_24 : decode cX10_step 24 = .ok (.istore_n 3, 1) := by decide +kernel
theorem dX10_step_25 : decode cX10_step 25 = .ok (.iload_n 3, 1) := by decide +kernel
theorem dX10_step_26 : decode cX10_step 26 = .ok (.iload_n 1, 1) := by decide +kernel
theorem dX10_step_27 : decode cX10_step 27 = .ok (.if_icmp .ge 16, 3) := by decide +kernel
theorem dX10_step_30 : decode cX10_step 30 = .ok (.aload_n 0, 1) := by decide +kernel
theorem dX10_step_31 : decode cX10_step 31 = .ok (.invokevirtual 305, 3) := by decide +kernel
theorem dX10_step_34 : decode cX10_step 34 = .ok (.ifCond .eq 9, 3) := by decide +kernel
theorem dX10_step_37 : decode cX10_step 37 = .ok (.iinc 3 1, 3) := by decide +kernel
theorem dX10_step_40 : decode cX10_step 40 = .ok (.goto (-15), 3) := by decide +kernel
theorem dX10_step_43 : decode cX10_step 43 = .ok (.iload_n 3, 1) := by decide +kernel
theorem dX10_step_44 : decode cX10_step 44 = .ok (.ireturn, 1) := by decide +kernel
theorem dX10_kept_0 : decode cX10_kept 0 = .ok (.iload_n 1, 1) := by decide +kernel
theorem dX10_kept_1 : decode cX10_kept 1 = .ok (.iconst (-1), 1) := by decide +kernel
theorem dX10_kept_2 : decode cX10_kept 2 = .ok (.if_icmp .ge 7, 3) := by decide +kernel
theorem dX10_kept_5 : decode cX10_kept 5 = .ok (.iconst (-1), 1) := by decide +kernel
theorem dX10_kept_6 : decode cX10_kept 6 = .ok (.goto 15, 3) := by decide +kernel
theorem dX10_kept_9 : decode cX10_kept 9 = .ok (.aload_n 0, 1) := by decide +kernel
theorem dX10_kept_10 : decode cX10_kept 10 = .ok (.getfield 78, 3) := by decide +kernel
theorem dX10_kept_13 : decode cX10_kept 13 = .ok (.aload_n 0, 1) := by decide +kernel
theorem dX10_kept_14 : decode cX10_kept 14 = .ok (.getfield 278, 3) := by decide +kernel
theorem dX10_kept_17 : decode cX10_kept 17 = .ok (.iload_n 1, 1) := by decide +kernel
theorem dX10_kept_18 : decode cX10_kept 18 = .ok (.invokestatic 247, 3) := by decide +kernel
theorem dX10_kept_21 : decode cX10_kept 21 = .ok (.ireturn, 1) := by decide +kernel
theorem dX10_best_0 : decode cX10_best 0 = .ok (.iload_n 1, 1) := by decide +kernel
theorem dX10_best_1 : decode cX10_best 1 = .ok (.iconst 0, 1) := by decide +kernel
theorem dX10_best_2 : decode cX10_best 2 = .ok (.iconst 1, 1) := by decide +kernel
theorem dX10_best_3 : decode cX10_best 3 = .ok (.invokestatic 108, 3) := by decide +kernel
theorem dX10_best_6 : decode cX10_best 6 = .ok (.ifCond .ne 5, 3) := by decide +kernel
theorem dX10_best_9 : decode cX10_best 9 = .ok (.iconst (-1), 1) := by decide +kernel
theorem dX10_best_10 : decode cX10_best 10 = .ok (.ireturn, 1) := by decide +kernel
theorem dX10_best_11 : decode cX10_best 11 = .ok (.aload_n 0, 1) := by decide +kernel
theorem dX10_best_12 : decode cX10_best 12 = .ok (.getfield 105, 3) := by decide +kernel
theorem dX10_best_15 : decode cX10_best 15 = .ok (.ifCond .ne 6, 3) := by decide +kernel
theorem dX10_best_18 : decode cX10_best 18 = .ok (.bipush (-5), 2) := by decide +kernel
theorem dX10_best_20 : decode cX10_best 20 = .ok (.ireturn, 1) := by decide +kernel
theorem dX10_best_21 : decode cX10_best 21 = .ok (.aload_n 0, 1) := by decide +kernel
theorem dX10_best_22 : decode cX10_best 22 = .ok (.getfield 281, 3) := by decide +kernel
theorem dX10_best_25 : decode cX10_best 25 = .ok (.ifCond .ne 6, 3) := by decide +kernel
theorem dX10_best_28 : decode cX10_best 28 = .ok (.bipush (-2), 2) := by decide +kernel
theorem dX10_best_30 : decode cX10_best 30 = .ok (.ireturn, 1) := by decide +kernel
theorem dX10_best_31 : decode cX10_best 31 = .ok (.iload_n 1, 1) := by decide +kernel
theorem dX10_best_32 : decode cX10_best 32 = .ok (.ifCond .ne 8, 3) := by decide +kernel
theorem dX10_best_35 : decode cX10_best 35 = .ok (.aload_n 0, 1) := by decide +kernel
theorem dX10_best_36 : decode cX10_best 36 = .ok (.getfield 287, 3) := by decide +kernel
theorem dX10_best_39 : decode cX10_best 39 = .ok (.ireturn, 1) := by decide +kernel
theorem dX10_best_40 : decode cX10_best 40 = .ok (.iconst 0, 1) := by decide +kernel
theorem dX10_best_41 : decode cX10_best 41 = .ok (.istore_n 2, 1) := by decide +kernel
theorem dX10_best_42 : decode cX10_best 42 = .ok (.iload_n 2, 1) := by decide +kernel
theorem dX10_best_43 : decode cX10_best 43 = .ok (.bipush 120, 2) := by decide +kernel
theorem dX10_best_45 : decode cX10_best 45 = .ok (.if_icmp .ge 21, 3) := by decide +kernel
theorem dX10_best_48 : decode cX10_best 48 = .ok (.aload_n 0, 1) := by decide +kernel
theorem dX10_best_49 : decode cX10_best 49 = .ok (.getfield 22, 3) := by decide +kernel
theorem dX10_best_52 : decode cX10_best 52 = .ok (.iload_n 2, 1) := by decide +kernel
theorem dX10_best_53 : decode cX10_best 53 = .ok (.aload_n 0, 1) := by decide +kernel
theorem dX10_best_54 : decode cX10_best 54 = .ok (.getfield 81, 3) := by decide +kernel
theorem dX10_best_57 : decode cX10_best 57 = .ok (.iload_n 2, 1) := by decide +kernel
theorem dX10_best_58 : decode cX10_best 58 = .ok (.iaload, 1) := by decide +kernel
theorem dX10_best_59 : decode cX10_best 59 = .ok (.iastore, 1) := by decide +kernel
theorem dX10_best_60 : decode cX10_best 60 = .ok (.iinc 2 1, 3) := by decide +kernel
theorem dX10_best_63 : decode cX10_best 63 = .ok (.goto (-21), 3) := by decide +kernel
theorem dX10_best_66 : decode cX10_best 66 = .ok (.aload_n 0, 1) := by decide +kernel
theorem dX10_best_67 : decode cX10_best 67 = .ok (.invokevirtual 188, 3) := by decide +kernel
theorem dX10_best_70 : decode cX10_best 70 = .ok (.aload_n 0, 1) := by decide +kernel
theorem dX10_best_71 : decode cX10_best 71 = .ok (.getfield 287, 3) := by decide +kernel
theorem dX10_best_74 : decode cX10_best 74 = .ok (.ireturn, 1) := by decide +kernel
theorem dX10_firstOf_0 : decode cX10_firstOf 0 = .ok (.iconst 0, 1) := by decide +kernel
theorem dX10_firstOf_1 : decode cX10_firstOf 1 = .ok (.istore_n 2, 1) := by decide +kernel
theorem dX10_firstOf_2 : decode cX10_firstOf 2 = .ok (.aload_n 0, 1) := by decide +kernel
theorem dX10_firstOf_3 : decode cX10_firstOf 3 = .ok (.getfield 9, 3) := by decide +kernel
theorem dX10_firstOf_6 : decode cX10_firstOf 6 = .ok (.iload_n 2, 1) := by decide +kernel
theorem dX10_firstOf_7 : decode cX10_firstOf 7 = .ok (.iaload, 1) := by decide +kernel
theorem dX10_firstOf_8 : decode cX10_firstOf 8 = .ok (.iload_n 1, 1) := by decide +kernel
theorem dX10_firstOf_9 : decode cX10_firstOf 9 = .ok (.if_icmp .eq 9, 3) := by decide +kernel
theorem dX10_firstOf_12 : decode cX10_firstOf 12 = .ok (.iinc 2 1, 3) := by decide +kernel
theorem dX10_firstOf_15 : decode cX10_firstOf 15 = .ok (.goto (-13), 3) := by decide +kernel
theorem dX10_firstOf_18 : decode cX10_firstOf 18 = .ok (.iload_n 2, 1) := by decide +kernel
theorem dX10_firstOf_19 : decode cX10_firstOf 19 = .ok (.ireturn, 1) := by decide +kernel
theorem dX10_isOpen_0 : decode cX10_isOpen 0 = .ok (.aload_n 0, 1) := by decide +kernel
theorem dX10_isOpen_1 : decode cX10_isOpen 1 = .ok (.getfield 87, 3) := by decide +kernel
theorem dX10_isOpen_4 : decode cX10_isOpen 4 = .ok (.iload_n 1, 1) := by decide +kernel
theorem dX10_isOpen_5 : decode cX10_isOpen 5 = .ok (.iaload, 1) := by decide +kernel
theorem dX10_isOpen_6 : decode cX10_isOpen 6 = .ok (.aload_n 0, 1) := by decide +kernel
theorem dX10_isOpen_7 : decode cX10_isOpen 7 = .ok (.getfield 105, 3) := by decide +kernel
theorem dX10_isOpen_10 : decode cX10_isOpen 10 = .ok (.if_icmp .ge 22, 3) := by decide +kernel
theorem dX10_isOpen_13 : decode cX10_isOpen 13 = .ok (.aload_n 0, 1) := by decide +kernel
theorem dX10_isOpen_14 : decode cX10_isOpen 14 = .ok (.getfield 9, 3) := by decide +kernel
theorem dX10_isOpen_17 : decode cX10_isOpen 17 = .ok (.aload_n 0, 1) := by decide +kernel
theorem dX10_isOpen_18 : decode cX10_isOpen 18 = .ok (.getfield 87, 3) := by decide +kernel
theorem dX10_isOpen_21 : decode cX10_isOpen 21 = .ok (.iload_n 1, 1) := by decide +kernel
theorem dX10_isOpen_22 : decode cX10_isOpen 22 = .ok (.iaload, 1) := by decide +kernel
theorem dX10_isOpen_23 : decode cX10_isOpen 23 = .ok (.iaload, 1) := by decide +kernel
theorem dX10_isOpen_24 : decode cX10_isOpen 24 = .ok (.iload_n 1, 1) := by decide +kernel
theorem dX10_isOpen_25 : decode cX10_isOpen 25 = .ok (.if_icmp .ne 7, 3) := by decide +kernel
theorem dX10_isOpen_28 : decode cX10_isOpen 28 = .ok (.iconst 1, 1) := by decide +kernel
theorem dX10_isOpen_29 : decode cX10_isOpen 29 = .ok (.goto 4, 3) := by decide +kernel
theorem dX10_isOpen_32 : decode cX10_isOpen 32 = .ok (.iconst 0, 1) := by decide +kernel
theorem dX10_isOpen_33 : decode cX10_isOpen 33 = .ok (.ireturn, 1) := by decide +kernel
theorem dX10_mayStart_0 : decode cX10_mayStart 0 = .ok (.aload_n 0, 1) := by decide +kernel
theorem dX10_mayStart_1 : decode cX10_mayStart 1 = .ok (.getfield 90, 3) := by decide +kernel
theorem dX10_mayStart_4 : decode cX10_mayStart 4 = .ok (.aload_n 0, 1) := by decide +kernel
theorem dX10_mayStart_5 : decode cX10_mayStart 5 = .ok (.getfield 9, 3) := by decide +kernel
theorem dX10_mayStart_8 : decode cX10_mayStart 8 = .ok (.iload_n 1, 1) := by decide +kernel
theorem dX10_mayStart_9 : decode cX10_mayStart 9 = .ok (.iaload, 1) := by decide +kernel
theorem dX10_mayStart_10 : decode cX10_mayStart 10 = .ok (.iaload, 1) := by decide +kernel
theorem dX10_mayStart_11 : decode cX10_mayStart 11 = .ok (.aload_n 0, 1) := by decide +kernel
theorem dX10_mayStart_12 : decode cX10_mayStart 12 = .ok (.getfield 93, 3) := by decide +kernel
theorem dX10_mayStart_15 : decode cX10_mayStart 15 = .ok (.aload_n 0, 1) := by decide +kernel
theorem dX10_mayStart_16 : decode cX10_mayStart 16 = .ok (.getfield 16, 3) := by decide +kernel
theorem dX10_mayStart_19 : decode cX10_mayStart 19 = .ok (.iload_n 1, 1) := by decide +kernel
theorem dX10_mayStart_20 : decode cX10_mayStart 20 = .ok (.iaload, 1) := by decide +kernel
theorem dX10_mayStart_21 : decode cX10_mayStart 21 = .ok (.iaload, 1) := by decide +kernel
theorem dX10_mayStart_22 : decode cX10_mayStart 22 = .ok (.invokestatic 214, 3) := by decide +kernel
theorem dX10_mayStart_25 : decode cX10_mayStart 25 = .ok (.ireturn, 1) := by decide +kernel
theorem dX10_leftOf_0 : decode cX10_leftOf 0 = .ok (.iconst 0, 1) := by decide +kernel
theorem dX10_leftOf_1 : decode cX10_leftOf 1 = .ok (.istore_n 2, 1) := by decide +kernel
theorem dX10_leftOf_2 : decode cX10_leftOf 2 = .ok (.iload_n 1, 1) := by decide +kernel
theorem dX10_leftOf_3 : decode cX10_leftOf 3 = .ok (.istore_n 3, 1) := by decide +kernel
theorem dX10_leftOf_4 : decode cX10_leftOf 4 = .ok (.iload_n 3, 1) := by decide +kernel
theorem dX10_leftOf_5 : decode cX10_leftOf 5 = .ok (.aload_n 0, 1) := by decide +kernel
theorem dX10_leftOf_6 : decode cX10_leftOf 6 = .ok (.getfield 105, 3) := by decide +kernel
theorem dX10_leftOf_9 : decode cX10_leftOf 9 = .ok (.if_icmp .ge 33, 3) := by decide +kernel
theorem dX10_leftOf_12 : decode cX10_leftOf 12 = .ok (.aload_n 0, 1) := by decide +kernel
theorem dX10_leftOf_13 : decode cX10_leftOf 13 = .ok (.getfield 9, 3) := by decide +kernel
theorem dX10_leftOf_16 : decode cX10_leftOf 16 = .ok (.iload_n 3, 1) := by decide +kernel
theorem dX10_leftOf_17 : decode cX10_leftOf 17 = .ok (.iaload, 1) := by decide +kernel
theorem dX10_leftOf_18 : decode cX10_leftOf 18 = .ok (.aload_n 0, 1) := by decide +kernel
theorem dX10_leftOf_19 : decode cX10_leftOf 19 = .ok (.getfield 9, 3) := by decide +kernel
theorem dX10_leftOf_22 : decode cX10_leftOf 22 = .ok (.iload_n 1, 1) := by decide +kernel
theorem dX10_leftOf_23 : decode cX10_leftOf 23 = .ok (.iaload, 1) := by decide +kernel
theorem dX10_leftOf_24 : decode cX10_leftOf 24 = .ok (.if_icmp .ne 18, 3) := by decide +kernel
theorem dX10_leftOf_27 : decode cX10_leftOf 27 = .ok (.iload_n 2, 1) := by decide +kernel
theorem dX10_leftOf_28 : decode cX10_leftOf 28 = .ok (.aload_n 0, 1) := by decide +kernel
theorem dX10_leftOf_29 : decode cX10_leftOf 29 = .ok (.getfield 19, 3) := by decide +kernel
theorem dX10_leftOf_32 : decode cX10_leftOf 32 = .ok (.iload_n 3, 1) := by decide +kernel
theorem dX10_leftOf_33 : decode cX10_leftOf 33 = .ok (.iaload, 1) := by decide +kernel
theorem dX10_leftOf_34 : decode cX10_leftOf 34 = .ok (.iadd, 1) := by decide +kernel
theorem dX10_leftOf_35 : decode cX10_leftOf 35 = .ok (.istore_n 2, 1) := by decide +kernel
theorem dX10_leftOf_36 : decode cX10_leftOf 36 = .ok (.iinc 3 1, 3) := by decide +kernel
theorem dX10_leftOf_39 : decode cX10_leftOf 39 = .ok (.goto (-35), 3) := by decide +kernel
theorem dX10_leftOf_42 : decode cX10_leftOf 42 = .ok (.iload_n 2, 1) := by decide +kernel
theorem dX10_leftOf_43 : decode cX10_leftOf 43 = .ok (.ireturn, 1) := by decide +kernel
theorem dX10_worthOf_0 : decode cX10_worthOf 0 = .ok (.iload_n 2, 1) := by decide +kernel
theorem dX10_worthOf_1 : decode cX10_worthOf 1 = .ok (.ifCond .ne 12, 3) := by decide +kernel
theorem dX10_worthOf_4 : decode cX10_worthOf 4 = .ok (.aload_n 0, 1) := by decide +kernel
theorem dX10_worthOf_5 : decode cX10_worthOf 5 = .ok (.getfield 19, 3) := by decide +kernel
theorem dX10_worthOf_8 : decode cX10_worthOf 8 = .ok (.iload_n 1, 1) := by decide +kernel
theorem dX10_worthOf_9 : decode cX10_worthOf 9 = .ok (.iaload, 1) := by decide +kernel
theorem dX10_worthOf_10 : decode cX10_worthOf 10 = .ok (.goto 37, 3) := by decide +kernel
theorem dX10_worthOf_13 : decode cX10_worthOf 13 = .ok (.iload_n 2, 1) := by decide +kernel
theorem dX10_worthOf_14 : decode cX10_worthOf 14 = .ok (.iconst 1, 1) := by decide +kernel
theorem dX10_worthOf_15 : decode cX10_worthOf 15 = .ok (.if_icmp .ne 13, 3) := by decide +kernel
theorem dX10_worthOf_18 : decode cX10_worthOf 18 = .ok (.aload_n 0, 1) := by decide +kernel
theorem dX10_worthOf_19 : decode cX10_worthOf 19 = .ok (.getfield 19, 3) := by decide +kernel
theorem dX10_worthOf_22 : decode cX10_worthOf 22 = .ok (.iload_n 1, 1) := by decide +kernel
theorem dX10_worthOf_23 : decode cX10_worthOf 23 = .ok (.iaload, 1) := by decide +kernel
theorem dX10_worthOf_24 : decode cX10_worthOf 24 = .ok (.ineg, 1) := by decide +kernel
theorem dX10_worthOf_25 : decode cX10_worthOf 25 = .ok (.goto 22, 3) := by decide +kernel
theorem dX10_worthOf_28 : decode cX10_worthOf 28 = .ok (.iload_n 2, 1) := by decide +kernel
theorem dX10_worthOf_29 : decode cX10_worthOf 29 = .ok (.iconst 2, 1) := by decide +kernel
theorem dX10_worthOf_30 : decode cX10_worthOf 30 = .ok (.if_icmp .ne 12, 3) := by decide +kernel
theorem dX10_worthOf_33 : decode cX10_worthOf 33 = .ok (.aload_n 0, 1) := by decide +kernel
theorem dX10_worthOf_34 : decode cX10_worthOf 34 = .ok (.iload_n 1, 1) := by decide +kernel
theorem dX10_worthOf_35 : decode cX10_worthOf 35 = .ok (.invokevirtual 308, 3) := by decide +kernel
theorem dX10_worthOf_38 : decode cX10_worthOf 38 = .ok (.ineg, 1) := by decide +kernel
theorem dX10_worthOf_39 : decode cX10_worthOf 39 = .ok (.goto 8, 3) := by decide +kernel
theorem dX10_worthOf_42 : decode cX10_worthOf 42 = .ok (.aload_n 0, 1) := by decide +kernel
theorem dX10_worthOf_43 : decode cX10_worthOf 43 = .ok (.iload_n 1, 1) := by decide +kernel
theorem dX10_worthOf_44 : decode cX10_worthOf 44 = .ok (.invokevirtual 308, 3) := by decide +kernel
theorem dX10_worthOf_47 : decode cX10_worthOf 47 = .ok (.ireturn, 1) := by decide +kernel
theorem dX10_isBetter_0 : decode cX10_isBetter 0 = .ok (.aload_n 0, 1) := by decide +kernel
theorem dX10_isBetter_1 : decode cX10_isBetter 1 = .ok (.iload_n 1, 1) := by decide +kernel
theorem dX10_isBetter_2 : decode cX10_isBetter 2 = .ok (.invokevirtual 311, 3) := by decide +kernel
theorem dX10_isBetter_5 : decode cX10_isBetter 5 = .ok (.aload_n 0, 1) := by decide +kernel
theorem dX10_isBetter_6 : decode cX10_isBetter 6 = .ok (.iload_n 2, 1) := by decide +kernel
theorem dX10_isBetter_7 : decode cX10_isBetter 7 = .ok (.invokevirtual 311, 3) := by decide +kernel
theorem dX10_isBetter_10 : decode cX10_isBetter 10 = .ok (.if_icmp .eq 22, 3) := by decide +kernel
theorem dX10_isBetter_13 : decode cX10_isBetter 13 = .ok (.aload_n 0, 1) := by decide +kernel
theorem dX10_isBetter_14 : decode cX10_isBetter 14 = .ok (.iload_n 1, 1) := by decide +kernel
theorem dX10_isBetter_15 : decode cX10_isBetter 15 = .ok (.invokevirtual 311, 3) := by decide +kernel
theorem dX10_isBetter_18 : decode cX10_isBetter 18 = .ok (.aload_n 0, 1) := by decide +kernel
theorem dX10_isBetter_19 : decode cX10_isBetter 19 = .ok (.iload_n 2, 1) := by decide +kernel
theorem dX10_isBetter_20 : decode cX10_isBetter 20 = .ok (.invokevirtual 311, 3) := by decide +kernel
theorem dX10_isBetter_23 : decode cX10_isBetter 23 = .ok (.if_icmp .ge 7, 3) := by decide +kernel
theorem dX10_isBetter_26 : decode cX10_isBetter 26 = .ok (.iconst 1, 1) := by decide +kernel
theorem dX10_isBetter_27 : decode cX10_isBetter 27 = .ok (.goto 4, 3) := by decide +kernel
theorem dX10_isBetter_30 : decode cX10_isBetter 30 = .ok (.iconst 0, 1) := by decide +kernel
theorem dX10_isBetter_31 : decode cX10_isBetter 31 = .ok (.ireturn, 1) := by decide +kernel
theorem dX10_isBetter_32 : decode cX10_isBetter 32 = .ok (.aload_n 0, 1) := by decide +kernel
theorem dX10_isBetter_33 : decode cX10_isBetter 33 = .ok (.iload_n 1, 1) := by decide +kernel
theorem dX10_isBetter_34 : decode cX10_isBetter 34 = .ok (.iload_n 3, 1) := by decide +kernel
theorem dX10_isBetter_35 : decode cX10_isBetter 35 = .ok (.invokevirtual 314, 3) := by decide +kernel
theorem dX10_isBetter_38 : decode cX10_isBetter 38 = .ok (.aload_n 0, 1) := by decide +kernel
theorem dX10_isBetter_39 : decode cX10_isBetter 39 = .ok (.iload_n 2, 1) := by decide +kernel
theorem dX10_isBetter_40 : decode cX10_isBetter 40 = .ok (.iload_n 3, 1) := by decide +kernel
theorem dX10_isBetter_41 : decode cX10_isBetter 41 = .ok (.invokevirtual 314, 3) := by decide +kernel
theorem dX10_isBetter_44 : decode cX10_isBetter 44 = .ok (.if_icmp .ge 7, 3) := by decide +kernel
theorem dX10_isBetter_47 : decode cX10_isBetter 47 = .ok (.iconst 1, 1) := by decide +kernel
theorem dX10_isBetter_48 : decode cX10_isBetter 48 = .ok (.goto 4, 3) := by decide +kernel
theorem dX10_isBetter_51 : decode cX10_isBetter 51 = .ok (.iconst 0, 1) := by decide +kernel
theorem dX10_isBetter_52 : decode cX10_isBetter 52 = .ok (.ireturn, 1) := by decide +kernel
theorem dX10_dispatchedBy_0 : decode cX10_dispatchedBy 0 = .ok (.iconst 0, 1) := by decide +kernel
theorem dX10_dispatchedBy_1 : decode cX10_dispatchedBy 1 = .ok (.istore_n 2, 1) := by decide +kernel
theorem dX10_dispatchedBy_2 : decode cX10_dispatchedBy 2 = .ok (.iload_n 2, 1) := by decide +kernel
theorem dX10_dispatchedBy_3 : decode cX10_dispatchedBy 3 = .ok (.iconst 5, 1) := by decide +kernel
theorem dX10_dispatchedBy_4 : decode cX10_dispatchedBy 4 = .ok (.if_icmp .ge 23, 3) := by decide +kernel
theorem dX10_dispatchedBy_7 : decode cX10_dispatchedBy 7 = .ok (.aload_n 0, 1) := by decide +kernel
theorem dX10_dispatchedBy_8 : decode cX10_dispatchedBy 8 = .ok (.getfield 25, 3) := by decide +kernel
theorem dX10_dispatchedBy_11 : decode cX10_dispatchedBy 11 = .ok (.iload_n 2, 1) := by decide +kernel
theorem dX10_dispatchedBy_12 : decode cX10_dispatchedBy 12 = .ok (.iconst 0, 1) := by decide +kernel
theorem dX10_dispatchedBy_13 : decode cX10_dispatchedBy 13 = .ok (.iastore, 1) := by decide +kernel
theorem dX10_dispatchedBy_14 : decode cX10_dispatchedBy 14 = .ok (.aload_n 0, 1) := by decide +kernel
theorem dX10_dispatchedBy_15 : decode cX10_dispatchedBy 15 = .ok (.getfield 93, 3) := by decide +kernel
theorem dX10_dispatchedBy_18 : decode cX10_dispatchedBy 18 = .ok (.iload_n 2, 1) := by decide +kernel
theorem dX10_dispatchedBy_19 : decode cX10_dispatchedBy 19 = .ok (.iconst 0, 1) := by decide +kernel
theorem dX10_dispatchedBy_20 : decode cX10_dispatchedBy 20 = .ok (.iastore, 1) := by decide +kernel
theorem dX10_dispatchedBy_21 : decode cX10_dispatchedBy 21 = .ok (.iinc 2 1, 3) := by decide +kernel
theorem dX10_dispatchedBy_24 : decode cX10_dispatchedBy 24 = .ok (.goto (-22), 3) := by decide +kernel
theorem dX10_dispatchedBy_27 : decode cX10_dispatchedBy 27 = .ok (.iconst 0, 1) := by decide +kernel
theorem dX10_dispatchedBy_28 : decode cX10_dispatchedBy 28 = .ok (.istore_n 2, 1) := by decide +kernel
theorem dX10_dispatchedBy_29 : decode cX10_dispatchedBy 29 = .ok (.iload_n 2, 1) := by decide +kernel
theorem dX10_dispatchedBy_30 : decode cX10_dispatchedBy 30 = .ok (.aload_n 0, 1) := by decide +kernel
theorem dX10_dispatchedBy_31 : decode cX10_dispatchedBy 31 = .ok (.getfield 150, 3) := by decide +kernel
theorem dX10_dispatchedBy_34 : decode cX10_dispatchedBy 34 = .ok (.if_icmp .ge 27, 3) := by decide +kernel
theorem dX10_dispatchedBy_37 : decode cX10_dispatchedBy 37 = .ok (.aload_n 0, 1) := by decide +kernel
theorem dX10_dispatchedBy_38 : decode cX10_dispatchedBy 38 = .ok (.getfield 87, 3) := by decide +kernel
theorem dX10_dispatchedBy_41 : decode cX10_dispatchedBy 41 = .ok (.iload_n 2, 1) := by decide +kernel
theorem dX10_dispatchedBy_42 : decode cX10_dispatchedBy 42 = .ok (.aload_n 0, 1) := by decide +kernel
theorem dX10_dispatchedBy_43 : decode cX10_dispatchedBy 43 = .ok (.iload_n 2, 1) := by decide +kernel
theorem dX10_dispatchedBy_44 : decode cX10_dispatchedBy 44 = .ok (.invokevirtual 317, 3) := by decide +kernel
theorem dX10_dispatchedBy_47 : decode cX10_dispatchedBy 47 = .ok (.iastore, 1) := by decide +kernel
theorem dX10_dispatchedBy_48 : decode cX10_dispatchedBy 48 = .ok (.aload_n 0, 1) := by decide +kernel
theorem dX10_dispatchedBy_49 : decode cX10_dispatchedBy 49 = .ok (.getfield 90, 3) := by decide +kernel
theorem dX10_dispatchedBy_52 : decode cX10_dispatchedBy 52 = .ok (.iload_n 2, 1) := by decide +kernel
theorem dX10_dispatchedBy_53 : decode cX10_dispatchedBy 53 = .ok (.iconst 0, 1) := by decide +kernel
theorem dX10_dispatchedBy_54 : decode cX10_dispatchedBy 54 = .ok (.iastore, 1) := by decide +kernel
theorem dX10_dispatchedBy_55 : decode cX10_dispatchedBy 55 = .ok (.iinc 2 1, 3) := by decide +kernel
theorem dX10_dispatchedBy_58 : decode cX10_dispatchedBy 58 = .ok (.goto (-29), 3) := by decide +kernel
theorem dX10_dispatchedBy_61 : decode cX10_dispatchedBy 61 = .ok (.iconst 0, 1) := by decide +kernel
theorem dX10_dispatchedBy_62 : decode cX10_dispatchedBy 62 = .ok (.istore_n 2, 1) := by decide +kernel
theorem dX10_dispatchedBy_63 : decode cX10_dispatchedBy 63 = .ok (.iconst 0, 1) := by decide +kernel
theorem dX10_dispatchedBy_64 : decode cX10_dispatchedBy 64 = .ok (.istore_n 3, 1) := by decide +kernel
theorem dX10_dispatchedBy_65 : decode cX10_dispatchedBy 65 = .ok (.iload_n 3, 1) := by decide +kernel
theorem dX10_dispatchedBy_66 : decode cX10_dispatchedBy 66 = .ok (.aload_n 0, 1) := by decide +kernel
theorem dX10_dispatchedBy_67 : decode cX10_dispatchedBy 67 = .ok (.getfield 105, 3) := by decide +kernel
theorem dX10_dispatchedBy_70 : decode cX10_dispatchedBy 70 = .ok (.if_icmp .ge 143, 3) := by decide +kernel
theorem dX10_dispatchedBy_73 : decode cX10_dispatchedBy 73 = .ok (.iconst (-1), 1) := by decide +kernel
theorem dX10_dispatchedBy_74 : decode cX10_dispatchedBy 74 = .ok (.istore 4, 2) := by decide +kernel
theorem dX10_dispatchedBy_76 : decode cX10_dispatchedBy 76 = .ok (.iconst 0, 1) := by decide +kernel
theorem dX10_dispatchedBy_77 : decode cX10_dispatchedBy 77 = .ok (.istore 5, 2) := by decide +kernel
theorem dX10_dispatchedBy_79 : decode cX10_dispatchedBy 79 = .ok (.iload 5, 2) := by decide +kernel
theorem dX10_dispatchedBy_81 : decode cX10_dispatchedBy 81 = .ok (.aload_n 0, 1) := by decide +kernel
theorem dX10_dispatchedBy_82 : decode cX10_dispatchedBy 82 = .ok (.getfield 150, 3) := by decide +kernel
theorem dX10_dispatchedBy_85 : decode cX10_dispatchedBy 85 = .ok (.if_icmp .ge 49, 3) := by decide +kernel
theorem dX10_dispatchedBy_88 : decode cX10_dispatchedBy 88 = .ok (.aload_n 0, 1) := by decide +kernel
theorem dX10_dispatchedBy_89 : decode cX10_dispatchedBy 89 = .ok (.iload 5, 2) := by decide +kernel
theorem dX10_dispatchedBy_91 : decode cX10_dispatchedBy 91 = .ok (.invokevirtual 320, 3) := by decide +kernel
theorem dX10_dispatchedBy_94 : decode cX10_dispatchedBy 94 = .ok (.ifCond .eq 34, 3) := by decide +kernel
theorem dX10_dispatchedBy_97 : decode cX10_dispatchedBy 97 = .ok (.iload 4, 2) := by decide +kernel
theorem dX10_dispatchedBy_99 : decode cX10_dispatchedBy 99 = .ok (.ifCond .lt 20, 3) := by decide +kernel
theorem dX10_dispatchedBy_102 : decode cX10_dispatchedBy 102 = .ok (.aload_n 0, 1) := by decide +kernel
theorem dX10_dispatchedBy_103 : decode cX10_dispatchedBy 103 = .ok (.aload_n 0, 1) := by decide +kernel
theorem dX10_dispatchedBy_104 : decode cX10_dispatchedBy 104 = .ok (.getfield 87, 3) := by decide +kernel
theorem dX10_dispatchedBy_107 : decode cX10_dispatchedBy 107 = .ok (.iload 5, 2) := by decide +kernel
theorem dX10_dispatchedBy_109 : decode cX10_dispatchedBy 109 = .ok (.iaload, 1) := by decide +kernel
theorem dX10_dispatchedBy_110 : decode cX10_dispatchedBy 110 = .ok (.iload 4, 2) := by decide +kernel
theorem dX10_dispatchedBy_112 : decode cX10_dispatchedBy 112 = .ok (.iload_n 1, 1) := by decide +kernel
theorem dX10_dispatchedBy_113 : decode cX10_dispatchedBy 113 = .ok (.invokevirtual 323, 3) := by decide +kernel
theorem dX10_dispatchedBy_116 : decode cX10_dispatchedBy 116 = .ok (.ifCond .eq 12, 3) := by decide +kernel
theorem dX10_dispatchedBy_119 : decode cX10_dispatchedBy 119 = .ok (.aload_n 0, 1) := by decide +kernel
theorem dX10_dispatchedBy_120 : decode cX10_dispatchedBy 120 = .ok (.getfield 87, 3) := by decide +kernel
theorem dX10_dispatchedBy_123 : decode cX10_dispatchedBy 123 = .ok (.iload 5, 2) := by decide +kernel
theorem dX10_dispatchedBy_125 : decode cX10_dispatchedBy 125 = .ok (.iaload, 1) := by decide +kernel
theorem dX10_dispatchedBy_126 : decode cX10_dispatchedBy 126 = .ok (.istore 4, 2) := by decide +kernel
theorem dX10_dispatchedBy_128 : decode cX10_dispatchedBy 128 = .ok (.iinc 5 1, 3) := by decide +kernel
theorem dX10_dispatchedBy_131 : decode cX10_dispatchedBy 131 = .ok (.goto (-52), 3) := by decide +kernel
theorem dX10_dispatchedBy_134 : decode cX10_dispatchedBy 134 = .ok (.aload_n 0, 1) := by decide +kernel
theorem dX10_dispatchedBy_135 : decode cX10_dispatchedBy 135 = .ok (.iload 4, 2) := by decide +kernel
theorem dX10_dispatchedBy_137 : decode cX10_dispatchedBy 137 = .ok (.invokevirtual 311, 3) := by decide +kernel
theorem dX10_dispatchedBy_140 : decode cX10_dispatchedBy 140 = .ok (.aload_n 0, 1) := by decide +kernel
theorem dX10_dispatchedBy_141 : decode cX10_dispatchedBy 141 = .ok (.getfield 19, 3) := by decide +kernel
theorem dX10_dispatchedBy_144 : decode cX10_dispatchedBy 144 = .ok (.iload 4, 2) := by decide +kernel
theorem dX10_dispatchedBy_146 : decode cX10_dispatchedBy 146 = .ok (.iaload, 1) := by decide +kernel
theorem dX10_dispatchedBy_147 : decode cX10_dispatchedBy 147 = .ok (.iadd, 1) := by decide +kernel
theorem dX10_dispatchedBy_148 : decode cX10_dispatchedBy 148 = .ok (.istore 5, 2) := by decide +kernel
theorem dX10_dispatchedBy_150 : decode cX10_dispatchedBy 150 = .ok (.aload_n 0, 1) := by decide +kernel
theorem dX10_dispatchedBy_151 : decode cX10_dispatchedBy 151 = .ok (.getfield 90, 3) := by decide +kernel
theorem dX10_dispatchedBy_154 : decode cX10_dispatchedBy 154 = .ok (.aload_n 0, 1) := by decide +kernel
theorem dX10_dispatchedBy_155 : decode cX10_dispatchedBy 155 = .ok (.getfield 9, 3) := by decide +kernel
theorem dX10_dispatchedBy_158 : decode cX10_dispatchedBy 158 = .ok (.iload 4, 2) := by decide +kernel
theorem dX10_dispatchedBy_160 : decode cX10_dispatchedBy 160 = .ok (.iaload, 1) := by decide +kernel
theorem dX10_dispatchedBy_161 : decode cX10_dispatchedBy 161 = .ok (.iload 5, 2) := by decide +kernel
theorem dX10_dispatchedBy_163 : decode cX10_dispatchedBy 163 = .ok (.iastore, 1) := by decide +kernel
theorem dX10_dispatchedBy_164 : decode cX10_dispatchedBy 164 = .ok (.aload_n 0, 1) := by decide +kernel
theorem dX10_dispatchedBy_165 : decode cX10_dispatchedBy 165 = .ok (.getfield 93, 3) := by decide +kernel
theorem dX10_dispatchedBy_168 : decode cX10_dispatchedBy 168 = .ok (.aload_n 0, 1) := by decide +kernel
theorem dX10_dispatchedBy_169 : decode cX10_dispatchedBy 169 = .ok (.getfield 16, 3) := by decide +kernel
theorem dX10_dispatchedBy_172 : decode cX10_dispatchedBy 172 = .ok (.iload 4, 2) := by decide +kernel
theorem dX10_dispatchedBy_174 : decode cX10_dispatchedBy 174 = .ok (.iaload, 1) := by decide +kernel
theorem dX10_dispatchedBy_175 : decode cX10_dispatchedBy 175 = .ok (.iload 5, 2) := by decide +kernel
theorem dX10_dispatchedBy_177 : decode cX10_dispatchedBy 177 = .ok (.iastore, 1) := by decide +kernel
theorem dX10_dispatchedBy_178 : decode cX10_dispatchedBy 178 = .ok (.aload_n 0, 1) := by decide +kernel
theorem dX10_dispatchedBy_179 : decode cX10_dispatchedBy 179 = .ok (.getfield 87, 3) := by decide +kernel
theorem dX10_dispatchedBy_182 : decode cX10_dispatchedBy 182 = .ok (.aload_n 0, 1) := by decide +kernel
theorem dX10_dispatchedBy_183 : decode cX10_dispatchedBy 183 = .ok (.getfield 9, 3) := by decide +kernel
theorem dX10_dispatchedBy_186 : decode cX10_dispatchedBy 186 = .ok (.iload 4, 2) := by decide +kernel
theorem dX10_dispatchedBy_188 : decode cX10_dispatchedBy 188 = .ok (.iaload, 1) := by decide +kernel
theorem dX10_dispatchedBy_189 : decode cX10_dispatchedBy 189 = .ok (.dup2, 1) := by decide +kernel
theorem dX10_dispatchedBy_190 : decode cX10_dispatchedBy 190 = .ok (.iaload, 1) := by decide +kernel
theorem dX10_dispatchedBy_191 : decode cX10_dispatchedBy 191 = .ok (.iconst 1, 1) := by decide +kernel
theorem dX10_dispatchedBy_192 : decode cX10_dispatchedBy 192 = .ok (.iadd, 1) := by decide +kernel
theorem dX10_dispatchedBy_193 : decode cX10_dispatchedBy 193 = .ok (.iastore, 1) := by decide +kernel
theorem dX10_dispatchedBy_194 : decode cX10_dispatchedBy 194 = .ok (.aload_n 0, 1) := by decide +kernel
theorem dX10_dispatchedBy_195 : decode cX10_dispatchedBy 195 = .ok (.iload 4, 2) := by decide +kernel
theorem dX10_dispatchedBy_197 : decode cX10_dispatchedBy 197 = .ok (.invokevirtual 153, 3) := by decide +kernel
theorem dX10_dispatchedBy_200 : decode cX10_dispatchedBy 200 = .ok (.iload_n 2, 1) := by decide +kernel
theorem dX10_dispatchedBy_201 : decode cX10_dispatchedBy 201 = .ok (.iload 5, 2) := by decide +kernel
theorem dX10_dispatchedBy_203 : decode cX10_dispatchedBy 203 = .ok (.invokestatic 214, 3) := by decide +kernel
theorem dX10_dispatchedBy_206 : decode cX10_dispatchedBy 206 = .ok (.istore_n 2, 1) := by decide +kernel
theorem dX10_dispatchedBy_207 : decode cX10_dispatchedBy 207 = .ok (.iinc 3 1, 3) := by decide +kernel
theorem dX10_dispatchedBy_210 : decode cX10_dispatchedBy 210 = .ok (.goto (-145), 3) := by decide +kernel
theorem dX10_dispatchedBy_213 : decode cX10_dispatchedBy 213 = .ok (.iload_n 2, 1) := by decide +kernel
theorem dX10_dispatchedBy_214 : decode cX10_dispatchedBy 214 = .ok (.ireturn, 1) := by decide +kernel
theorem dX10_dispatch_0 : decode cX10_dispatch 0 = .ok (.iload_n 1, 1) := by decide +kernel
theorem dX10_dispatch_1 : decode cX10_dispatch 1 = .ok (.iconst 0, 1) := by decide +kernel
theorem dX10_dispatch_2 : decode cX10_dispatch 2 = .ok (.iconst 3, 1) := by decide +kernel
theorem dX10_dispatch_3 : decode cX10_dispatch 3 = .ok (.invokestatic 108, 3) := by decide +kernel
theorem dX10_dispatch_6 : decode cX10_dispatch 6 = .ok (.ifCond .ne 5, 3) := by decide +kernel
theorem dX10_dispatch_9 : decode cX10_dispatch 9 = .ok (.iconst (-1), 1) := by decide +kernel
theorem dX10_dispatch_10 : decode cX10_dispatch 10 = .ok (.ireturn, 1) := by decide +kernel
theorem dX10_dispatch_11 : decode cX10_dispatch 11 = .ok (.aload_n 0, 1) := by decide +kernel
theorem dX10_dispatch_12 : decode cX10_dispatch 12 = .ok (.getfield 105, 3) := by decide +kernel
theorem dX10_dispatch_15 : decode cX10_dispatch 15 = .ok (.ifCond .ne 6, 3) := by decide +kernel
theorem dX10_dispatch_18 : decode cX10_dispatch 18 = .ok (.bipush (-5), 2) := by decide +kernel
theorem dX10_dispatch_20 : decode cX10_dispatch 20 = .ok (.ireturn, 1) := by decide +kernel
theorem dX10_dispatch_21 : decode cX10_dispatch 21 = .ok (.aload_n 0, 1) := by decide +kernel
theorem dX10_dispatch_22 : decode cX10_dispatch 22 = .ok (.iload_n 1, 1) := by decide +kernel
theorem dX10_dispatch_23 : decode cX10_dispatch 23 = .ok (.invokevirtual 326, 3) := by decide +kernel
theorem dX10_dispatch_26 : decode cX10_dispatch 26 = .ok (.istore_n 2, 1) := by decide +kernel
theorem dX10_dispatch_27 : decode cX10_dispatch 27 = .ok (.aload_n 0, 1) := by decide +kernel
theorem dX10_dispatch_28 : decode cX10_dispatch 28 = .ok (.invokevirtual 188, 3) := by decide +kernel
theorem dX10_dispatch_31 : decode cX10_dispatch 31 = .ok (.iload_n 2, 1) := by decide +kernel
theorem dX10_dispatch_32 : decode cX10_dispatch 32 = .ok (.ireturn, 1) := by decide +kernel
theorem dX10_would_0 : decode cX10_would 0 = .ok (.iload_n 1, 1) := by decide +kernel
theorem dX10_would_1 : decode cX10_would 1 = .ok (.iconst 0, 1) := by decide +kernel
theorem dX10_would_2 : decode cX10_would 2 = .ok (.iconst 3, 1) := by decide +kernel
theorem dX10_would_3 : decode cX10_would 3 = .ok (.invokestatic 108, 3) := by decide +kernel
theorem dX10_would_6 : decode cX10_would 6 = .ok (.ifCond .ne 5, 3) := by decide +kernel
theorem dX10_would_9 : decode cX10_would 9 = .ok (.iconst (-1), 1) := by decide +kernel
theorem dX10_would_10 : decode cX10_would 10 = .ok (.ireturn, 1) := by decide +kernel
theorem dX10_would_11 : decode cX10_would 11 = .ok (.aload_n 0, 1) := by decide +kernel
theorem dX10_would_12 : decode cX10_would 12 = .ok (.getfield 105, 3) := by decide +kernel
theorem dX10_would_15 : decode cX10_would 15 = .ok (.ifCond .ne 6, 3) := by decide +kernel
theorem dX10_would_18 : decode cX10_would 18 = .ok (.bipush (-5), 2) := by decide +kernel
theorem dX10_would_20 : decode cX10_would 20 = .ok (.ireturn, 1) := by decide +kernel
theorem dX10_would_21 : decode cX10_would 21 = .ok (.aload_n 0, 1) := by decide +kernel
theorem dX10_would_22 : decode cX10_would 22 = .ok (.iload_n 1, 1) := by decide +kernel
theorem dX10_would_23 : decode cX10_would 23 = .ok (.invokevirtual 326, 3) := by decide +kernel
theorem dX10_would_26 : decode cX10_would 26 = .ok (.istore_n 2, 1) := by decide +kernel
theorem dX10_would_27 : decode cX10_would 27 = .ok (.aload_n 0, 1) := by decide +kernel
theorem dX10_would_28 : decode cX10_would 28 = .ok (.invokevirtual 168, 3) := by decide +kernel
theorem dX10_would_31 : decode cX10_would 31 = .ok (.iload_n 2, 1) := by decide +kernel
theorem dX10_would_32 : decode cX10_would 32 = .ok (.ireturn, 1) := by decide +kernel
theorem dX10_headOf_0 : decode cX10_headOf 0 = .ok (.iconst 0, 1) := by decide +kernel
theorem dX10_headOf_1 : decode cX10_headOf 1 = .ok (.istore_n 2, 1) := by decide +kernel
theorem dX10_headOf_2 : decode cX10_headOf 2 = .ok (.iload_n 1, 1) := by decide +kernel
theorem dX10_headOf_3 : decode cX10_headOf 3 = .ok (.aload_n 0, 1) := by decide +kernel
theorem dX10_headOf_4 : decode cX10_headOf 4 = .ok (.getfield 13, 3) := by decide +kernel
theorem dX10_headOf_7 : decode cX10_headOf 7 = .ok (.iload_n 1, 1) := by decide +kernel
theorem dX10_headOf_8 : decode cX10_headOf 8 = .ok (.iaload, 1) := by decide +kernel
theorem dX10_headOf_9 : decode cX10_headOf 9 = .ok (.isub, 1) := by decide +kernel
theorem dX10_headOf_10 : decode cX10_headOf 10 = .ok (.istore_n 3, 1) := by decide +kernel
theorem dX10_headOf_11 : decode cX10_headOf 11 = .ok (.iload_n 3, 1) := by decide +kernel
theorem dX10_headOf_12 : decode cX10_headOf 12 = .ok (.iload_n 1, 1) := by decide +kernel
theorem dX10_headOf_13 : decode cX10_headOf 13 = .ok (.if_icmp .ge 18, 3) := by decide +kernel
theorem dX10_headOf_16 : decode cX10_headOf 16 = .ok (.iload_n 2, 1) := by decide +kernel
theorem dX10_headOf_17 : decode cX10_headOf 17 = .ok (.aload_n 0, 1) := by decide +kernel
theorem dX10_headOf_18 : decode cX10_headOf 18 = .ok (.getfield 19, 3) := by decide +kernel
theorem dX10_headOf_21 : decode cX10_headOf 21 = .ok (.iload_n 3, 1) := by decide +kernel
theorem dX10_headOf_22 : decode cX10_headOf 22 = .ok (.iaload, 1) := by decide +kernel
theorem dX10_headOf_23 : decode cX10_headOf 23 = .ok (.iadd, 1) := by decide +kernel
theorem dX10_headOf_24 : decode cX10_headOf 24 = .ok (.istore_n 2, 1) := by decide +kernel
theorem dX10_headOf_25 : decode cX10_headOf 25 = .ok (.iinc 3 1, 3) := by decide +kernel
theorem dX10_headOf_28 : decode cX10_headOf 28 = .ok (.goto (-17), 3) := by decide +kernel
theorem dX10_headOf_31 : decode cX10_headOf 31 = .ok (.iload_n 2, 1) := by decide +kernel
theorem dX10_headOf_32 : decode cX10_headOf 32 = .ok (.ireturn, 1) := by decide +kernel
theorem dX10_tailOf_0 : decode cX10_tailOf 0 = .ok (.aload_n 0, 1) := by decide +kernel
theorem dX10_tailOf_1 : decode cX10_tailOf 1 = .ok (.iload_n 1, 1) := by decide +kernel
theorem dX10_tailOf_2 : decode cX10_tailOf 2 = .ok (.invokevirtual 308, 3) := by decide +kernel
theorem dX10_tailOf_5 : decode cX10_tailOf 5 = .ok (.aload_n 0, 1) := by decide +kernel
theorem dX10_tailOf_6 : decode cX10_tailOf 6 = .ok (.getfield 19, 3) := by decide +kernel
theorem dX10_tailOf_9 : decode cX10_tailOf 9 = .ok (.iload_n 1, 1) := by decide +kernel
theorem dX10_tailOf_10 : decode cX10_tailOf 10 = .ok (.iaload, 1) := by decide +kernel
theorem dX10_tailOf_11 : decode cX10_tailOf 11 = .ok (.isub, 1) := by decide +kernel
theorem dX10_tailOf_12 : decode cX10_tailOf 12 = .ok (.ireturn, 1) := by decide +kernel
theorem dX10_takes_0 : decode cX10_takes 0 = .ok (.aload_n 0, 1) := by decide +kernel
theorem dX10_takes_1 : decode cX10_takes 1 = .ok (.iconst 0, 1) := by decide +kernel
theorem dX10_takes_2 : decode cX10_takes 2 = .ok (.putfield 329, 3) := by decide +kernel
theorem dX10_takes_5 : decode cX10_takes 5 = .ok (.iconst 0, 1) := by decide +kernel
theorem dX10_takes_6 : decode cX10_takes 6 = .ok (.istore_n 2, 1) := by decide +kernel
theorem dX10_takes_7 : decode cX10_takes 7 = .ok (.iload_n 2, 1) := by decide +kernel
theorem dX10_takes_8 : decode cX10_takes 8 = .ok (.aload_n 0, 1) := by decide +kernel
theorem dX10_takes_9 : decode cX10_takes 9 = .ok (.getfield 105, 3) := by decide +kernel
theorem dX10_takes_12 : decode cX10_takes 12 = .ok (.if_icmp .ge 39, 3) := by decide +kernel
theorem dX10_takes_15 : decode cX10_takes 15 = .ok (.aload_n 0, 1) := by decide +kernel
theorem dX10_takes_16 : decode cX10_takes 16 = .ok (.getfield 16, 3) := by decide +kernel
theorem dX10_takes_19 : decode cX10_takes 19 = .ok (.iload_n 2, 1) := by decide +kernel
theorem dX10_takes_20 : decode cX10_takes 20 = .ok (.iaload, 1) := by decide +kernel
theorem dX10_takes_21 : decode cX10_takes 21 = .ok (.iload_n 1, 1) := by decide +kernel
theorem dX10_takes_22 : decode cX10_takes 22 = .ok (.if_icmp .ne 23, 3) := by decide +kernel
theorem dX10_takes_25 : decode cX10_takes 25 = .ok (.aload_n 0, 1) := by decide +kernel
theorem dX10_takes_26 : decode cX10_takes 26 = .ok (.getfield 96, 3) := by decide +kernel
theorem dX10_takes_29 : decode cX10_takes 29 = .ok (.aload_n 0, 1) := by decide +kernel
theorem dX10_takes_30 : decode cX10_takes 30 = .ok (.getfield 329, 3) := by decide +kernel
theorem dX10_takes_33 : decode cX10_takes 33 = .ok (.iload_n 2, 1) := by decide +kernel
theorem dX10_takes_34 : decode cX10_takes 34 = .ok (.iastore, 1) := by decide +kernel
theorem dX10_takes_35 : decode cX10_takes 35 = .ok (.aload_n 0, 1) := by decide +kernel
theorem dX10_takes_36 : decode cX10_takes 36 = .ok (.dup, 1) := by decide +kernel
theorem dX10_takes_37 : decode cX10_takes 37 = .ok (.getfield 329, 3) := by decide +kernel
theorem dX10_takes_40 : decode cX10_takes 40 = .ok (.iconst 1, 1) := by decide +kernel
theorem dX10_takes_41 : decode cX10_takes 41 = .ok (.iadd, 1) := by decide +kernel
theorem dX10_takes_42 : decode cX10_takes 42 = .ok (.putfield 329, 3) := by decide +kernel
theorem dX10_takes_45 : decode cX10_takes 45 = .ok (.iinc 2 1, 3) := by decide +kernel
theorem dX10_takes_48 : decode cX10_takes 48 = .ok (.goto (-41), 3) := by decide +kernel
theorem dX10_takes_51 : decode cX10_takes 51 = .ok (.return_, 1) := by decide +kernel
theorem dX10_bestOf_0 : decode cX10_bestOf 0 = .ok (.iload_n 1, 1) := by decide +kernel
theorem dX10_bestOf_1 : decode cX10_bestOf 1 = .ok (.ifCond .ne 5, 3) := by decide +kernel
theorem dX10_bestOf_4 : decode cX10_bestOf 4 = .ok (.iload_n 3, 1) := by decide +kernel
theorem dX10_bestOf_5 : decode cX10_bestOf 5 = .ok (.ireturn, 1) := by decide +kernel
theorem dX10_bestOf_6 : decode cX10_bestOf 6 = .ok (.iconst (-1), 1) := by decide +kernel
theorem dX10_bestOf_7 : decode cX10_bestOf 7 = .ok (.istore 4, 2) := by decide +kernel
theorem dX10_bestOf_9 : decode cX10_bestOf 9 = .ok (.iconst 0, 1) := by decide +kernel
theorem dX10_bestOf_10 : decode cX10_bestOf 10 = .ok (.istore 5, 2) := by decide +kernel
theorem dX10_bestOf_12 : decode cX10_bestOf 12 = .ok (.iload 5, 2) := by decide +kernel
theorem dX10_bestOf_14 : decode cX10_bestOf 14 = .ok (.aload_n 0, 1) := by decide +kernel
theorem dX10_bestOf_15 : decode cX10_bestOf 15 = .ok (.getfield 329, 3) := by decide +kernel
theorem dX10_bestOf_18 : decode cX10_bestOf 18 = .ok (.if_icmp .ge 104, 3) := by decide +kernel
theorem dX10_bestOf_21 : decode cX10_bestOf 21 = .ok (.iload_n 1, 1) := by decide +kernel
theorem dX10_bestOf_22 : decode cX10_bestOf 22 = .ok (.iload 5, 2) := by decide +kernel
theorem dX10_bestOf_24 : decode cX10_bestOf 24 = .ok (.ishr, 1) := by decide +kernel
theorem dX10_bestOf_25 : decode cX10_bestOf 25 = .ok (.iconst 1, 1) := by decide +kernel
theorem dX10_bestOf_26 : decode cX10_bestOf 26 = .ok (.iand, 1) := by decide +kernel
theorem dX10_bestOf_27 : decode cX10_bestOf 27 = .ok (.iconst 1, 1) := by decide +kernel
theorem dX10_bestOf_28 : decode cX10_bestOf 28 = .ok (.if_icmp .ne 88, 3) := by decide +kernel
theorem dX10_bestOf_31 : decode cX10_bestOf 31 = .ok (.iload_n 2, 1) := by decide +kernel
theorem dX10_bestOf_32 : decode cX10_bestOf 32 = .ok (.aload_n 0, 1) := by decide +kernel
theorem dX10_bestOf_33 : decode cX10_bestOf 33 = .ok (.aload_n 0, 1) := by decide +kernel
theorem dX10_bestOf_34 : decode cX10_bestOf 34 = .ok (.getfield 96, 3) := by decide +kernel
theorem dX10_bestOf_37 : decode cX10_bestOf 37 = .ok (.iload 5, 2) := by decide +kernel
theorem dX10_bestOf_39 : decode cX10_bestOf 39 = .ok (.iaload, 1) := by decide +kernel
theorem dX10_bestOf_40 : decode cX10_bestOf 40 = .ok (.invokevirtual 332, 3) := by decide +kernel
theorem dX10_bestOf_43 : decode cX10_bestOf 43 = .ok (.invokestatic 214, 3) := by decide +kernel
theorem dX10_bestOf_46 : decode cX10_bestOf 46 = .ok (.aload_n 0, 1) := by decide +kernel
theorem dX10_bestOf_47 : decode cX10_bestOf 47 = .ok (.getfield 19, 3) := by decide +kernel
theorem dX10_bestOf_50 : decode cX10_bestOf 50 = .ok (.aload_n 0, 1) := by decide +kernel
theorem dX10_bestOf_51 : decode cX10_bestOf 51 = .ok (.getfield 96, 3) := by decide +kernel
theorem dX10_bestOf_54 : decode cX10_bestOf 54 = .ok (.iload 5, 2) := by decide +kernel
theorem dX10_bestOf_56 : decode cX10_bestOf 56 = .ok (.iaload, 1) := by decide +kernel
theorem dX10_bestOf_57 : decode cX10_bestOf 57 = .ok (.iaload, 1) := by decide +kernel
theorem dX10_bestOf_58 : decode cX10_bestOf 58 = .ok (.iadd, 1) := by decide +kernel
theorem dX10_bestOf_59 : decode cX10_bestOf 59 = .ok (.istore 6, 2) := by decide +kernel
theorem dX10_bestOf_61 : decode cX10_bestOf 61 = .ok (.aload_n 0, 1) := by decide +kernel
theorem dX10_bestOf_62 : decode cX10_bestOf 62 = .ok (.iload_n 1, 1) := by decide +kernel
theorem dX10_bestOf_63 : decode cX10_bestOf 63 = .ok (.iconst 1, 1) := by decide +kernel
theorem dX10_bestOf_64 : decode cX10_bestOf 64 = .ok (.iload 5, 2) := by decide +kernel
theorem dX10_bestOf_66 : decode cX10_bestOf 66 = .ok (.ishl, 1) := by decide +kernel
theorem dX10_bestOf_67 : decode cX10_bestOf 67 = .ok (.iconst (-1), 1) := by decide +kernel
theorem dX10_bestOf_68 : decode cX10_bestOf 68 = .ok (.ixor, 1) := by decide +kernel
theorem dX10_bestOf_69 : decode cX10_bestOf 69 = .ok (.iand, 1) := by decide +kernel
theorem dX10_bestOf_70 : decode cX10_bestOf 70 = .ok (.iload 6, 2) := by decide +kernel
theorem dX10_bestOf_72 : decode cX10_bestOf 72 = .ok (.iload_n 3, 1) := by decide +kernel
theorem dX10_bestOf_73 : decode cX10_bestOf 73 = .ok (.iload 6, 2) := by decide +kernel
theorem dX10_bestOf_75 : decode cX10_bestOf 75 = .ok (.aload_n 0, 1) := by decide +kernel
theorem dX10_bestOf_76 : decode cX10_bestOf 76 = .ok (.aload_n 0, 1) := by decide +kernel
theorem dX10_bestOf_77 : decode cX10_bestOf 77 = .ok (.getfield 96, 3) := by decide +kernel
theorem dX10_bestOf_80 : decode cX10_bestOf 80 = .ok (.iload 5, 2) := by decide +kernel
theorem dX10_bestOf_82 : decode cX10_bestOf 82 = .ok (.iaload, 1) := by decide +kernel
theorem dX10_bestOf_83 : decode cX10_bestOf 83 = .ok (.invokevirtual 335, 3) := by decide +kernel
theorem dX10_bestOf_86 : decode cX10_bestOf 86 = .ok (.iadd, 1) := by decide +kernel
theorem dX10_bestOf_87 : decode cX10_bestOf 87 = .ok (.invokestatic 214, 3) := by decide +kernel
theorem dX10_bestOf_90 : decode cX10_bestOf 90 = .ok (.invokevirtual 338, 3) := by decide +kernel
theorem dX10_bestOf_93 : decode cX10_bestOf 93 = .ok (.istore 7, 2) := by decide +kernel
theorem dX10_bestOf_95 : decode cX10_bestOf 95 = .ok (.iload 4, 2) := by decide +kernel
theorem dX10_bestOf_97 : decode cX10_bestOf 97 = .ok (.ifCond .lt 10, 3) := by decide +kernel
theorem dX10_bestOf_100 : decode cX10_bestOf 100 = .ok (.iload 7, 2) := by decide +kernel
theorem dX10_bestOf_102 : decode cX10_bestOf 102 = .ok (.iload 4, 2) := by decide +kernel
theorem dX10_bestOf_104 : decode cX10_bestOf 104 = .ok (.if_icmp .ge 8, 3) := by decide +kernel
theorem dX10_bestOf_107 : decode cX10_bestOf 107 = .ok (.iload 7, 2) := by decide +kernel
theorem dX10_bestOf_109 : decode cX10_bestOf 109 = .ok (.goto 5, 3) := by decide +kernel
theorem dX10_bestOf_112 : decode cX10_bestOf 112 = .ok (.iload 4, 2) := by decide +kernel
theorem dX10_bestOf_114 : decode cX10_bestOf 114 = .ok (.istore 4, 2) := by decide +kernel
theorem dX10_bestOf_116 : decode cX10_bestOf 116 = .ok (.iinc 5 1, 3) := by decide +kernel
theorem dX10_bestOf_119 : decode cX10_bestOf 119 = .ok (.goto (-107), 3) := by decide +kernel
theorem dX10_bestOf_122 : decode cX10_bestOf 122 = .ok (.iload 4, 2) := by decide +kernel
theorem dX10_bestOf_124 : decode cX10_bestOf 124 = .ok (.ireturn, 1) := by decide +kernel
theorem dX10_nextAt_0 : decode cX10_nextAt 0 = .ok (.iconst (-1), 1) := by decide +kernel
theorem dX10_nextAt_1 : decode cX10_nextAt 1 = .ok (.istore_n 2, 1) := by decide +kernel
theorem dX10_nextAt_2 : decode cX10_nextAt 2 = .ok (.iconst 0, 1) := by decide +kernel
theorem dX10_nextAt_3 : decode cX10_nextAt 3 = .ok (.istore_n 3, 1) := by decide +kernel
theorem dX10_nextAt_4 : decode cX10_nextAt 4 = .ok (.iload_n 3, 1) := by decide +kernel
theorem dX10_nextAt_5 : decode cX10_nextAt 5 = .ok (.aload_n 0, 1) := by decide +kernel
theorem dX10_nextAt_6 : decode cX10_nextAt 6 = .ok (.getfield 329, 3) := by decide +kernel
theorem dX10_nextAt_9 : decode cX10_nextAt 9 = .ok (.if_icmp .ge 73, 3) := by decide +kernel
theorem dX10_nextAt_12 : decode cX10_nextAt 12 = .ok (.aload_n 0, 1) := by decide +kernel
theorem dX10_nextAt_13 : decode cX10_nextAt 13 = .ok (.getfield 99, 3) := by decide +kernel
theorem dX10_nextAt_16 : decode cX10_nextAt 16 = .ok (.iload_n 3, 1) := by decide +kernel
theorem dX10_nextAt_17 : decode cX10_nextAt 17 = .ok (.iaload, 1) := by decide +kernel
theorem dX10_nextAt_18 : decode cX10_nextAt 18 = .ok (.ifCond .le 21, 3) := by decide +kernel
theorem dX10_nextAt_21 : decode cX10_nextAt 21 = .ok (.aload_n 0, 1) := by decide +kernel
theorem dX10_nextAt_22 : decode cX10_nextAt 22 = .ok (.aload_n 0, 1) := by decide +kernel
theorem dX10_nextAt_23 : decode cX10_nextAt 23 = .ok (.getfield 96, 3) := by decide +kernel
theorem dX10_nextAt_26 : decode cX10_nextAt 26 = .ok (.iload_n 3, 1) := by decide +kernel
theorem dX10_nextAt_27 : decode cX10_nextAt 27 = .ok (.iaload, 1) := by decide +kernel
theorem dX10_nextAt_28 : decode cX10_nextAt 28 = .ok (.invokevirtual 332, 3) := by decide +kernel
theorem dX10_nextAt_31 : decode cX10_nextAt 31 = .ok (.iload_n 1, 1) := by decide +kernel
theorem dX10_nextAt_32 : decode cX10_nextAt 32 = .ok (.if_icmp .gt 7, 3) := by decide +kernel
theorem dX10_nextAt_35 : decode cX10_nextAt 35 = .ok (.iconst 1, 1) := by decide +kernel
theorem dX10_nextAt_36 : decode cX10_nextAt 36 = .ok (.goto 4, 3) := by decide +kernel
theorem dX10_nextAt_39 : decode cX10_nextAt 39 = .ok (.iconst 0, 1) := by decide +kernel
theorem dX10_nextAt_40 : decode cX10_nextAt 40 = .ok (.istore 4, 2) := by decide +kernel
theorem dX10_nextAt_42 : decode cX10_nextAt 42 = .ok (.iload 4, 2) := by decide +kernel
theorem dX10_nextAt_44 : decode cX10_nextAt 44 = .ok (.ifCond .eq 32, 3) := by decide +kernel
theorem dX10_nextAt_47 : decode cX10_nextAt 47 = .ok (.iload_n 2, 1) := by decide +kernel
theorem dX10_nextAt_48 : decode cX10_nextAt 48 = .ok (.ifCond .lt 26, 3) := by decide +kernel
theorem dX10_nextAt_51 : decode cX10_nextAt 51 = .ok (.aload_n 0, 1) := by decide +kernel
theorem dX10_nextAt_52 : decode cX10_nextAt 52 = .ok (.aload_n 0, 1) := by decide +kernel
theorem dX10_nextAt_53 : decode cX10_nextAt 53 = .ok (.getfield 96, 3) := by decide +kernel
theorem dX10_nextAt_56 : decode cX10_nextAt 56 = .ok (.iload_n 3, 1) := by decide +kernel
theorem dX10_nextAt_57 : decode cX10_nextAt 57 = .ok (.iaload, 1) := by decide +kernel
theorem dX10_nextAt_58 : decode cX10_nextAt 58 = .ok (.invokevirtual 335, 3) := by decide +kernel
theorem dX10_nextAt_61 : decode cX10_nextAt 61 = .ok (.aload_n 0, 1) := by decide +kernel
theorem dX10_nextAt_62 : decode cX10_nextAt 62 = .ok (.aload_n 0, 1) := by decide +kernel
theorem dX10_nextAt_63 : decode cX10_nextAt 63 = .ok (.getfield 96, 3) := by decide +kernel
theorem dX10_nextAt_66 : decode cX10_nextAt 66 = .ok (.iload_n 2, 1) := by decide +kernel
theorem dX10_nextAt_67 : decode cX10_nextAt 67 = .ok (.iaload, 1) := by decide +kernel
theorem dX10_nextAt_68 : decode cX10_nextAt 68 = .ok (.invokevirtual 335, 3) := by decide +kernel
theorem dX10_nextAt_71 : decode cX10_nextAt 71 = .ok (.if_icmp .le 5, 3) := by decide +kernel
theorem dX10_nextAt_74 : decode cX10_nextAt 74 = .ok (.iload_n 3, 1) := by decide +kernel
theorem dX10_nextAt_75 : decode cX10_nextAt 75 = .ok (.istore_n 2, 1) := by decide +kernel
theorem dX10_nextAt_76 : decode cX10_nextAt 76 = .ok (.iinc 3 1, 3) := by decide +kernel
theorem dX10_nextAt_79 : decode cX10_nextAt 79 = .ok (.goto (-75), 3) := by decide +kernel
theorem dX10_nextAt_82 : decode cX10_nextAt 82 = .ok (.iload_n 2, 1) := by decide +kernel
theorem dX10_nextAt_83 : decode cX10_nextAt 83 = .ok (.ireturn, 1) := by decide +kernel
theorem dX10_preempted_0 : decode cX10_preempted 0 = .ok (.iconst 0, 1) := by decide +kernel
theorem dX10_preempted_1 : decode cX10_preempted 1 = .ok (.istore_n 1, 1) := by decide +kernel
theorem dX10_preempted_2 : decode cX10_preempted 2 = .ok (.iconst 0, 1) := by decide +kernel
theorem dX10_preempted_3 : decode cX10_preempted 3 = .ok (.istore_n 2, 1) := by decide +kernel
theorem dX10_preempted_4 : decode cX10_preempted 4 = .ok (.iload_n 2, 1) := by decide +kernel
theorem dX10_preempted_5 : decode cX10_preempted 5 = .ok (.aload_n 0, 1) := by decide +kernel
theorem dX10_preempted_6 : decode cX10_preempted 6 = .ok (.getfield 329, 3) := by decide +kernel
theorem dX10_preempted_9 : decode cX10_preempted 9 = .ok (.if_icmp .ge 35, 3) := by decide +kernel
theorem dX10_preempted_12 : decode cX10_preempted 12 = .ok (.aload_n 0, 1) := by decide +kernel
theorem dX10_preempted_13 : decode cX10_preempted 13 = .ok (.getfield 99, 3) := by decide +kernel
theorem dX10_preempted_16 : decode cX10_preempted 16 = .ok (.iload_n 2, 1) := by decide +kernel
theorem dX10_preempted_17 : decode cX10_preempted 17 = .ok (.aload_n 0, 1) := by decide +kernel
theorem dX10_preempted_18 : decode cX10_preempted 18 = .ok (.getfield 19, 3) := by decide +kernel
theorem dX10_preempted_21 : decode cX10_preempted 21 = .ok (.aload_n 0, 1) := by decide +kernel
theorem dX10_preempted_22 : decode cX10_preempted 22 = .ok (.getfield 96, 3) := by decide +kernel
theorem dX10_preempted_25 : decode cX10_preempted 25 = .ok (.iload_n 2, 1) := by decide +kernel
theorem dX10_preempted_26 : decode cX10_preempted 26 = .ok (.iaload, 1) := by decide +kernel
theorem dX10_preempted_27 : decode cX10_preempted 27 = .ok (.iaload, 1) := by decide +kernel
theorem dX10_preempted_28 : decode cX10_preempted 28 = .ok (.iastore, 1) := by decide +kernel
theorem dX10_preempted_29 : decode cX10_preempted 29 = .ok (.iload_n 1, 1) := by decide +kernel
theorem dX10_preempted_30 : decode cX10_preempted 30 = .ok (.aload_n 0, 1) := by decide +kernel
theorem dX10_preempted_31 : decode cX10_preempted 31 = .ok (.getfield 99, 3) := by decide +kernel
theorem dX10_preempted_34 : decode cX10_preempted 34 = .ok (.iload_n 2, 1) := by decide +kernel
theorem dX10_preempted_35 : decode cX10_preempted 35 = .ok (.iaload, 1) := by decide +kernel
theorem dX10_preempted_36 : decode cX10_preempted 36 = .ok (.iadd, 1) := by decide +kernel
theorem dX10_preempted_37 : decode cX10_preempted 37 = .ok (.istore_n 1, 1) := by decide +kernel
theorem dX10_preempted_38 : decode cX10_preempted 38 = .ok (.iinc 2 1, 3) := by decide +kernel
theorem dX10_preempted_41 : decode cX10_preempted 41 = .ok (.goto (-37), 3) := by decide +kernel
theorem dX10_preempted_44 : decode cX10_preempted 44 = .ok (.iconst 0, 1) := by decide +kernel
theorem dX10_preempted_45 : decode cX10_preempted 45 = .ok (.istore_n 2, 1) := by decide +kernel
theorem dX10_preempted_46 : decode cX10_preempted 46 = .ok (.iconst 0, 1) := by decide +kernel
theorem dX10_preempted_47 : decode cX10_preempted 47 = .ok (.istore_n 3, 1) := by decide +kernel
theorem dX10_preempted_48 : decode cX10_preempted 48 = .ok (.iload_n 1, 1) := by decide +kernel
theorem dX10_preempted_49 : decode cX10_preempted 49 = .ok (.ifCond .le 69, 3) := by decide +kernel
theorem dX10_preempted_52 : decode cX10_preempted 52 = .ok (.aload_n 0, 1) := by decide +kernel
theorem dX10_preempted_53 : decode cX10_preempted 53 = .ok (.iload_n 3, 1) := by decide +kernel
theorem dX10_preempted_54 : decode cX10_preempted 54 = .ok (.invokevirtual 342, 3) := by decide +kernel
theorem dX10_preempted_57 : decode cX10_preempted 57 = .ok (.istore 4, 2) := by decide +kernel
theorem dX10_preempted_59 : decode cX10_preempted 59 = .ok (.iload 4, 2) := by decide +kernel
theorem dX10_preempted_61 : decode cX10_preempted 61 = .ok (.ifCond .lt 51, 3) := by decide +kernel
theorem dX10_preempted_64 : decode cX10_preempted 64 = .ok (.aload_n 0, 1) := by decide +kernel
theorem dX10_preempted_65 : decode cX10_preempted 65 = .ok (.getfield 99, 3) := by decide +kernel
theorem dX10_preempted_68 : decode cX10_preempted 68 = .ok (.iload 4, 2) := by decide +kernel
theorem dX10_preempted_70 : decode cX10_preempted 70 = .ok (.dup2, 1) := by decide +kernel
theorem dX10_preempted_71 : decode cX10_preempted 71 = .ok (.iaload, 1) := by decide +kernel
theorem dX10_preempted_72 : decode cX10_preempted 72 = .ok (.iconst 1, 1) := by decide +kernel
theorem dX10_preempted_73 : decode cX10_preempted 73 = .ok (.isub, 1) := by decide +kernel
theorem dX10_preempted_74 : decode cX10_preempted 74 = .ok (.iastore, 1) := by decide +kernel
theorem dX10_preempted_75 : decode cX10_preempted 75 = .ok (.iinc 1 (-1), 3) := by decide +kernel
theorem dX10_preempted_78 : decode cX10_preempted 78 = .ok (.aload_n 0, 1) := by decide +kernel
theorem dX10_preempted_79 : decode cX10_preempted 79 = .ok (.getfield 99, 3) := by decide +kernel
theorem dX10_preempted_82 : decode cX10_preempted 82 = .ok (.iload 4, 2) := by decide +kernel
theorem dX10_preempted_84 : decode cX10_preempted 84 = .ok (.iaload, 1) := by decide +kernel
theorem dX10_preempted_85 : decode cX10_preempted 85 = .ok (.ifCond .ne 25, 3) := by decide +kernel
theorem dX10_preempted_88 : decode cX10_preempted 88 = .ok (.iload_n 2, 1) := by decide +kernel
theorem dX10_preempted_89 : decode cX10_preempted 89 = .ok (.iload_n 3, 1) := by decide +kernel
theorem dX10_preempted_90 : decode cX10_preempted 90 = .ok (.iconst 1, 1) := by decide +kernel
theorem dX10_preempted_91 : decode cX10_preempted 91 = .ok (.iadd, 1) := by decide +kernel
theorem dX10_preempted_92 : decode cX10_preempted 92 = .ok (.aload_n 0, 1) := by decide +kernel
theorem dX10_preempted_93 : decode cX10_preempted 93 = .ok (.aload_n 0, 1) := by decide +kernel
theorem dX10_preempted_94 : decode cX10_preempted 94 = .ok (.getfield 96, 3) := by decide +kernel
theorem dX10_preempted_97 : decode cX10_preempted 97 = .ok (.iload 4, 2) := by decide +kernel
theorem dX10_preempted_99 : decode cX10_preempted 99 = .ok (.iaload, 1) := by decide +kernel
theorem dX10_preempted_100 : decode cX10_preempted 100 = .ok (.invokevirtual 335, 3) := by decide +kernel
theorem dX10_preempted_103 : decode cX10_preempted 103 = .ok (.iadd, 1) := by decide +kernel
theorem dX10_preempted_104 : decode cX10_preempted 104 = .ok (.invokestatic 214, 3) := by decide +kernel
theorem dX10_preempted_107 : decode cX10_preempted 107 = .ok (.goto 4, 3) := by decide +kernel
theorem dX10_preempted_110 : decode cX10_preempted 110 = .ok (.iload_n 2, 1) := by decide +kernel
theorem dX10_preempted_111 : decode cX10_preempted 111 = .ok (.istore_n 2, 1) := by decide +kernel
theorem dX10_preempted_112 : decode cX10_preempted 112 = .ok (.iinc 3 1, 3) := by decide +kernel
theorem dX10_preempted_115 : decode cX10_preempted 115 = .ok (.goto (-67), 3) := by decide +kernel
theorem dX10_preempted_118 : decode cX10_preempted 118 = .ok (.iload_n 2, 1) := by decide +kernel
theorem dX10_preempted_119 : decode cX10_preempted 119 = .ok (.ireturn, 1) := by decide +kernel
theorem dX10_alone_0 : decode cX10_alone 0 = .ok (.aload_n 0, 1) := by decide +kernel
theorem dX10_alone_1 : decode cX10_alone 1 = .ok (.iload_n 1, 1) := by decide +kernel
theorem dX10_alone_2 : decode cX10_alone 2 = .ok (.invokevirtual 345, 3) := by decide +kernel
theorem dX10_alone_5 : decode cX10_alone 5 = .ok (.aload_n 0, 1) := by decide +kernel
theorem dX10_alone_6 : decode cX10_alone 6 = .ok (.getfield 329, 3) := by decide +kernel
theorem dX10_alone_9 : decode cX10_alone 9 = .ok (.ifCond .ne 8, 3) := by decide +kernel
theorem dX10_alone_12 : decode cX10_alone 12 = .ok (.bipush (-2), 2) := by decide +kernel
theorem dX10_alone_14 : decode cX10_alone 14 = .ok (.goto 31, 3) := by decide +kernel
theorem dX10_alone_17 : decode cX10_alone 17 = .ok (.aload_n 0, 1) := by decide +kernel
theorem dX10_alone_18 : decode cX10_alone 18 = .ok (.getfield 329, 3) := by decide +kernel
theorem dX10_alone_21 : decode cX10_alone 21 = .ok (.bipush 6, 2) := by decide +kernel
theorem dX10_alone_23 : decode cX10_alone 23 = .ok (.if_icmp .le 8, 3) := by decide +kernel
theorem dX10_alone_26 : decode cX10_alone 26 = .ok (.bipush (-7), 2) := by decide +kernel
theorem dX10_alone_28 : decode cX10_alone 28 = .ok (.goto 17, 3) := by decide +kernel
theorem dX10_alone_31 : decode cX10_alone 31 = .ok (.aload_n 0, 1) := by decide +kernel
theorem dX10_alone_32 : decode cX10_alone 32 = .ok (.iconst 1, 1) := by decide +kernel
theorem dX10_alone_33 : decode cX10_alone 33 = .ok (.aload_n 0, 1) := by decide +kernel
theorem dX10_alone_34 : decode cX10_alone 34 = .ok (.getfield 329, 3) := by decide +kernel
theorem dX10_alone_37 : decode cX10_alone 37 = .ok (.ishl, 1) := by decide +kernel
theorem dX10_alone_38 : decode cX10_alone 38 = .ok (.iconst 1, 1) := by decide +kernel
theorem dX10_alone_39 : decode cX10_alone 39 = .ok (.isub, 1) := by decide +kernel
theorem dX10_alone_40 : decode cX10_alone 40 = .ok (.iconst 0, 1) := by decide +kernel
theorem dX10_alone_41 : decode cX10_alone 41 = .ok (.iconst 0, 1) := by decide +kernel
theorem dX10_alone_42 : decode cX10_alone 42 = .ok (.invokevirtual 338, 3) := by decide +kernel
theorem dX10_alone_45 : decode cX10_alone 45 = .ok (.ireturn, 1) := by decide +kernel
theorem dX10_machine_0 : decode cX10_machine 0 = .ok (.iload_n 1, 1) := by decide +kernel
theorem dX10_machine_1 : decode cX10_machine 1 = .ok (.invokestatic 181, 3) := by decide +kernel
theorem dX10_machine_4 : decode cX10_machine 4 = .ok (.ifCond .eq 12, 3) := by decide +kernel
theorem dX10_machine_7 : decode cX10_machine 7 = .ok (.iload_n 2, 1) := by decide +kernel
theorem dX10_machine_8 : decode cX10_machine 8 = .ok (.iconst 0, 1) := by decide +kernel
theorem dX10_machine_9 : decode cX10_machine 9 = .ok (.iconst 1, 1) := by decide +kernel
theorem dX10_machine_10 : decode cX10_machine 10 = .ok (.invokestatic 108, 3) := by decide +kernel
theorem dX10_machine_13 : decode cX10_machine 13 = .ok (.ifCond .ne 5, 3) := by decide +kernel
theorem dX10_machine_16 : decode cX10_machine 16 = .ok (.iconst (-1), 1) := by decide +kernel
theorem dX10_machine_17 : decode cX10_machine 17 = .ok (.ireturn, 1) := by decide +kernel
theorem dX10_machine_18 : decode cX10_machine 18 = .ok (.aload_n 0, 1) := by decide +kernel
theorem dX10_machine_19 : decode cX10_machine 19 = .ok (.getfield 105, 3) := by decide +kernel
theorem dX10_machine_22 : decode cX10_machine 22 = .ok (.ifCond .ne 6, 3) := by decide +kernel
theorem dX10_machine_25 : decode cX10_machine 25 = .ok (.bipush (-5), 2) := by decide +kernel
theorem dX10_machine_27 : decode cX10_machine 27 = .ok (.ireturn, 1) := by decide +kernel
theorem dX10_machine_28 : decode cX10_machine 28 = .ok (.iload_n 2, 1) := by decide +kernel
theorem dX10_machine_29 : decode cX10_machine 29 = .ok (.ifCond .ne 9, 3) := by decide +kernel
theorem dX10_machine_32 : decode cX10_machine 32 = .ok (.aload_n 0, 1) := by decide +kernel
theorem dX10_machine_33 : decode cX10_machine 33 = .ok (.iload_n 1, 1) := by decide +kernel
theorem dX10_machine_34 : decode cX10_machine 34 = .ok (.invokevirtual 348, 3) := by decide +kernel
theorem dX10_machine_37 : decode cX10_machine 37 = .ok (.ireturn, 1) := by decide +kernel
theorem dX10_machine_38 : decode cX10_machine 38 = .ok (.aload_n 0, 1) := by decide +kernel
theorem dX10_machine_39 : decode cX10_machine 39 = .ok (.iload_n 1, 1) := by decide +kernel
theorem dX10_machine_40 : decode cX10_machine 40 = .ok (.invokevirtual 345, 3) := by decide +kernel
theorem dX10_machine_43 : decode cX10_machine 43 = .ok (.aload_n 0, 1) := by decide +kernel
theorem dX10_machine_44 : decode cX10_machine 44 = .ok (.getfield 329, 3) := by decide +kernel
theorem dX10_machine_47 : decode cX10_machine 47 = .ok (.ifCond .ne 8, 3) := by decide +kernel
theorem dX10_machine_50 : decode cX10_machine 50 = .ok (.bipush (-2), 2) := by decide +kernel
theorem dX10_machine_52 : decode cX10_machine 52 = .ok (.goto 7, 3) := by decide +kernel
theorem dX10_machine_55 : decode cX10_machine 55 = .ok (.aload_n 0, 1) := by decide +kernel
theorem dX10_machine_56 : decode cX10_machine 56 = .ok (.invokevirtual 351, 3) := by decide +kernel
theorem dX10_machine_59 : decode cX10_machine 59 = .ok (.ireturn, 1) := by decide +kernel
theorem dX10_bound_0 : decode cX10_bound 0 = .ok (.aload_n 0, 1) := by decide +kernel
theorem dX10_bound_1 : decode cX10_bound 1 = .ok (.getfield 105, 3) := by decide +kernel
theorem dX10_bound_4 : decode cX10_bound 4 = .ok (.ifCond .ne 6, 3) := by decide +kernel
theorem dX10_bound_7 : decode cX10_bound 7 = .ok (.bipush (-5), 2) := by decide +kernel
theorem dX10_bound_9 : decode cX10_bound 9 = .ok (.ireturn, 1) := by decide +kernel
theorem dX10_bound_10 : decode cX10_bound 10 = .ok (.iconst 0, 1) := by decide +kernel
theorem dX10_bound_11 : decode cX10_bound 11 = .ok (.istore_n 1, 1) := by decide +kernel
theorem dX10_bound_12 : decode cX10_bound 12 = .ok (.iconst 0, 1) := by decide +kernel
theorem dX10_bound_13 : decode cX10_bound 13 = .ok (.istore_n 2, 1) := by decide +kernel
theorem dX10_bound_14 : decode cX10_bound 14 = .ok (.iload_n 2, 1) := by decide +kernel
theorem dX10_bound_15 : decode cX10_bound 15 = .ok (.iconst 5, 1) := by decide +kernel
theorem dX10_bound_16 : decode cX10_bound 16 = .ok (.if_icmp .ge 30, 3) := by decide +kernel
theorem dX10_bound_19 : decode cX10_bound 19 = .ok (.aload_n 0, 1) := by decide +kernel
theorem dX10_bound_20 : decode cX10_bound 20 = .ok (.iload_n 2, 1) := by decide +kernel
theorem dX10_bound_21 : decode cX10_bound 21 = .ok (.invokevirtual 348, 3) := by decide +kernel
theorem dX10_bound_24 : decode cX10_bound 24 = .ok (.istore_n 3, 1) := by decide +kernel
theorem dX10_bound_25 : decode cX10_bound 25 = .ok (.iload_n 3, 1) := by decide +kernel
theorem dX10_bound_26 : decode cX10_bound 26 = .ok (.bipush (-7), 2) := by decide +kernel
theorem dX10_bound_28 : decode cX10_bound 28 = .ok (.if_icmp .ne 6, 3) := by decide +kernel
theorem dX10_bound_31 : decode cX10_bound 31 = .ok (.bipush (-7), 2) := by decide +kernel
theorem dX10_bound_33 : decode cX10_bound 33 = .ok (.ireturn, 1) := by decide +kernel
theorem dX10_bound_34 : decode cX10_bound 34 = .ok (.iload_n 1, 1) := by decide +kernel
theorem dX10_bound_35 : decode cX10_bound 35 = .ok (.iload_n 3, 1) := by decide +kernel
theorem dX10_bound_36 : decode cX10_bound 36 = .ok (.invokestatic 214, 3) := by decide +kernel
theorem dX10_bound_39 : decode cX10_bound 39 = .ok (.istore_n 1, 1) := by decide +kernel
theorem dX10_bound_40 : decode cX10_bound 40 = .ok (.iinc 2 1, 3) := by decide +kernel
theorem dX10_bound_43 : decode cX10_bound 43 = .ok (.goto (-29), 3) := by decide +kernel
theorem dX10_bound_46 : decode cX10_bound 46 = .ok (.iconst 0, 1) := by decide +kernel
theorem dX10_bound_47 : decode cX10_bound 47 = .ok (.istore_n 2, 1) := by decide +kernel
theorem dX10_bound_48 : decode cX10_bound 48 = .ok (.iload_n 2, 1) := by decide +kernel
theorem dX10_bound_49 : decode cX10_bound 49 = .ok (.aload_n 0, 1) := by decide +kernel
theorem dX10_bound_50 : decode cX10_bound 50 = .ok (.getfield 150, 3) := by decide +kernel
theorem dX10_bound_53 : decode cX10_bound 53 = .ok (.if_icmp .ge 23, 3) := by decide +kernel
theorem dX10_bound_56 : decode cX10_bound 56 = .ok (.iload_n 1, 1) := by decide +kernel
theorem dX10_bound_57 : decode cX10_bound 57 = .ok (.aload_n 0, 1) := by decide +kernel
theorem dX10_bound_58 : decode cX10_bound 58 = .ok (.aload_n 0, 1) := by decide +kernel
theorem dX10_bound_59 : decode cX10_bound 59 = .ok (.iload_n 2, 1) := by decide +kernel
theorem dX10_bound_60 : decode cX10_bound 60 = .ok (.invokevirtual 317, 3) := by decide +kernel
theorem dX10_bound_63 : decode cX10_bound 63 = .ok (.invokevirtual 308, 3) := by decide +kernel
theorem dX10_bound_66 : decode cX10_bound 66 = .ok (.invokestatic 214, 3) := by decide +kernel
theorem dX10_bound_69 : decode cX10_bound 69 = .ok (.istore_n 1, 1) := by decide +kernel
theorem dX10_bound_70 : decode cX10_bound 70 = .ok (.iinc 2 1, 3) := by decide +kernel
theorem dX10_bound_73 : decode cX10_bound 73 = .ok (.goto (-25), 3) := by decide +kernel
theorem dX10_bound_76 : decode cX10_bound 76 = .ok (.iload_n 1, 1) := by decide +kernel
theorem dX10_bound_77 : decode cX10_bound 77 = .ok (.ireturn, 1) := by decide +kernel
theorem dX10_triesFrom_0 : decode cX10_triesFrom 0 = .ok (.iload_n 1, 1) := by decide +kernel
theorem dX10_triesFrom_1 : decode cX10_triesFrom 1 = .ok (.iconst 5, 1) := by decide +kernel
theorem dX10_triesFrom_2 : decode cX10_triesFrom 2 = .ok (.if_icmp .ne 50, 3) := by decide +kernel
theorem dX10_triesFrom_5 : decode cX10_triesFrom 5 = .ok (.aload_n 0, 1) := by decide +kernel
theorem dX10_triesFrom_6 : decode cX10_triesFrom 6 = .ok (.invokevirtual 191, 3) := by decide +kernel
theorem dX10_triesFrom_9 : decode cX10_triesFrom 9 = .ok (.ifCond .eq 42, 3) := by decide +kernel
theorem dX10_triesFrom_12 : decode cX10_triesFrom 12 = .ok (.aload_n 0, 1) := by decide +kernel
theorem dX10_triesFrom_13 : decode cX10_triesFrom 13 = .ok (.dup, 1) := by decide +kernel
theorem dX10_triesFrom_14 : decode cX10_triesFrom 14 = .ok (.getfield 354, 3) := by decide +kernel
theorem dX10_triesFrom_17 : decode cX10_triesFrom 17 = .ok (.iconst 1, 1) := by decide +kernel
theorem dX10_triesFrom_18 : decode cX10_triesFrom 18 = .ok (.iadd, 1) := by decide +kernel
theorem dX10_triesFrom_19 : decode cX10_triesFrom 19 = .ok (.putfield 354, 3) := by decide +kernel
theorem dX10_triesFrom_22 : decode cX10_triesFrom 22 = .ok (.aload_n 0, 1) := by decide +kernel
theorem dX10_triesFrom_23 : decode cX10_triesFrom 23 = .ok (.aload_n 0, 1) := by decide +kernel
theorem dX10_triesFrom_24 : decode cX10_triesFrom 24 = .ok (.getfield 357, 3) := by decide +kernel
theorem dX10_triesFrom_27 : decode cX10_triesFrom 27 = .ok (.ifCond .ge 10, 3) := by decide +kernel
theorem dX10_triesFrom_30 : decode cX10_triesFrom 30 = .ok (.aload_n 0, 1) := by decide +kernel
theorem dX10_triesFrom_31 : decode cX10_triesFrom 31 = .ok (.getfield 195, 3) := by decide +kernel
theorem dX10_triesFrom_34 : decode cX10_triesFrom 34 = .ok (.goto 14, 3) := by decide +kernel
theorem dX10_triesFrom_37 : decode cX10_triesFrom 37 = .ok (.aload_n 0, 1) := by decide +kernel
theorem dX10_triesFrom_38 : decode cX10_triesFrom 38 = .ok (.getfield 357, 3) := by decide +kernel
theorem dX10_triesFrom_41 : decode cX10_triesFrom 41 = .ok (.aload_n 0, 1) := by decide +kernel
theorem dX10_triesFrom_42 : decode cX10_triesFrom 42 = .ok (.getfield 195, 3) := by decide +kernel
theorem dX10_triesFrom_45 : decode cX10_triesFrom 45 = .ok (.invokestatic 263, 3) := by decide +kernel
theorem dX10_triesFrom_48 : decode cX10_triesFrom 48 = .ok (.putfield 357, 3) := by decide +kernel
theorem dX10_triesFrom_51 : decode cX10_triesFrom 51 = .ok (.return_, 1) := by decide +kernel
theorem dX10_triesFrom_52 : decode cX10_triesFrom 52 = .ok (.iload_n 2, 1) := by decide +kernel
theorem dX10_triesFrom_53 : decode cX10_triesFrom 53 = .ok (.aload_n 0, 1) := by decide +kernel
theorem dX10_triesFrom_54 : decode cX10_triesFrom 54 = .ok (.getfield 25, 3) := by decide +kernel
theorem dX10_triesFrom_57 : decode cX10_triesFrom 57 = .ok (.iload_n 1, 1) := by decide +kernel
theorem dX10_triesFrom_58 : decode cX10_triesFrom 58 = .ok (.iaload, 1) := by decide +kernel
theorem dX10_triesFrom_59 : decode cX10_triesFrom 59 = .ok (.if_icmp .lt 12, 3) := by decide +kernel
theorem dX10_triesFrom_62 : decode cX10_triesFrom 62 = .ok (.aload_n 0, 1) := by decide +kernel
theorem dX10_triesFrom_63 : decode cX10_triesFrom 63 = .ok (.iload_n 1, 1) := by decide +kernel
theorem dX10_triesFrom_64 : decode cX10_triesFrom 64 = .ok (.iconst 1, 1) := by decide +kernel
theorem dX10_triesFrom_65 : decode cX10_triesFrom 65 = .ok (.iadd, 1) := by decide +kernel
theorem dX10_triesFrom_66 : decode cX10_triesFrom 66 = .ok (.iconst 0, 1) := by decide +kernel
theorem dX10_triesFrom_67 : decode cX10_triesFrom 67 = .ok (.invokevirtual 360, 3) := by decide +kernel
theorem dX10_triesFrom_70 : decode cX10_triesFrom 70 = .ok (.return_, 1) := by decide +kernel
theorem dX10_triesFrom_71 : decode cX10_triesFrom 71 = .ok (.iload_n 2, 1) := by decide +kernel
theorem dX10_triesFrom_72 : decode cX10_triesFrom 72 = .ok (.istore_n 3, 1) := by decide +kernel
theorem dX10_triesFrom_73 : decode cX10_triesFrom 73 = .ok (.iload_n 3, 1) := by decide +kernel
theorem dX10_triesFrom_74 : decode cX10_triesFrom 74 = .ok (.aload_n 0, 1) := by decide +kernel
theorem dX10_triesFrom_75 : decode cX10_triesFrom 75 = .ok (.getfield 25, 3) := by decide +kernel
theorem dX10_triesFrom_78 : decode cX10_triesFrom 78 = .ok (.iload_n 1, 1) := by decide +kernel
theorem dX10_triesFrom_79 : decode cX10_triesFrom 79 = .ok (.iaload, 1) := by decide +kernel
theorem dX10_triesFrom_80 : decode cX10_triesFrom 80 = .ok (.if_icmp .ge 49, 3) := by decide +kernel
theorem dX10_triesFrom_83 : decode cX10_triesFrom 83 = .ok (.aload_n 0, 1) := by decide +kernel
theorem dX10_triesFrom_84 : decode cX10_triesFrom 84 = .ok (.bipush 24, 2) := by decide +kernel
theorem dX10_triesFrom_86 : decode cX10_triesFrom 86 = .ok (.iload_n 1, 1) := by decide +kernel
theorem dX10_triesFrom_87 : decode cX10_triesFrom 87 = .ok (.imul, 1) := by decide +kernel
theorem dX10_triesFrom_88 : decode cX10_triesFrom 88 = .ok (.iload_n 2, 1) := by decide +kernel
theorem dX10_triesFrom_89 : decode cX10_triesFrom 89 = .ok (.iadd, 1) := by decide +kernel
theorem dX10_triesFrom_90 : decode cX10_triesFrom 90 = .ok (.bipush 24, 2) := by decide +kernel
theorem dX10_triesFrom_92 : decode cX10_triesFrom 92 = .ok (.iload_n 1, 1) := by decide +kernel
theorem dX10_triesFrom_93 : decode cX10_triesFrom 93 = .ok (.imul, 1) := by decide +kernel
theorem dX10_triesFrom_94 : decode cX10_triesFrom 94 = .ok (.iload_n 3, 1) := by decide +kernel
theorem dX10_triesFrom_95 : decode cX10_triesFrom 95 = .ok (.iadd, 1) := by decide +kernel
theorem dX10_triesFrom_96 : decode cX10_triesFrom 96 = .ok (.invokevirtual 363, 3) := by decide +kernel
theorem dX10_triesFrom_99 : decode cX10_triesFrom 99 = .ok (.aload_n 0, 1) := by decide +kernel
theorem dX10_triesFrom_100 : decode cX10_triesFrom 100 = .ok (.iload_n 1, 1) := by decide +kernel
theorem dX10_triesFrom_101 : decode cX10_triesFrom 101 = .ok (.iload_n 2, 1) := by decide +kernel
theorem dX10_triesFrom_102 : decode cX10_triesFrom 102 = .ok (.iconst 1, 1) := by decide +kernel
theorem dX10_triesFrom_103 : decode cX10_triesFrom 103 = .ok (.iadd, 1) := by decide +kernel
theorem dX10_triesFrom_104 : decode cX10_triesFrom 104 = .ok (.invokevirtual 360, 3) := by decide +kernel
theorem dX10_triesFrom_107 : decode cX10_triesFrom 107 = .ok (.aload_n 0, 1) := by decide +kernel
theorem dX10_triesFrom_108 : decode cX10_triesFrom 108 = .ok (.bipush 24, 2) := by decide +kernel
theorem dX10_triesFrom_110 : decode cX10_triesFrom 110 = .ok (.iload_n 1, 1) := by decide +kernel
theorem dX10_triesFrom_111 : decode cX10_triesFrom 111 = .ok (.imul, 1) := by decide +kernel
theorem dX10_triesFrom_112 : decode cX10_triesFrom 112 = .ok (.iload_n 2, 1) := by decide +kernel
theorem dX10_triesFrom_113 : decode cX10_triesFrom 113 = .ok (.iadd, 1) := by decide +kernel
theorem dX10_triesFrom_114 : decode cX10_triesFrom 114 = .ok (.bipush 24, 2) := by decide +kernel
theorem dX10_triesFrom_116 : decode cX10_triesFrom 116 = .ok (.iload_n 1, 1) := by decide +kernel
theorem dX10_triesFrom_117 : decode cX10_triesFrom 117 = .ok (.imul, 1) := by decide +kernel
theorem dX10_triesFrom_118 : decode cX10_triesFrom 118 = .ok (.iload_n 3, 1) := by decide +kernel
theorem dX10_triesFrom_119 : decode cX10_triesFrom 119 = .ok (.iadd, 1) := by decide +kernel
theorem dX10_triesFrom_120 : decode cX10_triesFrom 120 = .ok (.invokevirtual 363, 3) := by decide +kernel
theorem dX10_triesFrom_123 : decode cX10_triesFrom 123 = .ok (.iinc 3 1, 3) := by decide +kernel
theorem dX10_triesFrom_126 : decode cX10_triesFrom 126 = .ok (.goto (-53), 3) := by decide +kernel
theorem dX10_triesFrom_129 : decode cX10_triesFrom 129 = .ok (.return_, 1) := by decide +kernel
theorem dX10_changesOver_0 : decode cX10_changesOver 0 = .ok (.aload_n 0, 1) := by decide +kernel
theorem dX10_changesOver_1 : decode cX10_changesOver 1 = .ok (.getfield 22, 3) := by decide +kernel
theorem dX10_changesOver_4 : decode cX10_changesOver 4 = .ok (.iload_n 1, 1) := by decide +kernel
theorem dX10_changesOver_5 : decode cX10_changesOver 5 = .ok (.iaload, 1) := by decide +kernel
theorem dX10_changesOver_6 : decode cX10_changesOver 6 = .ok (.istore_n 3, 1) := by decide +kernel
theorem dX10_changesOver_7 : decode cX10_changesOver 7 = .ok (.aload_n 0, 1) := by decide +kernel
theorem dX10_changesOver_8 : decode cX10_changesOver 8 = .ok (.getfield 22, 3) := by decide +kernel
theorem dX10_changesOver_11 : decode cX10_changesOver 11 = .ok (.iload_n 1, 1) := by decide +kernel
theorem dX10_changesOver_12 : decode cX10_changesOver 12 = .ok (.aload_n 0, 1) := by decide +kernel
theorem dX10_changesOver_13 : decode cX10_changesOver 13 = .ok (.getfield 22, 3) := by decide +kernel
theorem dX10_changesOver_16 : decode cX10_changesOver 16 = .ok (.iload_n 2, 1) := by decide +kernel
theorem dX10_changesOver_17 : decode cX10_changesOver 17 = .ok (.iaload, 1) := by decide +kernel
theorem dX10_changesOver_18 : decode cX10_changesOver 18 = .ok (.iastore, 1) := by decide +kernel
theorem dX10_changesOver_19 : decode cX10_changesOver 19 = .ok (.aload_n 0, 1) := by decide +kernel
theorem dX10_changesOver_20 : decode cX10_changesOver 20 = .ok (.getfield 22, 3) := by decide +kernel
theorem dX10_changesOver_23 : decode cX10_changesOver 23 = .ok (.iload_n 2, 1) := by decide +kernel
theorem dX10_changesOver_24 : decode cX10_changesOver 24 = .ok (.iload_n 3, 1) := by decide +kernel
theorem dX10_changesOver_25 : decode cX10_changesOver 25 = .ok (.iastore, 1) := by decide +kernel
theorem dX10_changesOver_26 : decode cX10_changesOver 26 = .ok (.return_, 1) := by decide +kernel
theorem dX10_waysAll_0 : decode cX10_waysAll 0 = .ok (.lconst 1, 1) := by decide +kernel
theorem dX10_waysAll_1 : decode cX10_waysAll 1 = .ok (.lstore_n 1, 1) := by decide +kernel
theorem dX10_waysAll_2 : decode cX10_waysAll 2 = .ok (.iconst 0, 1) := by decide +kernel
theorem dX10_waysAll_3 : decode cX10_waysAll 3 = .ok (.istore_n 3, 1) := by decide +kernel
theorem dX10_waysAll_4 : decode cX10_waysAll 4 = .ok (.iload_n 3, 1) := by decide +kernel
theorem dX10_waysAll_5 : decode cX10_waysAll 5 = .ok (.iconst 5, 1) := by decide +kernel
theorem dX10_waysAll_6 : decode cX10_waysAll 6 = .ok (.if_icmp .ge 43, 3) := by decide +kernel
theorem dX10_waysAll_9 : decode cX10_waysAll 9 = .ok (.iconst 2, 1) := by decide +kernel
theorem dX10_waysAll_10 : decode cX10_waysAll 10 = .ok (.istore 4, 2) := by decide +kernel
theorem dX10_waysAll_12 : decode cX10_waysAll 12 = .ok (.iload 4, 2) := by decide +kernel
theorem dX10_waysAll_14 : decode cX10_waysAll 14 = .ok (.aload_n 0, 1) := by decide +kernel
theorem dX10_waysAll_15 : decode cX10_waysAll 15 = .ok (.getfield 25, 3) := by decide +kernel
theorem dX10_waysAll_18 : decode cX10_waysAll 18 = .ok (.iload_n 3, 1) := by decide +kernel
theorem dX10_waysAll_19 : decode cX10_waysAll 19 = .ok (.iaload, 1) := by decide +kernel
theorem dX10_waysAll_20 : decode cX10_waysAll 20 = .ok (.if_icmp .gt 23, 3) := by decide +kernel
theorem dX10_waysAll_23 : decode cX10_waysAll 23 = .ok (.lload_n 1, 1) := by decide +kernel
theorem dX10_waysAll_24 : decode cX10_waysAll 24 = .ok (.ldc2_w 366, 3) := by decide +kernel
theorem dX10_waysAll_27 : decode cX10_waysAll 27 = .ok (.lcmp, 1) := by decide +kernel
theorem dX10_waysAll_28 : decode cX10_waysAll 28 = .ok (.ifCond .gt 15, 3) := by decide +kernel
theorem dX10_waysAll_31 : decode cX10_waysAll 31 = .ok (.lload_n 1, 1) := by decide +kernel
theorem dX10_waysAll_32 : decode cX10_waysAll 32 = .ok (.iload 4, 2) := by decide +kernel
theorem dX10_waysAll_34 : decode cX10_waysAll 34 = .ok (.i2l, 1) := by decide +kernel
theorem dX10_waysAll_35 : decode cX10_waysAll 35 = .ok (.lmul, 1) := by decide +kernel
theorem dX10_waysAll_36 : decode cX10_waysAll 36 = .ok (.lstore_n 1, 1) := by decide +kernel
theorem dX10_waysAll_37 : decode cX10_waysAll 37 = .ok (.iinc 4 1, 3) := by decide +kernel
theorem dX10_waysAll_40 : decode cX10_waysAll 40 = .ok (.goto (-28), 3) := by decide +kernel
theorem dX10_waysAll_43 : decode cX10_waysAll 43 = .ok (.iinc 3 1, 3) := by decide +kernel
theorem dX10_waysAll_46 : decode cX10_waysAll 46 = .ok (.goto (-42), 3) := by decide +kernel
theorem dX10_waysAll_49 : decode cX10_waysAll 49 = .ok (.lload_n 1, 1) := by decide +kernel
theorem dX10_waysAll_50 : decode cX10_waysAll 50 = .ok (.ldc2_w 366, 3) := by decide +kernel
theorem dX10_waysAll_53 : decode cX10_waysAll 53 = .ok (.lcmp, 1) := by decide +kernel
theorem dX10_waysAll_54 : decode cX10_waysAll 54 = .ok (.ifCond .le 8, 3) := by decide +kernel
theorem dX10_waysAll_57 : decode cX10_waysAll 57 = .ok (.bipush (-7), 2) := by decide +kernel
theorem dX10_waysAll_59 : decode cX10_waysAll 59 = .ok (.goto 5, 3) := by decide +kernel
theorem dX10_waysAll_62 : decode cX10_waysAll 62 = .ok (.lload_n 1, 1) := by decide +kernel
theorem dX10_waysAll_63 : decode cX10_waysAll 63 = .ok (.l2i, 1) := by decide +kernel
theorem dX10_waysAll_64 : decode cX10_waysAll 64 = .ok (.ireturn, 1) := by decide +kernel
theorem dX10_all_0 : decode cX10_all 0 = .ok (.iload_n 1, 1) := by decide +kernel
theorem dX10_all_1 : decode cX10_all 1 = .ok (.iconst 0, 1) := by decide +kernel
theorem dX10_all_2 : decode cX10_all 2 = .ok (.iconst 1, 1) := by decide +kernel
theorem dX10_all_3 : decode cX10_all 3 = .ok (.invokestatic 108, 3) := by decide +kernel
theorem dX10_all_6 : decode cX10_all 6 = .ok (.ifCond .ne 5, 3) := by decide +kernel
theorem dX10_all_9 : decode cX10_all 9 = .ok (.iconst (-1), 1) := by decide +kernel
theorem dX10_all_10 : decode cX10_all 10 = .ok (.ireturn, 1) := by decide +kernel
theorem dX10_all_11 : decode cX10_all 11 = .ok (.aload_n 0, 1) := by decide +kernel
theorem dX10_all_12 : decode cX10_all 12 = .ok (.getfield 105, 3) := by decide +kernel
theorem dX10_all_15 : decode cX10_all 15 = .ok (.ifCond .ne 6, 3) := by decide +kernel
theorem dX10_all_18 : decode cX10_all 18 = .ok (.bipush (-5), 2) := by decide +kernel
theorem dX10_all_20 : decode cX10_all 20 = .ok (.ireturn, 1) := by decide +kernel
theorem dX10_all_21 : decode cX10_all 21 = .ok (.aload_n 0, 1) := by decide +kernel
theorem dX10_all_22 : decode cX10_all 22 = .ok (.invokevirtual 368, 3) := by decide +kernel
theorem dX10_all_25 : decode cX10_all 25 = .ok (.bipush (-7), 2) := by decide +kernel
theorem dX10_all_27 : decode cX10_all 27 = .ok (.if_icmp .ne 6, 3) := by decide +kernel
theorem dX10_all_30 : decode cX10_all 30 = .ok (.bipush (-7), 2) := by decide +kernel
theorem dX10_all_32 : decode cX10_all 32 = .ok (.ireturn, 1) := by decide +kernel
theorem dX10_all_33 : decode cX10_all 33 = .ok (.aload_n 0, 1) := by decide +kernel
theorem dX10_all_34 : decode cX10_all 34 = .ok (.iconst 0, 1) := by decide +kernel
theorem dX10_all_35 : decode cX10_all 35 = .ok (.putfield 354, 3) := by decide +kernel
theorem dX10_all_38 : decode cX10_all 38 = .ok (.aload_n 0, 1) := by decide +kernel
theorem dX10_all_39 : decode cX10_all 39 = .ok (.iconst (-1), 1) := by decide +kernel
theorem dX10_all_40 : decode cX10_all 40 = .ok (.putfield 357, 3) := by decide +kernel
theorem dX10_all_43 : decode cX10_all 43 = .ok (.aload_n 0, 1) := by decide +kernel
theorem dX10_all_44 : decode cX10_all 44 = .ok (.iconst 0, 1) := by decide +kernel
theorem dX10_all_45 : decode cX10_all 45 = .ok (.iconst 0, 1) := by decide +kernel
theorem dX10_all_46 : decode cX10_all 46 = .ok (.invokevirtual 360, 3) := by decide +kernel
theorem dX10_all_49 : decode cX10_all 49 = .ok (.iload_n 1, 1) := by decide +kernel
theorem dX10_all_50 : decode cX10_all 50 = .ok (.ifCond .ne 10, 3) := by decide +kernel
theorem dX10_all_53 : decode cX10_all 53 = .ok (.aload_n 0, 1) := by decide +kernel
theorem dX10_all_54 : decode cX10_all 54 = .ok (.getfield 354, 3) := by decide +kernel
theorem dX10_all_57 : decode cX10_all 57 = .ok (.goto 7, 3) := by decide +kernel
theorem dX10_all_60 : decode cX10_all 60 = .ok (.aload_n 0, 1) := by decide +kernel
theorem dX10_all_61 : decode cX10_all 61 = .ok (.getfield 357, 3) := by decide +kernel
theorem dX10_all_64 : decode cX10_all 64 = .ok (.ireturn, 1) := by decide +kernel
theorem dX10_byteAt_0 : decode cX10_byteAt 0 = .ok (.iload_n 2, 1) := by decide +kernel
theorem dX10_byteAt_1 : decode cX10_byteAt 1 = .ok (.aload_n 0, 1) := by decide +kernel
theorem dX10_byteAt_2 : decode cX10_byteAt 2 = .ok (.getfield 195, 3) := by decide +kernel
theorem dX10_byteAt_5 : decode cX10_byteAt 5 = .ok (.if_icmp .ne 6, 3) := by decide +kernel
theorem dX10_byteAt_8 : decode cX10_byteAt 8 = .ok (.bipush 10, 2) := by decide +kernel
theorem dX10_byteAt_10 : decode cX10_byteAt 10 = .ok (.ireturn, 1) := by decide +kernel
theorem dX10_byteAt_11 : decode cX10_byteAt 11 = .ok (.iconst 0, 1) := by decide +kernel
theorem dX10_byteAt_12 : decode cX10_byteAt 12 = .ok (.istore_n 3, 1) := by decide +kernel
theorem dX10_byteAt_13 : decode cX10_byteAt 13 = .ok (.iload_n 3, 1) := by decide +kernel
theorem dX10_byteAt_14 : decode cX10_byteAt 14 = .ok (.aload_n 0, 1) := by decide +kernel
theorem dX10_byteAt_15 : decode cX10_byteAt 15 = .ok (.getfield 25, 3) := by decide +kernel
theorem dX10_byteAt_18 : decode cX10_byteAt 18 = .ok (.iload_n 1, 1) := by decide +kernel
theorem dX10_byteAt_19 : decode cX10_byteAt 19 = .ok (.iaload, 1) := by decide +kernel
theorem dX10_byteAt_20 : decode cX10_byteAt 20 = .ok (.if_icmp .ge 55, 3) := by decide +kernel
theorem dX10_byteAt_23 : decode cX10_byteAt 23 = .ok (.aload_n 0, 1) := by decide +kernel
theorem dX10_byteAt_24 : decode cX10_byteAt 24 = .ok (.getfield 22, 3) := by decide +kernel
theorem dX10_byteAt_27 : decode cX10_byteAt 27 = .ok (.bipush 24, 2) := by decide +kernel
theorem dX10_byteAt_29 : decode cX10_byteAt 29 = .ok (.iload_n 1, 1) := by decide +kernel
theorem dX10_byteAt_30 : decode cX10_byteAt 30 = .ok (.imul, 1) := by decide +kernel
theorem dX10_byteAt_31 : decode cX10_byteAt 31 = .ok (.iload_n 3, 1) := by decide +kernel
theorem dX10_byteAt_32 : decode cX10_byteAt 32 = .ok (.iadd, 1) := by decide +kernel
theorem dX10_byteAt_33 : decode cX10_byteAt 33 = .ok (.iaload, 1) := by decide +kernel
theorem dX10_byteAt_34 : decode cX10_byteAt 34 = .ok (.istore 4, 2) := by decide +kernel
theorem dX10_byteAt_36 : decode cX10_byteAt 36 = .ok (.iload_n 2, 1) := by decide +kernel
theorem dX10_byteAt_37 : decode cX10_byteAt 37 = .ok (.aload_n 0, 1) := by decide +kernel
theorem dX10_byteAt_38 : decode cX10_byteAt 38 = .ok (.getfield 49, 3) := by decide +kernel
theorem dX10_byteAt_41 : decode cX10_byteAt 41 = .ok (.iload 4, 2) := by decide +kernel
theorem dX10_byteAt_43 : decode cX10_byteAt 43 = .ok (.iaload, 1) := by decide +kernel
theorem dX10_byteAt_44 : decode cX10_byteAt 44 = .ok (.aload_n 0, 1) := by decide +kernel
theorem dX10_byteAt_45 : decode cX10_byteAt 45 = .ok (.iload 4, 2) := by decide +kernel
theorem dX10_byteAt_47 : decode cX10_byteAt 47 = .ok (.invokevirtual 211, 3) := by decide +kernel
theorem dX10_byteAt_50 : decode cX10_byteAt 50 = .ok (.iconst 1, 1) := by decide +kernel
theorem dX10_byteAt_51 : decode cX10_byteAt 51 = .ok (.isub, 1) := by decide +kernel
theorem dX10_byteAt_52 : decode cX10_byteAt 52 = .ok (.invokestatic 108, 3) := by decide +kernel
theorem dX10_byteAt_55 : decode cX10_byteAt 55 = .ok (.ifCond .eq 14, 3) := by decide +kernel
theorem dX10_byteAt_58 : decode cX10_byteAt 58 = .ok (.bipush 48, 2) := by decide +kernel
theorem dX10_byteAt_60 : decode cX10_byteAt 60 = .ok (.aload_n 0, 1) := by decide +kernel
theorem dX10_byteAt_61 : decode cX10_byteAt 61 = .ok (.getfield 9, 3) := by decide +kernel
theorem dX10_byteAt_64 : decode cX10_byteAt 64 = .ok (.iload 4, 2) := by decide +kernel
theorem dX10_byteAt_66 : decode cX10_byteAt 66 = .ok (.iaload, 1) := by decide +kernel
theorem dX10_byteAt_67 : decode cX10_byteAt 67 = .ok (.iadd, 1) := by decide +kernel
theorem dX10_byteAt_68 : decode cX10_byteAt 68 = .ok (.ireturn, 1) := by decide +kernel
theorem dX10_byteAt_69 : decode cX10_byteAt 69 = .ok (.iinc 3 1, 3) := by decide +kernel
theorem dX10_byteAt_72 : decode cX10_byteAt 72 = .ok (.goto (-59), 3) := by decide +kernel
theorem dX10_byteAt_75 : decode cX10_byteAt 75 = .ok (.bipush 46, 2) := by decide +kernel
theorem dX10_byteAt_77 : decode cX10_byteAt 77 = .ok (.ireturn, 1) := by decide +kernel
theorem dX10_chart_0 : decode cX10_chart 0 = .ok (.iload_n 1, 1) := by decide +kernel
theorem dX10_chart_1 : decode cX10_chart 1 = .ok (.iconst (-1), 1) := by decide +kernel
theorem dX10_chart_2 : decode cX10_chart 2 = .ok (.if_icmp .ge 5, 3) := by decide +kernel
theorem dX10_chart_5 : decode cX10_chart 5 = .ok (.iconst (-1), 1) := by decide +kernel
theorem dX10_chart_6 : decode cX10_chart 6 = .ok (.ireturn, 1) := by decide +kernel
theorem dX10_chart_7 : decode cX10_chart 7 = .ok (.aload_n 0, 1) := by decide +kernel
theorem dX10_chart_8 : decode cX10_chart 8 = .ok (.invokevirtual 244, 3) := by decide +kernel
theorem dX10_chart_11 : decode cX10_chart 11 = .ok (.istore_n 2, 1) := by decide +kernel
theorem dX10_chart_12 : decode cX10_chart 12 = .ok (.iload_n 2, 1) := by decide +kernel
theorem dX10_chart_13 : decode cX10_chart 13 = .ok (.ifCond .ge 5, 3) := by decide +kernel
theorem dX10_chart_16 : decode cX10_chart 16 = .ok (.iload_n 2, 1) := by decide +kernel
theorem dX10_chart_17 : decode cX10_chart 17 = .ok (.ireturn, 1) := by decide +kernel
theorem dX10_chart_18 : decode cX10_chart 18 = .ok (.iconst 5, 1) := by decide +kernel
theorem dX10_chart_19 : decode cX10_chart 19 = .ok (.aload_n 0, 1) := by decide +kernel
theorem dX10_chart_20 : decode cX10_chart 20 = .ok (.getfield 195, 3) := by decide +kernel
theorem dX10_chart_23 : decode cX10_chart 23 = .ok (.iconst 1, 1) := by decide +kernel
theorem dX10_chart_24 : decode cX10_chart 24 = .ok (.iadd, 1) := by decide +kernel
theorem dX10_chart_25 : decode cX10_chart 25 = .ok (.imul, 1) := by decide +kernel
theorem dX10_chart_26 : decode cX10_chart 26 = .ok (.istore_n 3, 1) := by decide +kernel
theorem dX10_chart_27 : decode cX10_chart 27 = .ok (.iload_n 1, 1) := by decide +kernel
theorem dX10_chart_28 : decode cX10_chart 28 = .ok (.ifCond .ge 7, 3) := by decide +kernel
theorem dX10_chart_31 : decode cX10_chart 31 = .ok (.iload_n 3, 1) := by decide +kernel
theorem dX10_chart_32 : decode cX10_chart 32 = .ok (.goto 33, 3) := by decide +kernel
theorem dX10_chart_35 : decode cX10_chart 35 = .ok (.iload_n 1, 1) := by decide +kernel
theorem dX10_chart_36 : decode cX10_chart 36 = .ok (.iload_n 3, 1) := by decide +kernel
theorem dX10_chart_37 : decode cX10_chart 37 = .ok (.if_icmp .ge 26, 3) := by decide +kernel
theorem dX10_chart_40 : decode cX10_chart 40 = .ok (.aload_n 0, 1) := by decide +kernel
theorem dX10_chart_41 : decode cX10_chart 41 = .ok (.iload_n 1, 1) := by decide +kernel
theorem dX10_chart_42 : decode cX10_chart 42 = .ok (.aload_n 0, 1) := by decide +kernel
theorem dX10_chart_43 : decode cX10_chart 43 = .ok (.getfield 195, 3) := by decide +kernel
theorem dX10_chart_46 : decode cX10_chart 46 = .ok (.iconst 1, 1) := by decide +kernel
theorem dX10_chart_47 : decode cX10_chart 47 = .ok (.iadd, 1) := by decide +kernel
theorem dX10_chart_48 : decode cX10_chart 48 = .ok (.idiv, 1) := by decide +kernel
theorem dX10_chart_49 : decode cX10_chart 49 = .ok (.iload_n 1, 1) := by decide +kernel
theorem dX10_chart_50 : decode cX10_chart 50 = .ok (.aload_n 0, 1) := by decide +kernel
theorem dX10_chart_51 : decode cX10_chart 51 = .ok (.getfield 195, 3) := by decide +kernel
theorem dX10_chart_54 : decode cX10_chart 54 = .ok (.iconst 1, 1) := by decide +kernel
theorem dX10_chart_55 : decode cX10_chart 55 = .ok (.iadd, 1) := by decide +kernel
theorem dX10_chart_56 : decode cX10_chart 56 = .ok (.irem, 1) := by decide +kernel
theorem dX10_chart_57 : decode cX10_chart 57 = .ok (.invokevirtual 371, 3) := by decide +kernel
theorem dX10_chart_60 : decode cX10_chart 60 = .ok (.goto 5, 3) := by decide +kernel
theorem dX10_chart_63 : decode cX10_chart 63 = .ok (.bipush (-2), 2) := by decide +kernel
theorem dX10_chart_65 : decode cX10_chart 65 = .ok (.ireturn, 1) := by decide +kernel
theorem dX10_passes_0 : decode cX10_passes 0 = .ok (.aload_n 0, 1) := by decide +kernel
theorem dX10_passes_1 : decode cX10_passes 1 = .ok (.getfield 374, 3) := by decide +kernel
theorem dX10_passes_4 : decode cX10_passes 4 = .ok (.ifCond .eq 7, 3) := by decide +kernel
theorem dX10_passes_7 : decode cX10_passes 7 = .ok (.iload_n 1, 1) := by decide +kernel
theorem dX10_passes_8 : decode cX10_passes 8 = .ok (.goto 12, 3) := by decide +kernel
theorem dX10_passes_11 : decode cX10_passes 11 = .ok (.aload_n 0, 1) := by decide +kernel
theorem dX10_passes_12 : decode cX10_passes 12 = .ok (.getfield 102, 3) := by decide +kernel
theorem dX10_passes_15 : decode cX10_passes 15 = .ok (.aload_n 0, 1) := by decide +kernel
theorem dX10_passes_16 : decode cX10_passes 16 = .ok (.getfield 377, 3) := by decide +kernel
theorem dX10_passes_19 : decode cX10_passes 19 = .ok (.iaload, 1) := by decide +kernel
theorem dX10_passes_20 : decode cX10_passes 20 = .ok (.istore_n 2, 1) := by decide +kernel
theorem dX10_passes_21 : decode cX10_passes 21 = .ok (.aload_n 0, 1) := by decide +kernel
theorem dX10_passes_22 : decode cX10_passes 22 = .ok (.getfield 102, 3) := by decide +kernel
theorem dX10_passes_25 : decode cX10_passes 25 = .ok (.aload_n 0, 1) := by decide +kernel
theorem dX10_passes_26 : decode cX10_passes 26 = .ok (.getfield 377, 3) := by decide +kernel
theorem dX10_passes_29 : decode cX10_passes 29 = .ok (.iload_n 2, 1) := by decide +kernel
theorem dX10_passes_30 : decode cX10_passes 30 = .ok (.iastore, 1) := by decide +kernel
theorem dX10_passes_31 : decode cX10_passes 31 = .ok (.aload_n 0, 1) := by decide +kernel
theorem dX10_passes_32 : decode cX10_passes 32 = .ok (.dup, 1) := by decide +kernel
theorem dX10_passes_33 : decode cX10_passes 33 = .ok (.getfield 377, 3) := by decide +kernel
theorem dX10_passes_36 : decode cX10_passes 36 = .ok (.iconst 1, 1) := by decide +kernel
theorem dX10_passes_37 : decode cX10_passes 37 = .ok (.iadd, 1) := by decide +kernel
theorem dX10_passes_38 : decode cX10_passes 38 = .ok (.putfield 377, 3) := by decide +kernel
theorem dX10_passes_41 : decode cX10_passes 41 = .ok (.iload_n 2, 1) := by decide +kernel
theorem dX10_passes_42 : decode cX10_passes 42 = .ok (.ireturn, 1) := by decide +kernel
theorem dX10_passesRow_0 : decode cX10_passesRow 0 = .ok (.iconst 0, 1) := by decide +kernel
theorem dX10_passesRow_1 : decode cX10_passesRow 1 = .ok (.istore_n 2, 1) := by decide +kernel
theorem dX10_passesRow_2 : decode cX10_passesRow 2 = .ok (.iload_n 2, 1) := by decide +kernel
theorem dX10_passesRow_3 : decode cX10_passesRow 3 = .ok (.aload_n 1, 1) := by decide +kernel
theorem dX10_passesRow_4 : decode cX10_passesRow 4 = .ok (.arraylength, 1) := by decide +kernel
theorem dX10_passesRow_5 : decode cX10_passesRow 5 = .ok (.if_icmp .ge 19, 3) := by decide +kernel
theorem dX10_passesRow_8 : decode cX10_passesRow 8 = .ok (.aload_n 1, 1) := by decide +kernel
theorem dX10_passesRow_9 : decode cX10_passesRow 9 = .ok (.iload_n 2, 1) := by decide +kernel
theorem dX10_passesRow_10 : decode cX10_passesRow 10 = .ok (.aload_n 0, 1) := by decide +kernel
theorem dX10_passesRow_11 : decode cX10_passesRow 11 = .ok (.aload_n 1, 1) := by decide +kernel
theorem dX10_passesRow_12 : decode cX10_passesRow 12 = .ok (.iload_n 2, 1) := by decide +kernel
theorem dX10_passesRow_13 : decode cX10_passesRow 13 = .ok (.iaload, 1) := by decide +kernel
theorem dX10_passesRow_14 : decode cX10_passesRow 14 = .ok (.invokevirtual 380, 3) := by decide +kernel
theorem dX10_passesRow_17 : decode cX10_passesRow 17 = .ok (.iastore, 1) := by decide +kernel
theorem dX10_passesRow_18 : decode cX10_passesRow 18 = .ok (.iinc 2 1, 3) := by decide +kernel
theorem dX10_passesRow_21 : decode cX10_passesRow 21 = .ok (.goto (-19), 3) := by decide +kernel
theorem dX10_passesRow_24 : decode cX10_passesRow 24 = .ok (.return_, 1) := by decide +kernel
theorem dX10_passesAll_0 : decode cX10_passesAll 0 = .ok (.aload_n 0, 1) := by decide +kernel
theorem dX10_passesAll_1 : decode cX10_passesAll 1 = .ok (.iload_n 1, 1) := by decide +kernel
theorem dX10_passesAll_2 : decode cX10_passesAll 2 = .ok (.putfield 374, 3) := by decide +kernel
theorem dX10_passesAll_5 : decode cX10_passesAll 5 = .ok (.aload_n 0, 1) := by decide +kernel
theorem dX10_passesAll_6 : decode cX10_passesAll 6 = .ok (.iconst 0, 1) := by decide +kernel
theorem dX10_passesAll_7 : decode cX10_passesAll 7 = .ok (.putfield 377, 3) := by decide +kernel
theorem dX10_passesAll_10 : decode cX10_passesAll 10 = .ok (.aload_n 0, 1) := by decide +kernel
theorem dX10_passesAll_11 : decode cX10_passesAll 11 = .ok (.aload_n 0, 1) := by decide +kernel
theorem dX10_passesAll_12 : decode cX10_passesAll 12 = .ok (.aload_n 0, 1) := by decide +kernel
theorem dX10_passesAll_13 : decode cX10_passesAll 13 = .ok (.getfield 150, 3) := by decide +kernel
theorem dX10_passesAll_16 : decode cX10_passesAll 16 = .ok (.invokevirtual 380, 3) := by decide +kernel
theorem dX10_passesAll_19 : decode cX10_passesAll 19 = .ok (.putfield 150, 3) := by decide +kernel
theorem dX10_passesAll_22 : decode cX10_passesAll 22 = .ok (.aload_n 0, 1) := by decide +kernel
theorem dX10_passesAll_23 : decode cX10_passesAll 23 = .ok (.aload_n 0, 1) := by decide +kernel
theorem dX10_passesAll_24 : decode cX10_passesAll 24 = .ok (.aload_n 0, 1) := by decide +kernel
theorem dX10_passesAll_25 : decode cX10_passesAll 25 = .ok (.getfield 105, 3) := by decide +kernel
theorem dX10_passesAll_28 : decode cX10_passesAll 28 = .ok (.invokevirtual 380, 3) := by decide +kernel
theorem dX10_passesAll_31 : decode cX10_passesAll 31 = .ok (.putfield 105, 3) := by decide +kernel
theorem dX10_passesAll_34 : decode cX10_passesAll 34 = .ok (.aload_n 0, 1) := by decide +kernel
theorem dX10_passesAll_35 : decode cX10_passesAll 35 = .ok (.aload_n 0, 1) := by decide +kernel
theorem dX10_passesAll_36 : decode cX10_passesAll 36 = .ok (.getfield 25, 3) := by decide +kernel
theorem dX10_passesAll_39 : decode cX10_passesAll 39 = .ok (.invokevirtual 383, 3) := by decide +kernel
theorem dX10_passesAll_42 : decode cX10_passesAll 42 = .ok (.aload_n 0, 1) := by decide +kernel
theorem dX10_passesAll_43 : decode cX10_passesAll 43 = .ok (.aload_n 0, 1) := by decide +kernel
theorem dX10_passesAll_44 : decode cX10_passesAll 44 = .ok (.getfield 9, 3) := by decide +kernel
theorem dX10_passesAll_47 : decode cX10_passesAll 47 = .ok (.invokevirtual 383, 3) := by decide +kernel
theorem dX10_passesAll_50 : decode cX10_passesAll 50 = .ok (.aload_n 0, 1) := by decide +kernel
theorem dX10_passesAll_51 : decode cX10_passesAll 51 = .ok (.aload_n 0, 1) := by decide +kernel
theorem dX10_passesAll_52 : decode cX10_passesAll 52 = .ok (.getfield 13, 3) := by decide +kernel
theorem dX10_passesAll_55 : decode cX10_passesAll 55 = .ok (.invokevirtual 383, 3) := by decide +kernel
theorem dX10_passesAll_58 : decode cX10_passesAll 58 = .ok (.aload_n 0, 1) := by decide +kernel
theorem dX10_passesAll_59 : decode cX10_passesAll 59 = .ok (.aload_n 0, 1) := by decide +kernel
theorem dX10_passesAll_60 : decode cX10_passesAll 60 = .ok (.getfield 16, 3) := by decide +kernel
theorem dX10_passesAll_63 : decode cX10_passesAll 63 = .ok (.invokevirtual 383, 3) := by decide +kernel
theorem dX10_passesAll_66 : decode cX10_passesAll 66 = .ok (.aload_n 0, 1) := by decide +kernel
theorem dX10_passesAll_67 : decode cX10_passesAll 67 = .ok (.aload_n 0, 1) := by decide +kernel
theorem dX10_passesAll_68 : decode cX10_passesAll 68 = .ok (.getfield 19, 3) := by decide +kernel
theorem dX10_passesAll_71 : decode cX10_passesAll 71 = .ok (.invokevirtual 383, 3) := by decide +kernel
theorem dX10_passesAll_74 : decode cX10_passesAll 74 = .ok (.aload_n 0, 1) := by decide +kernel
theorem dX10_passesAll_75 : decode cX10_passesAll 75 = .ok (.aload_n 0, 1) := by decide +kernel
theorem dX10_passesAll_76 : decode cX10_passesAll 76 = .ok (.getfield 22, 3) := by decide +kernel
theorem dX10_passesAll_79 : decode cX10_passesAll 79 = .ok (.invokevirtual 383, 3) := by decide +kernel
theorem dX10_passesAll_82 : decode cX10_passesAll 82 = .ok (.return_, 1) := by decide +kernel
theorem dX10_image_0 : decode cX10_image 0 = .ok (.aload_n 0, 1) := by decide +kernel
theorem dX10_image_1 : decode cX10_image 1 = .ok (.getfield 105, 3) := by decide +kernel
theorem dX10_image_4 : decode cX10_image 4 = .ok (.ifCond .ne 6, 3) := by decide +kernel
theorem dX10_image_7 : decode cX10_image 7 = .ok (.bipush (-5), 2) := by decide +kernel
theorem dX10_image_9 : decode cX10_image 9 = .ok (.ireturn, 1) := by decide +kernel
theorem dX10_image_10 : decode cX10_image 10 = .ok (.aload_n 0, 1) := by decide +kernel
theorem dX10_image_11 : decode cX10_image 11 = .ok (.iconst 1, 1) := by decide +kernel
theorem dX10_image_12 : decode cX10_image 12 = .ok (.putfield 387, 3) := by decide +kernel
theorem dX10_image_15 : decode cX10_image 15 = .ok (.aload_n 0, 1) := by decide +kernel
theorem dX10_image_16 : decode cX10_image 16 = .ok (.iconst 1, 1) := by decide +kernel
theorem dX10_image_17 : decode cX10_image 17 = .ok (.invokevirtual 390, 3) := by decide +kernel
theorem dX10_image_20 : decode cX10_image 20 = .ok (.aload_n 0, 1) := by decide +kernel
theorem dX10_image_21 : decode cX10_image 21 = .ok (.getfield 105, 3) := by decide +kernel
theorem dX10_image_24 : decode cX10_image 24 = .ok (.ireturn, 1) := by decide +kernel
theorem dX10_back_0 : decode cX10_back 0 = .ok (.aload_n 0, 1) := by decide +kernel
theorem dX10_back_1 : decode cX10_back 1 = .ok (.getfield 387, 3) := by decide +kernel
theorem dX10_back_4 : decode cX10_back 4 = .ok (.ifCond .ne 6, 3) := by decide +kernel
theorem dX10_back_7 : decode cX10_back 7 = .ok (.bipush (-5), 2) := by decide +kernel
theorem dX10_back_9 : decode cX10_back 9 = .ok (.ireturn, 1) := by decide +kernel
theorem dX10_back_10 : decode cX10_back 10 = .ok (.aload_n 0, 1) := by decide +kernel
theorem dX10_back_11 : decode cX10_back 11 = .ok (.iconst 0, 1) := by decide +kernel
theorem dX10_back_12 : decode cX10_back 12 = .ok (.invokevirtual 390, 3) := by decide +kernel
theorem dX10_back_15 : decode cX10_back 15 = .ok (.aload_n 0, 1) := by decide +kernel
theorem dX10_back_16 : decode cX10_back 16 = .ok (.invokevirtual 156, 3) := by decide +kernel
theorem dX10_back_19 : decode cX10_back 19 = .ok (.aload_n 0, 1) := by decide +kernel
theorem dX10_back_20 : decode cX10_back 20 = .ok (.getfield 105, 3) := by decide +kernel
theorem dX10_back_23 : decode cX10_back 23 = .ok (.ireturn, 1) := by decide +kernel
theorem dX10_count_0 : decode cX10_count 0 = .ok (.iload_n 1, 1) := by decide +kernel
theorem dX10_count_1 : decode cX10_count 1 = .ok (.tableswitch 69 0 5 #[39, 44, 49, 54, 59, 64], 39) := by decide +kernel
theorem dX10_count_40 : decode cX10_count 40 = .ok (.aload_n 0, 1) := by decide +kernel
theorem dX10_count_41 : decode cX10_count 41 = .ok (.getfield 150, 3) := by decide +kernel
theorem dX10_count_44 : decode cX10_count 44 = .ok (.ireturn, 1) := by decide +kernel
theorem dX10_count_45 : decode cX10_count 45 = .ok (.aload_n 0, 1) := by decide +kernel
theorem dX10_count_46 : decode cX10_count 46 = .ok (.getfield 105, 3) := by decide +kernel
theorem dX10_count_49 : decode cX10_count 49 = .ok (.ireturn, 1) := by decide +kernel
theorem dX10_count_50 : decode cX10_count 50 = .ok (.aload_n 0, 1) := by decide +kernel
theorem dX10_count_51 : decode cX10_count 51 = .ok (.getfield 112, 3) := by decide +kernel
theorem dX10_count_54 : decode cX10_count 54 = .ok (.ireturn, 1) := by decide +kernel
theorem dX10_count_55 : decode cX10_count 55 = .ok (.aload_n 0, 1) := by decide +kernel
theorem dX10_count_56 : decode cX10_count 56 = .ok (.getfield 159, 3) := by decide +kernel
theorem dX10_count_59 : decode cX10_count 59 = .ok (.ireturn, 1) := by decide +kernel
theorem dX10_count_60 : decode cX10_count 60 = .ok (.aload_n 0, 1) := by decide +kernel
theorem dX10_count_61 : decode cX10_count 61 = .ok (.getfield 162, 3) := by decide +kernel
theorem dX10_count_64 : decode cX10_count 64 = .ok (.ireturn, 1) := by decide +kernel
theorem dX10_count_65 : decode cX10_count 65 = .ok (.aload_n 0, 1) := by decide +kernel
theorem dX10_count_66 : decode cX10_count 66 = .ok (.getfield 299, 3) := by decide +kernel
theorem dX10_count_69 : decode cX10_count 69 = .ok (.ireturn, 1) := by decide +kernel
theorem dX10_count_70 : decode cX10_count 70 = .ok (.iconst (-1), 1) := by decide +kernel
theorem dX10_count_71 : decode cX10_count 71 = .ok (.ireturn, 1) := by decide +kernel
theorem dL_law_0 : decode cL_law 0 = .ok (.new 7, 3) := by decide +kernel
theorem dL_law_3 : decode cL_law 3 = .ok (.dup, 1) := by decide +kernel
theorem dL_law_4 : decode cL_law 4 = .ok (.invokespecial 9, 3) := by decide +kernel
theorem dL_law_7 : decode cL_law 7 = .ok (.astore_n 1, 1) := by decide +kernel
theorem dL_law_8 : decode cL_law 8 = .ok (.new 10, 3) := by decide +kernel
theorem dL_law_11 : decode cL_law 11 = .ok (.dup, 1) := by decide +kernel
theorem dL_law_12 : decode cL_law 12 = .ok (.invokespecial 12, 3) := by decide +kernel
theorem dL_law_15 : decode cL_law 15 = .ok (.astore_n 2, 1) := by decide +kernel
theorem dL_law_16 : decode cL_law 16 = .ok (.iconst 0, 1) := by decide +kernel
theorem dL_law_17 : decode cL_law 17 = .ok (.istore_n 3, 1) := by decide +kernel
theorem dL_law_18 : decode cL_law 18 = .ok (.iload_n 3, 1) := by decide +kernel
theorem dL_law_19 : decode cL_law 19 = .ok (.aload_n 0, 1) := by decide +kernel
theorem dL_law_20 : decode cL_law 20 = .ok (.arraylength, 1) := by decide +kernel
theorem dL_law_21 : decode cL_law 21 = .ok (.iconst 3, 1) := by decide +kernel
theorem dL_law_22 : decode cL_law 22 = .ok (.isub, 1) := by decide +kernel
theorem dL_law_23 : decode cL_law 23 = .ok (.if_icmp .gt 750, 3) := by decide +kernel
theorem dL_law_26 : decode cL_law 26 = .ok (.aload_n 0, 1) := by decide +kernel
theorem dL_law_27 : decode cL_law 27 = .ok (.iload_n 3, 1) := by decide +kernel
theorem dL_law_28 : decode cL_law 28 = .ok (.iaload, 1) := by decide +kernel
theorem dL_law_29 : decode cL_law 29 = .ok (.bipush 31, 2) := by decide +kernel
theorem dL_law_31 : decode cL_law 31 = .ok (.iand, 1) := by decide +kernel
theorem dL_law_32 : decode cL_law 32 = .ok (.tableswitch 735 0 26 #[124, 147, 160, 193, 226, 259, 272, 305, 328, 351, 374, 407, 430, 453, 476, 499, 522, 545, 568, 601, 614, 637, 660, 673, 686, 699, 712], 124) := by decide +kernel
theorem dL_law_156 : decode cL_law 156 = .ok (.aload_n 1, 1) := by decide +kernel
theorem dL_law_157 : decode cL_law 157 = .ok (.aload_n 0, 1) := by decide +kernel
theorem dL_law_158 : decode cL_law 158 = .ok (.iload_n 3, 1) := by decide +kernel
theorem dL_law_159 : decode cL_law 159 = .ok (.iconst 1, 1) := by decide +kernel
theorem dL_law_160 : decode cL_law 160 = .ok (.iadd, 1) := by decide +kernel
theorem dL_law_161 : decode cL_law 161 = .ok (.iaload, 1) := by decide +kernel
theorem dL_law_162 : decode cL_law 162 = .ok (.invokevirtual 13, 3) := by decide +kernel
theorem dL_law_165 : decode cL_law 165 = .ok (.aload_n 2, 1) := by decide +kernel
theorem dL_law_166 : decode cL_law 166 = .ok (.aload_n 0, 1) := by decide +kernel
theorem dL_law_167 : decode cL_law 167 = .ok (.iload_n 3, 1) := by decide +kernel
theorem dL_law_168 : decode cL_law 168 = .ok (.iconst 1, 1) := by decide +kernel
theorem dL_law_169 : decode cL_law 169 = .ok (.iadd, 1) := by decide +kernel
theorem dL_law_170 : decode cL_law 170 = .ok (.iaload, 1) := by decide +kernel
theorem dL_law_171 : decode cL_law 171 = .ok (.invokevirtual 17, 3) := by decide +kernel
theorem dL_law_174 : decode cL_law 174 = .ok (.if_icmp .eq 593, 3) := by decide +kernel
theorem dL_law_177 : decode cL_law 177 = .ok (.iconst 0, 1) := by decide +kernel
theorem dL_law_178 : decode cL_law 178 = .ok (.ireturn, 1) := by decide +kernel
theorem dL_law_179 : decode cL_law 179 = .ok (.aload_n 1, 1) := by decide +kernel
theorem dL_law_180 : decode cL_law 180 = .ok (.invokevirtual 18, 3) := by decide +kernel
theorem dL_law_183 : decode cL_law 183 = .ok (.aload_n 2, 1) := by decide +kernel
theorem dL_law_184 : decode cL_law 184 = .ok (.invokevirtual 22, 3) := by decide +kernel
theorem dL_law_187 : decode cL_law 187 = .ok (.if_icmp .eq 580, 3) := by decide +kernel
theorem dL_law_190 : decode cL_law 190 = .ok (.iconst 0, 1) := by decide +kernel
theorem dL_law_191 : decode cL_law 191 = .ok (.ireturn, 1) := by decide +kernel
theorem dL_law_192 : decode cL_law 192 = .ok (.aload_n 1, 1) := by decide +kernel
theorem dL_law_193 : decode cL_law 193 = .ok (.aload_n 0, 1) := by decide +kernel
theorem dL_law_194 : decode cL_law 194 = .ok (.iload_n 3, 1) := by decide +kernel
theorem dL_law_195 : decode cL_law 195 = .ok (.iconst 1, 1) := by decide +kernel
theorem dL_law_196 : decode cL_law 196 = .ok (.iadd, 1) := by decide +kernel
theorem dL_law_197 : decode cL_law 197 = .ok (.iaload, 1) := by decide +kernel
theorem dL_law_198 : decode cL_law 198 = .ok (.aload_n 0, 1) := by decide +kernel
theorem dL_law_199 : decode cL_law 199 = .ok (.iload_n 3, 1) := by decide +kernel
theorem dL_law_200 : decode cL_law 200 = .ok (.iconst 2, 1) := by decide +kernel
theorem dL_law_201 : decode cL_law 201 = .ok (.iadd, 1) := by decide +kernel
theorem dL_law_202 : decode cL_law 202 = .ok (.iaload, 1) := by decide +kernel
theorem dL_law_203 : decode cL_law 203 = .ok (.invokevirtual 23, 3) := by decide +kernel
theorem dL_law_206 : decode cL_law 206 = .ok (.aload_n 2, 1) := by decide +kernel
theorem dL_law_207 : decode cL_law 207 = .ok (.aload_n 0, 1) := by decide +kernel
theorem dL_law_208 : decode cL_law 208 = .ok (.iload_n 3, 1) := by decide +kernel
theorem dL_law_209 : decode cL_law 209 = .ok (.iconst 1, 1) := by decide +kernel
theorem dL_law_210 : decode cL_law 210 = .ok (.iadd, 1) := by decide +kernel
theorem dL_law_211 : decode cL_law 211 = .ok (.iaload, 1) := by decide +kernel
theorem dL_law_212 : decode cL_law 212 = .ok (.aload_n 0, 1) := by decide +kernel
theorem dL_law_213 : decode cL_law 213 = .ok (.iload_n 3, 1) := by decide +kernel
theorem dL_law_214 : decode cL_law 214 = .ok (.iconst 2, 1) := by decide +kernel
theorem dL_law_215 : decode cL_law 215 = .ok (.iadd, 1) := by decide +kernel
theorem dL_law_216 : decode cL_law 216 = .ok (.iaload, 1) := by decide +kernel
theorem dL_law_217 : decode cL_law 217 = .ok (.invokevirtual 27, 3) := by decide +kernel
theorem dL_law_220 : decode cL_law 220 = .ok (.if_icmp .eq 547, 3) := by decide +kernel
theorem dL_law_223 : decode cL_law 223 = .ok (.iconst 0, 1) := by decide +kernel
theorem dL_law_224 : decode cL_law 224 = .ok (.ireturn, 1) := by decide +kernel
theorem dL_law_225 : decode cL_law 225 = .ok (.aload_n 1, 1) := by decide +kernel
theorem dL_law_226 : decode cL_law 226 = .ok (.aload_n 0, 1) := by decide +kernel
theorem dL_law_227 : decode cL_law 227 = .ok (.iload_n 3, 1) := by decide +kernel
theorem dL_law_228 : decode cL_law 228 = .ok (.iconst 1, 1) := by decide +kernel
theorem dL_law_229 : decode cL_law 229 = .ok (.iadd, 1) := by decide +kernel
theorem dL_law_230 : decode cL_law 230 = .ok (.iaload, 1) := by decide +kernel
theorem dL_law_231 : decode cL_law 231 = .ok (.aload_n 0, 1) := by decide +kernel
theorem dL_law_232 : decode cL_law 232 = .ok (.iload_n 3, 1) := by decide +kernel
theorem dL_law_233 : decode cL_law 233 = .ok (.iconst 2, 1) := by decide +kernel
theorem dL_law_234 : decode cL_law 234 = .ok (.iadd, 1) := by decide +kernel
theorem dL_law_235 : decode cL_law 235 = .ok (.iaload, 1) := by decide +kernel
theorem dL_law_236 : decode cL_law 236 = .ok (.invokevirtual 28, 3) := by decide +kernel
theorem dL_law_239 : decode cL_law 239 = .ok (.aload_n 2, 1) := by decide +kernel
theorem dL_law_240 : decode cL_law 240 = .ok (.aload_n 0, 1) := by decide +kernel
theorem dL_law_241 : decode cL_law 241 = .ok (.iload_n 3, 1) := by decide +kernel
theorem dL_law_242 : decode cL_law 242 = .ok (.iconst 1, 1) := by decide +kernel
theorem dL_law_243 : decode cL_law 243 = .ok (.iadd, 1) := by decide +kernel
theorem dL_law_244 : decode cL_law 244 = .ok (.iaload, 1) := by decide +kernel
theorem dL_law_245 : decode cL_law 245 = .ok (.aload_n 0, 1) := by decide +kernel
theorem dL_law_246 : decode cL_law 246 = .ok (.iload_n 3, 1) := by decide +kernel
theorem dL_law_247 : decode cL_law 247 = .ok (.iconst 2, 1) := by decide +kernel
theorem dL_law_248 : decode cL_law 248 = .ok (.iadd, 1) := by decide +kernel
theorem dL_law_249 : decode cL_law 249 = .ok (.iaload, 1) := by decide +kernel
theorem dL_law_250 : decode cL_law 250 = .ok (.invokevirtual 31, 3) := by decide +kernel
theorem dL_law_253 : decode cL_law 253 = .ok (.if_icmp .eq 514, 3) := by decide +kernel
theorem dL_law_256 : decode cL_law 256 = .ok (.iconst 0, 1) := by decide +kernel
theorem dL_law_257 : decode cL_law 257 = .ok (.ireturn, 1) := by decide +kernel
theorem dL_law_258 : decode cL_law 258 = .ok (.aload_n 1, 1) := by decide +kernel
theorem dL_law_259 : decode cL_law 259 = .ok (.aload_n 0, 1) := by decide +kernel
theorem dL_law_260 : decode cL_law 260 = .ok (.iload_n 3, 1) := by decide +kernel
theorem dL_law_261 : decode cL_law 261 = .ok (.iconst 1, 1) := by decide +kernel
theorem dL_law_262 : decode cL_law 262 = .ok (.iadd, 1) := by decide +kernel
theorem dL_law_263 : decode cL_law 263 = .ok (.iaload, 1) := by decide +kernel
theorem dL_law_264 : decode cL_law 264 = .ok (.aload_n 0, 1) := by decide +kernel
theorem dL_law_265 : decode cL_law 265 = .ok (.iload_n 3, 1) := by decide +kernel
theorem dL_law_266 : decode cL_law 266 = .ok (.iconst 2, 1) := by decide +kernel
theorem dL_law_267 : decode cL_law 267 = .ok (.iadd, 1) := by decide +kernel
theorem dL_law_268 : decode cL_law 268 = .ok (.iaload, 1) := by decide +kernel
theorem dL_law_269 : decode cL_law 269 = .ok (.invokevirtual 32, 3) := by decide +kernel
theorem dL_law_272 : decode cL_law 272 = .ok (.aload_n 2, 1) := by decide +kernel
theorem dL_law_273 : decode cL_law 273 = .ok (.aload_n 0, 1) := by decide +kernel
theorem dL_law_274 : decode cL_law 274 = .ok (.iload_n 3, 1) := by decide +kernel
theorem dL_law_275 : decode cL_law 275 = .ok (.iconst 1, 1) := by decide +kernel
theorem dL_law_276 : decode cL_law 276 = .ok (.iadd, 1) := by decide +kernel
theorem dL_law_277 : decode cL_law 277 = .ok (.iaload, 1) := by decide +kernel
theorem dL_law_278 : decode cL_law 278 = .ok (.aload_n 0, 1) := by decide +kernel
theorem dL_law_279 : decode cL_law 279 = .ok (.iload_n 3, 1) := by decide +kernel
theorem dL_law_280 : decode cL_law 280 = .ok (.iconst 2, 1) := by decide +kernel
theorem dL_law_281 : decode cL_law 281 = .ok (.iadd, 1) := by decide +kernel
theorem dL_law_282 : decode cL_law 282 = .ok (.iaload, 1) := by decide +kernel
theorem dL_law_283 : decode cL_law 283 = .ok (.invokevirtual 35, 3) := by decide +kernel
theorem dL_law_286 : decode cL_law 286 = .ok (.if_icmp .eq 481, 3) := by decide +kernel
theorem dL_law_289 : decode cL_law 289 = .ok (.iconst 0, 1) := by decide +kernel
theorem dL_law_290 : decode cL_law 290 = .ok (.ireturn, 1) := by decide +kernel
theorem dL_law_291 : decode cL_law 291 = .ok (.aload_n 1, 1) := by decide +kernel
theorem dL_law_292 : decode cL_law 292 = .ok (.invokevirtual 36, 3) := by decide +kernel
theorem dL_law_295 : decode cL_law 295 = .ok (.aload_n 2, 1) := by decide +kernel
theorem dL_law_296 : decode cL_law 296 = .ok (.invokevirtual 39, 3) := by decide +kernel
theorem dL_law_299 : decode cL_law 299 = .ok (.if_icmp .eq 468, 3) := by decide +kernel
theorem dL_law_302 : decode cL_law 302 = .ok (.iconst 0, 1) := by decide +kernel
theorem dL_law_303 : decode cL_law 303 = .ok (.ireturn, 1) := by decide +kernel
theorem dL_law_304 : decode cL_law 304 = .ok (.aload_n 1, 1) := by decide +kernel
theorem dL_law_305 : decode cL_law 305 = .ok (.aload_n 0, 1) := by decide +kernel
theorem dL_law_306 : decode cL_law 306 = .ok (.iload_n 3, 1) := by decide +kernel
theorem dL_law_307 : decode cL_law 307 = .ok (.iconst 1, 1) := by decide +kernel
theorem dL_law_308 : decode cL_law 308 = .ok (.iadd, 1) := by decide +kernel
theorem dL_law_309 : decode cL_law 309 = .ok (.iaload, 1) := by decide +kernel
theorem dL_law_310 : decode cL_law 310 = .ok (.aload_n 0, 1) := by decide +kernel
theorem dL_law_311 : decode cL_law 311 = .ok (.iload_n 3, 1) := by decide +kernel
theorem dL_law_312 : decode cL_law 312 = .ok (.iconst 2, 1) := by decide +kernel
theorem dL_law_313 : decode cL_law 313 = .ok (.iadd, 1) := by decide +kernel
theorem dL_law_314 : decode cL_law 314 = .ok (.iaload, 1) := by decide +kernel
theorem dL_law_315 : decode cL_law 315 = .ok (.invokevirtual 40, 3) := by decide +kernel
theorem dL_law_318 : decode cL_law 318 = .ok (.aload_n 2, 1) := by decide +kernel
theorem dL_law_319 : decode cL_law 319 = .ok (.aload_n 0, 1) := by decide +kernel
theorem dL_law_320 : decode cL_law 320 = .ok (.iload_n 3, 1) := by decide +kernel
theorem dL_law_321 : decode cL_law 321 = .ok (.iconst 1, 1) := by decide +kernel
theorem dL_law_322 : decode cL_law 322 = .ok (.iadd, 1) := by decide +kernel
theorem dL_law_323 : decode cL_law 323 = .ok (.iaload, 1) := by decide +kernel
theorem dL_law_324 : decode cL_law 324 = .ok (.aload_n 0, 1) := by decide +kernel
theorem dL_law_325 : decode cL_law 325 = .ok (.iload_n 3, 1) := by decide +kernel
theorem dL_law_326 : decode cL_law 326 = .ok (.iconst 2, 1) := by decide +kernel
theorem dL_law_327 : decode cL_law 327 = .ok (.iadd, 1) := by decide +kernel
theorem dL_law_328 : decode cL_law 328 = .ok (.iaload, 1) := by decide +kernel
theorem dL_law_329 : decode cL_law 329 = .ok (.invokevirtual 43, 3) := by decide +kernel
theorem dL_law_332 : decode cL_law 332 = .ok (.if_icmp .eq 435, 3) := by decide +kernel
theorem dL_law_335 : decode cL_law 335 = .ok (.iconst 0, 1) := by decide +kernel
theorem dL_law_336 : decode cL_law 336 = .ok (.ireturn, 1) := by decide +kernel
theorem dL_law_337 : decode cL_law 337 = .ok (.aload_n 1, 1) := by decide +kernel
theorem dL_law_338 : decode cL_law 338 = .ok (.aload_n 0, 1) := by decide +kernel
theorem dL_law_339 : decode cL_law 339 = .ok (.iload_n 3, 1) := by decide +kernel
theorem dL_law_340 : decode cL_law 340 = .ok (.iconst 1, 1) := by decide +kernel
theorem dL_law_341 : decode cL_law 341 = .ok (.iadd, 1) := by decide +kernel
theorem dL_law_342 : decode cL_law 342 = .ok (.iaload, 1) := by decide +kernel
theorem dL_law_343 : decode cL_law 343 = .ok (.invokevirtual 44, 3) := by decide +kernel
theorem dL_law_346 : decode cL_law 346 = .ok (.aload_n 2, 1) := by decide +kernel
theorem dL_law_347 : decode cL_law 347 = .ok (.aload_n 0, 1) := by decide +kernel
theorem dL_law_348 : decode cL_law 348 = .ok (.iload_n 3, 1) := by decide +kernel
theorem dL_law_349 : decode cL_law 349 = .ok (.iconst 1, 1) := by decide +kernel
theorem dL_law_350 : decode cL_law 350 = .ok (.iadd, 1) := by decide +kernel
theorem dL_law_351 : decode cL_law 351 = .ok (.iaload, 1) := by decide +kernel
theorem dL_law_352 : decode cL_law 352 = .ok (.invokevirtual 47, 3) := by decide +kernel
theorem dL_law_355 : decode cL_law 355 = .ok (.if_icmp .eq 412, 3) := by decide +kernel
theorem dL_law_358 : decode cL_law 358 = .ok (.iconst 0, 1) := by decide +kernel
theorem dL_law_359 : decode cL_law 359 = .ok (.ireturn, 1) := by decide +kernel
theorem dL_law_360 : decode cL_law 360 = .ok (.aload_n 1, 1) := by decide +kernel
theorem dL_law_361 : decode cL_law 361 = .ok (.aload_n 0, 1) := by decide +kernel
theorem dL_law_362 : decode cL_law 362 = .ok (.iload_n 3, 1) := by decide +kernel
theorem dL_law_363 : decode cL_law 363 = .ok (.iconst 1, 1) := by decide +kernel
theorem dL_law_364 : decode cL_law 364 = .ok (.iadd, 1) := by decide +kernel
theorem dL_law_365 : decode cL_law 365 = .ok (.iaload, 1) := by decide +kernel
theorem dL_law_366 : decode cL_law 366 = .ok (.invokevirtual 48, 3) := by decide +kernel
theorem dL_law_369 : decode cL_law 369 = .ok (.aload_n 2, 1) := by decide +kernel
theorem dL_law_370 : decode cL_law 370 = .ok (.aload_n 0, 1) := by decide +kernel
theorem dL_law_371 : decode cL_law 371 = .ok (.iload_n 3, 1) := by decide +kernel
theorem dL_law_372 : decode cL_law 372 = .ok (.iconst 1, 1) := by decide +kernel
theorem dL_law_373 : decode cL_law 373 = .ok (.iadd, 1) := by decide +kernel
theorem dL_law_374 : decode cL_law 374 = .ok (.iaload, 1) := by decide +kernel
theorem dL_law_375 : decode cL_law 375 = .ok (.invokevirtual 51, 3) := by decide +kernel
theorem dL_law_378 : decode cL_law 378 = .ok (.if_icmp .eq 389, 3) := by decide +kernel
theorem dL_law_381 : decode cL_law 381 = .ok (.iconst 0, 1) := by decide +kernel
theorem dL_law_382 : decode cL_law 382 = .ok (.ireturn, 1) := by decide +kernel
theorem dL_law_383 : decode cL_law 383 = .ok (.aload_n 1, 1) := by decide +kernel
theorem dL_law_384 : decode cL_law 384 = .ok (.aload_n 0, 1) := by decide +kernel
theorem dL_law_385 : decode cL_law 385 = .ok (.iload_n 3, 1) := by decide +kernel
theorem dL_law_386 : decode cL_law 386 = .ok (.iconst 1, 1) := by decide +kernel
theorem dL_law_387 : decode cL_law 387 = .ok (.iadd, 1) := by decide +kernel
theorem dL_law_388 : decode cL_law 388 = .ok (.iaload, 1) := by decide +kernel
theorem dL_law_389 : decode cL_law 389 = .ok (.invokevirtual 52, 3) := by decide +kernel
theorem dL_law_392 : decode cL_law 392 = .ok (.aload_n 2, 1) := by decide +kernel
theorem dL_law_393 : decode cL_law 393 = .ok (.aload_n 0, 1) := by decide +kernel
theorem dL_law_394 : decode cL_law 394 = .ok (.iload_n 3, 1) := by decide +kernel
theorem dL_law_395 : decode cL_law 395 = .ok (.iconst 1, 1) := by decide +kernel
theorem dL_law_396 : decode cL_law 396 = .ok (.iadd, 1) := by decide +kernel
theorem dL_law_397 : decode cL_law 397 = .ok (.iaload, 1) := by decide +kernel
theorem dL_law_398 : decode cL_law 398 = .ok (.invokevirtual 55, 3) := by decide +kernel
theorem dL_law_401 : decode cL_law 401 = .ok (.if_icmp .eq 366, 3) := by decide +kernel
theorem dL_law_404 : decode cL_law 404 = .ok (.iconst 0, 1) := by decide +kernel
theorem dL_law_405 : decode cL_law 405 = .ok (.ireturn, 1) := by decide +kernel
theorem dL_law_406 : decode cL_law 406 = .ok (.aload_n 1, 1) := by decide +kernel
theorem dL_law_407 : decode cL_law 407 = .ok (.aload_n 0, 1) := by decide +kernel
theorem dL_law_408 : decode cL_law 408 = .ok (.iload_n 3, 1) := by decide +kernel
theorem dL_law_409 : decode cL_law 409 = .ok (.iconst 1, 1) := by decide +kernel
theorem dL_law_410 : decode cL_law 410 = .ok (.iadd, 1) := by decide +kernel
theorem dL_law_411 : decode cL_law 411 = .ok (.iaload, 1) := by decide +kernel
theorem dL_law_412 : decode cL_law 412 = .ok (.aload_n 0, 1) := by decide +kernel
theorem dL_law_413 : decode cL_law 413 = .ok (.iload_n 3, 1) := by decide +kernel
theorem dL_law_414 : decode cL_law 414 = .ok (.iconst 2, 1) := by decide +kernel
theorem dL_law_415 : decode cL_law 415 = .ok (.iadd, 1) := by decide +kernel
theorem dL_law_416 : decode cL_law 416 = .ok (.iaload, 1) := by decide +kernel
theorem dL_law_417 : decode cL_law 417 = .ok (.invokevirtual 56, 3) := by decide +kernel
theorem dL_law_420 : decode cL_law 420 = .ok (.aload_n 2, 1) := by decide +kernel
theorem dL_law_421 : decode cL_law 421 = .ok (.aload_n 0, 1) := by decide +kernel
theorem dL_law_422 : decode cL_law 422 = .ok (.iload_n 3, 1) := by decide +kernel
theorem dL_law_423 : decode cL_law 423 = .ok (.iconst 1, 1) := by decide +kernel
theorem dL_law_424 : decode cL_law 424 = .ok (.iadd, 1) := by decide +kernel
theorem dL_law_425 : decode cL_law 425 = .ok (.iaload, 1) := by decide +kernel
theorem dL_law_426 : decode cL_law 426 = .ok (.aload_n 0, 1) := by decide +kernel
theorem dL_law_427 : decode cL_law 427 = .ok (.iload_n 3, 1) := by decide +kernel
theorem dL_law_428 : decode cL_law 428 = .ok (.iconst 2, 1) := by decide +kernel
theorem dL_law_429 : decode cL_law 429 = .ok (.iadd, 1) := by decide +kernel
theorem dL_law_430 : decode cL_law 430 = .ok (.iaload, 1) := by decide +kernel
theorem dL_law_431 : decode cL_law 431 = .ok (.invokevirtual 59, 3) := by decide +kernel
theorem dL_law_434 : decode cL_law 434 = .ok (.if_icmp .eq 333, 3) := by decide +kernel
theorem dL_law_437 : decode cL_law 437 = .ok (.iconst 0, 1) := by decide +kernel
theorem dL_law_438 : decode cL_law 438 = .ok (.ireturn, 1) := by decide +kernel
theorem dL_law_439 : decode cL_law 439 = .ok (.aload_n 1, 1) := by decide +kernel
theorem dL_law_440 : decode cL_law 440 = .ok (.aload_n 0, 1) := by decide +kernel
theorem dL_law_441 : decode cL_law 441 = .ok (.iload_n 3, 1) := by decide +kernel
theorem dL_law_442 : decode cL_law 442 = .ok (.iconst 1, 1) := by decide +kernel
theorem dL_law_443 : decode cL_law 443 = .ok (.iadd, 1) := by decide +kernel
theorem dL_law_444 : decode cL_law 444 = .ok (.iaload, 1) := by decide +kernel
theorem dL_law_445 : decode cL_law 445 = .ok (.invokevirtual 60, 3) := by decide +kernel
theorem dL_law_448 : decode cL_law 448 = .ok (.aload_n 2, 1) := by decide +kernel
theorem dL_law_449 : decode cL_law 449 = .ok (.aload_n 0, 1) := by decide +kernel
theorem dL_law_450 : decode cL_law 450 = .ok (.iload_n 3, 1) := by decide +kernel
theorem dL_law_451 : decode cL_law 451 = .ok (.iconst 1, 1) := by decide +kernel
theorem dL_law_452 : decode cL_law 452 = .ok (.iadd, 1) := by decide +kernel
theorem dL_law_453 : decode cL_law 453 = .ok (.iaload, 1) := by decide +kernel
theorem dL_law_454 : decode cL_law 454 = .ok (.invokevirtual 63, 3) := by decide +kernel
theorem dL_law_457 : decode cL_law 457 = .ok (.if_icmp .eq 310, 3) := by decide +kernel
theorem dL_law_460 : decode cL_law 460 = .ok (.iconst 0, 1) := by decide +kernel
theorem dL_law_461 : decode cL_law 461 = .ok (.ireturn, 1) := by decide +kernel
theorem dL_law_462 : decode cL_law 462 = .ok (.aload_n 1, 1) := by decide +kernel
theorem dL_law_463 : decode cL_law 463 = .ok (.aload_n 0, 1) := by decide +kernel
theorem dL_law_464 : decode cL_law 464 = .ok (.iload_n 3, 1) := by decide +kernel
theorem dL_law_465 : decode cL_law 465 = .ok (.iconst 1, 1) := by decide +kernel
theorem dL_law_466 : decode cL_law 466 = .ok (.iadd, 1) := by decide +kernel
theorem dL_law_467 : decode cL_law 467 = .ok (.iaload, 1) := by decide +kernel
theorem dL_law_468 : decode cL_law 468 = .ok (.invokevirtual 64, 3) := by decide +kernel
theorem dL_law_471 : decode cL_law 471 = .ok (.aload_n 2, 1) := by decide +kernel
theorem dL_law_472 : decode cL_law 472 = .ok (.aload_n 0, 1) := by decide +kernel
theorem dL_law_473 : decode cL_law 473 = .ok (.iload_n 3, 1) := by decide +kernel
theorem dL_law_474 : decode cL_law 474 = .ok (.iconst 1, 1) := by decide +kernel
theorem dL_law_475 : decode cL_law 475 = .ok (.iadd, 1) := by decide +kernel
theorem dL_law_476 : decode cL_law 476 = .ok (.iaload, 1) := by decide +kernel
theorem dL_law_477 : decode cL_law 477 = .ok (.invokevirtual 67, 3) := by decide +kernel
theorem dL_law_480 : decode cL_law 480 = .ok (.if_icmp .eq 287, 3) := by decide +kernel
theorem dL_law_483 : decode cL_law 483 = .ok (.iconst 0, 1) := by decide +kernel
theorem dL_law_484 : decode cL_law 484 = .ok (.ireturn, 1) := by decide +kernel
theorem dL_law_485 : decode cL_law 485 = .ok (.aload_n 1, 1) := by decide +kernel
theorem dL_law_486 : decode cL_law 486 = .ok (.aload_n 0, 1) := by decide +kernel
theorem dL_law_487 : decode cL_law 487 = .ok (.iload_n 3, 1) := by decide +kernel
theorem dL_law_488 : decode cL_law 488 = .ok (.iconst 1, 1) := by decide +kernel
theorem dL_law_489 : decode cL_law 489 = .ok (.iadd, 1) := by decide +kernel
theorem dL_law_490 : decode cL_law 490 = .ok (.iaload, 1) := by decide +kernel
theorem dL_law_491 : decode cL_law 491 = .ok (.invokevirtual 68, 3) := by decide +kernel
theorem dL_law_494 : decode cL_law 494 = .ok (.aload_n 2, 1) := by decide +kernel
theorem dL_law_495 : decode cL_law 495 = .ok (.aload_n 0, 1) := by decide +kernel
theorem dL_law_496 : decode cL_law 496 = .ok (.iload_n 3, 1) := by decide +kernel
theorem dL_law_497 : decode cL_law 497 = .ok (.iconst 1, 1) := by decide +kernel
theorem dL_law_498 : decode cL_law 498 = .ok (.iadd, 1) := by decide +kernel
theorem dL_law_499 : decode cL_law 499 = .ok (.iaload, 1) := by decide +kernel
theorem dL_law_500 : decode cL_law 500 = .ok (.invokevirtual 71, 3) := by decide +kernel
theorem dL_law_503 : decode cL_law 503 = .ok (.if_icmp .eq 264, 3) := by decide +kernel
theorem dL_law_506 : decode cL_law 506 = .ok (.iconst 0, 1) := by decide +kernel
theorem dL_law_507 : decode cL_law 507 = .ok (.ireturn, 1) := by decide +kernel
theorem dL_law_508 : decode cL_law 508 = .ok (.aload_n 1, 1) := by decide +kernel
theorem dL_law_509 : decode cL_law 509 = .ok (.aload_n 0, 1) := by decide +kernel
theorem dL_law_510 : decode cL_law 510 = .ok (.iload_n 3, 1) := by decide +kernel
theorem dL_law_511 : decode cL_law 511 = .ok (.iconst 1, 1) := by decide +kernel
theorem dL_law_512 : decode cL_law 512 = .ok (.iadd, 1) := by decide +kernel
theorem dL_law_513 : decode cL_law 513 = .ok (.iaload, 1) := by decide +kernel
theorem dL_law_514 : decode cL_law 514 = .ok (.invokevirtual 72, 3) := by decide +kernel
theorem dL_law_517 : decode cL_law 517 = .ok (.aload_n 2, 1) := by decide +kernel
theorem dL_law_518 : decode cL_law 518 = .ok (.aload_n 0, 1) := by decide +kernel
theorem dL_law_519 : decode cL_law 519 = .ok (.iload_n 3, 1) := by decide +kernel
theorem dL_law_520 : decode cL_law 520 = .ok (.iconst 1, 1) := by decide +kernel
theorem dL_law_521 : decode cL_law 521 = .ok (.iadd, 1) := by decide +kernel
theorem dL_law_522 : decode cL_law 522 = .ok (.iaload, 1) := by decide +kernel
theorem dL_law_523 : decode cL_law 523 = .ok (.invokevirtual 75, 3) := by decide +kernel
theorem dL_law_526 : decode cL_law 526 = .ok (.if_icmp .eq 241, 3) := by decide +kernel
theorem dL_law_529 : decode cL_law 529 = .ok (.iconst 0, 1) := by decide +kernel
theorem dL_law_530 : decode cL_law 530 = .ok (.ireturn, 1) := by decide +kernel
theorem dL_law_531 : decode cL_law 531 = .ok (.aload_n 1, 1) := by decide +kernel
theorem dL_law_532 : decode cL_law 532 = .ok (.aload_n 0, 1) := by decide +kernel
theorem dL_law_533 : decode cL_law 533 = .ok (.iload_n 3, 1) := by decide +kernel
theorem dL_law_534 : decode cL_law 534 = .ok (.iconst 1, 1) := by decide +kernel
theorem dL_law_535 : decode cL_law 535 = .ok (.iadd, 1) := by decide +kernel
theorem dL_law_536 : decode cL_law 536 = .ok (.iaload, 1) := by decide +kernel
theorem dL_law_537 : decode cL_law 537 = .ok (.invokevirtual 76, 3) := by decide +kernel
theorem dL_law_540 : decode cL_law 540 = .ok (.aload_n 2, 1) := by decide +kernel
theorem dL_law_541 : decode cL_law 541 = .ok (.aload_n 0, 1) := by decide +kernel
theorem dL_law_542 : decode cL_law 542 = .ok (.iload_n 3, 1) := by decide +kernel
theorem dL_law_543 : decode cL_law 543 = .ok (.iconst 1, 1) := by decide +kernel
theorem dL_law_544 : decode cL_law 544 = .ok (.iadd, 1) := by decide +kernel
theorem dL_law_545 : decode cL_law 545 = .ok (.iaload, 1) := by decide +kernel
theorem dL_law_546 : decode cL_law 546 = .ok (.invokevirtual 79, 3) := by decide +kernel
theorem dL_law_549 : decode cL_law 549 = .ok (.if_icmp .eq 218, 3) := by decide +kernel
theorem dL_law_552 : decode cL_law 552 = .ok (.iconst 0, 1) := by decide +kernel
theorem dL_law_553 : decode cL_law 553 = .ok (.ireturn, 1) := by decide +kernel
theorem dL_law_554 : decode cL_law 554 = .ok (.aload_n 1, 1) := by decide +kernel
theorem dL_law_555 : decode cL_law 555 = .ok (.aload_n 0, 1) := by decide +kernel
theorem dL_law_556 : decode cL_law 556 = .ok (.iload_n 3, 1) := by decide +kernel
theorem dL_law_557 : decode cL_law 557 = .ok (.iconst 1, 1) := by decide +kernel
theorem dL_law_558 : decode cL_law 558 = .ok (.iadd, 1) := by decide +kernel
theorem dL_law_559 : decode cL_law 559 = .ok (.iaload, 1) := by decide +kernel
theorem dL_law_560 : decode cL_law 560 = .ok (.invokevirtual 80, 3) := by decide +kernel
theorem dL_law_563 : decode cL_law 563 = .ok (.aload_n 2, 1) := by decide +kernel
theorem dL_law_564 : decode cL_law 564 = .ok (.aload_n 0, 1) := by decide +kernel
theorem dL_law_565 : decode cL_law 565 = .ok (.iload_n 3, 1) := by decide +kernel
theorem dL_law_566 : decode cL_law 566 = .ok (.iconst 1, 1) := by decide +kernel
theorem dL_law_567 : decode cL_law 567 = .ok (.iadd, 1) := by decide +kernel
theorem dL_law_568 : decode cL_law 568 = .ok (.iaload, 1) := by decide +kernel
theorem dL_law_569 : decode cL_law 569 = .ok (.invokevirtual 83, 3) := by decide +kernel
theorem dL_law_572 : decode cL_law 572 = .ok (.if_icmp .eq 195, 3) := by decide +kernel
theorem dL_law_575 : decode cL_law 575 = .ok (.iconst 0, 1) := by decide +kernel
theorem dL_law_576 : decode cL_law 576 = .ok (.ireturn, 1) := by decide +kernel
theorem dL_law_577 : decode cL_law 577 = .ok (.aload_n 1, 1) := by decide +kernel
theorem dL_law_578 : decode cL_law 578 = .ok (.aload_n 0, 1) := by decide +kernel
theorem dL_law_579 : decode cL_law 579 = .ok (.iload_n 3, 1) := by decide +kernel
theorem dL_law_580 : decode cL_law 580 = .ok (.iconst 1, 1) := by decide +kernel
theorem dL_law_581 : decode cL_law 581 = .ok (.iadd, 1) := by decide +kernel
theorem dL_law_582 : decode cL_law 582 = .ok (.iaload, 1) := by decide +kernel
theorem dL_law_583 : decode cL_law 583 = .ok (.invokevirtual 84, 3) := by decide +kernel
theorem dL_law_586 : decode cL_law 586 = .ok (.aload_n 2, 1) := by decide +kernel
theorem dL_law_587 : decode cL_law 587 = .ok (.aload_n 0, 1) := by decide +kernel
theorem dL_law_588 : decode cL_law 588 = .ok (.iload_n 3, 1) := by decide +kernel
theorem dL_law_589 : decode cL_law 589 = .ok (.iconst 1, 1) := by decide +kernel
theorem dL_law_590 : decode cL_law 590 = .ok (.iadd, 1) := by decide +kernel
theorem dL_law_591 : decode cL_law 591 = .ok (.iaload, 1) := by decide +kernel
theorem dL_law_592 : decode cL_law 592 = .ok (.invokevirtual 87, 3) := by decide +kernel
theorem dL_law_595 : decode cL_law 595 = .ok (.if_icmp .eq 172, 3) := by decide +kernel
theorem dL_law_598 : decode cL_law 598 = .ok (.iconst 0, 1) := by decide +kernel
theorem dL_law_599 : decode cL_law 599 = .ok (.ireturn, 1) := by decide +kernel
theorem dL_law_600 : decode cL_law 600 = .ok (.aload_n 1, 1) := by decide +kernel
theorem dL_law_601 : decode cL_law 601 = .ok (.aload_n 0, 1) := by decide +kernel
theorem dL_law_602 : decode cL_law 602 = .ok (.iload_n 3, 1) := by decide +kernel
theorem dL_law_603 : decode cL_law 603 = .ok (.iconst 1, 1) := by decide +kernel
theorem dL_law_604 : decode cL_law 604 = .ok (.iadd, 1) := by decide +kernel
theorem dL_law_605 : decode cL_law 605 = .ok (.iaload, 1) := by decide +kernel
theorem dL_law_606 : decode cL_law 606 = .ok (.aload_n 0, 1) := by decide +kernel
theorem dL_law_607 : decode cL_law 607 = .ok (.iload_n 3, 1) := by decide +kernel
theorem dL_law_608 : decode cL_law 608 = .ok (.iconst 2, 1) := by decide +kernel
theorem dL_law_609 : decode cL_law 609 = .ok (.iadd, 1) := by decide +kernel
theorem dL_law_610 : decode cL_law 610 = .ok (.iaload, 1) := by decide +kernel
theorem dL_law_611 : decode cL_law 611 = .ok (.invokevirtual 88, 3) := by decide +kernel
theorem dL_law_614 : decode cL_law 614 = .ok (.aload_n 2, 1) := by decide +kernel
theorem dL_law_615 : decode cL_law 615 = .ok (.aload_n 0, 1) := by decide +kernel
theorem dL_law_616 : decode cL_law 616 = .ok (.iload_n 3, 1) := by decide +kernel
theorem dL_law_617 : decode cL_law 617 = .ok (.iconst 1, 1) := by decide +kernel
theorem dL_law_618 : decode cL_law 618 = .ok (.iadd, 1) := by decide +kernel
theorem dL_law_619 : decode cL_law 619 = .ok (.iaload, 1) := by decide +kernel
theorem dL_law_620 : decode cL_law 620 = .ok (.aload_n 0, 1) := by decide +kernel
theorem dL_law_621 : decode cL_law 621 = .ok (.iload_n 3, 1) := by decide +kernel
theorem dL_law_622 : decode cL_law 622 = .ok (.iconst 2, 1) := by decide +kernel
theorem dL_law_623 : decode cL_law 623 = .ok (.iadd, 1) := by decide +kernel
theorem dL_law_624 : decode cL_law 624 = .ok (.iaload, 1) := by decide +kernel
theorem dL_law_625 : decode cL_law 625 = .ok (.invokevirtual 91, 3) := by decide +kernel
theorem dL_law_628 : decode cL_law 628 = .ok (.if_icmp .eq 139, 3) := by decide +kernel
theorem dL_law_631 : decode cL_law 631 = .ok (.iconst 0, 1) := by decide +kernel
theorem dL_law_632 : decode cL_law 632 = .ok (.ireturn, 1) := by decide +kernel
theorem dL_law_633 : decode cL_law 633 = .ok (.aload_n 1, 1) := by decide +kernel
theorem dL_law_634 : decode cL_law 634 = .ok (.invokevirtual 92, 3) := by decide +kernel
theorem dL_law_637 : decode cL_law 637 = .ok (.aload_n 2, 1) := by decide +kernel
theorem dL_law_638 : decode cL_law 638 = .ok (.invokevirtual 95, 3) := by decide +kernel
theorem dL_law_641 : decode cL_law 641 = .ok (.if_icmp .eq 126, 3) := by decide +kernel
theorem dL_law_644 : decode cL_law 644 = .ok (.iconst 0, 1) := by decide +kernel
theorem dL_law_645 : decode cL_law 645 = .ok (.ireturn, 1) := by decide +kernel
theorem dL_law_646 : decode cL_law 646 = .ok (.aload_n 1, 1) := by decide +kernel
theorem dL_law_647 : decode cL_law 647 = .ok (.aload_n 0, 1) := by decide +kernel
theorem dL_law_648 : decode cL_law 648 = .ok (.iload_n 3, 1) := by decide +kernel
theorem dL_law_649 : decode cL_law 649 = .ok (.iconst 1, 1) := by decide +kernel
theorem dL_law_650 : decode cL_law 650 = .ok (.iadd, 1) := by decide +kernel
theorem dL_law_651 : decode cL_law 651 = .ok (.iaload, 1) := by decide +kernel
theorem dL_law_652 : decode cL_law 652 = .ok (.invokevirtual 96, 3) := by decide +kernel
theorem dL_law_655 : decode cL_law 655 = .ok (.aload_n 2, 1) := by decide +kernel
theorem dL_law_656 : decode cL_law 656 = .ok (.aload_n 0, 1) := by decide +kernel
theorem dL_law_657 : decode cL_law 657 = .ok (.iload_n 3, 1) := by decide +kernel
theorem dL_law_658 : decode cL_law 658 = .ok (.iconst 1, 1) := by decide +kernel
theorem dL_law_659 : decode cL_law 659 = .ok (.iadd, 1) := by decide +kernel
theorem dL_law_660 : decode cL_law 660 = .ok (.iaload, 1) := by decide +kernel
theorem dL_law_661 : decode cL_law 661 = .ok (.invokevirtual 99, 3) := by decide +kernel
theorem dL_law_664 : decode cL_law 664 = .ok (.if_icmp .eq 103, 3) := by decide +kernel
theorem dL_law_667 : decode cL_law 667 = .ok (.iconst 0, 1) := by decide +kernel
theorem dL_law_668 : decode cL_law 668 = .ok (.ireturn, 1) := by decide +kernel
theorem dL_law_669 : decode cL_law 669 = .ok (.aload_n 1, 1) := by decide +kernel
theorem dL_law_670 : decode cL_law 670 = .ok (.aload_n 0, 1) := by decide +kernel
theorem dL_law_671 : decode cL_law 671 = .ok (.iload_n 3, 1) := by decide +kernel
theorem dL_law_672 : decode cL_law 672 = .ok (.iconst 1, 1) := by decide +kernel
theorem dL_law_673 : decode cL_law 673 = .ok (.iadd, 1) := by decide +kernel
theorem dL_law_674 : decode cL_law 674 = .ok (.iaload, 1) := by decide +kernel
theorem dL_law_675 : decode cL_law 675 = .ok (.invokevirtual 100, 3) := by decide +kernel
theorem dL_law_678 : decode cL_law 678 = .ok (.aload_n 2, 1) := by decide +kernel
theorem dL_law_679 : decode cL_law 679 = .ok (.aload_n 0, 1) := by decide +kernel
theorem dL_law_680 : decode cL_law 680 = .ok (.iload_n 3, 1) := by decide +kernel
theorem dL_law_681 : decode cL_law 681 = .ok (.iconst 1, 1) := by decide +kernel
theorem dL_law_682 : decode cL_law 682 = .ok (.iadd, 1) := by decide +kernel
theorem dL_law_683 : decode cL_law 683 = .ok (.iaload, 1) := by decide +kernel
theorem dL_law_684 : decode cL_law 684 = .ok (.invokevirtual 103, 3) := by decide +kernel
theorem dL_law_687 : decode cL_law 687 = .ok (.if_icmp .eq 80, 3) := by decide +kernel
theorem dL_law_690 : decode cL_law 690 = .ok (.iconst 0, 1) := by decide +kernel
theorem dL_law_691 : decode cL_law 691 = .ok (.ireturn, 1) := by decide +kernel
theorem dL_law_692 : decode cL_law 692 = .ok (.aload_n 1, 1) := by decide +kernel
theorem dL_law_693 : decode cL_law 693 = .ok (.invokevirtual 104, 3) := by decide +kernel
theorem dL_law_696 : decode cL_law 696 = .ok (.aload_n 2, 1) := by decide +kernel
theorem dL_law_697 : decode cL_law 697 = .ok (.invokevirtual 107, 3) := by decide +kernel
theorem dL_law_700 : decode cL_law 700 = .ok (.if_icmp .eq 67, 3) := by decide +kernel
theorem dL_law_703 : decode cL_law 703 = .ok (.iconst 0, 1) := by decide +kernel
theorem dL_law_704 : decode cL_law 704 = .ok (.ireturn, 1) := by decide +kernel
theorem dL_law_705 : decode cL_law 705 = .ok (.aload_n 1, 1) := by decide +kernel
theorem dL_law_706 : decode cL_law 706 = .ok (.invokevirtual 108, 3) := by decide +kernel
theorem dL_law_709 : decode cL_law 709 = .ok (.aload_n 2, 1) := by decide +kernel
theorem dL_law_710 : decode cL_law 710 = .ok (.invokevirtual 111, 3) := by decide +kernel
theorem dL_law_713 : decode cL_law 713 = .ok (.if_icmp .eq 54, 3) := by decide +kernel
theorem dL_law_716 : decode cL_law 716 = .ok (.iconst 0, 1) := by decide +kernel
theorem dL_law_717 : decode cL_law 717 = .ok (.ireturn, 1) := by decide +kernel
theorem dL_law_718 : decode cL_law 718 = .ok (.aload_n 1, 1) := by decide +kernel
theorem dL_law_719 : decode cL_law 719 = .ok (.invokevirtual 112, 3) := by decide +kernel
theorem dL_law_722 : decode cL_law 722 = .ok (.aload_n 2, 1) := by decide +kernel
theorem dL_law_723 : decode cL_law 723 = .ok (.invokevirtual 115, 3) := by decide +kernel
theorem dL_law_726 : decode cL_law 726 = .ok (.if_icmp .eq 41, 3) := by decide +kernel
theorem dL_law_729 : decode cL_law 729 = .ok (.iconst 0, 1) := by decide +kernel
theorem dL_law_730 : decode cL_law 730 = .ok (.ireturn, 1) := by decide +kernel
theorem dL_law_731 : decode cL_law 731 = .ok (.aload_n 1, 1) := by decide +kernel
theorem dL_law_732 : decode cL_law 732 = .ok (.invokevirtual 116, 3) := by decide +kernel
theorem dL_law_735 : decode cL_law 735 = .ok (.aload_n 2, 1) := by decide +kernel
theorem dL_law_736 : decode cL_law 736 = .ok (.invokevirtual 119, 3) := by decide +kernel
theorem dL_law_739 : decode cL_law 739 = .ok (.if_icmp .eq 28, 3) := by decide +kernel
theorem dL_law_742 : decode cL_law 742 = .ok (.iconst 0, 1) := by decide +kernel
theorem dL_law_743 : decode cL_law 743 = .ok (.ireturn, 1) := by decide +kernel
theorem dL_law_744 : decode cL_law 744 = .ok (.aload_n 1, 1) := by decide +kernel
theorem dL_law_745 : decode cL_law 745 = .ok (.aload_n 0, 1) := by decide +kernel
theorem dL_law_746 : decode cL_law 746 = .ok (.iload_n 3, 1) := by decide +kernel
theorem dL_law_747 : decode cL_law 747 = .ok (.iconst 1, 1) := by decide +kernel
theorem dL_law_748 : decode cL_law 748 = .ok (.iadd, 1) := by decide +kernel
theorem dL_law_749 : decode cL_law 749 = .ok (.iaload, 1) := by decide +kernel
theorem dL_law_750 : decode cL_law 750 = .ok (.invokevirtual 120, 3) := by decide +kernel
theorem dL_law_753 : decode cL_law 753 = .ok (.aload_n 2, 1) := by decide +kernel
theorem dL_law_754 : decode cL_law 754 = .ok (.aload_n 0, 1) := by decide +kernel
theorem dL_law_755 : decode cL_law 755 = .ok (.iload_n 3, 1) := by decide +kernel
theorem dL_law_756 : decode cL_law 756 = .ok (.iconst 1, 1) := by decide +kernel
theorem dL_law_757 : decode cL_law 757 = .ok (.iadd, 1) := by decide +kernel
theorem dL_law_758 : decode cL_law 758 = .ok (.iaload, 1) := by decide +kernel
theorem dL_law_759 : decode cL_law 759 = .ok (.invokevirtual 123, 3) := by decide +kernel
theorem dL_law_762 : decode cL_law 762 = .ok (.if_icmp .eq 5, 3) := by decide +kernel
theorem dL_law_765 : decode cL_law 765 = .ok (.iconst 0, 1) := by decide +kernel
theorem dL_law_766 : decode cL_law 766 = .ok (.ireturn, 1) := by decide +kernel
theorem dL_law_767 : decode cL_law 767 = .ok (.iinc 3 3, 3) := by decide +kernel
theorem dL_law_770 : decode cL_law 770 = .ok (.goto (-752), 3) := by decide +kernel
theorem dL_law_773 : decode cL_law 773 = .ok (.iconst 1, 1) := by decide +kernel
theorem dL_law_774 : decode cL_law 774 = .ok (.ireturn, 1) := by decide +kernel
