theorem dX0_init_0 : decode cX0_init 0 = .ok (.aload_n 0, 1) := by decide +kernel
theorem dX0_init_1 : decode cX0_init 1 = .ok (.invokespecial 3, 3) := by decide +kernel
theorem dX0_init_4 : decode cX0_init 4 = .ok (.aload_n 0, 1) := by decide +kernel
theorem dX0_init_5 : decode cX0_init 5 = .ok (.bipush 6, 2) := by decide +kernel
theorem dX0_init_7 : decode cX0_init 7 = .ok (.newarray .int, 2) := by decide +kernel
theorem dX0_init_9 : decode cX0_init 9 = .ok (.putfield 9, 3) := by decide +kernel
theorem dX0_init_12 : decode cX0_init 12 = .ok (.aload_n 0, 1) := by decide +kernel
theorem dX0_init_13 : decode cX0_init 13 = .ok (.bipush 24, 2) := by decide +kernel
theorem dX0_init_15 : decode cX0_init 15 = .ok (.newarray .int, 2) := by decide +kernel
theorem dX0_init_17 : decode cX0_init 17 = .ok (.putfield 15, 3) := by decide +kernel
theorem dX0_init_20 : decode cX0_init 20 = .ok (.aload_n 0, 1) := by decide +kernel
theorem dX0_init_21 : decode cX0_init 21 = .ok (.iconst 5, 1) := by decide +kernel
theorem dX0_init_22 : decode cX0_init 22 = .ok (.newarray .int, 2) := by decide +kernel
theorem dX0_init_24 : decode cX0_init 24 = .ok (.dup, 1) := by decide +kernel
theorem dX0_init_25 : decode cX0_init 25 = .ok (.iconst 0, 1) := by decide +kernel
theorem dX0_init_26 : decode cX0_init 26 = .ok (.iconst (-1), 1) := by decide +kernel
theorem dX0_init_27 : decode cX0_init 27 = .ok (.iastore, 1) := by decide +kernel
theorem dX0_init_28 : decode cX0_init 28 = .ok (.dup, 1) := by decide +kernel
theorem dX0_init_29 : decode cX0_init 29 = .ok (.iconst 1, 1) := by decide +kernel
theorem dX0_init_30 : decode cX0_init 30 = .ok (.iconst (-1), 1) := by decide +kernel
theorem dX0_init_31 : decode cX0_init 31 = .ok (.iastore, 1) := by decide +kernel
theorem dX0_init_32 : decode cX0_init 32 = .ok (.dup, 1) := by decide +kernel
theorem dX0_init_33 : decode cX0_init 33 = .ok (.iconst 2, 1) := by decide +kernel
theorem dX0_init_34 : decode cX0_init 34 = .ok (.iconst (-1), 1) := by decide +kernel
theorem dX0_init_35 : decode cX0_init 35 = .ok (.iastore, 1) := by decide +kernel
theorem dX0_init_36 : decode cX0_init 36 = .ok (.dup, 1) := by decide +kernel
theorem dX0_init_37 : decode cX0_init 37 = .ok (.iconst 3, 1) := by decide +kernel
theorem dX0_init_38 : decode cX0_init 38 = .ok (.iconst (-1), 1) := by decide +kernel
theorem dX0_init_39 : decode cX0_init 39 = .ok (.iastore, 1) := by decide +kernel
theorem dX0_init_40 : decode cX0_init 40 = .ok (.dup, 1) := by decide +kernel
theorem dX0_init_41 : decode cX0_init 41 = .ok (.iconst 4, 1) := by decide +kernel
theorem dX0_init_42 : decode cX0_init 42 = .ok (.iconst (-1), 1) := by decide +kernel
theorem dX0_init_43 : decode cX0_init 43 = .ok (.iastore, 1) := by decide +kernel
theorem dX0_init_44 : decode cX0_init 44 = .ok (.putfield 18, 3) := by decide +kernel
theorem dX0_init_47 : decode cX0_init 47 = .ok (.return_, 1) := by decide +kernel
theorem dX0_forget_0 : decode cX0_forget 0 = .ok (.iconst 0, 1) := by decide +kernel
theorem dX0_forget_1 : decode cX0_forget 1 = .ok (.istore_n 1, 1) := by decide +kernel
theorem dX0_forget_2 : decode cX0_forget 2 = .ok (.iload_n 1, 1) := by decide +kernel
theorem dX0_forget_3 : decode cX0_forget 3 = .ok (.iconst 5, 1) := by decide +kernel
theorem dX0_forget_4 : decode cX0_forget 4 = .ok (.if_icmp .ge 16, 3) := by decide +kernel
theorem dX0_forget_7 : decode cX0_forget 7 = .ok (.aload_n 0, 1) := by decide +kernel
theorem dX0_forget_8 : decode cX0_forget 8 = .ok (.getfield 18, 3) := by decide +kernel
theorem dX0_forget_11 : decode cX0_forget 11 = .ok (.iload_n 1, 1) := by decide +kernel
theorem dX0_forget_12 : decode cX0_forget 12 = .ok (.iconst (-1), 1) := by decide +kernel
theorem dX0_forget_13 : decode cX0_forget 13 = .ok (.iastore, 1) := by decide +kernel
theorem dX0_forget_14 : decode cX0_forget 14 = .ok (.iinc 1 1, 3) := by decide +kernel
theorem dX0_forget_17 : decode cX0_forget 17 = .ok (.goto (-15), 3) := by decide +kernel
theorem dX0_forget_20 : decode cX0_forget 20 = .ok (.return_, 1) := by decide +kernel
theorem dX0_atBest_0 : decode cX0_atBest 0 = .ok (.aload_n 1, 1) := by decide +kernel
theorem dX0_atBest_1 : decode cX0_atBest 1 = .ok (.iload_n 2, 1) := by decide +kernel
theorem dX0_atBest_2 : decode cX0_atBest 2 = .ok (.invokevirtual 21, 3) := by decide +kernel
theorem dX0_atBest_5 : decode cX0_atBest 5 = .ok (.bipush 6, 2) := by decide +kernel
theorem dX0_atBest_7 : decode cX0_atBest 7 = .ok (.if_icmp .le 6, 3) := by decide +kernel
theorem dX0_atBest_10 : decode cX0_atBest 10 = .ok (.bipush (-7), 2) := by decide +kernel
theorem dX0_atBest_12 : decode cX0_atBest 12 = .ok (.ireturn, 1) := by decide +kernel
theorem dX0_atBest_13 : decode cX0_atBest 13 = .ok (.aload_n 0, 1) := by decide +kernel
theorem dX0_atBest_14 : decode cX0_atBest 14 = .ok (.getfield 18, 3) := by decide +kernel
theorem dX0_atBest_17 : decode cX0_atBest 17 = .ok (.iload_n 2, 1) := by decide +kernel
theorem dX0_atBest_18 : decode cX0_atBest 18 = .ok (.iaload, 1) := by decide +kernel
theorem dX0_atBest_19 : decode cX0_atBest 19 = .ok (.iconst (-1), 1) := by decide +kernel
theorem dX0_atBest_20 : decode cX0_atBest 20 = .ok (.if_icmp .ne 15, 3) := by decide +kernel
theorem dX0_atBest_23 : decode cX0_atBest 23 = .ok (.aload_n 0, 1) := by decide +kernel
theorem dX0_atBest_24 : decode cX0_atBest 24 = .ok (.getfield 18, 3) := by decide +kernel
theorem dX0_atBest_27 : decode cX0_atBest 27 = .ok (.iload_n 2, 1) := by decide +kernel
theorem dX0_atBest_28 : decode cX0_atBest 28 = .ok (.aload_n 0, 1) := by decide +kernel
theorem dX0_atBest_29 : decode cX0_atBest 29 = .ok (.aload_n 1, 1) := by decide +kernel
theorem dX0_atBest_30 : decode cX0_atBest 30 = .ok (.iload_n 2, 1) := by decide +kernel
theorem dX0_atBest_31 : decode cX0_atBest 31 = .ok (.invokevirtual 27, 3) := by decide +kernel
theorem dX0_atBest_34 : decode cX0_atBest 34 = .ok (.iastore, 1) := by decide +kernel
theorem dX0_atBest_35 : decode cX0_atBest 35 = .ok (.aload_n 0, 1) := by decide +kernel
theorem dX0_atBest_36 : decode cX0_atBest 36 = .ok (.getfield 18, 3) := by decide +kernel
theorem dX0_atBest_39 : decode cX0_atBest 39 = .ok (.iload_n 2, 1) := by decide +kernel
theorem dX0_atBest_40 : decode cX0_atBest 40 = .ok (.iaload, 1) := by decide +kernel
theorem dX0_atBest_41 : decode cX0_atBest 41 = .ok (.ireturn, 1) := by decide +kernel
theorem dX0_leastOfAllOrders_0 : decode cX0_leastOfAllOrders 0 = .ok (.iconst 0, 1) := by decide +kernel
theorem dX0_leastOfAllOrders_1 : decode cX0_leastOfAllOrders 1 = .ok (.istore_n 3, 1) := by decide +kernel
theorem dX0_leastOfAllOrders_2 : decode cX0_leastOfAllOrders 2 = .ok (.iconst 1, 1) := by decide +kernel
theorem dX0_leastOfAllOrders_3 : decode cX0_leastOfAllOrders 3 = .ok (.istore 4, 2) := by decide +kernel
theorem dX0_leastOfAllOrders_5 : decode cX0_leastOfAllOrders 5 = .ok (.iconst 0, 1) := by decide +kernel
theorem dX0_leastOfAllOrders_6 : decode cX0_leastOfAllOrders 6 = .ok (.istore 5, 2) := by decide +kernel
theorem dX0_leastOfAllOrders_8 : decode cX0_leastOfAllOrders 8 = .ok (.iload 5, 2) := by decide +kernel
theorem dX0_leastOfAllOrders_10 : decode cX0_leastOfAllOrders 10 = .ok (.aload_n 1, 1) := by decide +kernel
theorem dX0_leastOfAllOrders_11 : decode cX0_leastOfAllOrders 11 = .ok (.getfield 31, 3) := by decide +kernel
theorem dX0_leastOfAllOrders_14 : decode cX0_leastOfAllOrders 14 = .ok (.if_icmp .ge 43, 3) := by decide +kernel
theorem dX0_leastOfAllOrders_17 : decode cX0_leastOfAllOrders 17 = .ok (.aload_n 1, 1) := by decide +kernel
theorem dX0_leastOfAllOrders_18 : decode cX0_leastOfAllOrders 18 = .ok (.getfield 34, 3) := by decide +kernel
theorem dX0_leastOfAllOrders_21 : decode cX0_leastOfAllOrders 21 = .ok (.iload 5, 2) := by decide +kernel
theorem dX0_leastOfAllOrders_23 : decode cX0_leastOfAllOrders 23 = .ok (.iaload, 1) := by decide +kernel
theorem dX0_leastOfAllOrders_24 : decode cX0_leastOfAllOrders 24 = .ok (.iload_n 2, 1) := by decide +kernel
theorem dX0_leastOfAllOrders_25 : decode cX0_leastOfAllOrders 25 = .ok (.if_icmp .ne 26, 3) := by decide +kernel
theorem dX0_leastOfAllOrders_28 : decode cX0_leastOfAllOrders 28 = .ok (.iload_n 3, 1) := by decide +kernel
theorem dX0_leastOfAllOrders_29 : decode cX0_leastOfAllOrders 29 = .ok (.bipush 6, 2) := by decide +kernel
theorem dX0_leastOfAllOrders_31 : decode cX0_leastOfAllOrders 31 = .ok (.if_icmp .ge 20, 3) := by decide +kernel
theorem dX0_leastOfAllOrders_34 : decode cX0_leastOfAllOrders 34 = .ok (.aload_n 0, 1) := by decide +kernel
theorem dX0_leastOfAllOrders_35 : decode cX0_leastOfAllOrders 35 = .ok (.getfield 9, 3) := by decide +kernel
theorem dX0_leastOfAllOrders_38 : decode cX0_leastOfAllOrders 38 = .ok (.iload_n 3, 1) := by decide +kernel
theorem dX0_leastOfAllOrders_39 : decode cX0_leastOfAllOrders 39 = .ok (.iload 5, 2) := by decide +kernel
theorem dX0_leastOfAllOrders_41 : decode cX0_leastOfAllOrders 41 = .ok (.iastore, 1) := by decide +kernel
theorem dX0_leastOfAllOrders_42 : decode cX0_leastOfAllOrders 42 = .ok (.iinc 3 1, 3) := by decide +kernel
theorem dX0_leastOfAllOrders_45 : decode cX0_leastOfAllOrders 45 = .ok (.iload 4, 2) := by decide +kernel
theorem dX0_leastOfAllOrders_47 : decode cX0_leastOfAllOrders 47 = .ok (.iload_n 3, 1) := by decide +kernel
theorem dX0_leastOfAllOrders_48 : decode cX0_leastOfAllOrders 48 = .ok (.imul, 1) := by decide +kernel
theorem dX0_leastOfAllOrders_49 : decode cX0_leastOfAllOrders 49 = .ok (.istore 4, 2) := by decide +kernel
theorem dX0_leastOfAllOrders_51 : decode cX0_leastOfAllOrders 51 = .ok (.iinc 5 1, 3) := by decide +kernel
theorem dX0_leastOfAllOrders_54 : decode cX0_leastOfAllOrders 54 = .ok (.goto (-46), 3) := by decide +kernel
theorem dX0_leastOfAllOrders_57 : decode cX0_leastOfAllOrders 57 = .ok (.aload_n 0, 1) := by decide +kernel
theorem dX0_leastOfAllOrders_58 : decode cX0_leastOfAllOrders 58 = .ok (.aload_n 1, 1) := by decide +kernel
theorem dX0_leastOfAllOrders_59 : decode cX0_leastOfAllOrders 59 = .ok (.iload_n 3, 1) := by decide +kernel
theorem dX0_leastOfAllOrders_60 : decode cX0_leastOfAllOrders 60 = .ok (.invokevirtual 37, 3) := by decide +kernel
theorem dX0_leastOfAllOrders_63 : decode cX0_leastOfAllOrders 63 = .ok (.istore 5, 2) := by decide +kernel
theorem dX0_leastOfAllOrders_65 : decode cX0_leastOfAllOrders 65 = .ok (.iconst 1, 1) := by decide +kernel
theorem dX0_leastOfAllOrders_66 : decode cX0_leastOfAllOrders 66 = .ok (.istore 6, 2) := by decide +kernel
theorem dX0_leastOfAllOrders_68 : decode cX0_leastOfAllOrders 68 = .ok (.iload 6, 2) := by decide +kernel
theorem dX0_leastOfAllOrders_70 : decode cX0_leastOfAllOrders 70 = .ok (.iload 4, 2) := by decide +kernel
theorem dX0_leastOfAllOrders_72 : decode cX0_leastOfAllOrders 72 = .ok (.if_icmp .ge 32, 3) := by decide +kernel
theorem dX0_leastOfAllOrders_75 : decode cX0_leastOfAllOrders 75 = .ok (.aload_n 0, 1) := by decide +kernel
theorem dX0_leastOfAllOrders_76 : decode cX0_leastOfAllOrders 76 = .ok (.getfield 9, 3) := by decide +kernel
theorem dX0_leastOfAllOrders_79 : decode cX0_leastOfAllOrders 79 = .ok (.iconst 0, 1) := by decide +kernel
theorem dX0_leastOfAllOrders_80 : decode cX0_leastOfAllOrders 80 = .ok (.iload_n 3, 1) := by decide +kernel
theorem dX0_leastOfAllOrders_81 : decode cX0_leastOfAllOrders 81 = .ok (.invokestatic 40, 3) := by decide +kernel
theorem dX0_leastOfAllOrders_84 : decode cX0_leastOfAllOrders 84 = .ok (.pop, 1) := by decide +kernel
theorem dX0_leastOfAllOrders_85 : decode cX0_leastOfAllOrders 85 = .ok (.iload 5, 2) := by decide +kernel
theorem dX0_leastOfAllOrders_87 : decode cX0_leastOfAllOrders 87 = .ok (.aload_n 0, 1) := by decide +kernel
theorem dX0_leastOfAllOrders_88 : decode cX0_leastOfAllOrders 88 = .ok (.aload_n 1, 1) := by decide +kernel
theorem dX0_leastOfAllOrders_89 : decode cX0_leastOfAllOrders 89 = .ok (.iload_n 3, 1) := by decide +kernel
theorem dX0_leastOfAllOrders_90 : decode cX0_leastOfAllOrders 90 = .ok (.invokevirtual 37, 3) := by decide +kernel
theorem dX0_leastOfAllOrders_93 : decode cX0_leastOfAllOrders 93 = .ok (.invokestatic 44, 3) := by decide +kernel
theorem dX0_leastOfAllOrders_96 : decode cX0_leastOfAllOrders 96 = .ok (.istore 5, 2) := by decide +kernel
theorem dX0_leastOfAllOrders_98 : decode cX0_leastOfAllOrders 98 = .ok (.iinc 6 1, 3) := by decide +kernel
theorem dX0_leastOfAllOrders_101 : decode cX0_leastOfAllOrders 101 = .ok (.goto (-33), 3) := by decide +kernel
theorem dX0_leastOfAllOrders_104 : decode cX0_leastOfAllOrders 104 = .ok (.iload 5, 2) := by decide +kernel
theorem dX0_leastOfAllOrders_106 : decode cX0_leastOfAllOrders 106 = .ok (.ireturn, 1) := by decide +kernel
theorem dX0_over_0 : decode cX0_over 0 = .ok (.iconst 0, 1) := by decide +kernel
theorem dX0_over_1 : decode cX0_over 1 = .ok (.istore_n 3, 1) := by decide +kernel
theorem dX0_over_2 : decode cX0_over 2 = .ok (.iconst 0, 1) := by decide +kernel
theorem dX0_over_3 : decode cX0_over 3 = .ok (.istore 4, 2) := by decide +kernel
theorem dX0_over_5 : decode cX0_over 5 = .ok (.iconst 0, 1) := by decide +kernel
theorem dX0_over_6 : decode cX0_over 6 = .ok (.istore 5, 2) := by decide +kernel
theorem dX0_over_8 : decode cX0_over 8 = .ok (.iload 5, 2) := by decide +kernel
theorem dX0_over_10 : decode cX0_over 10 = .ok (.iload_n 2, 1) := by decide +kernel
theorem dX0_over_11 : decode cX0_over 11 = .ok (.if_icmp .ge 54, 3) := by decide +kernel
theorem dX0_over_14 : decode cX0_over 14 = .ok (.aload_n 0, 1) := by decide +kernel
theorem dX0_over_15 : decode cX0_over 15 = .ok (.getfield 9, 3) := by decide +kernel
theorem dX0_over_18 : decode cX0_over 18 = .ok (.iload 5, 2) := by decide +kernel
theorem dX0_over_20 : decode cX0_over 20 = .ok (.iaload, 1) := by decide +kernel
theorem dX0_over_21 : decode cX0_over 21 = .ok (.istore 6, 2) := by decide +kernel
theorem dX0_over_23 : decode cX0_over 23 = .ok (.iload_n 3, 1) := by decide +kernel
theorem dX0_over_24 : decode cX0_over 24 = .ok (.aload_n 1, 1) := by decide +kernel
theorem dX0_over_25 : decode cX0_over 25 = .ok (.getfield 50, 3) := by decide +kernel
theorem dX0_over_28 : decode cX0_over 28 = .ok (.iload 6, 2) := by decide +kernel
theorem dX0_over_30 : decode cX0_over 30 = .ok (.iaload, 1) := by decide +kernel
theorem dX0_over_31 : decode cX0_over 31 = .ok (.invokestatic 53, 3) := by decide +kernel
theorem dX0_over_34 : decode cX0_over 34 = .ok (.aload_n 1, 1) := by decide +kernel
theorem dX0_over_35 : decode cX0_over 35 = .ok (.getfield 56, 3) := by decide +kernel
theorem dX0_over_38 : decode cX0_over 38 = .ok (.iload 6, 2) := by decide +kernel
theorem dX0_over_40 : decode cX0_over 40 = .ok (.iaload, 1) := by decide +kernel
theorem dX0_over_41 : decode cX0_over 41 = .ok (.iadd, 1) := by decide +kernel
theorem dX0_over_42 : decode cX0_over 42 = .ok (.istore_n 3, 1) := by decide +kernel
theorem dX0_over_43 : decode cX0_over 43 = .ok (.iload 4, 2) := by decide +kernel
theorem dX0_over_45 : decode cX0_over 45 = .ok (.iload_n 3, 1) := by decide +kernel
theorem dX0_over_46 : decode cX0_over 46 = .ok (.aload_n 1, 1) := by decide +kernel
theorem dX0_over_47 : decode cX0_over 47 = .ok (.getfield 59, 3) := by decide +kernel
theorem dX0_over_50 : decode cX0_over 50 = .ok (.iload 6, 2) := by decide +kernel
theorem dX0_over_52 : decode cX0_over 52 = .ok (.iaload, 1) := by decide +kernel
theorem dX0_over_53 : decode cX0_over 53 = .ok (.iadd, 1) := by decide +kernel
theorem dX0_over_54 : decode cX0_over 54 = .ok (.invokestatic 53, 3) := by decide +kernel
theorem dX0_over_57 : decode cX0_over 57 = .ok (.istore 4, 2) := by decide +kernel
theorem dX0_over_59 : decode cX0_over 59 = .ok (.iinc 5 1, 3) := by decide +kernel
theorem dX0_over_62 : decode cX0_over 62 = .ok (.goto (-54), 3) := by decide +kernel
theorem dX0_over_65 : decode cX0_over 65 = .ok (.iload 4, 2) := by decide +kernel
theorem dX0_over_67 : decode cX0_over 67 = .ok (.ireturn, 1) := by decide +kernel
theorem dX0_preempted_0 : decode cX0_preempted 0 = .ok (.iconst 0, 1) := by decide +kernel
theorem dX0_preempted_1 : decode cX0_preempted 1 = .ok (.istore_n 3, 1) := by decide +kernel
theorem dX0_preempted_2 : decode cX0_preempted 2 = .ok (.iload_n 3, 1) := by decide +kernel
theorem dX0_preempted_3 : decode cX0_preempted 3 = .ok (.aload_n 1, 1) := by decide +kernel
theorem dX0_preempted_4 : decode cX0_preempted 4 = .ok (.getfield 31, 3) := by decide +kernel
theorem dX0_preempted_7 : decode cX0_preempted 7 = .ok (.if_icmp .ge 35, 3) := by decide +kernel
theorem dX0_preempted_10 : decode cX0_preempted 10 = .ok (.aload_n 0, 1) := by decide +kernel
theorem dX0_preempted_11 : decode cX0_preempted 11 = .ok (.getfield 15, 3) := by decide +kernel
theorem dX0_preempted_14 : decode cX0_preempted 14 = .ok (.iload_n 3, 1) := by decide +kernel
theorem dX0_preempted_15 : decode cX0_preempted 15 = .ok (.aload_n 1, 1) := by decide +kernel
theorem dX0_preempted_16 : decode cX0_preempted 16 = .ok (.getfield 34, 3) := by decide +kernel
theorem dX0_preempted_19 : decode cX0_preempted 19 = .ok (.iload_n 3, 1) := by decide +kernel
theorem dX0_preempted_20 : decode cX0_preempted 20 = .ok (.iaload, 1) := by decide +kernel
theorem dX0_preempted_21 : decode cX0_preempted 21 = .ok (.iload_n 2, 1) := by decide +kernel
theorem dX0_preempted_22 : decode cX0_preempted 22 = .ok (.if_icmp .ne 12, 3) := by decide +kernel
theorem dX0_preempted_25 : decode cX0_preempted 25 = .ok (.aload_n 1, 1) := by decide +kernel
theorem dX0_preempted_26 : decode cX0_preempted 26 = .ok (.getfield 56, 3) := by decide +kernel
theorem dX0_preempted_29 : decode cX0_preempted 29 = .ok (.iload_n 3, 1) := by decide +kernel
theorem dX0_preempted_30 : decode cX0_preempted 30 = .ok (.iaload, 1) := by decide +kernel
theorem dX0_preempted_31 : decode cX0_preempted 31 = .ok (.goto 4, 3) := by decide +kernel
theorem dX0_preempted_34 : decode cX0_preempted 34 = .ok (.iconst 0, 1) := by decide +kernel
theorem dX0_preempted_35 : decode cX0_preempted 35 = .ok (.iastore, 1) := by decide +kernel
theorem dX0_preempted_36 : decode cX0_preempted 36 = .ok (.iinc 3 1, 3) := by decide +kernel
theorem dX0_preempted_39 : decode cX0_preempted 39 = .ok (.goto (-37), 3) := by decide +kernel
theorem dX0_preempted_42 : decode cX0_preempted 42 = .ok (.iconst 0, 1) := by decide +kernel
theorem dX0_preempted_43 : decode cX0_preempted 43 = .ok (.istore_n 3, 1) := by decide +kernel
theorem dX0_preempted_44 : decode cX0_preempted 44 = .ok (.iconst 0, 1) := by decide +kernel
theorem dX0_preempted_45 : decode cX0_preempted 45 = .ok (.istore 4, 2) := by decide +kernel
theorem dX0_preempted_47 : decode cX0_preempted 47 = .ok (.iconst 0, 1) := by decide +kernel
theorem dX0_preempted_48 : decode cX0_preempted 48 = .ok (.istore 5, 2) := by decide +kernel
theorem dX0_preempted_50 : decode cX0_preempted 50 = .ok (.iload 5, 2) := by decide +kernel
theorem dX0_preempted_52 : decode cX0_preempted 52 = .ok (.bipush 48, 2) := by decide +kernel
theorem dX0_preempted_54 : decode cX0_preempted 54 = .ok (.if_icmp .gt 129, 3) := by decide +kernel
theorem dX0_preempted_57 : decode cX0_preempted 57 = .ok (.aload_n 0, 1) := by decide +kernel
theorem dX0_preempted_58 : decode cX0_preempted 58 = .ok (.aload_n 1, 1) := by decide +kernel
theorem dX0_preempted_59 : decode cX0_preempted 59 = .ok (.iload_n 3, 1) := by decide +kernel
theorem dX0_preempted_60 : decode cX0_preempted 60 = .ok (.invokevirtual 62, 3) := by decide +kernel
theorem dX0_preempted_63 : decode cX0_preempted 63 = .ok (.istore 6, 2) := by decide +kernel
theorem dX0_preempted_65 : decode cX0_preempted 65 = .ok (.aload_n 0, 1) := by decide +kernel
theorem dX0_preempted_66 : decode cX0_preempted 66 = .ok (.aload_n 1, 1) := by decide +kernel
theorem dX0_preempted_67 : decode cX0_preempted 67 = .ok (.iload_n 3, 1) := by decide +kernel
theorem dX0_preempted_68 : decode cX0_preempted 68 = .ok (.invokevirtual 65, 3) := by decide +kernel
theorem dX0_preempted_71 : decode cX0_preempted 71 = .ok (.istore 7, 2) := by decide +kernel
theorem dX0_preempted_73 : decode cX0_preempted 73 = .ok (.iload 6, 2) := by decide +kernel
theorem dX0_preempted_75 : decode cX0_preempted 75 = .ok (.iconst (-1), 1) := by decide +kernel
theorem dX0_preempted_76 : decode cX0_preempted 76 = .ok (.if_icmp .eq 86, 3) := by decide +kernel
theorem dX0_preempted_79 : decode cX0_preempted 79 = .ok (.iload 7, 2) := by decide +kernel
theorem dX0_preempted_81 : decode cX0_preempted 81 = .ok (.iconst (-1), 1) := by decide +kernel
theorem dX0_preempted_82 : decode cX0_preempted 82 = .ok (.if_icmp .ne 13, 3) := by decide +kernel
theorem dX0_preempted_85 : decode cX0_preempted 85 = .ok (.aload_n 0, 1) := by decide +kernel
theorem dX0_preempted_86 : decode cX0_preempted 86 = .ok (.getfield 15, 3) := by decide +kernel
theorem dX0_preempted_89 : decode cX0_preempted 89 = .ok (.iload 6, 2) := by decide +kernel
theorem dX0_preempted_91 : decode cX0_preempted 91 = .ok (.iaload, 1) := by decide +kernel
theorem dX0_preempted_92 : decode cX0_preempted 92 = .ok (.goto 17, 3) := by decide +kernel
theorem dX0_preempted_95 : decode cX0_preempted 95 = .ok (.aload_n 0, 1) := by decide +kernel
theorem dX0_preempted_96 : decode cX0_preempted 96 = .ok (.getfield 15, 3) := by decide +kernel
theorem dX0_preempted_99 : decode cX0_preempted 99 = .ok (.iload 6, 2) := by decide +kernel
theorem dX0_preempted_101 : decode cX0_preempted 101 = .ok (.iaload, 1) := by decide +kernel
theorem dX0_preempted_102 : decode cX0_preempted 102 = .ok (.iload 7, 2) := by decide +kernel
theorem dX0_preempted_104 : decode cX0_preempted 104 = .ok (.iload_n 3, 1) := by decide +kernel
theorem dX0_preempted_105 : decode cX0_preempted 105 = .ok (.isub, 1) := by decide +kernel
theorem dX0_preempted_106 : decode cX0_preempted 106 = .ok (.invokestatic 44, 3) := by decide +kernel
theorem dX0_preempted_109 : decode cX0_preempted 109 = .ok (.istore 8, 2) := by decide +kernel
theorem dX0_preempted_111 : decode cX0_preempted 111 = .ok (.aload_n 0, 1) := by decide +kernel
theorem dX0_preempted_112 : decode cX0_preempted 112 = .ok (.getfield 15, 3) := by decide +kernel
theorem dX0_preempted_115 : decode cX0_preempted 115 = .ok (.iload 6, 2) := by decide +kernel
theorem dX0_preempted_117 : decode cX0_preempted 117 = .ok (.dup2, 1) := by decide +kernel
theorem dX0_preempted_118 : decode cX0_preempted 118 = .ok (.iaload, 1) := by decide +kernel
theorem dX0_preempted_119 : decode cX0_preempted 119 = .ok (.iload 8, 2) := by decide +kernel
theorem dX0_preempted_121 : decode cX0_preempted 121 = .ok (.isub, 1) := by decide +kernel
theorem dX0_preempted_122 : decode cX0_preempted 122 = .ok (.iastore, 1) := by decide +kernel
theorem dX0_preempted_123 : decode cX0_preempted 123 = .ok (.iload_n 3, 1) := by decide +kernel
theorem dX0_preempted_124 : decode cX0_preempted 124 = .ok (.iload 8, 2) := by decide +kernel
theorem dX0_preempted_126 : decode cX0_preempted 126 = .ok (.iadd, 1) := by decide +kernel
theorem dX0_preempted_127 : decode cX0_preempted 127 = .ok (.istore_n 3, 1) := by decide +kernel
theorem dX0_preempted_128 : decode cX0_preempted 128 = .ok (.aload_n 0, 1) := by decide +kernel
theorem dX0_preempted_129 : decode cX0_preempted 129 = .ok (.getfield 15, 3) := by decide +kernel
theorem dX0_preempted_132 : decode cX0_preempted 132 = .ok (.iload 6, 2) := by decide +kernel
theorem dX0_preempted_134 : decode cX0_preempted 134 = .ok (.iaload, 1) := by decide +kernel
theorem dX0_preempted_135 : decode cX0_preempted 135 = .ok (.ifCond .ne 20, 3) := by decide +kernel
theorem dX0_preempted_138 : decode cX0_preempted 138 = .ok (.iload 4, 2) := by decide +kernel
theorem dX0_preempted_140 : decode cX0_preempted 140 = .ok (.iload_n 3, 1) := by decide +kernel
theorem dX0_preempted_141 : decode cX0_preempted 141 = .ok (.aload_n 1, 1) := by decide +kernel
theorem dX0_preempted_142 : decode cX0_preempted 142 = .ok (.getfield 59, 3) := by decide +kernel
theorem dX0_preempted_145 : decode cX0_preempted 145 = .ok (.iload 6, 2) := by decide +kernel
theorem dX0_preempted_147 : decode cX0_preempted 147 = .ok (.iaload, 1) := by decide +kernel
theorem dX0_preempted_148 : decode cX0_preempted 148 = .ok (.iadd, 1) := by decide +kernel
theorem dX0_preempted_149 : decode cX0_preempted 149 = .ok (.invokestatic 53, 3) := by decide +kernel
theorem dX0_preempted_152 : decode cX0_preempted 152 = .ok (.goto 5, 3) := by decide +kernel
theorem dX0_preempted_155 : decode cX0_preempted 155 = .ok (.iload 4, 2) := by decide +kernel
theorem dX0_preempted_157 : decode cX0_preempted 157 = .ok (.istore 4, 2) := by decide +kernel
theorem dX0_preempted_159 : decode cX0_preempted 159 = .ok (.goto 18, 3) := by decide +kernel
theorem dX0_preempted_162 : decode cX0_preempted 162 = .ok (.iload 7, 2) := by decide +kernel
theorem dX0_preempted_164 : decode cX0_preempted 164 = .ok (.iconst (-1), 1) := by decide +kernel
theorem dX0_preempted_165 : decode cX0_preempted 165 = .ok (.if_icmp .eq 9, 3) := by decide +kernel
theorem dX0_preempted_168 : decode cX0_preempted 168 = .ok (.iload 7, 2) := by decide +kernel
theorem dX0_preempted_170 : decode cX0_preempted 170 = .ok (.istore_n 3, 1) := by decide +kernel
theorem dX0_preempted_171 : decode cX0_preempted 171 = .ok (.goto 6, 3) := by decide +kernel
theorem dX0_preempted_174 : decode cX0_preempted 174 = .ok (.iload 4, 2) := by decide +kernel
theorem dX0_preempted_176 : decode cX0_preempted 176 = .ok (.ireturn, 1) := by decide +kernel
theorem dX0_preempted_177 : decode cX0_preempted 177 = .ok (.iinc 5 1, 3) := by decide +kernel
theorem dX0_preempted_180 : decode cX0_preempted 180 = .ok (.goto (-130), 3) := by decide +kernel
theorem dX0_preempted_183 : decode cX0_preempted 183 = .ok (.iload 4, 2) := by decide +kernel
theorem dX0_preempted_185 : decode cX0_preempted 185 = .ok (.ireturn, 1) := by decide +kernel
theorem dX0_workedOn_0 : decode cX0_workedOn 0 = .ok (.iconst (-1), 1) := by decide +kernel
theorem dX0_workedOn_1 : decode cX0_workedOn 1 = .ok (.istore_n 3, 1) := by decide +kernel
theorem dX0_workedOn_2 : decode cX0_workedOn 2 = .ok (.iconst 0, 1) := by decide +kernel
theorem dX0_workedOn_3 : decode cX0_workedOn 3 = .ok (.istore 4, 2) := by decide +kernel
theorem dX0_workedOn_5 : decode cX0_workedOn 5 = .ok (.iload 4, 2) := by decide +kernel
theorem dX0_workedOn_7 : decode cX0_workedOn 7 = .ok (.aload_n 1, 1) := by decide +kernel
theorem dX0_workedOn_8 : decode cX0_workedOn 8 = .ok (.getfield 31, 3) := by decide +kernel
theorem dX0_workedOn_11 : decode cX0_workedOn 11 = .ok (.if_icmp .ge 54, 3) := by decide +kernel
theorem dX0_workedOn_14 : decode cX0_workedOn 14 = .ok (.aload_n 0, 1) := by decide +kernel
theorem dX0_workedOn_15 : decode cX0_workedOn 15 = .ok (.getfield 15, 3) := by decide +kernel
theorem dX0_workedOn_18 : decode cX0_workedOn 18 = .ok (.iload 4, 2) := by decide +kernel
theorem dX0_workedOn_20 : decode cX0_workedOn 20 = .ok (.iaload, 1) := by decide +kernel
theorem dX0_workedOn_21 : decode cX0_workedOn 21 = .ok (.ifCond .le 38, 3) := by decide +kernel
theorem dX0_workedOn_24 : decode cX0_workedOn 24 = .ok (.aload_n 1, 1) := by decide +kernel
theorem dX0_workedOn_25 : decode cX0_workedOn 25 = .ok (.getfield 50, 3) := by decide +kernel
theorem dX0_workedOn_28 : decode cX0_workedOn 28 = .ok (.iload 4, 2) := by decide +kernel
theorem dX0_workedOn_30 : decode cX0_workedOn 30 = .ok (.iaload, 1) := by decide +kernel
theorem dX0_workedOn_31 : decode cX0_workedOn 31 = .ok (.iload_n 2, 1) := by decide +kernel
theorem dX0_workedOn_32 : decode cX0_workedOn 32 = .ok (.if_icmp .gt 27, 3) := by decide +kernel
theorem dX0_workedOn_35 : decode cX0_workedOn 35 = .ok (.iload_n 3, 1) := by decide +kernel
theorem dX0_workedOn_36 : decode cX0_workedOn 36 = .ok (.iconst (-1), 1) := by decide +kernel
theorem dX0_workedOn_37 : decode cX0_workedOn 37 = .ok (.if_icmp .eq 19, 3) := by decide +kernel
theorem dX0_workedOn_40 : decode cX0_workedOn 40 = .ok (.aload_n 1, 1) := by decide +kernel
theorem dX0_workedOn_41 : decode cX0_workedOn 41 = .ok (.getfield 59, 3) := by decide +kernel
theorem dX0_workedOn_44 : decode cX0_workedOn 44 = .ok (.iload 4, 2) := by decide +kernel
theorem dX0_workedOn_46 : decode cX0_workedOn 46 = .ok (.iaload, 1) := by decide +kernel
theorem dX0_workedOn_47 : decode cX0_workedOn 47 = .ok (.aload_n 1, 1) := by decide +kernel
theorem dX0_workedOn_48 : decode cX0_workedOn 48 = .ok (.getfield 59, 3) := by decide +kernel
theorem dX0_workedOn_51 : decode cX0_workedOn 51 = .ok (.iload_n 3, 1) := by decide +kernel
theorem dX0_workedOn_52 : decode cX0_workedOn 52 = .ok (.iaload, 1) := by decide +kernel
theorem dX0_workedOn_53 : decode cX0_workedOn 53 = .ok (.if_icmp .le 6, 3) := by decide +kernel
theorem dX0_workedOn_56 : decode cX0_workedOn 56 = .ok (.iload 4, 2) := by decide +kernel
theorem dX0_workedOn_58 : decode cX0_workedOn 58 = .ok (.istore_n 3, 1) := by decide +kernel
theorem dX0_workedOn_59 : decode cX0_workedOn 59 = .ok (.iinc 4 1, 3) := by decide +kernel
theorem dX0_workedOn_62 : decode cX0_workedOn 62 = .ok (.goto (-57), 3) := by decide +kernel
theorem dX0_workedOn_65 : decode cX0_workedOn 65 = .ok (.iload_n 3, 1) := by decide +kernel
theorem dX0_workedOn_66 : decode cX0_workedOn 66 = .ok (.ireturn, 1) := by decide +kernel
theorem dX0_nextHead_0 : decode cX0_nextHead 0 = .ok (.iconst (-1), 1) := by decide +kernel
theorem dX0_nextHead_1 : decode cX0_nextHead 1 = .ok (.istore_n 3, 1) := by decide +kernel
theorem dX0_nextHead_2 : decode cX0_nextHead 2 = .ok (.iconst 0, 1) := by decide +kernel
theorem dX0_nextHead_3 : decode cX0_nextHead 3 = .ok (.istore 4, 2) := by decide +kernel
theorem dX0_nextHead_5 : decode cX0_nextHead 5 = .ok (.iload 4, 2) := by decide +kernel
theorem dX0_nextHead_7 : decode cX0_nextHead 7 = .ok (.aload_n 1, 1) := by decide +kernel
theorem dX0_nextHead_8 : decode cX0_nextHead 8 = .ok (.getfield 31, 3) := by decide +kernel
theorem dX0_nextHead_11 : decode cX0_nextHead 11 = .ok (.if_icmp .ge 54, 3) := by decide +kernel
theorem dX0_nextHead_14 : decode cX0_nextHead 14 = .ok (.aload_n 0, 1) := by decide +kernel
theorem dX0_nextHead_15 : decode cX0_nextHead 15 = .ok (.getfield 15, 3) := by decide +kernel
theorem dX0_nextHead_18 : decode cX0_nextHead 18 = .ok (.iload 4, 2) := by decide +kernel
theorem dX0_nextHead_20 : decode cX0_nextHead 20 = .ok (.iaload, 1) := by decide +kernel
theorem dX0_nextHead_21 : decode cX0_nextHead 21 = .ok (.ifCond .le 38, 3) := by decide +kernel
theorem dX0_nextHead_24 : decode cX0_nextHead 24 = .ok (.aload_n 1, 1) := by decide +kernel
theorem dX0_nextHead_25 : decode cX0_nextHead 25 = .ok (.getfield 50, 3) := by decide +kernel
theorem dX0_nextHead_28 : decode cX0_nextHead 28 = .ok (.iload 4, 2) := by decide +kernel
theorem dX0_nextHead_30 : decode cX0_nextHead 30 = .ok (.iaload, 1) := by decide +kernel
theorem dX0_nextHead_31 : decode cX0_nextHead 31 = .ok (.iload_n 2, 1) := by decide +kernel
theorem dX0_nextHead_32 : decode cX0_nextHead 32 = .ok (.if_icmp .le 27, 3) := by decide +kernel
theorem dX0_nextHead_35 : decode cX0_nextHead 35 = .ok (.iload_n 3, 1) := by decide +kernel
theorem dX0_nextHead_36 : decode cX0_nextHead 36 = .ok (.iconst (-1), 1) := by decide +kernel
theorem dX0_nextHead_37 : decode cX0_nextHead 37 = .ok (.if_icmp .eq 14, 3) := by decide +kernel
theorem dX0_nextHead_40 : decode cX0_nextHead 40 = .ok (.aload_n 1, 1) := by decide +kernel
theorem dX0_nextHead_41 : decode cX0_nextHead 41 = .ok (.getfield 50, 3) := by decide +kernel
theorem dX0_nextHead_44 : decode cX0_nextHead 44 = .ok (.iload 4, 2) := by decide +kernel
theorem dX0_nextHead_46 : decode cX0_nextHead 46 = .ok (.iaload, 1) := by decide +kernel
theorem dX0_nextHead_47 : decode cX0_nextHead 47 = .ok (.iload_n 3, 1) := by decide +kernel
theorem dX0_nextHead_48 : decode cX0_nextHead 48 = .ok (.if_icmp .ge 11, 3) := by decide +kernel
theorem dX0_nextHead_51 : decode cX0_nextHead 51 = .ok (.aload_n 1, 1) := by decide +kernel
theorem dX0_nextHead_52 : decode cX0_nextHead 52 = .ok (.getfield 50, 3) := by decide +kernel
theorem dX0_nextHead_55 : decode cX0_nextHead 55 = .ok (.iload 4, 2) := by decide +kernel
theorem dX0_nextHead_57 : decode cX0_nextHead 57 = .ok (.iaload, 1) := by decide +kernel
theorem dX0_nextHead_58 : decode cX0_nextHead 58 = .ok (.istore_n 3, 1) := by decide +kernel
theorem dX0_nextHead_59 : decode cX0_nextHead 59 = .ok (.iinc 4 1, 3) := by decide +kernel
theorem dX0_nextHead_62 : decode cX0_nextHead 62 = .ok (.goto (-57), 3) := by decide +kernel
theorem dX0_nextHead_65 : decode cX0_nextHead 65 = .ok (.iload_n 3, 1) := by decide +kernel
theorem dX0_nextHead_66 : decode cX0_nextHead 66 = .ok (.ireturn, 1) := by decide +kernel
theorem dX1_init_0 : decode cX1_init 0 = .ok (.aload_n 0, 1) := by decide +kernel
theorem dX1_init_1 : decode cX1_init 1 = .ok (.invokespecial 3, 3) := by decide +kernel
theorem dX1_init_4 : decode cX1_init 4 = .ok (.aload_n 0, 1) := by decide +kernel
theorem dX1_init_5 : decode cX1_init 5 = .ok (.bipush 24, 2) := by decide +kernel
theorem dX1_init_7 : decode cX1_init 7 = .ok (.newarray .int, 2) := by decide +kernel
theorem dX1_init_9 : decode cX1_init 9 = .ok (.putfield 9, 3) := by decide +kernel
theorem dX1_init_12 : decode cX1_init 12 = .ok (.aload_n 0, 1) := by decide +kernel
theorem dX1_init_13 : decode cX1_init 13 = .ok (.iconst 5, 1) := by decide +kernel
theorem dX1_init_14 : decode cX1_init 14 = .ok (.newarray .int, 2) := by decide +kernel
theorem dX1_init_16 : decode cX1_init 16 = .ok (.putfield 15, 3) := by decide +kernel
theorem dX1_init_19 : decode cX1_init 19 = .ok (.aload_n 0, 1) := by decide +kernel
theorem dX1_init_20 : decode cX1_init 20 = .ok (.iconst 5, 1) := by decide +kernel
theorem dX1_init_21 : decode cX1_init 21 = .ok (.newarray .int, 2) := by decide +kernel
theorem dX1_init_23 : decode cX1_init 23 = .ok (.putfield 18, 3) := by decide +kernel
theorem dX1_init_26 : decode cX1_init 26 = .ok (.aload_n 0, 1) := by decide +kernel
theorem dX1_init_27 : decode cX1_init 27 = .ok (.bipush 6, 2) := by decide +kernel
theorem dX1_init_29 : decode cX1_init 29 = .ok (.newarray .int, 2) := by decide +kernel
theorem dX1_init_31 : decode cX1_init 31 = .ok (.putfield 21, 3) := by decide +kernel
theorem dX1_init_34 : decode cX1_init 34 = .ok (.aload_n 0, 1) := by decide +kernel
theorem dX1_init_35 : decode cX1_init 35 = .ok (.bipush 24, 2) := by decide +kernel
theorem dX1_init_37 : decode cX1_init 37 = .ok (.newarray .boolean, 2) := by decide +kernel
theorem dX1_init_39 : decode cX1_init 39 = .ok (.putfield 24, 3) := by decide +kernel
theorem dX1_init_42 : decode cX1_init 42 = .ok (.aload_n 0, 1) := by decide +kernel
theorem dX1_init_43 : decode cX1_init 43 = .ok (.iconst 0, 1) := by decide +kernel
theorem dX1_init_44 : decode cX1_init 44 = .ok (.putfield 28, 3) := by decide +kernel
theorem dX1_init_47 : decode cX1_init 47 = .ok (.return_, 1) := by decide +kernel
theorem dX1_lay_0 : decode cX1_lay 0 = .ok (.aload_n 0, 1) := by decide +kernel
theorem dX1_lay_1 : decode cX1_lay 1 = .ok (.invokevirtual 32, 3) := by decide +kernel
theorem dX1_lay_4 : decode cX1_lay 4 = .ok (.iconst 0, 1) := by decide +kernel
theorem dX1_lay_5 : decode cX1_lay 5 = .ok (.istore_n 3, 1) := by decide +kernel
theorem dX1_lay_6 : decode cX1_lay 6 = .ok (.iload_n 3, 1) := by decide +kernel
theorem dX1_lay_7 : decode cX1_lay 7 = .ok (.aload_n 1, 1) := by decide +kernel
theorem dX1_lay_8 : decode cX1_lay 8 = .ok (.getfield 35, 3) := by decide +kernel
theorem dX1_lay_11 : decode cX1_lay 11 = .ok (.if_icmp .ge 31, 3) := by decide +kernel
theorem dX1_lay_14 : decode cX1_lay 14 = .ok (.aload_n 0, 1) := by decide +kernel
theorem dX1_lay_15 : decode cX1_lay 15 = .ok (.aload_n 1, 1) := by decide +kernel
theorem dX1_lay_16 : decode cX1_lay 16 = .ok (.iload_n 2, 1) := by decide +kernel
theorem dX1_lay_17 : decode cX1_lay 17 = .ok (.invokevirtual 40, 3) := by decide +kernel
theorem dX1_lay_20 : decode cX1_lay 20 = .ok (.istore 4, 2) := by decide +kernel
theorem dX1_lay_22 : decode cX1_lay 22 = .ok (.iload 4, 2) := by decide +kernel
theorem dX1_lay_24 : decode cX1_lay 24 = .ok (.iconst (-1), 1) := by decide +kernel
theorem dX1_lay_25 : decode cX1_lay 25 = .ok (.if_icmp .ne 4, 3) := by decide +kernel
theorem dX1_lay_28 : decode cX1_lay 28 = .ok (.return_, 1) := by decide +kernel
theorem dX1_lay_29 : decode cX1_lay 29 = .ok (.aload_n 0, 1) := by decide +kernel
theorem dX1_lay_30 : decode cX1_lay 30 = .ok (.aload_n 1, 1) := by decide +kernel
theorem dX1_lay_31 : decode cX1_lay 31 = .ok (.iload 4, 2) := by decide +kernel
theorem dX1_lay_33 : decode cX1_lay 33 = .ok (.invokevirtual 44, 3) := by decide +kernel
theorem dX1_lay_36 : decode cX1_lay 36 = .ok (.iinc 3 1, 3) := by decide +kernel
theorem dX1_lay_39 : decode cX1_lay 39 = .ok (.goto (-33), 3) := by decide +kernel
theorem dX1_lay_42 : decode cX1_lay 42 = .ok (.return_, 1) := by decide +kernel
theorem dX1_clear_0 : decode cX1_clear 0 = .ok (.aload_n 0, 1) := by decide +kernel
theorem dX1_clear_1 : decode cX1_clear 1 = .ok (.iconst 0, 1) := by decide +kernel
theorem dX1_clear_2 : decode cX1_clear 2 = .ok (.putfield 28, 3) := by decide +kernel
theorem dX1_clear_5 : decode cX1_clear 5 = .ok (.iconst 0, 1) := by decide +kernel
theorem dX1_clear_6 : decode cX1_clear 6 = .ok (.istore_n 1, 1) := by decide +kernel
theorem dX1_clear_7 : decode cX1_clear 7 = .ok (.iload_n 1, 1) := by decide +kernel
theorem dX1_clear_8 : decode cX1_clear 8 = .ok (.iconst 5, 1) := by decide +kernel
theorem dX1_clear_9 : decode cX1_clear 9 = .ok (.if_icmp .ge 23, 3) := by decide +kernel
theorem dX1_clear_12 : decode cX1_clear 12 = .ok (.aload_n 0, 1) := by decide +kernel
theorem dX1_clear_13 : decode cX1_clear 13 = .ok (.getfield 15, 3) := by decide +kernel
theorem dX1_clear_16 : decode cX1_clear 16 = .ok (.iload_n 1, 1) := by decide +kernel
theorem dX1_clear_17 : decode cX1_clear 17 = .ok (.iconst 0, 1) := by decide +kernel
theorem dX1_clear_18 : decode cX1_clear 18 = .ok (.iastore, 1) := by decide +kernel
theorem dX1_clear_19 : decode cX1_clear 19 = .ok (.aload_n 0, 1) := by decide +kernel
theorem dX1_clear_20 : decode cX1_clear 20 = .ok (.getfield 18, 3) := by decide +kernel
theorem dX1_clear_23 : decode cX1_clear 23 = .ok (.iload_n 1, 1) := by decide +kernel
theorem dX1_clear_24 : decode cX1_clear 24 = .ok (.iconst 0, 1) := by decide +kernel
theorem dX1_clear_25 : decode cX1_clear 25 = .ok (.iastore, 1) := by decide +kernel
theorem dX1_clear_26 : decode cX1_clear 26 = .ok (.iinc 1 1, 3) := by decide +kernel
theorem dX1_clear_29 : decode cX1_clear 29 = .ok (.goto (-22), 3) := by decide +kernel
theorem dX1_clear_32 : decode cX1_clear 32 = .ok (.iconst 0, 1) := by decide +kernel
theorem dX1_clear_33 : decode cX1_clear 33 = .ok (.istore_n 1, 1) := by decide +kernel
theorem dX1_clear_34 : decode cX1_clear 34 = .ok (.iload_n 1, 1) := by decide +kernel
theorem dX1_clear_35 : decode cX1_clear 35 = .ok (.bipush 6, 2) := by decide +kernel
theorem dX1_clear_37 : decode cX1_clear 37 = .ok (.if_icmp .ge 16, 3) := by decide +kernel
theorem dX1_clear_40 : decode cX1_clear 40 = .ok (.aload_n 0, 1) := by decide +kernel
theorem dX1_clear_41 : decode cX1_clear 41 = .ok (.getfield 21, 3) := by decide +kernel
theorem dX1_clear_44 : decode cX1_clear 44 = .ok (.iload_n 1, 1) := by decide +kernel
theorem dX1_clear_45 : decode cX1_clear 45 = .ok (.iconst 0, 1) := by decide +kernel
theorem dX1_clear_46 : decode cX1_clear 46 = .ok (.iastore, 1) := by decide +kernel
theorem dX1_clear_47 : decode cX1_clear 47 = .ok (.iinc 1 1, 3) := by decide +kernel
theorem dX1_clear_50 : decode cX1_clear 50 = .ok (.goto (-16), 3) := by decide +kernel
theorem dX1_clear_53 : decode cX1_clear 53 = .ok (.iconst 0, 1) := by decide +kernel
theorem dX1_clear_54 : decode cX1_clear 54 = .ok (.istore_n 1, 1) := by decide +kernel
theorem dX1_clear_55 : decode cX1_clear 55 = .ok (.iload_n 1, 1) := by decide +kernel
theorem dX1_clear_56 : decode cX1_clear 56 = .ok (.bipush 24, 2) := by decide +kernel
theorem dX1_clear_58 : decode cX1_clear 58 = .ok (.if_icmp .ge 16, 3) := by decide +kernel
theorem dX1_clear_61 : decode cX1_clear 61 = .ok (.aload_n 0, 1) := by decide +kernel
theorem dX1_clear_62 : decode cX1_clear 62 = .ok (.getfield 24, 3) := by decide +kernel
theorem dX1_clear_65 : decode cX1_clear 65 = .ok (.iload_n 1, 1) := by decide +kernel
theorem dX1_clear_66 : decode cX1_clear 66 = .ok (.iconst 0, 1) := by decide +kernel
theorem dX1_clear_67 : decode cX1_clear 67 = .ok (.bastore, 1) := by decide +kernel
theorem dX1_clear_68 : decode cX1_clear 68 = .ok (.iinc 1 1, 3) := by decide +kernel
theorem dX1_clear_71 : decode cX1_clear 71 = .ok (.goto (-16), 3) := by decide +kernel
theorem dX1_clear_74 : decode cX1_clear 74 = .ok (.return_, 1) := by decide +kernel
theorem dX1_choose_0 : decode cX1_choose 0 = .ok (.iconst (-1), 1) := by decide +kernel
theorem dX1_choose_1 : decode cX1_choose 1 = .ok (.istore_n 3, 1) := by decide +kernel
theorem dX1_choose_2 : decode cX1_choose 2 = .ok (.iconst 0, 1) := by decide +kernel
theorem dX1_choose_3 : decode cX1_choose 3 = .ok (.istore 4, 2) := by decide +kernel
theorem dX1_choose_5 : decode cX1_choose 5 = .ok (.iconst 0, 1) := by decide +kernel
theorem dX1_choose_6 : decode cX1_choose 6 = .ok (.istore 5, 2) := by decide +kernel
theorem dX1_choose_8 : decode cX1_choose 8 = .ok (.iconst 0, 1) := by decide +kernel
theorem dX1_choose_9 : decode cX1_choose 9 = .ok (.istore 6, 2) := by decide +kernel
theorem dX1_choose_11 : decode cX1_choose 11 = .ok (.iload 6, 2) := by decide +kernel
theorem dX1_choose_13 : decode cX1_choose 13 = .ok (.aload_n 1, 1) := by decide +kernel
theorem dX1_choose_14 : decode cX1_choose 14 = .ok (.getfield 35, 3) := by decide +kernel
theorem dX1_choose_17 : decode cX1_choose 17 = .ok (.if_icmp .ge 77, 3) := by decide +kernel
theorem dX1_choose_20 : decode cX1_choose 20 = .ok (.aload_n 0, 1) := by decide +kernel
theorem dX1_choose_21 : decode cX1_choose 21 = .ok (.aload_n 1, 1) := by decide +kernel
theorem dX1_choose_22 : decode cX1_choose 22 = .ok (.iload 6, 2) := by decide +kernel
theorem dX1_choose_24 : decode cX1_choose 24 = .ok (.invokevirtual 48, 3) := by decide +kernel
theorem dX1_choose_27 : decode cX1_choose 27 = .ok (.ifCond .ne 6, 3) := by decide +kernel
theorem dX1_choose_30 : decode cX1_choose 30 = .ok (.goto 58, 3) := by decide +kernel
theorem dX1_choose_33 : decode cX1_choose 33 = .ok (.aload_n 0, 1) := by decide +kernel
theorem dX1_choose_34 : decode cX1_choose 34 = .ok (.aload_n 1, 1) := by decide +kernel
theorem dX1_choose_35 : decode cX1_choose 35 = .ok (.iload 6, 2) := by decide +kernel
theorem dX1_choose_37 : decode cX1_choose 37 = .ok (.invokevirtual 52, 3) := by decide +kernel
theorem dX1_choose_40 : decode cX1_choose 40 = .ok (.istore 7, 2) := by decide +kernel
theorem dX1_choose_42 : decode cX1_choose 42 = .ok (.aload_n 1, 1) := by decide +kernel
theorem dX1_choose_43 : decode cX1_choose 43 = .ok (.iload_n 2, 1) := by decide +kernel
theorem dX1_choose_44 : decode cX1_choose 44 = .ok (.iload 6, 2) := by decide +kernel
theorem dX1_choose_46 : decode cX1_choose 46 = .ok (.invokestatic 55, 3) := by decide +kernel
theorem dX1_choose_49 : decode cX1_choose 49 = .ok (.istore 8, 2) := by decide +kernel
theorem dX1_choose_51 : decode cX1_choose 51 = .ok (.iload_n 3, 1) := by decide +kernel
theorem dX1_choose_52 : decode cX1_choose 52 = .ok (.iconst (-1), 1) := by decide +kernel
theorem dX1_choose_53 : decode cX1_choose 53 = .ok (.if_icmp .eq 24, 3) := by decide +kernel
theorem dX1_choose_56 : decode cX1_choose 56 = .ok (.iload 7, 2) := by decide +kernel
theorem dX1_choose_58 : decode cX1_choose 58 = .ok (.iload 4, 2) := by decide +kernel
theorem dX1_choose_60 : decode cX1_choose 60 = .ok (.if_icmp .lt 17, 3) := by decide +kernel
theorem dX1_choose_63 : decode cX1_choose 63 = .ok (.iload 7, 2) := by decide +kernel
theorem dX1_choose_65 : decode cX1_choose 65 = .ok (.iload 4, 2) := by decide +kernel
theorem dX1_choose_67 : decode cX1_choose 67 = .ok (.if_icmp .ne 21, 3) := by decide +kernel
theorem dX1_choose_70 : decode cX1_choose 70 = .ok (.iload 8, 2) := by decide +kernel
theorem dX1_choose_72 : decode cX1_choose 72 = .ok (.iload 5, 2) := by decide +kernel
theorem dX1_choose_74 : decode cX1_choose 74 = .ok (.if_icmp .ge 14, 3) := by decide +kernel
theorem dX1_choose_77 : decode cX1_choose 77 = .ok (.iload 6, 2) := by decide +kernel
theorem dX1_choose_79 : decode cX1_choose 79 = .ok (.istore_n 3, 1) := by decide +kernel
theorem dX1_choose_80 : decode cX1_choose 80 = .ok (.iload 7, 2) := by decide +kernel
theorem dX1_choose_82 : decode cX1_choose 82 = .ok (.istore 4, 2) := by decide +kernel
theorem dX1_choose_84 : decode cX1_choose 84 = .ok (.iload 8, 2) := by decide +kernel
theorem dX1_choose_86 : decode cX1_choose 86 = .ok (.istore 5, 2) := by decide +kernel
theorem dX1_choose_88 : decode cX1_choose 88 = .ok (.iinc 6 1, 3) := by decide +kernel
theorem dX1_choose_91 : decode cX1_choose 91 = .ok (.goto (-80), 3) := by decide +kernel
theorem dX1_choose_94 : decode cX1_choose 94 = .ok (.iload_n 3, 1) := by decide +kernel
theorem dX1_choose_95 : decode cX1_choose 95 = .ok (.ireturn, 1) := by decide +kernel
theorem dX1_isNext_0 : decode cX1_isNext 0 = .ok (.aload_n 1, 1) := by decide +kernel
theorem dX1_isNext_1 : decode cX1_isNext 1 = .ok (.iload_n 2, 1) := by decide +kernel
theorem dX1_isNext_2 : decode cX1_isNext 2 = .ok (.invokevirtual 59, 3) := by decide +kernel
theorem dX1_isNext_5 : decode cX1_isNext 5 = .ok (.istore_n 3, 1) := by decide +kernel
theorem dX1_isNext_6 : decode cX1_isNext 6 = .ok (.aload_n 0, 1) := by decide +kernel
theorem dX1_isNext_7 : decode cX1_isNext 7 = .ok (.getfield 24, 3) := by decide +kernel
theorem dX1_isNext_10 : decode cX1_isNext 10 = .ok (.iload_n 2, 1) := by decide +kernel
theorem dX1_isNext_11 : decode cX1_isNext 11 = .ok (.baload, 1) := by decide +kernel
theorem dX1_isNext_12 : decode cX1_isNext 12 = .ok (.ifCond .ne 21, 3) := by decide +kernel
theorem dX1_isNext_15 : decode cX1_isNext 15 = .ok (.iload_n 3, 1) := by decide +kernel
theorem dX1_isNext_16 : decode cX1_isNext 16 = .ok (.iconst (-1), 1) := by decide +kernel
theorem dX1_isNext_17 : decode cX1_isNext 17 = .ok (.if_icmp .eq 12, 3) := by decide +kernel
theorem dX1_isNext_20 : decode cX1_isNext 20 = .ok (.aload_n 0, 1) := by decide +kernel
theorem dX1_isNext_21 : decode cX1_isNext 21 = .ok (.getfield 24, 3) := by decide +kernel
theorem dX1_isNext_24 : decode cX1_isNext 24 = .ok (.iload_n 3, 1) := by decide +kernel
theorem dX1_isNext_25 : decode cX1_isNext 25 = .ok (.baload, 1) := by decide +kernel
theorem dX1_isNext_26 : decode cX1_isNext 26 = .ok (.ifCond .eq 7, 3) := by decide +kernel
theorem dX1_isNext_29 : decode cX1_isNext 29 = .ok (.iconst 1, 1) := by decide +kernel
theorem dX1_isNext_30 : decode cX1_isNext 30 = .ok (.goto 4, 3) := by decide +kernel
theorem dX1_isNext_33 : decode cX1_isNext 33 = .ok (.iconst 0, 1) := by decide +kernel
theorem dX1_isNext_34 : decode cX1_isNext 34 = .ok (.ireturn, 1) := by decide +kernel
theorem dX1_startOf_0 : decode cX1_startOf 0 = .ok (.aload_n 0, 1) := by decide +kernel
theorem dX1_startOf_1 : decode cX1_startOf 1 = .ok (.getfield 18, 3) := by decide +kernel
theorem dX1_startOf_4 : decode cX1_startOf 4 = .ok (.aload_n 1, 1) := by decide +kernel
theorem dX1_startOf_5 : decode cX1_startOf 5 = .ok (.getfield 63, 3) := by decide +kernel
theorem dX1_startOf_8 : decode cX1_startOf 8 = .ok (.iload_n 2, 1) := by decide +kernel
theorem dX1_startOf_9 : decode cX1_startOf 9 = .ok (.iaload, 1) := by decide +kernel
theorem dX1_startOf_10 : decode cX1_startOf 10 = .ok (.iaload, 1) := by decide +kernel
theorem dX1_startOf_11 : decode cX1_startOf 11 = .ok (.aload_n 0, 1) := by decide +kernel
theorem dX1_startOf_12 : decode cX1_startOf 12 = .ok (.getfield 21, 3) := by decide +kernel
theorem dX1_startOf_15 : decode cX1_startOf 15 = .ok (.aload_n 1, 1) := by decide +kernel
theorem dX1_startOf_16 : decode cX1_startOf 16 = .ok (.getfield 66, 3) := by decide +kernel
theorem dX1_startOf_19 : decode cX1_startOf 19 = .ok (.iload_n 2, 1) := by decide +kernel
theorem dX1_startOf_20 : decode cX1_startOf 20 = .ok (.iaload, 1) := by decide +kernel
theorem dX1_startOf_21 : decode cX1_startOf 21 = .ok (.iaload, 1) := by decide +kernel
theorem dX1_startOf_22 : decode cX1_startOf 22 = .ok (.invokestatic 69, 3) := by decide +kernel
theorem dX1_startOf_25 : decode cX1_startOf 25 = .ok (.ireturn, 1) := by decide +kernel
theorem dX1_key_0 : decode cX1_key 0 = .ok (.iload_n 1, 1) := by decide +kernel
theorem dX1_key_1 : decode cX1_key 1 = .ok (.tableswitch 57 0 2 #[27, 34, 42], 27) := by decide +kernel
theorem dX1_key_28 : decode cX1_key 28 = .ok (.aload_n 0, 1) := by decide +kernel
theorem dX1_key_29 : decode cX1_key 29 = .ok (.getfield 75, 3) := by decide +kernel
theorem dX1_key_32 : decode cX1_key 32 = .ok (.iload_n 2, 1) := by decide +kernel
theorem dX1_key_33 : decode cX1_key 33 = .ok (.iaload, 1) := by decide +kernel
theorem dX1_key_34 : decode cX1_key 34 = .ok (.ireturn, 1) := by decide +kernel
theorem dX1_key_35 : decode cX1_key 35 = .ok (.aload_n 0, 1) := by decide +kernel
theorem dX1_key_36 : decode cX1_key 36 = .ok (.getfield 75, 3) := by decide +kernel
theorem dX1_key_39 : decode cX1_key 39 = .ok (.iload_n 2, 1) := by decide +kernel
theorem dX1_key_40 : decode cX1_key 40 = .ok (.iaload, 1) := by decide +kernel
theorem dX1_key_41 : decode cX1_key 41 = .ok (.ineg, 1) := by decide +kernel
theorem dX1_key_42 : decode cX1_key 42 = .ok (.ireturn, 1) := by decide +kernel
theorem dX1_key_43 : decode cX1_key 43 = .ok (.aload_n 0, 1) := by decide +kernel
theorem dX1_key_44 : decode cX1_key 44 = .ok (.getfield 75, 3) := by decide +kernel
theorem dX1_key_47 : decode cX1_key 47 = .ok (.iload_n 2, 1) := by decide +kernel
theorem dX1_key_48 : decode cX1_key 48 = .ok (.iaload, 1) := by decide +kernel
theorem dX1_key_49 : decode cX1_key 49 = .ok (.aload_n 0, 1) := by decide +kernel
theorem dX1_key_50 : decode cX1_key 50 = .ok (.getfield 78, 3) := by decide +kernel
theorem dX1_key_53 : decode cX1_key 53 = .ok (.iload_n 2, 1) := by decide +kernel
theorem dX1_key_54 : decode cX1_key 54 = .ok (.iaload, 1) := by decide +kernel
theorem dX1_key_55 : decode cX1_key 55 = .ok (.iadd, 1) := by decide +kernel
theorem dX1_key_56 : decode cX1_key 56 = .ok (.ineg, 1) := by decide +kernel
theorem dX1_key_57 : decode cX1_key 57 = .ok (.ireturn, 1) := by decide +kernel
theorem dX1_key_58 : decode cX1_key 58 = .ok (.aload_n 0, 1) := by decide +kernel
theorem dX1_key_59 : decode cX1_key 59 = .ok (.getfield 75, 3) := by decide +kernel
theorem dX1_key_62 : decode cX1_key 62 = .ok (.iload_n 2, 1) := by decide +kernel
theorem dX1_key_63 : decode cX1_key 63 = .ok (.iaload, 1) := by decide +kernel
theorem dX1_key_64 : decode cX1_key 64 = .ok (.aload_n 0, 1) := by decide +kernel
theorem dX1_key_65 : decode cX1_key 65 = .ok (.getfield 78, 3) := by decide +kernel
theorem dX1_key_68 : decode cX1_key 68 = .ok (.iload_n 2, 1) := by decide +kernel
theorem dX1_key_69 : decode cX1_key 69 = .ok (.iaload, 1) := by decide +kernel
theorem dX1_key_70 : decode cX1_key 70 = .ok (.iadd, 1) := by decide +kernel
theorem dX1_key_71 : decode cX1_key 71 = .ok (.ireturn, 1) := by decide +kernel
theorem dX1_putLast_0 : decode cX1_putLast 0 = .ok (.aload_n 1, 1) := by decide +kernel
theorem dX1_putLast_1 : decode cX1_putLast 1 = .ok (.getfield 63, 3) := by decide +kernel
theorem dX1_putLast_4 : decode cX1_putLast 4 = .ok (.iload_n 2, 1) := by decide +kernel
theorem dX1_putLast_5 : decode cX1_putLast 5 = .ok (.iaload, 1) := by decide +kernel
theorem dX1_putLast_6 : decode cX1_putLast 6 = .ok (.istore_n 3, 1) := by decide +kernel
theorem dX1_putLast_7 : decode cX1_putLast 7 = .ok (.aload_n 0, 1) := by decide +kernel
theorem dX1_putLast_8 : decode cX1_putLast 8 = .ok (.aload_n 1, 1) := by decide +kernel
theorem dX1_putLast_9 : decode cX1_putLast 9 = .ok (.iload_n 2, 1) := by decide +kernel
theorem dX1_putLast_10 : decode cX1_putLast 10 = .ok (.invokevirtual 52, 3) := by decide +kernel
theorem dX1_putLast_13 : decode cX1_putLast 13 = .ok (.aload_n 1, 1) := by decide +kernel
theorem dX1_putLast_14 : decode cX1_putLast 14 = .ok (.getfield 75, 3) := by decide +kernel
theorem dX1_putLast_17 : decode cX1_putLast 17 = .ok (.iload_n 2, 1) := by decide +kernel
theorem dX1_putLast_18 : decode cX1_putLast 18 = .ok (.iaload, 1) := by decide +kernel
theorem dX1_putLast_19 : decode cX1_putLast 19 = .ok (.iadd, 1) := by decide +kernel
theorem dX1_putLast_20 : decode cX1_putLast 20 = .ok (.istore 4, 2) := by decide +kernel
theorem dX1_putLast_22 : decode cX1_putLast 22 = .ok (.aload_n 0, 1) := by decide +kernel
theorem dX1_putLast_23 : decode cX1_putLast 23 = .ok (.getfield 9, 3) := by decide +kernel
theorem dX1_putLast_26 : decode cX1_putLast 26 = .ok (.aload_n 1, 1) := by decide +kernel
theorem dX1_putLast_27 : decode cX1_putLast 27 = .ok (.getfield 81, 3) := by decide +kernel
theorem dX1_putLast_30 : decode cX1_putLast 30 = .ok (.iload_n 3, 1) := by decide +kernel
theorem dX1_putLast_31 : decode cX1_putLast 31 = .ok (.iaload, 1) := by decide +kernel
theorem dX1_putLast_32 : decode cX1_putLast 32 = .ok (.aload_n 0, 1) := by decide +kernel
theorem dX1_putLast_33 : decode cX1_putLast 33 = .ok (.getfield 15, 3) := by decide +kernel
theorem dX1_putLast_36 : decode cX1_putLast 36 = .ok (.iload_n 3, 1) := by decide +kernel
theorem dX1_putLast_37 : decode cX1_putLast 37 = .ok (.iaload, 1) := by decide +kernel
theorem dX1_putLast_38 : decode cX1_putLast 38 = .ok (.iadd, 1) := by decide +kernel
theorem dX1_putLast_39 : decode cX1_putLast 39 = .ok (.iload_n 2, 1) := by decide +kernel
theorem dX1_putLast_40 : decode cX1_putLast 40 = .ok (.iastore, 1) := by decide +kernel
theorem dX1_putLast_41 : decode cX1_putLast 41 = .ok (.aload_n 0, 1) := by decide +kernel
theorem dX1_putLast_42 : decode cX1_putLast 42 = .ok (.getfield 15, 3) := by decide +kernel
theorem dX1_putLast_45 : decode cX1_putLast 45 = .ok (.iload_n 3, 1) := by decide +kernel
theorem dX1_putLast_46 : decode cX1_putLast 46 = .ok (.dup2, 1) := by decide +kernel
theorem dX1_putLast_47 : decode cX1_putLast 47 = .ok (.iaload, 1) := by decide +kernel
theorem dX1_putLast_48 : decode cX1_putLast 48 = .ok (.iconst 1, 1) := by decide +kernel
theorem dX1_putLast_49 : decode cX1_putLast 49 = .ok (.iadd, 1) := by decide +kernel
theorem dX1_putLast_50 : decode cX1_putLast 50 = .ok (.iastore, 1) := by decide +kernel
theorem dX1_putLast_51 : decode cX1_putLast 51 = .ok (.aload_n 0, 1) := by decide +kernel
theorem dX1_putLast_52 : decode cX1_putLast 52 = .ok (.getfield 24, 3) := by decide +kernel
theorem dX1_putLast_55 : decode cX1_putLast 55 = .ok (.iload_n 2, 1) := by decide +kernel
theorem dX1_putLast_56 : decode cX1_putLast 56 = .ok (.iconst 1, 1) := by decide +kernel
theorem dX1_putLast_57 : decode cX1_putLast 57 = .ok (.bastore, 1) := by decide +kernel
theorem dX1_putLast_58 : decode cX1_putLast 58 = .ok (.aload_n 0, 1) := by decide +kernel
theorem dX1_putLast_59 : decode cX1_putLast 59 = .ok (.getfield 18, 3) := by decide +kernel
theorem dX1_putLast_62 : decode cX1_putLast 62 = .ok (.iload_n 3, 1) := by decide +kernel
theorem dX1_putLast_63 : decode cX1_putLast 63 = .ok (.iload 4, 2) := by decide +kernel
theorem dX1_putLast_65 : decode cX1_putLast 65 = .ok (.iastore, 1) := by decide +kernel
theorem dX1_putLast_66 : decode cX1_putLast 66 = .ok (.aload_n 0, 1) := by decide +kernel
theorem dX1_putLast_67 : decode cX1_putLast 67 = .ok (.getfield 21, 3) := by decide +kernel
theorem dX1_putLast_70 : decode cX1_putLast 70 = .ok (.aload_n 1, 1) := by decide +kernel
theorem dX1_putLast_71 : decode cX1_putLast 71 = .ok (.getfield 66, 3) := by decide +kernel
theorem dX1_putLast_74 : decode cX1_putLast 74 = .ok (.iload_n 2, 1) := by decide +kernel
theorem dX1_putLast_75 : decode cX1_putLast 75 = .ok (.iaload, 1) := by decide +kernel
theorem dX1_putLast_76 : decode cX1_putLast 76 = .ok (.iload 4, 2) := by decide +kernel
theorem dX1_putLast_78 : decode cX1_putLast 78 = .ok (.iastore, 1) := by decide +kernel
theorem dX1_putLast_79 : decode cX1_putLast 79 = .ok (.aload_n 0, 1) := by decide +kernel
theorem dX1_putLast_80 : decode cX1_putLast 80 = .ok (.aload_n 0, 1) := by decide +kernel
theorem dX1_putLast_81 : decode cX1_putLast 81 = .ok (.getfield 28, 3) := by decide +kernel
theorem dX1_putLast_84 : decode cX1_putLast 84 = .ok (.iload 4, 2) := by decide +kernel
theorem dX1_putLast_86 : decode cX1_putLast 86 = .ok (.invokestatic 69, 3) := by decide +kernel
theorem dX1_putLast_89 : decode cX1_putLast 89 = .ok (.putfield 28, 3) := by decide +kernel
theorem dX1_putLast_92 : decode cX1_putLast 92 = .ok (.return_, 1) := by decide +kernel
theorem dX2_init_0 : decode cX2_init 0 = .ok (.aload_n 0, 1) := by decide +kernel
theorem dX2_init_1 : decode cX2_init 1 = .ok (.invokespecial 3, 3) := by decide +kernel
theorem dX2_init_4 : decode cX2_init 4 = .ok (.aload_n 0, 1) := by decide +kernel
theorem dX2_init_5 : decode cX2_init 5 = .ok (.bipush 24, 2) := by decide +kernel
theorem dX2_init_7 : decode cX2_init 7 = .ok (.newarray .int, 2) := by decide +kernel
theorem dX2_init_9 : decode cX2_init 9 = .ok (.putfield 9, 3) := by decide +kernel
theorem dX2_init_12 : decode cX2_init 12 = .ok (.aload_n 0, 1) := by decide +kernel
theorem dX2_init_13 : decode cX2_init 13 = .ok (.iconst 0, 1) := by decide +kernel
theorem dX2_init_14 : decode cX2_init 14 = .ok (.putfield 15, 3) := by decide +kernel
theorem dX2_init_17 : decode cX2_init 17 = .ok (.aload_n 0, 1) := by decide +kernel
theorem dX2_init_18 : decode cX2_init 18 = .ok (.iconst 0, 1) := by decide +kernel
theorem dX2_init_19 : decode cX2_init 19 = .ok (.putfield 19, 3) := by decide +kernel
theorem dX2_init_22 : decode cX2_init 22 = .ok (.aload_n 0, 1) := by decide +kernel
theorem dX2_init_23 : decode cX2_init 23 = .ok (.iconst 0, 1) := by decide +kernel
theorem dX2_init_24 : decode cX2_init 24 = .ok (.putfield 23, 3) := by decide +kernel
theorem dX2_init_27 : decode cX2_init 27 = .ok (.return_, 1) := by decide +kernel
theorem dX2_forget_0 : decode cX2_forget 0 = .ok (.aload_n 0, 1) := by decide +kernel
theorem dX2_forget_1 : decode cX2_forget 1 = .ok (.iconst 0, 1) := by decide +kernel
theorem dX2_forget_2 : decode cX2_forget 2 = .ok (.putfield 15, 3) := by decide +kernel
theorem dX2_forget_5 : decode cX2_forget 5 = .ok (.return_, 1) := by decide +kernel
theorem dX2_look_0 : decode cX2_look 0 = .ok (.aload_n 1, 1) := by decide +kernel
theorem dX2_look_1 : decode cX2_look 1 = .ok (.invokestatic 26, 3) := by decide +kernel
theorem dX2_look_4 : decode cX2_look 4 = .ok (.istore_n 3, 1) := by decide +kernel
theorem dX2_look_5 : decode cX2_look 5 = .ok (.iload_n 3, 1) := by decide +kernel
theorem dX2_look_6 : decode cX2_look 6 = .ok (.sipush 720, 3) := by decide +kernel
theorem dX2_look_9 : decode cX2_look 9 = .ok (.if_icmp .le 5, 3) := by decide +kernel
theorem dX2_look_12 : decode cX2_look 12 = .ok (.iconst 0, 1) := by decide +kernel
theorem dX2_look_13 : decode cX2_look 13 = .ok (.ireturn, 1) := by decide +kernel
theorem dX2_look_14 : decode cX2_look 14 = .ok (.aload_n 0, 1) := by decide +kernel
theorem dX2_look_15 : decode cX2_look 15 = .ok (.getfield 15, 3) := by decide +kernel
theorem dX2_look_18 : decode cX2_look 18 = .ok (.ifCond .ne 15, 3) := by decide +kernel
theorem dX2_look_21 : decode cX2_look 21 = .ok (.aload_n 0, 1) := by decide +kernel
theorem dX2_look_22 : decode cX2_look 22 = .ok (.aload_n 1, 1) := by decide +kernel
theorem dX2_look_23 : decode cX2_look 23 = .ok (.aload_n 2, 1) := by decide +kernel
theorem dX2_look_24 : decode cX2_look 24 = .ok (.iload_n 3, 1) := by decide +kernel
theorem dX2_look_25 : decode cX2_look 25 = .ok (.invokevirtual 30, 3) := by decide +kernel
theorem dX2_look_28 : decode cX2_look 28 = .ok (.aload_n 0, 1) := by decide +kernel
theorem dX2_look_29 : decode cX2_look 29 = .ok (.iconst 1, 1) := by decide +kernel
theorem dX2_look_30 : decode cX2_look 30 = .ok (.putfield 15, 3) := by decide +kernel
theorem dX2_look_33 : decode cX2_look 33 = .ok (.iconst 1, 1) := by decide +kernel
theorem dX2_look_34 : decode cX2_look 34 = .ok (.ireturn, 1) := by decide +kernel
theorem dX2_waysOf_0 : decode cX2_waysOf 0 = .ok (.iconst 1, 1) := by decide +kernel
theorem dX2_waysOf_1 : decode cX2_waysOf 1 = .ok (.istore_n 1, 1) := by decide +kernel
theorem dX2_waysOf_2 : decode cX2_waysOf 2 = .ok (.iconst 0, 1) := by decide +kernel
theorem dX2_waysOf_3 : decode cX2_waysOf 3 = .ok (.istore_n 2, 1) := by decide +kernel
theorem dX2_waysOf_4 : decode cX2_waysOf 4 = .ok (.iload_n 2, 1) := by decide +kernel
theorem dX2_waysOf_5 : decode cX2_waysOf 5 = .ok (.iconst 5, 1) := by decide +kernel
theorem dX2_waysOf_6 : decode cX2_waysOf 6 = .ok (.if_icmp .ge 39, 3) := by decide +kernel
theorem dX2_waysOf_9 : decode cX2_waysOf 9 = .ok (.iconst 2, 1) := by decide +kernel
theorem dX2_waysOf_10 : decode cX2_waysOf 10 = .ok (.istore_n 3, 1) := by decide +kernel
theorem dX2_waysOf_11 : decode cX2_waysOf 11 = .ok (.iload_n 3, 1) := by decide +kernel
theorem dX2_waysOf_12 : decode cX2_waysOf 12 = .ok (.aload_n 0, 1) := by decide +kernel
theorem dX2_waysOf_13 : decode cX2_waysOf 13 = .ok (.iload_n 2, 1) := by decide +kernel
theorem dX2_waysOf_14 : decode cX2_waysOf 14 = .ok (.invokevirtual 34, 3) := by decide +kernel
theorem dX2_waysOf_17 : decode cX2_waysOf 17 = .ok (.if_icmp .gt 22, 3) := by decide +kernel
theorem dX2_waysOf_20 : decode cX2_waysOf 20 = .ok (.iload_n 1, 1) := by decide +kernel
theorem dX2_waysOf_21 : decode cX2_waysOf 21 = .ok (.iload_n 3, 1) := by decide +kernel
theorem dX2_waysOf_22 : decode cX2_waysOf 22 = .ok (.imul, 1) := by decide +kernel
theorem dX2_waysOf_23 : decode cX2_waysOf 23 = .ok (.istore_n 1, 1) := by decide +kernel
theorem dX2_waysOf_24 : decode cX2_waysOf 24 = .ok (.iload_n 1, 1) := by decide +kernel
theorem dX2_waysOf_25 : decode cX2_waysOf 25 = .ok (.sipush 720, 3) := by decide +kernel
theorem dX2_waysOf_28 : decode cX2_waysOf 28 = .ok (.if_icmp .le 5, 3) := by decide +kernel
theorem dX2_waysOf_31 : decode cX2_waysOf 31 = .ok (.iload_n 1, 1) := by decide +kernel
theorem dX2_waysOf_32 : decode cX2_waysOf 32 = .ok (.ireturn, 1) := by decide +kernel
theorem dX2_waysOf_33 : decode cX2_waysOf 33 = .ok (.iinc 3 1, 3) := by decide +kernel
theorem dX2_waysOf_36 : decode cX2_waysOf 36 = .ok (.goto (-25), 3) := by decide +kernel
theorem dX2_waysOf_39 : decode cX2_waysOf 39 = .ok (.iinc 2 1, 3) := by decide +kernel
theorem dX2_waysOf_42 : decode cX2_waysOf 42 = .ok (.goto (-38), 3) := by decide +kernel
theorem dX2_waysOf_45 : decode cX2_waysOf 45 = .ok (.iload_n 1, 1) := by decide +kernel
theorem dX2_waysOf_46 : decode cX2_waysOf 46 = .ok (.ireturn, 1) := by decide +kernel
theorem dX2_lookAtAll_0 : decode cX2_lookAtAll 0 = .ok (.aload_n 0, 1) := by decide +kernel
theorem dX2_lookAtAll_1 : decode cX2_lookAtAll 1 = .ok (.iconst 0, 1) := by decide +kernel
theorem dX2_lookAtAll_2 : decode cX2_lookAtAll 2 = .ok (.putfield 19, 3) := by decide +kernel
theorem dX2_lookAtAll_5 : decode cX2_lookAtAll 5 = .ok (.aload_n 0, 1) := by decide +kernel
theorem dX2_lookAtAll_6 : decode cX2_lookAtAll 6 = .ok (.iconst 0, 1) := by decide +kernel
theorem dX2_lookAtAll_7 : decode cX2_lookAtAll 7 = .ok (.putfield 23, 3) := by decide +kernel
theorem dX2_lookAtAll_10 : decode cX2_lookAtAll 10 = .ok (.aload_n 1, 1) := by decide +kernel
theorem dX2_lookAtAll_11 : decode cX2_lookAtAll 11 = .ok (.aload_n 0, 1) := by decide +kernel
theorem dX2_lookAtAll_12 : decode cX2_lookAtAll 12 = .ok (.getfield 9, 3) := by decide +kernel
theorem dX2_lookAtAll_15 : decode cX2_lookAtAll 15 = .ok (.invokevirtual 40, 3) := by decide +kernel
theorem dX2_lookAtAll_18 : decode cX2_lookAtAll 18 = .ok (.iconst 0, 1) := by decide +kernel
theorem dX2_lookAtAll_19 : decode cX2_lookAtAll 19 = .ok (.istore 4, 2) := by decide +kernel
theorem dX2_lookAtAll_21 : decode cX2_lookAtAll 21 = .ok (.iload 4, 2) := by decide +kernel
theorem dX2_lookAtAll_23 : decode cX2_lookAtAll 23 = .ok (.iload_n 3, 1) := by decide +kernel
theorem dX2_lookAtAll_24 : decode cX2_lookAtAll 24 = .ok (.if_icmp .ge 69, 3) := by decide +kernel
theorem dX2_lookAtAll_27 : decode cX2_lookAtAll 27 = .ok (.aload_n 2, 1) := by decide +kernel
theorem dX2_lookAtAll_28 : decode cX2_lookAtAll 28 = .ok (.aload_n 1, 1) := by decide +kernel
theorem dX2_lookAtAll_29 : decode cX2_lookAtAll 29 = .ok (.aload_n 0, 1) := by decide +kernel
theorem dX2_lookAtAll_30 : decode cX2_lookAtAll 30 = .ok (.getfield 9, 3) := by decide +kernel
theorem dX2_lookAtAll_33 : decode cX2_lookAtAll 33 = .ok (.invokevirtual 44, 3) := by decide +kernel
theorem dX2_lookAtAll_36 : decode cX2_lookAtAll 36 = .ok (.aload_n 2, 1) := by decide +kernel
theorem dX2_lookAtAll_37 : decode cX2_lookAtAll 37 = .ok (.getfield 50, 3) := by decide +kernel
theorem dX2_lookAtAll_40 : decode cX2_lookAtAll 40 = .ok (.ifCond .ne 42, 3) := by decide +kernel
theorem dX2_lookAtAll_43 : decode cX2_lookAtAll 43 = .ok (.aload_n 0, 1) := by decide +kernel
theorem dX2_lookAtAll_44 : decode cX2_lookAtAll 44 = .ok (.aload_n 0, 1) := by decide +kernel
theorem dX2_lookAtAll_45 : decode cX2_lookAtAll 45 = .ok (.getfield 19, 3) := by decide +kernel
theorem dX2_lookAtAll_48 : decode cX2_lookAtAll 48 = .ok (.ifCond .ne 10, 3) := by decide +kernel
theorem dX2_lookAtAll_51 : decode cX2_lookAtAll 51 = .ok (.aload_n 2, 1) := by decide +kernel
theorem dX2_lookAtAll_52 : decode cX2_lookAtAll 52 = .ok (.getfield 53, 3) := by decide +kernel
theorem dX2_lookAtAll_55 : decode cX2_lookAtAll 55 = .ok (.goto 14, 3) := by decide +kernel
theorem dX2_lookAtAll_58 : decode cX2_lookAtAll 58 = .ok (.aload_n 0, 1) := by decide +kernel
theorem dX2_lookAtAll_59 : decode cX2_lookAtAll 59 = .ok (.getfield 23, 3) := by decide +kernel
theorem dX2_lookAtAll_62 : decode cX2_lookAtAll 62 = .ok (.aload_n 2, 1) := by decide +kernel
theorem dX2_lookAtAll_63 : decode cX2_lookAtAll 63 = .ok (.getfield 53, 3) := by decide +kernel
theorem dX2_lookAtAll_66 : decode cX2_lookAtAll 66 = .ok (.invokestatic 56, 3) := by decide +kernel
theorem dX2_lookAtAll_69 : decode cX2_lookAtAll 69 = .ok (.putfield 23, 3) := by decide +kernel
theorem dX2_lookAtAll_72 : decode cX2_lookAtAll 72 = .ok (.aload_n 0, 1) := by decide +kernel
theorem dX2_lookAtAll_73 : decode cX2_lookAtAll 73 = .ok (.dup, 1) := by decide +kernel
theorem dX2_lookAtAll_74 : decode cX2_lookAtAll 74 = .ok (.getfield 19, 3) := by decide +kernel
theorem dX2_lookAtAll_77 : decode cX2_lookAtAll 77 = .ok (.iconst 1, 1) := by decide +kernel
theorem dX2_lookAtAll_78 : decode cX2_lookAtAll 78 = .ok (.iadd, 1) := by decide +kernel
theorem dX2_lookAtAll_79 : decode cX2_lookAtAll 79 = .ok (.putfield 19, 3) := by decide +kernel
theorem dX2_lookAtAll_82 : decode cX2_lookAtAll 82 = .ok (.aload_n 0, 1) := by decide +kernel
theorem dX2_lookAtAll_83 : decode cX2_lookAtAll 83 = .ok (.aload_n 1, 1) := by decide +kernel
theorem dX2_lookAtAll_84 : decode cX2_lookAtAll 84 = .ok (.invokevirtual 62, 3) := by decide +kernel
theorem dX2_lookAtAll_87 : decode cX2_lookAtAll 87 = .ok (.iinc 4 1, 3) := by decide +kernel
theorem dX2_lookAtAll_90 : decode cX2_lookAtAll 90 = .ok (.goto (-69), 3) := by decide +kernel
theorem dX2_lookAtAll_93 : decode cX2_lookAtAll 93 = .ok (.return_, 1) := by decide +kernel
theorem dX2_nextOfAll_0 : decode cX2_nextOfAll 0 = .ok (.iconst 0, 1) := by decide +kernel
theorem dX2_nextOfAll_1 : decode cX2_nextOfAll 1 = .ok (.istore_n 2, 1) := by decide +kernel
theorem dX2_nextOfAll_2 : decode cX2_nextOfAll 2 = .ok (.iload_n 2, 1) := by decide +kernel
theorem dX2_nextOfAll_3 : decode cX2_nextOfAll 3 = .ok (.iconst 5, 1) := by decide +kernel
theorem dX2_nextOfAll_4 : decode cX2_nextOfAll 4 = .ok (.if_icmp .ge 34, 3) := by decide +kernel
theorem dX2_nextOfAll_7 : decode cX2_nextOfAll 7 = .ok (.aload_n 0, 1) := by decide +kernel
theorem dX2_nextOfAll_8 : decode cX2_nextOfAll 8 = .ok (.getfield 9, 3) := by decide +kernel
theorem dX2_nextOfAll_11 : decode cX2_nextOfAll 11 = .ok (.aload_n 1, 1) := by decide +kernel
theorem dX2_nextOfAll_12 : decode cX2_nextOfAll 12 = .ok (.getfield 66, 3) := by decide +kernel
theorem dX2_nextOfAll_15 : decode cX2_nextOfAll 15 = .ok (.iload_n 2, 1) := by decide +kernel
theorem dX2_nextOfAll_16 : decode cX2_nextOfAll 16 = .ok (.iaload, 1) := by decide +kernel
theorem dX2_nextOfAll_17 : decode cX2_nextOfAll 17 = .ok (.aload_n 1, 1) := by decide +kernel
theorem dX2_nextOfAll_18 : decode cX2_nextOfAll 18 = .ok (.getfield 66, 3) := by decide +kernel
theorem dX2_nextOfAll_21 : decode cX2_nextOfAll 21 = .ok (.iload_n 2, 1) := by decide +kernel
theorem dX2_nextOfAll_22 : decode cX2_nextOfAll 22 = .ok (.iconst 1, 1) := by decide +kernel
theorem dX2_nextOfAll_23 : decode cX2_nextOfAll 23 = .ok (.iadd, 1) := by decide +kernel
theorem dX2_nextOfAll_24 : decode cX2_nextOfAll 24 = .ok (.iaload, 1) := by decide +kernel
theorem dX2_nextOfAll_25 : decode cX2_nextOfAll 25 = .ok (.invokestatic 69, 3) := by decide +kernel
theorem dX2_nextOfAll_28 : decode cX2_nextOfAll 28 = .ok (.ifCond .eq 4, 3) := by decide +kernel
theorem dX2_nextOfAll_31 : decode cX2_nextOfAll 31 = .ok (.return_, 1) := by decide +kernel
theorem dX2_nextOfAll_32 : decode cX2_nextOfAll 32 = .ok (.iinc 2 1, 3) := by decide +kernel
theorem dX2_nextOfAll_35 : decode cX2_nextOfAll 35 = .ok (.goto (-33), 3) := by decide +kernel
theorem dX2_nextOfAll_38 : decode cX2_nextOfAll 38 = .ok (.return_, 1) := by decide +kernel
theorem dX3_init_0 : decode cX3_init 0 = .ok (.aload_n 0, 1) := by decide +kernel
theorem dX3_init_1 : decode cX3_init 1 = .ok (.invokespecial 3, 3) := by decide +kernel
theorem dX3_init_4 : decode cX3_init 4 = .ok (.aload_n 0, 1) := by decide +kernel
theorem dX3_init_5 : decode cX3_init 5 = .ok (.bipush 9, 2) := by decide +kernel
theorem dX3_init_7 : decode cX3_init 7 = .ok (.newarray .int, 2) := by decide +kernel
theorem dX3_init_9 : decode cX3_init 9 = .ok (.putfield 9, 3) := by decide +kernel
theorem dX3_init_12 : decode cX3_init 12 = .ok (.aload_n 0, 1) := by decide +kernel
theorem dX3_init_13 : decode cX3_init 13 = .ok (.iconst 0, 1) := by decide +kernel
theorem dX3_init_14 : decode cX3_init 14 = .ok (.putfield 15, 3) := by decide +kernel
theorem dX3_init_17 : decode cX3_init 17 = .ok (.aload_n 0, 1) := by decide +kernel
theorem dX3_init_18 : decode cX3_init 18 = .ok (.iconst 4, 1) := by decide +kernel
theorem dX3_init_19 : decode cX3_init 19 = .ok (.putfield 19, 3) := by decide +kernel
theorem dX3_init_22 : decode cX3_init 22 = .ok (.return_, 1) := by decide +kernel
theorem dX3_find_0 : decode cX3_find 0 = .ok (.iconst 0, 1) := by decide +kernel
theorem dX3_find_1 : decode cX3_find 1 = .ok (.istore_n 2, 1) := by decide +kernel
theorem dX3_find_2 : decode cX3_find 2 = .ok (.iload_n 2, 1) := by decide +kernel
theorem dX3_find_3 : decode cX3_find 3 = .ok (.aload_n 0, 1) := by decide +kernel
theorem dX3_find_4 : decode cX3_find 4 = .ok (.getfield 15, 3) := by decide +kernel
theorem dX3_find_7 : decode cX3_find 7 = .ok (.if_icmp .ge 21, 3) := by decide +kernel
theorem dX3_find_10 : decode cX3_find 10 = .ok (.aload_n 0, 1) := by decide +kernel
theorem dX3_find_11 : decode cX3_find 11 = .ok (.getfield 9, 3) := by decide +kernel
theorem dX3_find_14 : decode cX3_find 14 = .ok (.iload_n 2, 1) := by decide +kernel
theorem dX3_find_15 : decode cX3_find 15 = .ok (.iaload, 1) := by decide +kernel
theorem dX3_find_16 : decode cX3_find 16 = .ok (.iload_n 1, 1) := by decide +kernel
theorem dX3_find_17 : decode cX3_find 17 = .ok (.if_icmp .ne 5, 3) := by decide +kernel
theorem dX3_find_20 : decode cX3_find 20 = .ok (.iload_n 2, 1) := by decide +kernel
theorem dX3_find_21 : decode cX3_find 21 = .ok (.ireturn, 1) := by decide +kernel
theorem dX3_find_22 : decode cX3_find 22 = .ok (.iinc 2 1, 3) := by decide +kernel
theorem dX3_find_25 : decode cX3_find 25 = .ok (.goto (-23), 3) := by decide +kernel
theorem dX3_find_28 : decode cX3_find 28 = .ok (.iconst (-1), 1) := by decide +kernel
theorem dX3_find_29 : decode cX3_find 29 = .ok (.ireturn, 1) := by decide +kernel
theorem dX3_keep_0 : decode cX3_keep 0 = .ok (.aload_n 0, 1) := by decide +kernel
theorem dX3_keep_1 : decode cX3_keep 1 = .ok (.getfield 19, 3) := by decide +kernel
theorem dX3_keep_4 : decode cX3_keep 4 = .ok (.ifCond .ne 4, 3) := by decide +kernel
theorem dX3_keep_7 : decode cX3_keep 7 = .ok (.return_, 1) := by decide +kernel
theorem dX3_keep_8 : decode cX3_keep 8 = .ok (.aload_n 0, 1) := by decide +kernel
theorem dX3_keep_9 : decode cX3_keep 9 = .ok (.iload_n 1, 1) := by decide +kernel
theorem dX3_keep_10 : decode cX3_keep 10 = .ok (.invokevirtual 22, 3) := by decide +kernel
theorem dX3_keep_13 : decode cX3_keep 13 = .ok (.istore_n 2, 1) := by decide +kernel
theorem dX3_keep_14 : decode cX3_keep 14 = .ok (.iload_n 2, 1) := by decide +kernel
theorem dX3_keep_15 : decode cX3_keep 15 = .ok (.iconst (-1), 1) := by decide +kernel
theorem dX3_keep_16 : decode cX3_keep 16 = .ok (.if_icmp .eq 11, 3) := by decide +kernel
theorem dX3_keep_19 : decode cX3_keep 19 = .ok (.aload_n 0, 1) := by decide +kernel
theorem dX3_keep_20 : decode cX3_keep 20 = .ok (.iload_n 2, 1) := by decide +kernel
theorem dX3_keep_21 : decode cX3_keep 21 = .ok (.invokevirtual 26, 3) := by decide +kernel
theorem dX3_keep_24 : decode cX3_keep 24 = .ok (.goto 19, 3) := by decide +kernel
theorem dX3_keep_27 : decode cX3_keep 27 = .ok (.aload_n 0, 1) := by decide +kernel
theorem dX3_keep_28 : decode cX3_keep 28 = .ok (.getfield 15, 3) := by decide +kernel
theorem dX3_keep_31 : decode cX3_keep 31 = .ok (.aload_n 0, 1) := by decide +kernel
theorem dX3_keep_32 : decode cX3_keep 32 = .ok (.getfield 19, 3) := by decide +kernel
theorem dX3_keep_35 : decode cX3_keep 35 = .ok (.if_icmp .lt 8, 3) := by decide +kernel
theorem dX3_keep_38 : decode cX3_keep 38 = .ok (.aload_n 0, 1) := by decide +kernel
theorem dX3_keep_39 : decode cX3_keep 39 = .ok (.iconst 0, 1) := by decide +kernel
theorem dX3_keep_40 : decode cX3_keep 40 = .ok (.invokevirtual 26, 3) := by decide +kernel
theorem dX3_keep_43 : decode cX3_keep 43 = .ok (.aload_n 0, 1) := by decide +kernel
theorem dX3_keep_44 : decode cX3_keep 44 = .ok (.getfield 9, 3) := by decide +kernel
theorem dX3_keep_47 : decode cX3_keep 47 = .ok (.aload_n 0, 1) := by decide +kernel
theorem dX3_keep_48 : decode cX3_keep 48 = .ok (.getfield 15, 3) := by decide +kernel
theorem dX3_keep_51 : decode cX3_keep 51 = .ok (.iload_n 1, 1) := by decide +kernel
theorem dX3_keep_52 : decode cX3_keep 52 = .ok (.iastore, 1) := by decide +kernel
theorem dX3_keep_53 : decode cX3_keep 53 = .ok (.aload_n 0, 1) := by decide +kernel
theorem dX3_keep_54 : decode cX3_keep 54 = .ok (.dup, 1) := by decide +kernel
theorem dX3_keep_55 : decode cX3_keep 55 = .ok (.getfield 15, 3) := by decide +kernel
theorem dX3_keep_58 : decode cX3_keep 58 = .ok (.iconst 1, 1) := by decide +kernel
theorem dX3_keep_59 : decode cX3_keep 59 = .ok (.iadd, 1) := by decide +kernel
theorem dX3_keep_60 : decode cX3_keep 60 = .ok (.putfield 15, 3) := by decide +kernel
theorem dX3_keep_63 : decode cX3_keep 63 = .ok (.return_, 1) := by decide +kernel
theorem dX3_takeOff_0 : decode cX3_takeOff 0 = .ok (.iload_n 1, 1) := by decide +kernel
theorem dX3_takeOff_1 : decode cX3_takeOff 1 = .ok (.istore_n 2, 1) := by decide +kernel
theorem dX3_takeOff_2 : decode cX3_takeOff 2 = .ok (.iload_n 2, 1) := by decide +kernel
theorem dX3_takeOff_3 : decode cX3_takeOff 3 = .ok (.iconst 1, 1) := by decide +kernel
theorem dX3_takeOff_4 : decode cX3_takeOff 4 = .ok (.iadd, 1) := by decide +kernel
theorem dX3_takeOff_5 : decode cX3_takeOff 5 = .ok (.aload_n 0, 1) := by decide +kernel
theorem dX3_takeOff_6 : decode cX3_takeOff 6 = .ok (.getfield 15, 3) := by decide +kernel
theorem dX3_takeOff_9 : decode cX3_takeOff 9 = .ok (.if_icmp .ge 23, 3) := by decide +kernel
theorem dX3_takeOff_12 : decode cX3_takeOff 12 = .ok (.aload_n 0, 1) := by decide +kernel
theorem dX3_takeOff_13 : decode cX3_takeOff 13 = .ok (.getfield 9, 3) := by decide +kernel
theorem dX3_takeOff_16 : decode cX3_takeOff 16 = .ok (.iload_n 2, 1) := by decide +kernel
theorem dX3_takeOff_17 : decode cX3_takeOff 17 = .ok (.aload_n 0, 1) := by decide +kernel
theorem dX3_takeOff_18 : decode cX3_takeOff 18 = .ok (.getfield 9, 3) := by decide +kernel
theorem dX3_takeOff_21 : decode cX3_takeOff 21 = .ok (.iload_n 2, 1) := by decide +kernel
theorem dX3_takeOff_22 : decode cX3_takeOff 22 = .ok (.iconst 1, 1) := by decide +kernel
theorem dX3_takeOff_23 : decode cX3_takeOff 23 = .ok (.iadd, 1) := by decide +kernel
theorem dX3_takeOff_24 : decode cX3_takeOff 24 = .ok (.iaload, 1) := by decide +kernel
theorem dX3_takeOff_25 : decode cX3_takeOff 25 = .ok (.iastore, 1) := by decide +kernel
theorem dX3_takeOff_26 : decode cX3_takeOff 26 = .ok (.iinc 2 1, 3) := by decide +kernel
theorem dX3_takeOff_29 : decode cX3_takeOff 29 = .ok (.goto (-27), 3) := by decide +kernel
theorem dX3_takeOff_32 : decode cX3_takeOff 32 = .ok (.aload_n 0, 1) := by decide +kernel
theorem dX3_takeOff_33 : decode cX3_takeOff 33 = .ok (.dup, 1) := by decide +kernel
theorem dX3_takeOff_34 : decode cX3_takeOff 34 = .ok (.getfield 15, 3) := by decide +kernel
theorem dX3_takeOff_37 : decode cX3_takeOff 37 = .ok (.iconst 1, 1) := by decide +kernel
theorem dX3_takeOff_38 : decode cX3_takeOff 38 = .ok (.isub, 1) := by decide +kernel
theorem dX3_takeOff_39 : decode cX3_takeOff 39 = .ok (.putfield 15, 3) := by decide +kernel
theorem dX3_takeOff_42 : decode cX3_takeOff 42 = .ok (.return_, 1) := by decide +kernel
theorem dX4_init_0 : decode cX4_init 0 = .ok (.aload_n 0, 1) := by decide +kernel
theorem dX4_init_1 : decode cX4_init 1 = .ok (.invokespecial 3, 3) := by decide +kernel
theorem dX4_init_4 : decode cX4_init 4 = .ok (.aload_n 0, 1) := by decide +kernel
theorem dX4_init_5 : decode cX4_init 5 = .ok (.bipush 17, 2) := by decide +kernel
theorem dX4_init_7 : decode cX4_init 7 = .ok (.bipush 24, 2) := by decide +kernel
theorem dX4_init_9 : decode cX4_init 9 = .ok (.multianewarray 9 2, 4) := by decide +kernel
theorem dX4_init_13 : decode cX4_init 13 = .ok (.putfield 11, 3) := by decide +kernel
theorem dX4_init_16 : decode cX4_init 16 = .ok (.aload_n 0, 1) := by decide +kernel
theorem dX4_init_17 : decode cX4_init 17 = .ok (.iconst 0, 1) := by decide +kernel
theorem dX4_init_18 : decode cX4_init 18 = .ok (.putfield 16, 3) := by decide +kernel
theorem dX4_init_21 : decode cX4_init 21 = .ok (.aload_n 0, 1) := by decide +kernel
theorem dX4_init_22 : decode cX4_init 22 = .ok (.iconst 0, 1) := by decide +kernel
theorem dX4_init_23 : decode cX4_init 23 = .ok (.putfield 20, 3) := by decide +kernel
theorem dX4_init_26 : decode cX4_init 26 = .ok (.return_, 1) := by decide +kernel
theorem dX4_begin_0 : decode cX4_begin 0 = .ok (.aload_n 0, 1) := by decide +kernel
theorem dX4_begin_1 : decode cX4_begin 1 = .ok (.iconst 0, 1) := by decide +kernel
theorem dX4_begin_2 : decode cX4_begin 2 = .ok (.putfield 16, 3) := by decide +kernel
theorem dX4_begin_5 : decode cX4_begin 5 = .ok (.aload_n 0, 1) := by decide +kernel
theorem dX4_begin_6 : decode cX4_begin 6 = .ok (.iconst 0, 1) := by decide +kernel
theorem dX4_begin_7 : decode cX4_begin 7 = .ok (.putfield 20, 3) := by decide +kernel
theorem dX4_begin_10 : decode cX4_begin 10 = .ok (.aload_n 1, 1) := by decide +kernel
theorem dX4_begin_11 : decode cX4_begin 11 = .ok (.aload_n 0, 1) := by decide +kernel
theorem dX4_begin_12 : decode cX4_begin 12 = .ok (.getfield 11, 3) := by decide +kernel
theorem dX4_begin_15 : decode cX4_begin 15 = .ok (.iconst 0, 1) := by decide +kernel
theorem dX4_begin_16 : decode cX4_begin 16 = .ok (.aaload, 1) := by decide +kernel
theorem dX4_begin_17 : decode cX4_begin 17 = .ok (.invokestatic 23, 3) := by decide +kernel
theorem dX4_begin_20 : decode cX4_begin 20 = .ok (.return_, 1) := by decide +kernel
theorem dX4_note_0 : decode cX4_note 0 = .ok (.aload_n 0, 1) := by decide +kernel
theorem dX4_note_1 : decode cX4_note 1 = .ok (.getfield 16, 3) := by decide +kernel
theorem dX4_note_4 : decode cX4_note 4 = .ok (.bipush 16, 2) := by decide +kernel
theorem dX4_note_6 : decode cX4_note 6 = .ok (.if_icmp .lt 40, 3) := by decide +kernel
theorem dX4_note_9 : decode cX4_note 9 = .ok (.iconst 0, 1) := by decide +kernel
theorem dX4_note_10 : decode cX4_note 10 = .ok (.istore_n 2, 1) := by decide +kernel
theorem dX4_note_11 : decode cX4_note 11 = .ok (.iload_n 2, 1) := by decide +kernel
theorem dX4_note_12 : decode cX4_note 12 = .ok (.bipush 16, 2) := by decide +kernel
theorem dX4_note_14 : decode cX4_note 14 = .ok (.if_icmp .ge 26, 3) := by decide +kernel
theorem dX4_note_17 : decode cX4_note 17 = .ok (.aload_n 0, 1) := by decide +kernel
theorem dX4_note_18 : decode cX4_note 18 = .ok (.getfield 11, 3) := by decide +kernel
theorem dX4_note_21 : decode cX4_note 21 = .ok (.iload_n 2, 1) := by decide +kernel
theorem dX4_note_22 : decode cX4_note 22 = .ok (.iconst 1, 1) := by decide +kernel
theorem dX4_note_23 : decode cX4_note 23 = .ok (.iadd, 1) := by decide +kernel
theorem dX4_note_24 : decode cX4_note 24 = .ok (.aaload, 1) := by decide +kernel
theorem dX4_note_25 : decode cX4_note 25 = .ok (.aload_n 0, 1) := by decide +kernel
theorem dX4_note_26 : decode cX4_note 26 = .ok (.getfield 11, 3) := by decide +kernel
theorem dX4_note_29 : decode cX4_note 29 = .ok (.iload_n 2, 1) := by decide +kernel
theorem dX4_note_30 : decode cX4_note 30 = .ok (.aaload, 1) := by decide +kernel
theorem dX4_note_31 : decode cX4_note 31 = .ok (.invokestatic 23, 3) := by decide +kernel
theorem dX4_note_34 : decode cX4_note 34 = .ok (.iinc 2 1, 3) := by decide +kernel
theorem dX4_note_37 : decode cX4_note 37 = .ok (.goto (-26), 3) := by decide +kernel
theorem dX4_note_40 : decode cX4_note 40 = .ok (.aload_n 0, 1) := by decide +kernel
theorem dX4_note_41 : decode cX4_note 41 = .ok (.bipush 15, 2) := by decide +kernel
theorem dX4_note_43 : decode cX4_note 43 = .ok (.putfield 16, 3) := by decide +kernel
theorem dX4_note_46 : decode cX4_note 46 = .ok (.aload_n 0, 1) := by decide +kernel
theorem dX4_note_47 : decode cX4_note 47 = .ok (.dup, 1) := by decide +kernel
theorem dX4_note_48 : decode cX4_note 48 = .ok (.getfield 16, 3) := by decide +kernel
theorem dX4_note_51 : decode cX4_note 51 = .ok (.iconst 1, 1) := by decide +kernel
theorem dX4_note_52 : decode cX4_note 52 = .ok (.iadd, 1) := by decide +kernel
theorem dX4_note_53 : decode cX4_note 53 = .ok (.putfield 16, 3) := by decide +kernel
theorem dX4_note_56 : decode cX4_note 56 = .ok (.aload_n 0, 1) := by decide +kernel
theorem dX4_note_57 : decode cX4_note 57 = .ok (.aload_n 0, 1) := by decide +kernel
theorem dX4_note_58 : decode cX4_note 58 = .ok (.getfield 16, 3) := by decide +kernel
theorem dX4_note_61 : decode cX4_note 61 = .ok (.putfield 20, 3) := by decide +kernel
theorem dX4_note_64 : decode cX4_note 64 = .ok (.aload_n 1, 1) := by decide +kernel
theorem dX4_note_65 : decode cX4_note 65 = .ok (.aload_n 0, 1) := by decide +kernel
theorem dX4_note_66 : decode cX4_note 66 = .ok (.getfield 11, 3) := by decide +kernel
theorem dX4_note_69 : decode cX4_note 69 = .ok (.aload_n 0, 1) := by decide +kernel
theorem dX4_note_70 : decode cX4_note 70 = .ok (.getfield 16, 3) := by decide +kernel
theorem dX4_note_73 : decode cX4_note 73 = .ok (.aaload, 1) := by decide +kernel
theorem dX4_note_74 : decode cX4_note 74 = .ok (.invokestatic 23, 3) := by decide +kernel
theorem dX4_note_77 : decode cX4_note 77 = .ok (.return_, 1) := by decide +kernel
theorem dX4_goBack_0 : decode cX4_goBack 0 = .ok (.aload_n 0, 1) := by decide +kernel
theorem dX4_goBack_1 : decode cX4_goBack 1 = .ok (.getfield 16, 3) := by decide +kernel
theorem dX4_goBack_4 : decode cX4_goBack 4 = .ok (.ifCond .gt 5, 3) := by decide +kernel
theorem dX4_goBack_7 : decode cX4_goBack 7 = .ok (.iconst 0, 1) := by decide +kernel
theorem dX4_goBack_8 : decode cX4_goBack 8 = .ok (.ireturn, 1) := by decide +kernel
theorem dX4_goBack_9 : decode cX4_goBack 9 = .ok (.aload_n 0, 1) := by decide +kernel
theorem dX4_goBack_10 : decode cX4_goBack 10 = .ok (.dup, 1) := by decide +kernel
theorem dX4_goBack_11 : decode cX4_goBack 11 = .ok (.getfield 16, 3) := by decide +kernel
theorem dX4_goBack_14 : decode cX4_goBack 14 = .ok (.iconst 1, 1) := by decide +kernel
theorem dX4_goBack_15 : decode cX4_goBack 15 = .ok (.isub, 1) := by decide +kernel
theorem dX4_goBack_16 : decode cX4_goBack 16 = .ok (.putfield 16, 3) := by decide +kernel
theorem dX4_goBack_19 : decode cX4_goBack 19 = .ok (.aload_n 0, 1) := by decide +kernel
theorem dX4_goBack_20 : decode cX4_goBack 20 = .ok (.getfield 11, 3) := by decide +kernel
theorem dX4_goBack_23 : decode cX4_goBack 23 = .ok (.aload_n 0, 1) := by decide +kernel
theorem dX4_goBack_24 : decode cX4_goBack 24 = .ok (.getfield 16, 3) := by decide +kernel
theorem dX4_goBack_27 : decode cX4_goBack 27 = .ok (.aaload, 1) := by decide +kernel
theorem dX4_goBack_28 : decode cX4_goBack 28 = .ok (.aload_n 1, 1) := by decide +kernel
theorem dX4_goBack_29 : decode cX4_goBack 29 = .ok (.invokestatic 23, 3) := by decide +kernel
theorem dX4_goBack_32 : decode cX4_goBack 32 = .ok (.iconst 1, 1) := by decide +kernel
theorem dX4_goBack_33 : decode cX4_goBack 33 = .ok (.ireturn, 1) := by decide +kernel
theorem dX4_goAhead_0 : decode cX4_goAhead 0 = .ok (.aload_n 0, 1) := by decide +kernel
theorem dX4_goAhead_1 : decode cX4_goAhead 1 = .ok (.getfield 16, 3) := by decide +kernel
theorem dX4_goAhead_4 : decode cX4_goAhead 4 = .ok (.aload_n 0, 1) := by decide +kernel
theorem dX4_goAhead_5 : decode cX4_goAhead 5 = .ok (.getfield 20, 3) := by decide +kernel
theorem dX4_goAhead_8 : decode cX4_goAhead 8 = .ok (.if_icmp .lt 5, 3) := by decide +kernel
theorem dX4_goAhead_11 : decode cX4_goAhead 11 = .ok (.iconst 0, 1) := by decide +kernel
theorem dX4_goAhead_12 : decode cX4_goAhead 12 = .ok (.ireturn, 1) := by decide +kernel
theorem dX4_goAhead_13 : decode cX4_goAhead 13 = .ok (.aload_n 0, 1) := by decide +kernel
theorem dX4_goAhead_14 : decode cX4_goAhead 14 = .ok (.dup, 1) := by decide +kernel
theorem dX4_goAhead_15 : decode cX4_goAhead 15 = .ok (.getfield 16, 3) := by decide +kernel
theorem dX4_goAhead_18 : decode cX4_goAhead 18 = .ok (.iconst 1, 1) := by decide +kernel
theorem dX4_goAhead_19 : decode cX4_goAhead 19 = .ok (.iadd, 1) := by decide +kernel
theorem dX4_goAhead_20 : decode cX4_goAhead 20 = .ok (.putfield 16, 3) := by decide +kernel
theorem dX4_goAhead_23 : decode cX4_goAhead 23 = .ok (.aload_n 0, 1) := by decide +kernel
theorem dX4_goAhead_24 : decode cX4_goAhead 24 = .ok (.getfield 11, 3) := by decide +kernel
theorem dX4_goAhead_27 : decode cX4_goAhead 27 = .ok (.aload_n 0, 1) := by decide +kernel
theorem dX4_goAhead_28 : decode cX4_goAhead 28 = .ok (.getfield 16, 3) := by decide +kernel
theorem dX4_goAhead_31 : decode cX4_goAhead 31 = .ok (.aaload, 1) := by decide +kernel
theorem dX4_goAhead_32 : decode cX4_goAhead 32 = .ok (.aload_n 1, 1) := by decide +kernel
theorem dX4_goAhead_33 : decode cX4_goAhead 33 = .ok (.invokestatic 23, 3) := by decide +kernel
theorem dX4_goAhead_36 : decode cX4_goAhead 36 = .ok (.iconst 1, 1) := by decide +kernel
theorem dX4_goAhead_37 : decode cX4_goAhead 37 = .ok (.ireturn, 1) := by decide +kernel
theorem dX5_init_0 : decode cX5_init 0 = .ok (.aload_n 0, 1) := by decide +kernel
theorem dX5_init_1 : decode cX5_init 1 = .ok (.invokespecial 3, 3) := by decide +kernel
theorem dX5_init_4 : decode cX5_init 4 = .ok (.aload_n 0, 1) := by decide +kernel
theorem dX5_init_5 : decode cX5_init 5 = .ok (.iconst 0, 1) := by decide +kernel
theorem dX5_init_6 : decode cX5_init 6 = .ok (.putfield 9, 3) := by decide +kernel
theorem dX5_init_9 : decode cX5_init 9 = .ok (.aload_n 0, 1) := by decide +kernel
theorem dX5_init_10 : decode cX5_init 10 = .ok (.iconst 0, 1) := by decide +kernel
theorem dX5_init_11 : decode cX5_init 11 = .ok (.putfield 15, 3) := by decide +kernel
theorem dX5_init_14 : decode cX5_init 14 = .ok (.aload_n 0, 1) := by decide +kernel
theorem dX5_init_15 : decode cX5_init 15 = .ok (.bipush 24, 2) := by decide +kernel
theorem dX5_init_17 : decode cX5_init 17 = .ok (.newarray .int, 2) := by decide +kernel
theorem dX5_init_19 : decode cX5_init 19 = .ok (.putfield 18, 3) := by decide +kernel
theorem dX5_init_22 : decode cX5_init 22 = .ok (.aload_n 0, 1) := by decide +kernel
theorem dX5_init_23 : decode cX5_init 23 = .ok (.bipush 24, 2) := by decide +kernel
theorem dX5_init_25 : decode cX5_init 25 = .ok (.newarray .int, 2) := by decide +kernel
theorem dX5_init_27 : decode cX5_init 27 = .ok (.putfield 22, 3) := by decide +kernel
theorem dX5_init_30 : decode cX5_init 30 = .ok (.aload_n 0, 1) := by decide +kernel
theorem dX5_init_31 : decode cX5_init 31 = .ok (.bipush 24, 2) := by decide +kernel
theorem dX5_init_33 : decode cX5_init 33 = .ok (.newarray .int, 2) := by decide +kernel
theorem dX5_init_35 : decode cX5_init 35 = .ok (.putfield 25, 3) := by decide +kernel
theorem dX5_init_38 : decode cX5_init 38 = .ok (.aload_n 0, 1) := by decide +kernel
theorem dX5_init_39 : decode cX5_init 39 = .ok (.bipush 24, 2) := by decide +kernel
theorem dX5_init_41 : decode cX5_init 41 = .ok (.newarray .int, 2) := by decide +kernel
theorem dX5_init_43 : decode cX5_init 43 = .ok (.putfield 28, 3) := by decide +kernel
theorem dX5_init_46 : decode cX5_init 46 = .ok (.aload_n 0, 1) := by decide +kernel
theorem dX5_init_47 : decode cX5_init 47 = .ok (.bipush 24, 2) := by decide +kernel
theorem dX5_init_49 : decode cX5_init 49 = .ok (.newarray .int, 2) := by decide +kernel
theorem dX5_init_51 : decode cX5_init 51 = .ok (.putfield 31, 3) := by decide +kernel
theorem dX5_init_54 : decode cX5_init 54 = .ok (.aload_n 0, 1) := by decide +kernel
theorem dX5_init_55 : decode cX5_init 55 = .ok (.bipush 24, 2) := by decide +kernel
theorem dX5_init_57 : decode cX5_init 57 = .ok (.newarray .int, 2) := by decide +kernel
theorem dX5_init_59 : decode cX5_init 59 = .ok (.putfield 34, 3) := by decide +kernel
theorem dX5_init_62 : decode cX5_init 62 = .ok (.aload_n 0, 1) := by decide +kernel
theorem dX5_init_63 : decode cX5_init 63 = .ok (.bipush 6, 2) := by decide +kernel
theorem dX5_init_65 : decode cX5_init 65 = .ok (.newarray .int, 2) := by decide +kernel
theorem dX5_init_67 : decode cX5_init 67 = .ok (.putfield 37, 3) := by decide +kernel
theorem dX5_init_70 : decode cX5_init 70 = .ok (.return_, 1) := by decide +kernel
theorem dX5_clear_0 : decode cX5_clear 0 = .ok (.aload_n 0, 1) := by decide +kernel
theorem dX5_clear_1 : decode cX5_clear 1 = .ok (.iconst 0, 1) := by decide +kernel
theorem dX5_clear_2 : decode cX5_clear 2 = .ok (.putfield 9, 3) := by decide +kernel
theorem dX5_clear_5 : decode cX5_clear 5 = .ok (.aload_n 0, 1) := by decide +kernel
theorem dX5_clear_6 : decode cX5_clear 6 = .ok (.iconst 0, 1) := by decide +kernel
theorem dX5_clear_7 : decode cX5_clear 7 = .ok (.putfield 15, 3) := by decide +kernel
theorem dX5_clear_10 : decode cX5_clear 10 = .ok (.return_, 1) := by decide +kernel
theorem dX5_add_0 : decode cX5_add 0 = .ok (.aload_n 0, 1) := by decide +kernel
theorem dX5_add_1 : decode cX5_add 1 = .ok (.getfield 15, 3) := by decide +kernel
theorem dX5_add_4 : decode cX5_add 4 = .ok (.bipush 24, 2) := by decide +kernel
theorem dX5_add_6 : decode cX5_add 6 = .ok (.if_icmp .lt 4, 3) := by decide +kernel
theorem dX5_add_9 : decode cX5_add 9 = .ok (.return_, 1) := by decide +kernel
theorem dX5_add_10 : decode cX5_add 10 = .ok (.aload_n 0, 1) := by decide +kernel
theorem dX5_add_11 : decode cX5_add 11 = .ok (.getfield 18, 3) := by decide +kernel
theorem dX5_add_14 : decode cX5_add 14 = .ok (.aload_n 0, 1) := by decide +kernel
theorem dX5_add_15 : decode cX5_add 15 = .ok (.getfield 15, 3) := by decide +kernel
theorem dX5_add_18 : decode cX5_add 18 = .ok (.iload_n 1, 1) := by decide +kernel
theorem dX5_add_19 : decode cX5_add 19 = .ok (.iastore, 1) := by decide +kernel
theorem dX5_add_20 : decode cX5_add 20 = .ok (.aload_n 0, 1) := by decide +kernel
theorem dX5_add_21 : decode cX5_add 21 = .ok (.getfield 22, 3) := by decide +kernel
theorem dX5_add_24 : decode cX5_add 24 = .ok (.aload_n 0, 1) := by decide +kernel
theorem dX5_add_25 : decode cX5_add 25 = .ok (.getfield 15, 3) := by decide +kernel
theorem dX5_add_28 : decode cX5_add 28 = .ok (.iload_n 2, 1) := by decide +kernel
theorem dX5_add_29 : decode cX5_add 29 = .ok (.iastore, 1) := by decide +kernel
theorem dX5_add_30 : decode cX5_add 30 = .ok (.aload_n 0, 1) := by decide +kernel
theorem dX5_add_31 : decode cX5_add 31 = .ok (.getfield 25, 3) := by decide +kernel
theorem dX5_add_34 : decode cX5_add 34 = .ok (.aload_n 0, 1) := by decide +kernel
theorem dX5_add_35 : decode cX5_add 35 = .ok (.getfield 15, 3) := by decide +kernel
theorem dX5_add_38 : decode cX5_add 38 = .ok (.iload_n 3, 1) := by decide +kernel
theorem dX5_add_39 : decode cX5_add 39 = .ok (.iastore, 1) := by decide +kernel
theorem dX5_add_40 : decode cX5_add 40 = .ok (.aload_n 0, 1) := by decide +kernel
theorem dX5_add_41 : decode cX5_add 41 = .ok (.getfield 28, 3) := by decide +kernel
theorem dX5_add_44 : decode cX5_add 44 = .ok (.aload_n 0, 1) := by decide +kernel
theorem dX5_add_45 : decode cX5_add 45 = .ok (.getfield 15, 3) := by decide +kernel
theorem dX5_add_48 : decode cX5_add 48 = .ok (.iload 4, 2) := by decide +kernel
theorem dX5_add_50 : decode cX5_add 50 = .ok (.iastore, 1) := by decide +kernel
theorem dX5_add_51 : decode cX5_add 51 = .ok (.aload_n 0, 1) := by decide +kernel
theorem dX5_add_52 : decode cX5_add 52 = .ok (.dup, 1) := by decide +kernel
theorem dX5_add_53 : decode cX5_add 53 = .ok (.getfield 15, 3) := by decide +kernel
theorem dX5_add_56 : decode cX5_add 56 = .ok (.iconst 1, 1) := by decide +kernel
theorem dX5_add_57 : decode cX5_add 57 = .ok (.iadd, 1) := by decide +kernel
theorem dX5_add_58 : decode cX5_add 58 = .ok (.putfield 15, 3) := by decide +kernel
theorem dX5_add_61 : decode cX5_add 61 = .ok (.aload_n 0, 1) := by decide +kernel
theorem dX5_add_62 : decode cX5_add 62 = .ok (.iload_n 1, 1) := by decide +kernel
theorem dX5_add_63 : decode cX5_add 63 = .ok (.iconst 1, 1) := by decide +kernel
theorem dX5_add_64 : decode cX5_add 64 = .ok (.iadd, 1) := by decide +kernel
theorem dX5_add_65 : decode cX5_add 65 = .ok (.putfield 9, 3) := by decide +kernel
theorem dX5_add_68 : decode cX5_add 68 = .ok (.return_, 1) := by decide +kernel
theorem dX5_finish_0 : decode cX5_finish 0 = .ok (.iconst 0, 1) := by decide +kernel
theorem dX5_finish_1 : decode cX5_finish 1 = .ok (.istore_n 1, 1) := by decide +kernel
theorem dX5_finish_2 : decode cX5_finish 2 = .ok (.iload_n 1, 1) := by decide +kernel
theorem dX5_finish_3 : decode cX5_finish 3 = .ok (.aload_n 0, 1) := by decide +kernel
theorem dX5_finish_4 : decode cX5_finish 4 = .ok (.getfield 15, 3) := by decide +kernel
theorem dX5_finish_7 : decode cX5_finish 7 = .ok (.if_icmp .ge 43, 3) := by decide +kernel
theorem dX5_finish_10 : decode cX5_finish 10 = .ok (.aload_n 0, 1) := by decide +kernel
theorem dX5_finish_11 : decode cX5_finish 11 = .ok (.iload_n 1, 1) := by decide +kernel
theorem dX5_finish_12 : decode cX5_finish 12 = .ok (.invokevirtual 40, 3) := by decide +kernel
theorem dX5_finish_15 : decode cX5_finish 15 = .ok (.istore_n 2, 1) := by decide +kernel
theorem dX5_finish_16 : decode cX5_finish 16 = .ok (.aload_n 0, 1) := by decide +kernel
theorem dX5_finish_17 : decode cX5_finish 17 = .ok (.getfield 31, 3) := by decide +kernel
theorem dX5_finish_20 : decode cX5_finish 20 = .ok (.iload_n 1, 1) := by decide +kernel
theorem dX5_finish_21 : decode cX5_finish 21 = .ok (.iload_n 2, 1) := by decide +kernel
theorem dX5_finish_22 : decode cX5_finish 22 = .ok (.iconst (-1), 1) := by decide +kernel
theorem dX5_finish_23 : decode cX5_finish 23 = .ok (.if_icmp .ne 7, 3) := by decide +kernel
theorem dX5_finish_26 : decode cX5_finish 26 = .ok (.iconst 0, 1) := by decide +kernel
theorem dX5_finish_27 : decode cX5_finish 27 = .ok (.goto 16, 3) := by decide +kernel
theorem dX5_finish_30 : decode cX5_finish 30 = .ok (.aload_n 0, 1) := by decide +kernel
theorem dX5_finish_31 : decode cX5_finish 31 = .ok (.getfield 31, 3) := by decide +kernel
theorem dX5_finish_34 : decode cX5_finish 34 = .ok (.iload_n 2, 1) := by decide +kernel
theorem dX5_finish_35 : decode cX5_finish 35 = .ok (.iaload, 1) := by decide +kernel
theorem dX5_finish_36 : decode cX5_finish 36 = .ok (.aload_n 0, 1) := by decide +kernel
theorem dX5_finish_37 : decode cX5_finish 37 = .ok (.getfield 28, 3) := by decide +kernel
theorem dX5_finish_40 : decode cX5_finish 40 = .ok (.iload_n 2, 1) := by decide +kernel
theorem dX5_finish_41 : decode cX5_finish 41 = .ok (.iaload, 1) := by decide +kernel
theorem dX5_finish_42 : decode cX5_finish 42 = .ok (.iadd, 1) := by decide +kernel
theorem dX5_finish_43 : decode cX5_finish 43 = .ok (.iastore, 1) := by decide +kernel
theorem dX5_finish_44 : decode cX5_finish 44 = .ok (.iinc 1 1, 3) := by decide +kernel
theorem dX5_finish_47 : decode cX5_finish 47 = .ok (.goto (-45), 3) := by decide +kernel
theorem dX5_finish_50 : decode cX5_finish 50 = .ok (.aload_n 0, 1) := by decide +kernel
theorem dX5_finish_51 : decode cX5_finish 51 = .ok (.getfield 15, 3) := by decide +kernel
theorem dX5_finish_54 : decode cX5_finish 54 = .ok (.iconst 1, 1) := by decide +kernel
theorem dX5_finish_55 : decode cX5_finish 55 = .ok (.isub, 1) := by decide +kernel
theorem dX5_finish_56 : decode cX5_finish 56 = .ok (.istore_n 1, 1) := by decide +kernel
theorem dX5_finish_57 : decode cX5_finish 57 = .ok (.iload_n 1, 1) := by decide +kernel
theorem dX5_finish_58 : decode cX5_finish 58 = .ok (.ifCond .lt 43, 3) := by decide +kernel
theorem dX5_finish_61 : decode cX5_finish 61 = .ok (.aload_n 0, 1) := by decide +kernel
theorem dX5_finish_62 : decode cX5_finish 62 = .ok (.iload_n 1, 1) := by decide +kernel
theorem dX5_finish_63 : decode cX5_finish 63 = .ok (.invokevirtual 44, 3) := by decide +kernel
theorem dX5_finish_66 : decode cX5_finish 66 = .ok (.istore_n 2, 1) := by decide +kernel
theorem dX5_finish_67 : decode cX5_finish 67 = .ok (.aload_n 0, 1) := by decide +kernel
theorem dX5_finish_68 : decode cX5_finish 68 = .ok (.getfield 34, 3) := by decide +kernel
theorem dX5_finish_71 : decode cX5_finish 71 = .ok (.iload_n 1, 1) := by decide +kernel
theorem dX5_finish_72 : decode cX5_finish 72 = .ok (.iload_n 2, 1) := by decide +kernel
theorem dX5_finish_73 : decode cX5_finish 73 = .ok (.iconst (-1), 1) := by decide +kernel
theorem dX5_finish_74 : decode cX5_finish 74 = .ok (.if_icmp .ne 7, 3) := by decide +kernel
theorem dX5_finish_77 : decode cX5_finish 77 = .ok (.iconst 0, 1) := by decide +kernel
theorem dX5_finish_78 : decode cX5_finish 78 = .ok (.goto 16, 3) := by decide +kernel
theorem dX5_finish_81 : decode cX5_finish 81 = .ok (.aload_n 0, 1) := by decide +kernel
theorem dX5_finish_82 : decode cX5_finish 82 = .ok (.getfield 34, 3) := by decide +kernel
theorem dX5_finish_85 : decode cX5_finish 85 = .ok (.iload_n 2, 1) := by decide +kernel
theorem dX5_finish_86 : decode cX5_finish 86 = .ok (.iaload, 1) := by decide +kernel
theorem dX5_finish_87 : decode cX5_finish 87 = .ok (.aload_n 0, 1) := by decide +kernel
theorem dX5_finish_88 : decode cX5_finish 88 = .ok (.getfield 28, 3) := by decide +kernel
theorem dX5_finish_91 : decode cX5_finish 91 = .ok (.iload_n 2, 1) := by decide +kernel
theorem dX5_finish_92 : decode cX5_finish 92 = .ok (.iaload, 1) := by decide +kernel
theorem dX5_finish_93 : decode cX5_finish 93 = .ok (.iadd, 1) := by decide +kernel
theorem dX5_finish_94 : decode cX5_finish 94 = .ok (.iastore, 1) := by decide +kernel
theorem dX5_finish_95 : decode cX5_finish 95 = .ok (.iinc 1 (-1), 3) := by decide +kernel
theorem dX5_finish_98 : decode cX5_finish 98 = .ok (.goto (-41), 3) := by decide +kernel
theorem dX5_finish_101 : decode cX5_finish 101 = .ok (.aload_n 0, 1) := by decide +kernel
theorem dX5_finish_102 : decode cX5_finish 102 = .ok (.getfield 37, 3) := by decide +kernel
theorem dX5_finish_105 : decode cX5_finish 105 = .ok (.iconst 0, 1) := by decide +kernel
theorem dX5_finish_106 : decode cX5_finish 106 = .ok (.iconst 0, 1) := by decide +kernel
theorem dX5_finish_107 : decode cX5_finish 107 = .ok (.iastore, 1) := by decide +kernel
theorem dX5_finish_108 : decode cX5_finish 108 = .ok (.iconst 0, 1) := by decide +kernel
theorem dX5_finish_109 : decode cX5_finish 109 = .ok (.istore_n 1, 1) := by decide +kernel
theorem dX5_finish_110 : decode cX5_finish 110 = .ok (.iload_n 1, 1) := by decide +kernel
theorem dX5_finish_111 : decode cX5_finish 111 = .ok (.iconst 5, 1) := by decide +kernel
theorem dX5_finish_112 : decode cX5_finish 112 = .ok (.if_icmp .ge 61, 3) := by decide +kernel
theorem dX5_finish_115 : decode cX5_finish 115 = .ok (.iconst 0, 1) := by decide +kernel
theorem dX5_finish_116 : decode cX5_finish 116 = .ok (.istore_n 2, 1) := by decide +kernel
theorem dX5_finish_117 : decode cX5_finish 117 = .ok (.iconst 0, 1) := by decide +kernel
theorem dX5_finish_118 : decode cX5_finish 118 = .ok (.istore_n 3, 1) := by decide +kernel
theorem dX5_finish_119 : decode cX5_finish 119 = .ok (.iload_n 3, 1) := by decide +kernel
theorem dX5_finish_120 : decode cX5_finish 120 = .ok (.aload_n 0, 1) := by decide +kernel
theorem dX5_finish_121 : decode cX5_finish 121 = .ok (.getfield 15, 3) := by decide +kernel
theorem dX5_finish_124 : decode cX5_finish 124 = .ok (.if_icmp .ge 27, 3) := by decide +kernel
theorem dX5_finish_127 : decode cX5_finish 127 = .ok (.iload_n 2, 1) := by decide +kernel
theorem dX5_finish_128 : decode cX5_finish 128 = .ok (.aload_n 0, 1) := by decide +kernel
theorem dX5_finish_129 : decode cX5_finish 129 = .ok (.getfield 25, 3) := by decide +kernel
theorem dX5_finish_132 : decode cX5_finish 132 = .ok (.iload_n 3, 1) := by decide +kernel
theorem dX5_finish_133 : decode cX5_finish 133 = .ok (.iaload, 1) := by decide +kernel
theorem dX5_finish_134 : decode cX5_finish 134 = .ok (.iload_n 1, 1) := by decide +kernel
theorem dX5_finish_135 : decode cX5_finish 135 = .ok (.if_icmp .ne 7, 3) := by decide +kernel
theorem dX5_finish_138 : decode cX5_finish 138 = .ok (.iconst 1, 1) := by decide +kernel
theorem dX5_finish_139 : decode cX5_finish 139 = .ok (.goto 4, 3) := by decide +kernel
theorem dX5_finish_142 : decode cX5_finish 142 = .ok (.iconst 0, 1) := by decide +kernel
theorem dX5_finish_143 : decode cX5_finish 143 = .ok (.iadd, 1) := by decide +kernel
theorem dX5_finish_144 : decode cX5_finish 144 = .ok (.istore_n 2, 1) := by decide +kernel
theorem dX5_finish_145 : decode cX5_finish 145 = .ok (.iinc 3 1, 3) := by decide +kernel
theorem dX5_finish_148 : decode cX5_finish 148 = .ok (.goto (-29), 3) := by decide +kernel
theorem dX5_finish_151 : decode cX5_finish 151 = .ok (.aload_n 0, 1) := by decide +kernel
theorem dX5_finish_152 : decode cX5_finish 152 = .ok (.getfield 37, 3) := by decide +kernel
theorem dX5_finish_155 : decode cX5_finish 155 = .ok (.iload_n 1, 1) := by decide +kernel
theorem dX5_finish_156 : decode cX5_finish 156 = .ok (.iconst 1, 1) := by decide +kernel
theorem dX5_finish_157 : decode cX5_finish 157 = .ok (.iadd, 1) := by decide +kernel
theorem dX5_finish_158 : decode cX5_finish 158 = .ok (.aload_n 0, 1) := by decide +kernel
theorem dX5_finish_159 : decode cX5_finish 159 = .ok (.getfield 37, 3) := by decide +kernel
theorem dX5_finish_162 : decode cX5_finish 162 = .ok (.iload_n 1, 1) := by decide +kernel
theorem dX5_finish_163 : decode cX5_finish 163 = .ok (.iaload, 1) := by decide +kernel
theorem dX5_finish_164 : decode cX5_finish 164 = .ok (.iload_n 2, 1) := by decide +kernel
theorem dX5_finish_165 : decode cX5_finish 165 = .ok (.iadd, 1) := by decide +kernel
theorem dX5_finish_166 : decode cX5_finish 166 = .ok (.iastore, 1) := by decide +kernel
theorem dX5_finish_167 : decode cX5_finish 167 = .ok (.iinc 1 1, 3) := by decide +kernel
theorem dX5_finish_170 : decode cX5_finish 170 = .ok (.goto (-60), 3) := by decide +kernel
theorem dX5_finish_173 : decode cX5_finish 173 = .ok (.return_, 1) := by decide +kernel
theorem dX5_copyOf_0 : decode cX5_copyOf 0 = .ok (.aload_n 0, 1) := by decide +kernel
theorem dX5_copyOf_1 : decode cX5_copyOf 1 = .ok (.aload_n 1, 1) := by decide +kernel
theorem dX5_copyOf_2 : decode cX5_copyOf 2 = .ok (.getfield 9, 3) := by decide +kernel
theorem dX5_copyOf_5 : decode cX5_copyOf 5 = .ok (.putfield 9, 3) := by decide +kernel
theorem dX5_copyOf_8 : decode cX5_copyOf 8 = .ok (.aload_n 0, 1) := by decide +kernel
theorem dX5_copyOf_9 : decode cX5_copyOf 9 = .ok (.aload_n 1, 1) := by decide +kernel
theorem dX5_copyOf_10 : decode cX5_copyOf 10 = .ok (.getfield 15, 3) := by decide +kernel
theorem dX5_copyOf_13 : decode cX5_copyOf 13 = .ok (.putfield 15, 3) := by decide +kernel
theorem dX5_copyOf_16 : decode cX5_copyOf 16 = .ok (.aload_n 1, 1) := by decide +kernel
theorem dX5_copyOf_17 : decode cX5_copyOf 17 = .ok (.getfield 18, 3) := by decide +kernel
theorem dX5_copyOf_20 : decode cX5_copyOf 20 = .ok (.aload_n 0, 1) := by decide +kernel
theorem dX5_copyOf_21 : decode cX5_copyOf 21 = .ok (.getfield 18, 3) := by decide +kernel
theorem dX5_copyOf_24 : decode cX5_copyOf 24 = .ok (.invokestatic 47, 3) := by decide +kernel
theorem dX5_copyOf_27 : decode cX5_copyOf 27 = .ok (.aload_n 1, 1) := by decide +kernel
theorem dX5_copyOf_28 : decode cX5_copyOf 28 = .ok (.getfield 22, 3) := by decide +kernel
theorem dX5_copyOf_31 : decode cX5_copyOf 31 = .ok (.aload_n 0, 1) := by decide +kernel
theorem dX5_copyOf_32 : decode cX5_copyOf 32 = .ok (.getfield 22, 3) := by decide +kernel
theorem dX5_copyOf_35 : decode cX5_copyOf 35 = .ok (.invokestatic 47, 3) := by decide +kernel
theorem dX5_copyOf_38 : decode cX5_copyOf 38 = .ok (.aload_n 1, 1) := by decide +kernel
theorem dX5_copyOf_39 : decode cX5_copyOf 39 = .ok (.getfield 25, 3) := by decide +kernel
theorem dX5_copyOf_42 : decode cX5_copyOf 42 = .ok (.aload_n 0, 1) := by decide +kernel
theorem dX5_copyOf_43 : decode cX5_copyOf 43 = .ok (.getfield 25, 3) := by decide +kernel
theorem dX5_copyOf_46 : decode cX5_copyOf 46 = .ok (.invokestatic 47, 3) := by decide +kernel
theorem dX5_copyOf_49 : decode cX5_copyOf 49 = .ok (.aload_n 1, 1) := by decide +kernel
theorem dX5_copyOf_50 : decode cX5_copyOf 50 = .ok (.getfield 28, 3) := by decide +kernel
theorem dX5_copyOf_53 : decode cX5_copyOf 53 = .ok (.aload_n 0, 1) := by decide +kernel
theorem dX5_copyOf_54 : decode cX5_copyOf 54 = .ok (.getfield 28, 3) := by decide +kernel
theorem dX5_copyOf_57 : decode cX5_copyOf 57 = .ok (.invokestatic 47, 3) := by decide +kernel
theorem dX5_copyOf_60 : decode cX5_copyOf 60 = .ok (.aload_n 1, 1) := by decide +kernel
theorem dX5_copyOf_61 : decode cX5_copyOf 61 = .ok (.getfield 31, 3) := by decide +kernel
theorem dX5_copyOf_64 : decode cX5_copyOf 64 = .ok (.aload_n 0, 1) := by decide +kernel
theorem dX5_copyOf_65 : decode cX5_copyOf 65 = .ok (.getfield 31, 3) := by decide +kernel
theorem dX5_copyOf_68 : decode cX5_copyOf 68 = .ok (.invokestatic 47, 3) := by decide +kernel
theorem dX5_copyOf_71 : decode cX5_copyOf 71 = .ok (.aload_n 1, 1) := by decide +kernel
theorem dX5_copyOf_72 : decode cX5_copyOf 72 = .ok (.getfield 34, 3) := by decide +kernel
theorem dX5_copyOf_75 : decode cX5_copyOf 75 = .ok (.aload_n 0, 1) := by decide +kernel
theorem dX5_copyOf_76 : decode cX5_copyOf 76 = .ok (.getfield 34, 3) := by decide +kernel
theorem dX5_copyOf_79 : decode cX5_copyOf 79 = .ok (.invokestatic 47, 3) := by decide +kernel
theorem dX5_copyOf_82 : decode cX5_copyOf 82 = .ok (.aload_n 1, 1) := by decide +kernel
theorem dX5_copyOf_83 : decode cX5_copyOf 83 = .ok (.getfield 37, 3) := by decide +kernel
theorem dX5_copyOf_86 : decode cX5_copyOf 86 = .ok (.iconst 0, 1) := by decide +kernel
theorem dX5_copyOf_87 : decode cX5_copyOf 87 = .ok (.aload_n 0, 1) := by decide +kernel
theorem dX5_copyOf_88 : decode cX5_copyOf 88 = .ok (.getfield 37, 3) := by decide +kernel
theorem dX5_copyOf_91 : decode cX5_copyOf 91 = .ok (.iconst 0, 1) := by decide +kernel
theorem dX5_copyOf_92 : decode cX5_copyOf 92 = .ok (.bipush 6, 2) := by decide +kernel
theorem dX5_copyOf_94 : decode cX5_copyOf 94 = .ok (.invokestatic 51, 3) := by decide +kernel
theorem dX5_copyOf_97 : decode cX5_copyOf 97 = .ok (.return_, 1) := by decide +kernel
theorem dX5_orderByNumbers_0 : decode cX5_orderByNumbers 0 = .ok (.iconst 0, 1) := by decide +kernel
theorem dX5_orderByNumbers_1 : decode cX5_orderByNumbers 1 = .ok (.istore_n 2, 1) := by decide +kernel
theorem dX5_orderByNumbers_2 : decode cX5_orderByNumbers 2 = .ok (.iconst 0, 1) := by decide +kernel
theorem dX5_orderByNumbers_3 : decode cX5_orderByNumbers 3 = .ok (.istore_n 3, 1) := by decide +kernel
theorem dX5_orderByNumbers_4 : decode cX5_orderByNumbers 4 = .ok (.iload_n 3, 1) := by decide +kernel
theorem dX5_orderByNumbers_5 : decode cX5_orderByNumbers 5 = .ok (.iconst 5, 1) := by decide +kernel
theorem dX5_orderByNumbers_6 : decode cX5_orderByNumbers 6 = .ok (.if_icmp .ge 46, 3) := by decide +kernel
theorem dX5_orderByNumbers_9 : decode cX5_orderByNumbers 9 = .ok (.iconst 0, 1) := by decide +kernel
theorem dX5_orderByNumbers_10 : decode cX5_orderByNumbers 10 = .ok (.istore 4, 2) := by decide +kernel
theorem dX5_orderByNumbers_12 : decode cX5_orderByNumbers 12 = .ok (.iload 4, 2) := by decide +kernel
theorem dX5_orderByNumbers_14 : decode cX5_orderByNumbers 14 = .ok (.aload_n 0, 1) := by decide +kernel
theorem dX5_orderByNumbers_15 : decode cX5_orderByNumbers 15 = .ok (.getfield 15, 3) := by decide +kernel
theorem dX5_orderByNumbers_18 : decode cX5_orderByNumbers 18 = .ok (.if_icmp .ge 28, 3) := by decide +kernel
theorem dX5_orderByNumbers_21 : decode cX5_orderByNumbers 21 = .ok (.aload_n 0, 1) := by decide +kernel
theorem dX5_orderByNumbers_22 : decode cX5_orderByNumbers 22 = .ok (.getfield 25, 3) := by decide +kernel
theorem dX5_orderByNumbers_25 : decode cX5_orderByNumbers 25 = .ok (.iload 4, 2) := by decide +kernel
theorem dX5_orderByNumbers_27 : decode cX5_orderByNumbers 27 = .ok (.iaload, 1) := by decide +kernel
theorem dX5_orderByNumbers_28 : decode cX5_orderByNumbers 28 = .ok (.iload_n 3, 1) := by decide +kernel
theorem dX5_orderByNumbers_29 : decode cX5_orderByNumbers 29 = .ok (.if_icmp .ne 11, 3) := by decide +kernel
theorem dX5_orderByNumbers_32 : decode cX5_orderByNumbers 32 = .ok (.aload_n 1, 1) := by decide +kernel
theorem dX5_orderByNumbers_33 : decode cX5_orderByNumbers 33 = .ok (.iload_n 2, 1) := by decide +kernel
theorem dX5_orderByNumbers_34 : decode cX5_orderByNumbers 34 = .ok (.iload 4, 2) := by decide +kernel
theorem dX5_orderByNumbers_36 : decode cX5_orderByNumbers 36 = .ok (.iastore, 1) := by decide +kernel
theorem dX5_orderByNumbers_37 : decode cX5_orderByNumbers 37 = .ok (.iinc 2 1, 3) := by decide +kernel
theorem dX5_orderByNumbers_40 : decode cX5_orderByNumbers 40 = .ok (.iinc 4 1, 3) := by decide +kernel
theorem dX5_orderByNumbers_43 : decode cX5_orderByNumbers 43 = .ok (.goto (-31), 3) := by decide +kernel
theorem dX5_orderByNumbers_46 : decode cX5_orderByNumbers 46 = .ok (.iinc 3 1, 3) := by decide +kernel
theorem dX5_orderByNumbers_49 : decode cX5_orderByNumbers 49 = .ok (.goto (-45), 3) := by decide +kernel
theorem dX5_orderByNumbers_52 : decode cX5_orderByNumbers 52 = .ok (.return_, 1) := by decide +kernel
theorem dX5_tasksOn_0 : decode cX5_tasksOn 0 = .ok (.aload_n 0, 1) := by decide +kernel
theorem dX5_tasksOn_1 : decode cX5_tasksOn 1 = .ok (.getfield 37, 3) := by decide +kernel
theorem dX5_tasksOn_4 : decode cX5_tasksOn 4 = .ok (.iload_n 1, 1) := by decide +kernel
theorem dX5_tasksOn_5 : decode cX5_tasksOn 5 = .ok (.iconst 1, 1) := by decide +kernel
theorem dX5_tasksOn_6 : decode cX5_tasksOn 6 = .ok (.iadd, 1) := by decide +kernel
theorem dX5_tasksOn_7 : decode cX5_tasksOn 7 = .ok (.iaload, 1) := by decide +kernel
theorem dX5_tasksOn_8 : decode cX5_tasksOn 8 = .ok (.aload_n 0, 1) := by decide +kernel
theorem dX5_tasksOn_9 : decode cX5_tasksOn 9 = .ok (.getfield 37, 3) := by decide +kernel
theorem dX5_tasksOn_12 : decode cX5_tasksOn 12 = .ok (.iload_n 1, 1) := by decide +kernel
theorem dX5_tasksOn_13 : decode cX5_tasksOn 13 = .ok (.iaload, 1) := by decide +kernel
theorem dX5_tasksOn_14 : decode cX5_tasksOn 14 = .ok (.isub, 1) := by decide +kernel
theorem dX5_tasksOn_15 : decode cX5_tasksOn 15 = .ok (.ireturn, 1) := by decide +kernel
theorem dX5_jobAhead_0 : decode cX5_jobAhead 0 = .ok (.aload_n 0, 1) := by decide +kernel
theorem dX5_jobAhead_1 : decode cX5_jobAhead 1 = .ok (.getfield 22, 3) := by decide +kernel
theorem dX5_jobAhead_4 : decode cX5_jobAhead 4 = .ok (.iload_n 1, 1) := by decide +kernel
theorem dX5_jobAhead_5 : decode cX5_jobAhead 5 = .ok (.iaload, 1) := by decide +kernel
theorem dX5_jobAhead_6 : decode cX5_jobAhead 6 = .ok (.ifCond .le 9, 3) := by decide +kernel
theorem dX5_jobAhead_9 : decode cX5_jobAhead 9 = .ok (.iload_n 1, 1) := by decide +kernel
theorem dX5_jobAhead_10 : decode cX5_jobAhead 10 = .ok (.iconst 1, 1) := by decide +kernel
theorem dX5_jobAhead_11 : decode cX5_jobAhead 11 = .ok (.isub, 1) := by decide +kernel
theorem dX5_jobAhead_12 : decode cX5_jobAhead 12 = .ok (.goto 4, 3) := by decide +kernel
theorem dX5_jobAhead_15 : decode cX5_jobAhead 15 = .ok (.iconst (-1), 1) := by decide +kernel
theorem dX5_jobAhead_16 : decode cX5_jobAhead 16 = .ok (.ireturn, 1) := by decide +kernel
theorem dX5_jobNext_0 : decode cX5_jobNext 0 = .ok (.iload_n 1, 1) := by decide +kernel
theorem dX5_jobNext_1 : decode cX5_jobNext 1 = .ok (.iconst 1, 1) := by decide +kernel
theorem dX5_jobNext_2 : decode cX5_jobNext 2 = .ok (.iadd, 1) := by decide +kernel
theorem dX5_jobNext_3 : decode cX5_jobNext 3 = .ok (.aload_n 0, 1) := by decide +kernel
theorem dX5_jobNext_4 : decode cX5_jobNext 4 = .ok (.getfield 15, 3) := by decide +kernel
theorem dX5_jobNext_7 : decode cX5_jobNext 7 = .ok (.if_icmp .ge 26, 3) := by decide +kernel
theorem dX5_jobNext_10 : decode cX5_jobNext 10 = .ok (.aload_n 0, 1) := by decide +kernel
theorem dX5_jobNext_11 : decode cX5_jobNext 11 = .ok (.getfield 18, 3) := by decide +kernel
theorem dX5_jobNext_14 : decode cX5_jobNext 14 = .ok (.iload_n 1, 1) := by decide +kernel
theorem dX5_jobNext_15 : decode cX5_jobNext 15 = .ok (.iconst 1, 1) := by decide +kernel
theorem dX5_jobNext_16 : decode cX5_jobNext 16 = .ok (.iadd, 1) := by decide +kernel
theorem dX5_jobNext_17 : decode cX5_jobNext 17 = .ok (.iaload, 1) := by decide +kernel
theorem dX5_jobNext_18 : decode cX5_jobNext 18 = .ok (.aload_n 0, 1) := by decide +kernel
theorem dX5_jobNext_19 : decode cX5_jobNext 19 = .ok (.getfield 18, 3) := by decide +kernel
theorem dX5_jobNext_22 : decode cX5_jobNext 22 = .ok (.iload_n 1, 1) := by decide +kernel
theorem dX5_jobNext_23 : decode cX5_jobNext 23 = .ok (.iaload, 1) := by decide +kernel
theorem dX5_jobNext_24 : decode cX5_jobNext 24 = .ok (.if_icmp .ne 9, 3) := by decide +kernel
theorem dX5_jobNext_27 : decode cX5_jobNext 27 = .ok (.iload_n 1, 1) := by decide +kernel
theorem dX5_jobNext_28 : decode cX5_jobNext 28 = .ok (.iconst 1, 1) := by decide +kernel
theorem dX5_jobNext_29 : decode cX5_jobNext 29 = .ok (.iadd, 1) := by decide +kernel
theorem dX5_jobNext_30 : decode cX5_jobNext 30 = .ok (.goto 4, 3) := by decide +kernel
theorem dX5_jobNext_33 : decode cX5_jobNext 33 = .ok (.iconst (-1), 1) := by decide +kernel
theorem dX5_jobNext_34 : decode cX5_jobNext 34 = .ok (.ireturn, 1) := by decide +kernel
theorem dX5_longestJob_0 : decode cX5_longestJob 0 = .ok (.iconst 0, 1) := by decide +kernel
theorem dX5_longestJob_1 : decode cX5_longestJob 1 = .ok (.istore_n 1, 1) := by decide +kernel
theorem dX5_longestJob_2 : decode cX5_longestJob 2 = .ok (.iconst 0, 1) := by decide +kernel
theorem dX5_longestJob_3 : decode cX5_longestJob 3 = .ok (.istore_n 2, 1) := by decide +kernel
theorem dX5_longestJob_4 : decode cX5_longestJob 4 = .ok (.iload_n 2, 1) := by decide +kernel
theorem dX5_longestJob_5 : decode cX5_longestJob 5 = .ok (.aload_n 0, 1) := by decide +kernel
theorem dX5_longestJob_6 : decode cX5_longestJob 6 = .ok (.getfield 15, 3) := by decide +kernel
theorem dX5_longestJob_9 : decode cX5_longestJob 9 = .ok (.if_icmp .ge 27, 3) := by decide +kernel
theorem dX5_longestJob_12 : decode cX5_longestJob 12 = .ok (.iload_n 1, 1) := by decide +kernel
theorem dX5_longestJob_13 : decode cX5_longestJob 13 = .ok (.aload_n 0, 1) := by decide +kernel
theorem dX5_longestJob_14 : decode cX5_longestJob 14 = .ok (.getfield 31, 3) := by decide +kernel
theorem dX5_longestJob_17 : decode cX5_longestJob 17 = .ok (.iload_n 2, 1) := by decide +kernel
theorem dX5_longestJob_18 : decode cX5_longestJob 18 = .ok (.iaload, 1) := by decide +kernel
theorem dX5_longestJob_19 : decode cX5_longestJob 19 = .ok (.aload_n 0, 1) := by decide +kernel
theorem dX5_longestJob_20 : decode cX5_longestJob 20 = .ok (.getfield 28, 3) := by decide +kernel
theorem dX5_longestJob_23 : decode cX5_longestJob 23 = .ok (.iload_n 2, 1) := by decide +kernel
theorem dX5_longestJob_24 : decode cX5_longestJob 24 = .ok (.iaload, 1) := by decide +kernel
theorem dX5_longestJob_25 : decode cX5_longestJob 25 = .ok (.iadd, 1) := by decide +kernel
theorem dX5_longestJob_26 : decode cX5_longestJob 26 = .ok (.invokestatic 57, 3) := by decide +kernel
theorem dX5_longestJob_29 : decode cX5_longestJob 29 = .ok (.istore_n 1, 1) := by decide +kernel
theorem dX5_longestJob_30 : decode cX5_longestJob 30 = .ok (.iinc 2 1, 3) := by decide +kernel
theorem dX5_longestJob_33 : decode cX5_longestJob 33 = .ok (.goto (-29), 3) := by decide +kernel
theorem dX5_longestJob_36 : decode cX5_longestJob 36 = .ok (.iload_n 1, 1) := by decide +kernel
theorem dX5_longestJob_37 : decode cX5_longestJob 37 = .ok (.ireturn, 1) := by decide +kernel
theorem dX6_init_0 : decode cX6_init 0 = .ok (.aload_n 0, 1) := by decide +kernel
theorem dX6_init_1 : decode cX6_init 1 = .ok (.invokespecial 3, 3) := by decide +kernel
theorem dX6_init_4 : decode cX6_init 4 = .ok (.aload_n 0, 1) := by decide +kernel
theorem dX6_init_5 : decode cX6_init 5 = .ok (.bipush 24, 2) := by decide +kernel
theorem dX6_init_7 : decode cX6_init 7 = .ok (.newarray .int, 2) := by decide +kernel
theorem dX6_init_9 : decode cX6_init 9 = .ok (.putfield 9, 3) := by decide +kernel
theorem dX6_init_12 : decode cX6_init 12 = .ok (.aload_n 0, 1) := by decide +kernel
theorem dX6_init_13 : decode cX6_init 13 = .ok (.iconst 0, 1) := by decide +kernel
theorem dX6_init_14 : decode cX6_init 14 = .ok (.putfield 15, 3) := by decide +kernel
theorem dX6_init_17 : decode cX6_init 17 = .ok (.aload_n 0, 1) := by decide +kernel
theorem dX6_init_18 : decode cX6_init 18 = .ok (.bipush 25, 2) := by decide +kernel
theorem dX6_init_20 : decode cX6_init 20 = .ok (.newarray .int, 2) := by decide +kernel
theorem dX6_init_22 : decode cX6_init 22 = .ok (.putfield 19, 3) := by decide +kernel
theorem dX6_init_25 : decode cX6_init 25 = .ok (.aload_n 0, 1) := by decide +kernel
theorem dX6_init_26 : decode cX6_init 26 = .ok (.iconst 0, 1) := by decide +kernel
theorem dX6_init_27 : decode cX6_init 27 = .ok (.putfield 22, 3) := by decide +kernel
theorem dX6_init_30 : decode cX6_init 30 = .ok (.aload_n 0, 1) := by decide +kernel
theorem dX6_init_31 : decode cX6_init 31 = .ok (.bipush 24, 2) := by decide +kernel
theorem dX6_init_33 : decode cX6_init 33 = .ok (.newarray .int, 2) := by decide +kernel
theorem dX6_init_35 : decode cX6_init 35 = .ok (.putfield 25, 3) := by decide +kernel
theorem dX6_init_38 : decode cX6_init 38 = .ok (.aload_n 0, 1) := by decide +kernel
theorem dX6_init_39 : decode cX6_init 39 = .ok (.iconst 0, 1) := by decide +kernel
theorem dX6_init_40 : decode cX6_init 40 = .ok (.putfield 28, 3) := by decide +kernel
theorem dX6_init_43 : decode cX6_init 43 = .ok (.return_, 1) := by decide +kernel
theorem dX6_find_0 : decode cX6_find 0 = .ok (.aload_n 0, 1) := by decide +kernel
theorem dX6_find_1 : decode cX6_find 1 = .ok (.aload_n 1, 1) := by decide +kernel
theorem dX6_find_2 : decode cX6_find 2 = .ok (.aload_n 2, 1) := by decide +kernel
theorem dX6_find_3 : decode cX6_find 3 = .ok (.invokevirtual 31, 3) := by decide +kernel
theorem dX6_find_6 : decode cX6_find 6 = .ok (.aload_n 0, 1) := by decide +kernel
theorem dX6_find_7 : decode cX6_find 7 = .ok (.aload_n 1, 1) := by decide +kernel
theorem dX6_find_8 : decode cX6_find 8 = .ok (.invokevirtual 35, 3) := by decide +kernel
theorem dX6_find_11 : decode cX6_find 11 = .ok (.aload_n 0, 1) := by decide +kernel
theorem dX6_find_12 : decode cX6_find 12 = .ok (.aload_n 1, 1) := by decide +kernel
theorem dX6_find_13 : decode cX6_find 13 = .ok (.invokevirtual 39, 3) := by decide +kernel
theorem dX6_find_16 : decode cX6_find 16 = .ok (.return_, 1) := by decide +kernel
theorem dX6_first_0 : decode cX6_first 0 = .ok (.aload_n 0, 1) := by decide +kernel
theorem dX6_first_1 : decode cX6_first 1 = .ok (.getfield 9, 3) := by decide +kernel
theorem dX6_first_4 : decode cX6_first 4 = .ok (.aload_n 0, 1) := by decide +kernel
theorem dX6_first_5 : decode cX6_first 5 = .ok (.getfield 25, 3) := by decide +kernel
theorem dX6_first_8 : decode cX6_first 8 = .ok (.iload_n 1, 1) := by decide +kernel
theorem dX6_first_9 : decode cX6_first 9 = .ok (.iaload, 1) := by decide +kernel
theorem dX6_first_10 : decode cX6_first 10 = .ok (.iaload, 1) := by decide +kernel
theorem dX6_first_11 : decode cX6_first 11 = .ok (.ireturn, 1) := by decide +kernel
theorem dX6_second_0 : decode cX6_second 0 = .ok (.aload_n 0, 1) := by decide +kernel
theorem dX6_second_1 : decode cX6_second 1 = .ok (.getfield 9, 3) := by decide +kernel
theorem dX6_second_4 : decode cX6_second 4 = .ok (.aload_n 0, 1) := by decide +kernel
theorem dX6_second_5 : decode cX6_second 5 = .ok (.getfield 25, 3) := by decide +kernel
theorem dX6_second_8 : decode cX6_second 8 = .ok (.iload_n 1, 1) := by decide +kernel
theorem dX6_second_9 : decode cX6_second 9 = .ok (.iaload, 1) := by decide +kernel
theorem dX6_second_10 : decode cX6_second 10 = .ok (.iconst 1, 1) := by decide +kernel
theorem dX6_second_11 : decode cX6_second 11 = .ok (.iadd, 1) := by decide +kernel
theorem dX6_second_12 : decode cX6_second 12 = .ok (.iaload, 1) := by decide +kernel
theorem dX6_second_13 : decode cX6_second 13 = .ok (.ireturn, 1) := by decide +kernel
theorem dX6_walk_0 : decode cX6_walk 0 = .ok (.aload_n 0, 1) := by decide +kernel
theorem dX6_walk_1 : decode cX6_walk 1 = .ok (.iconst 0, 1) := by decide +kernel
theorem dX6_walk_2 : decode cX6_walk 2 = .ok (.putfield 15, 3) := by decide +kernel
theorem dX6_walk_5 : decode cX6_walk 5 = .ok (.aload_n 1, 1) := by decide +kernel
theorem dX6_walk_6 : decode cX6_walk 6 = .ok (.aload_n 2, 1) := by decide +kernel
theorem dX6_walk_7 : decode cX6_walk 7 = .ok (.invokestatic 42, 3) := by decide +kernel
theorem dX6_walk_10 : decode cX6_walk 10 = .ok (.istore_n 3, 1) := by decide +kernel
theorem dX6_walk_11 : decode cX6_walk 11 = .ok (.iload_n 3, 1) := by decide +kernel
theorem dX6_walk_12 : decode cX6_walk 12 = .ok (.iconst (-1), 1) := by decide +kernel
theorem dX6_walk_13 : decode cX6_walk 13 = .ok (.if_icmp .eq 107, 3) := by decide +kernel
theorem dX6_walk_16 : decode cX6_walk 16 = .ok (.aload_n 0, 1) := by decide +kernel
theorem dX6_walk_17 : decode cX6_walk 17 = .ok (.getfield 15, 3) := by decide +kernel
theorem dX6_walk_20 : decode cX6_walk 20 = .ok (.bipush 24, 2) := by decide +kernel
theorem dX6_walk_22 : decode cX6_walk 22 = .ok (.if_icmp .ge 98, 3) := by decide +kernel
theorem dX6_walk_25 : decode cX6_walk 25 = .ok (.aload_n 0, 1) := by decide +kernel
theorem dX6_walk_26 : decode cX6_walk 26 = .ok (.getfield 9, 3) := by decide +kernel
theorem dX6_walk_29 : decode cX6_walk 29 = .ok (.aload_n 0, 1) := by decide +kernel
theorem dX6_walk_30 : decode cX6_walk 30 = .ok (.getfield 15, 3) := by decide +kernel
theorem dX6_walk_33 : decode cX6_walk 33 = .ok (.iload_n 3, 1) := by decide +kernel
theorem dX6_walk_34 : decode cX6_walk 34 = .ok (.iastore, 1) := by decide +kernel
theorem dX6_walk_35 : decode cX6_walk 35 = .ok (.aload_n 0, 1) := by decide +kernel
theorem dX6_walk_36 : decode cX6_walk 36 = .ok (.dup, 1) := by decide +kernel
theorem dX6_walk_37 : decode cX6_walk 37 = .ok (.getfield 15, 3) := by decide +kernel
theorem dX6_walk_40 : decode cX6_walk 40 = .ok (.iconst 1, 1) := by decide +kernel
theorem dX6_walk_41 : decode cX6_walk 41 = .ok (.iadd, 1) := by decide +kernel
theorem dX6_walk_42 : decode cX6_walk 42 = .ok (.putfield 15, 3) := by decide +kernel
theorem dX6_walk_45 : decode cX6_walk 45 = .ok (.aload_n 2, 1) := by decide +kernel
theorem dX6_walk_46 : decode cX6_walk 46 = .ok (.getfield 46, 3) := by decide +kernel
theorem dX6_walk_49 : decode cX6_walk 49 = .ok (.iload_n 3, 1) := by decide +kernel
theorem dX6_walk_50 : decode cX6_walk 50 = .ok (.iaload, 1) := by decide +kernel
theorem dX6_walk_51 : decode cX6_walk 51 = .ok (.aload_n 1, 1) := by decide +kernel
theorem dX6_walk_52 : decode cX6_walk 52 = .ok (.getfield 51, 3) := by decide +kernel
theorem dX6_walk_55 : decode cX6_walk 55 = .ok (.iload_n 3, 1) := by decide +kernel
theorem dX6_walk_56 : decode cX6_walk 56 = .ok (.iaload, 1) := by decide +kernel
theorem dX6_walk_57 : decode cX6_walk 57 = .ok (.iadd, 1) := by decide +kernel
theorem dX6_walk_58 : decode cX6_walk 58 = .ok (.istore 4, 2) := by decide +kernel
theorem dX6_walk_60 : decode cX6_walk 60 = .ok (.aload_n 2, 1) := by decide +kernel
theorem dX6_walk_61 : decode cX6_walk 61 = .ok (.aload_n 1, 1) := by decide +kernel
theorem dX6_walk_62 : decode cX6_walk 62 = .ok (.iload_n 3, 1) := by decide +kernel
theorem dX6_walk_63 : decode cX6_walk 63 = .ok (.invokevirtual 56, 3) := by decide +kernel
theorem dX6_walk_66 : decode cX6_walk 66 = .ok (.iload 4, 2) := by decide +kernel
theorem dX6_walk_68 : decode cX6_walk 68 = .ok (.invokestatic 60, 3) := by decide +kernel
theorem dX6_walk_71 : decode cX6_walk 71 = .ok (.istore 5, 2) := by decide +kernel
theorem dX6_walk_73 : decode cX6_walk 73 = .ok (.aload_n 2, 1) := by decide +kernel
theorem dX6_walk_74 : decode cX6_walk 74 = .ok (.aload_n 2, 1) := by decide +kernel
theorem dX6_walk_75 : decode cX6_walk 75 = .ok (.getfield 64, 3) := by decide +kernel
theorem dX6_walk_78 : decode cX6_walk 78 = .ok (.iload_n 3, 1) := by decide +kernel
theorem dX6_walk_79 : decode cX6_walk 79 = .ok (.iaload, 1) := by decide +kernel
theorem dX6_walk_80 : decode cX6_walk 80 = .ok (.iload 4, 2) := by decide +kernel
theorem dX6_walk_82 : decode cX6_walk 82 = .ok (.invokestatic 60, 3) := by decide +kernel
theorem dX6_walk_85 : decode cX6_walk 85 = .ok (.istore 6, 2) := by decide +kernel
theorem dX6_walk_87 : decode cX6_walk 87 = .ok (.iload 5, 2) := by decide +kernel
theorem dX6_walk_89 : decode cX6_walk 89 = .ok (.iconst (-1), 1) := by decide +kernel
theorem dX6_walk_90 : decode cX6_walk 90 = .ok (.if_icmp .eq 9, 3) := by decide +kernel
theorem dX6_walk_93 : decode cX6_walk 93 = .ok (.iload 6, 2) := by decide +kernel
theorem dX6_walk_95 : decode cX6_walk 95 = .ok (.iconst (-1), 1) := by decide +kernel
theorem dX6_walk_96 : decode cX6_walk 96 = .ok (.if_icmp .ne 13, 3) := by decide +kernel
theorem dX6_walk_99 : decode cX6_walk 99 = .ok (.iload 5, 2) := by decide +kernel
theorem dX6_walk_101 : decode cX6_walk 101 = .ok (.iload 6, 2) := by decide +kernel
theorem dX6_walk_103 : decode cX6_walk 103 = .ok (.invokestatic 67, 3) := by decide +kernel
theorem dX6_walk_106 : decode cX6_walk 106 = .ok (.goto 10, 3) := by decide +kernel
theorem dX6_walk_109 : decode cX6_walk 109 = .ok (.iload 5, 2) := by decide +kernel
theorem dX6_walk_111 : decode cX6_walk 111 = .ok (.iload 6, 2) := by decide +kernel
theorem dX6_walk_113 : decode cX6_walk 113 = .ok (.invokestatic 73, 3) := by decide +kernel
theorem dX6_walk_116 : decode cX6_walk 116 = .ok (.istore_n 3, 1) := by decide +kernel
theorem dX6_walk_117 : decode cX6_walk 117 = .ok (.goto (-106), 3) := by decide +kernel
theorem dX6_walk_120 : decode cX6_walk 120 = .ok (.return_, 1) := by decide +kernel
theorem dX6_beginning_0 : decode cX6_beginning 0 = .ok (.iconst 0, 1) := by decide +kernel
theorem dX6_beginning_1 : decode cX6_beginning 1 = .ok (.istore_n 2, 1) := by decide +kernel
theorem dX6_beginning_2 : decode cX6_beginning 2 = .ok (.iload_n 2, 1) := by decide +kernel
theorem dX6_beginning_3 : decode cX6_beginning 3 = .ok (.aload_n 0, 1) := by decide +kernel
theorem dX6_beginning_4 : decode cX6_beginning 4 = .ok (.getfield 76, 3) := by decide +kernel
theorem dX6_beginning_7 : decode cX6_beginning 7 = .ok (.if_icmp .ge 29, 3) := by decide +kernel
theorem dX6_beginning_10 : decode cX6_beginning 10 = .ok (.aload_n 1, 1) := by decide +kernel
theorem dX6_beginning_11 : decode cX6_beginning 11 = .ok (.getfield 46, 3) := by decide +kernel
theorem dX6_beginning_14 : decode cX6_beginning 14 = .ok (.iload_n 2, 1) := by decide +kernel
theorem dX6_beginning_15 : decode cX6_beginning 15 = .ok (.iaload, 1) := by decide +kernel
theorem dX6_beginning_16 : decode cX6_beginning 16 = .ok (.ifCond .ne 14, 3) := by decide +kernel
theorem dX6_beginning_19 : decode cX6_beginning 19 = .ok (.aload_n 1, 1) := by decide +kernel
theorem dX6_beginning_20 : decode cX6_beginning 20 = .ok (.getfield 78, 3) := by decide +kernel
theorem dX6_beginning_23 : decode cX6_beginning 23 = .ok (.iload_n 2, 1) := by decide +kernel
theorem dX6_beginning_24 : decode cX6_beginning 24 = .ok (.iaload, 1) := by decide +kernel
theorem dX6_beginning_25 : decode cX6_beginning 25 = .ok (.ifCond .ne 5, 3) := by decide +kernel
theorem dX6_beginning_28 : decode cX6_beginning 28 = .ok (.iload_n 2, 1) := by decide +kernel
theorem dX6_beginning_29 : decode cX6_beginning 29 = .ok (.ireturn, 1) := by decide +kernel
theorem dX6_beginning_30 : decode cX6_beginning 30 = .ok (.iinc 2 1, 3) := by decide +kernel
theorem dX6_beginning_33 : decode cX6_beginning 33 = .ok (.goto (-31), 3) := by decide +kernel
theorem dX6_beginning_36 : decode cX6_beginning 36 = .ok (.iconst (-1), 1) := by decide +kernel
theorem dX6_beginning_37 : decode cX6_beginning 37 = .ok (.ireturn, 1) := by decide +kernel
theorem dX6_goesOn_0 : decode cX6_goesOn 0 = .ok (.iload_n 1, 1) := by decide +kernel
theorem dX6_goesOn_1 : decode cX6_goesOn 1 = .ok (.iconst (-1), 1) := by decide +kernel
theorem dX6_goesOn_2 : decode cX6_goesOn 2 = .ok (.if_icmp .eq 22, 3) := by decide +kernel
theorem dX6_goesOn_5 : decode cX6_goesOn 5 = .ok (.aload_n 0, 1) := by decide +kernel
theorem dX6_goesOn_6 : decode cX6_goesOn 6 = .ok (.getfield 46, 3) := by decide +kernel
theorem dX6_goesOn_9 : decode cX6_goesOn 9 = .ok (.iload_n 1, 1) := by decide +kernel
theorem dX6_goesOn_10 : decode cX6_goesOn 10 = .ok (.iaload, 1) := by decide +kernel
theorem dX6_goesOn_11 : decode cX6_goesOn 11 = .ok (.iload_n 2, 1) := by decide +kernel
theorem dX6_goesOn_12 : decode cX6_goesOn 12 = .ok (.if_icmp .ne 12, 3) := by decide +kernel
theorem dX6_goesOn_15 : decode cX6_goesOn 15 = .ok (.aload_n 0, 1) := by decide +kernel
theorem dX6_goesOn_16 : decode cX6_goesOn 16 = .ok (.getfield 78, 3) := by decide +kernel
theorem dX6_goesOn_19 : decode cX6_goesOn 19 = .ok (.iload_n 1, 1) := by decide +kernel
theorem dX6_goesOn_20 : decode cX6_goesOn 20 = .ok (.iaload, 1) := by decide +kernel
theorem dX6_goesOn_21 : decode cX6_goesOn 21 = .ok (.ifCond .eq 5, 3) := by decide +kernel
theorem dX6_goesOn_24 : decode cX6_goesOn 24 = .ok (.iconst (-1), 1) := by decide +kernel
theorem dX6_goesOn_25 : decode cX6_goesOn 25 = .ok (.ireturn, 1) := by decide +kernel
theorem dX6_goesOn_26 : decode cX6_goesOn 26 = .ok (.iload_n 1, 1) := by decide +kernel
theorem dX6_goesOn_27 : decode cX6_goesOn 27 = .ok (.ireturn, 1) := by decide +kernel
theorem dX6_cutBlocks_0 : decode cX6_cutBlocks 0 = .ok (.aload_n 0, 1) := by decide +kernel
theorem dX6_cutBlocks_1 : decode cX6_cutBlocks 1 = .ok (.iconst 0, 1) := by decide +kernel
theorem dX6_cutBlocks_2 : decode cX6_cutBlocks 2 = .ok (.putfield 22, 3) := by decide +kernel
theorem dX6_cutBlocks_5 : decode cX6_cutBlocks 5 = .ok (.iconst 0, 1) := by decide +kernel
theorem dX6_cutBlocks_6 : decode cX6_cutBlocks 6 = .ok (.istore_n 2, 1) := by decide +kernel
theorem dX6_cutBlocks_7 : decode cX6_cutBlocks 7 = .ok (.iload_n 2, 1) := by decide +kernel
theorem dX6_cutBlocks_8 : decode cX6_cutBlocks 8 = .ok (.aload_n 0, 1) := by decide +kernel
theorem dX6_cutBlocks_9 : decode cX6_cutBlocks 9 = .ok (.getfield 15, 3) := by decide +kernel
theorem dX6_cutBlocks_12 : decode cX6_cutBlocks 12 = .ok (.if_icmp .ge 60, 3) := by decide +kernel
theorem dX6_cutBlocks_15 : decode cX6_cutBlocks 15 = .ok (.iload_n 2, 1) := by decide +kernel
theorem dX6_cutBlocks_16 : decode cX6_cutBlocks 16 = .ok (.ifCond .eq 30, 3) := by decide +kernel
theorem dX6_cutBlocks_19 : decode cX6_cutBlocks 19 = .ok (.aload_n 1, 1) := by decide +kernel
theorem dX6_cutBlocks_20 : decode cX6_cutBlocks 20 = .ok (.getfield 81, 3) := by decide +kernel
theorem dX6_cutBlocks_23 : decode cX6_cutBlocks 23 = .ok (.aload_n 0, 1) := by decide +kernel
theorem dX6_cutBlocks_24 : decode cX6_cutBlocks 24 = .ok (.getfield 9, 3) := by decide +kernel
theorem dX6_cutBlocks_27 : decode cX6_cutBlocks 27 = .ok (.iload_n 2, 1) := by decide +kernel
theorem dX6_cutBlocks_28 : decode cX6_cutBlocks 28 = .ok (.iaload, 1) := by decide +kernel
theorem dX6_cutBlocks_29 : decode cX6_cutBlocks 29 = .ok (.iaload, 1) := by decide +kernel
theorem dX6_cutBlocks_30 : decode cX6_cutBlocks 30 = .ok (.aload_n 1, 1) := by decide +kernel
theorem dX6_cutBlocks_31 : decode cX6_cutBlocks 31 = .ok (.getfield 81, 3) := by decide +kernel
theorem dX6_cutBlocks_34 : decode cX6_cutBlocks 34 = .ok (.aload_n 0, 1) := by decide +kernel
theorem dX6_cutBlocks_35 : decode cX6_cutBlocks 35 = .ok (.getfield 9, 3) := by decide +kernel
theorem dX6_cutBlocks_38 : decode cX6_cutBlocks 38 = .ok (.iload_n 2, 1) := by decide +kernel
theorem dX6_cutBlocks_39 : decode cX6_cutBlocks 39 = .ok (.iconst 1, 1) := by decide +kernel
theorem dX6_cutBlocks_40 : decode cX6_cutBlocks 40 = .ok (.isub, 1) := by decide +kernel
theorem dX6_cutBlocks_41 : decode cX6_cutBlocks 41 = .ok (.iaload, 1) := by decide +kernel
theorem dX6_cutBlocks_42 : decode cX6_cutBlocks 42 = .ok (.iaload, 1) := by decide +kernel
theorem dX6_cutBlocks_43 : decode cX6_cutBlocks 43 = .ok (.if_icmp .eq 23, 3) := by decide +kernel
theorem dX6_cutBlocks_46 : decode cX6_cutBlocks 46 = .ok (.aload_n 0, 1) := by decide +kernel
theorem dX6_cutBlocks_47 : decode cX6_cutBlocks 47 = .ok (.getfield 19, 3) := by decide +kernel
theorem dX6_cutBlocks_50 : decode cX6_cutBlocks 50 = .ok (.aload_n 0, 1) := by decide +kernel
theorem dX6_cutBlocks_51 : decode cX6_cutBlocks 51 = .ok (.getfield 22, 3) := by decide +kernel
theorem dX6_cutBlocks_54 : decode cX6_cutBlocks 54 = .ok (.iload_n 2, 1) := by decide +kernel
theorem dX6_cutBlocks_55 : decode cX6_cutBlocks 55 = .ok (.iastore, 1) := by decide +kernel
theorem dX6_cutBlocks_56 : decode cX6_cutBlocks 56 = .ok (.aload_n 0, 1) := by decide +kernel
theorem dX6_cutBlocks_57 : decode cX6_cutBlocks 57 = .ok (.dup, 1) := by decide +kernel
theorem dX6_cutBlocks_58 : decode cX6_cutBlocks 58 = .ok (.getfield 22, 3) := by decide +kernel
theorem dX6_cutBlocks_61 : decode cX6_cutBlocks 61 = .ok (.iconst 1, 1) := by decide +kernel
theorem dX6_cutBlocks_62 : decode cX6_cutBlocks 62 = .ok (.iadd, 1) := by decide +kernel
theorem dX6_cutBlocks_63 : decode cX6_cutBlocks 63 = .ok (.putfield 22, 3) := by decide +kernel
theorem dX6_cutBlocks_66 : decode cX6_cutBlocks 66 = .ok (.iinc 2 1, 3) := by decide +kernel
theorem dX6_cutBlocks_69 : decode cX6_cutBlocks 69 = .ok (.goto (-62), 3) := by decide +kernel
theorem dX6_cutBlocks_72 : decode cX6_cutBlocks 72 = .ok (.aload_n 0, 1) := by decide +kernel
theorem dX6_cutBlocks_73 : decode cX6_cutBlocks 73 = .ok (.getfield 19, 3) := by decide +kernel
theorem dX6_cutBlocks_76 : decode cX6_cutBlocks 76 = .ok (.aload_n 0, 1) := by decide +kernel
theorem dX6_cutBlocks_77 : decode cX6_cutBlocks 77 = .ok (.getfield 22, 3) := by decide +kernel
theorem dX6_cutBlocks_80 : decode cX6_cutBlocks 80 = .ok (.aload_n 0, 1) := by decide +kernel
theorem dX6_cutBlocks_81 : decode cX6_cutBlocks 81 = .ok (.getfield 15, 3) := by decide +kernel
theorem dX6_cutBlocks_84 : decode cX6_cutBlocks 84 = .ok (.iastore, 1) := by decide +kernel
theorem dX6_cutBlocks_85 : decode cX6_cutBlocks 85 = .ok (.return_, 1) := by decide +kernel
theorem dX6_findMoves_0 : decode cX6_findMoves 0 = .ok (.aload_n 0, 1) := by decide +kernel
theorem dX6_findMoves_1 : decode cX6_findMoves 1 = .ok (.iconst 0, 1) := by decide +kernel
theorem dX6_findMoves_2 : decode cX6_findMoves 2 = .ok (.putfield 28, 3) := by decide +kernel
theorem dX6_findMoves_5 : decode cX6_findMoves 5 = .ok (.aload_n 0, 1) := by decide +kernel
theorem dX6_findMoves_6 : decode cX6_findMoves 6 = .ok (.getfield 22, 3) := by decide +kernel
theorem dX6_findMoves_9 : decode cX6_findMoves 9 = .ok (.iconst 2, 1) := by decide +kernel
theorem dX6_findMoves_10 : decode cX6_findMoves 10 = .ok (.if_icmp .ge 4, 3) := by decide +kernel
theorem dX6_findMoves_13 : decode cX6_findMoves 13 = .ok (.return_, 1) := by decide +kernel
theorem dX6_findMoves_14 : decode cX6_findMoves 14 = .ok (.iconst 0, 1) := by decide +kernel
theorem dX6_findMoves_15 : decode cX6_findMoves 15 = .ok (.istore_n 2, 1) := by decide +kernel
theorem dX6_findMoves_16 : decode cX6_findMoves 16 = .ok (.iload_n 2, 1) := by decide +kernel
theorem dX6_findMoves_17 : decode cX6_findMoves 17 = .ok (.aload_n 0, 1) := by decide +kernel
theorem dX6_findMoves_18 : decode cX6_findMoves 18 = .ok (.getfield 22, 3) := by decide +kernel
theorem dX6_findMoves_21 : decode cX6_findMoves 21 = .ok (.if_icmp .ge 91, 3) := by decide +kernel
theorem dX6_findMoves_24 : decode cX6_findMoves 24 = .ok (.aload_n 0, 1) := by decide +kernel
theorem dX6_findMoves_25 : decode cX6_findMoves 25 = .ok (.getfield 19, 3) := by decide +kernel
theorem dX6_findMoves_28 : decode cX6_findMoves 28 = .ok (.iload_n 2, 1) := by decide +kernel
theorem dX6_findMoves_29 : decode cX6_findMoves 29 = .ok (.iaload, 1) := by decide +kernel
theorem dX6_findMoves_30 : decode cX6_findMoves 30 = .ok (.istore_n 3, 1) := by decide +kernel
theorem dX6_findMoves_31 : decode cX6_findMoves 31 = .ok (.aload_n 0, 1) := by decide +kernel
theorem dX6_findMoves_32 : decode cX6_findMoves 32 = .ok (.getfield 19, 3) := by decide +kernel
theorem dX6_findMoves_35 : decode cX6_findMoves 35 = .ok (.iload_n 2, 1) := by decide +kernel
theorem dX6_findMoves_36 : decode cX6_findMoves 36 = .ok (.iconst 1, 1) := by decide +kernel
theorem dX6_findMoves_37 : decode cX6_findMoves 37 = .ok (.iadd, 1) := by decide +kernel
theorem dX6_findMoves_38 : decode cX6_findMoves 38 = .ok (.iaload, 1) := by decide +kernel
theorem dX6_findMoves_39 : decode cX6_findMoves 39 = .ok (.istore 4, 2) := by decide +kernel
theorem dX6_findMoves_41 : decode cX6_findMoves 41 = .ok (.iload_n 2, 1) := by decide +kernel
theorem dX6_findMoves_42 : decode cX6_findMoves 42 = .ok (.ifCond .le 11, 3) := by decide +kernel
theorem dX6_findMoves_45 : decode cX6_findMoves 45 = .ok (.aload_n 0, 1) := by decide +kernel
theorem dX6_findMoves_46 : decode cX6_findMoves 46 = .ok (.aload_n 1, 1) := by decide +kernel
theorem dX6_findMoves_47 : decode cX6_findMoves 47 = .ok (.iload_n 3, 1) := by decide +kernel
theorem dX6_findMoves_48 : decode cX6_findMoves 48 = .ok (.iload 4, 2) := by decide +kernel
theorem dX6_findMoves_50 : decode cX6_findMoves 50 = .ok (.invokevirtual 84, 3) := by decide +kernel
theorem dX6_findMoves_53 : decode cX6_findMoves 53 = .ok (.iload_n 2, 1) := by decide +kernel
theorem dX6_findMoves_54 : decode cX6_findMoves 54 = .ok (.ifCond .le 15, 3) := by decide +kernel
theorem dX6_findMoves_57 : decode cX6_findMoves 57 = .ok (.iload 4, 2) := by decide +kernel
theorem dX6_findMoves_59 : decode cX6_findMoves 59 = .ok (.iload_n 3, 1) := by decide +kernel
theorem dX6_findMoves_60 : decode cX6_findMoves 60 = .ok (.isub, 1) := by decide +kernel
theorem dX6_findMoves_61 : decode cX6_findMoves 61 = .ok (.iconst 2, 1) := by decide +kernel
theorem dX6_findMoves_62 : decode cX6_findMoves 62 = .ok (.if_icmp .ne 7, 3) := by decide +kernel
theorem dX6_findMoves_65 : decode cX6_findMoves 65 = .ok (.iconst 1, 1) := by decide +kernel
theorem dX6_findMoves_66 : decode cX6_findMoves 66 = .ok (.goto 4, 3) := by decide +kernel
theorem dX6_findMoves_69 : decode cX6_findMoves 69 = .ok (.iconst 0, 1) := by decide +kernel
theorem dX6_findMoves_70 : decode cX6_findMoves 70 = .ok (.istore 5, 2) := by decide +kernel
theorem dX6_findMoves_72 : decode cX6_findMoves 72 = .ok (.iload_n 2, 1) := by decide +kernel
theorem dX6_findMoves_73 : decode cX6_findMoves 73 = .ok (.aload_n 0, 1) := by decide +kernel
theorem dX6_findMoves_74 : decode cX6_findMoves 74 = .ok (.getfield 22, 3) := by decide +kernel
theorem dX6_findMoves_77 : decode cX6_findMoves 77 = .ok (.iconst 1, 1) := by decide +kernel
theorem dX6_findMoves_78 : decode cX6_findMoves 78 = .ok (.isub, 1) := by decide +kernel
theorem dX6_findMoves_79 : decode cX6_findMoves 79 = .ok (.if_icmp .ge 27, 3) := by decide +kernel
theorem dX6_findMoves_82 : decode cX6_findMoves 82 = .ok (.iload 4, 2) := by decide +kernel
theorem dX6_findMoves_84 : decode cX6_findMoves 84 = .ok (.iconst 2, 1) := by decide +kernel
theorem dX6_findMoves_85 : decode cX6_findMoves 85 = .ok (.isub, 1) := by decide +kernel
theorem dX6_findMoves_86 : decode cX6_findMoves 86 = .ok (.iload_n 3, 1) := by decide +kernel
theorem dX6_findMoves_87 : decode cX6_findMoves 87 = .ok (.if_icmp .lt 19, 3) := by decide +kernel
theorem dX6_findMoves_90 : decode cX6_findMoves 90 = .ok (.iload 5, 2) := by decide +kernel
theorem dX6_findMoves_92 : decode cX6_findMoves 92 = .ok (.ifCond .ne 14, 3) := by decide +kernel
theorem dX6_findMoves_95 : decode cX6_findMoves 95 = .ok (.aload_n 0, 1) := by decide +kernel
theorem dX6_findMoves_96 : decode cX6_findMoves 96 = .ok (.aload_n 1, 1) := by decide +kernel
theorem dX6_findMoves_97 : decode cX6_findMoves 97 = .ok (.iload 4, 2) := by decide +kernel
theorem dX6_findMoves_99 : decode cX6_findMoves 99 = .ok (.iconst 2, 1) := by decide +kernel
theorem dX6_findMoves_100 : decode cX6_findMoves 100 = .ok (.isub, 1) := by decide +kernel
theorem dX6_findMoves_101 : decode cX6_findMoves 101 = .ok (.iload 4, 2) := by decide +kernel
theorem dX6_findMoves_103 : decode cX6_findMoves 103 = .ok (.invokevirtual 84, 3) := by decide +kernel
theorem dX6_findMoves_106 : decode cX6_findMoves 106 = .ok (.iinc 2 1, 3) := by decide +kernel
theorem dX6_findMoves_109 : decode cX6_findMoves 109 = .ok (.goto (-93), 3) := by decide +kernel
theorem dX6_findMoves_112 : decode cX6_findMoves 112 = .ok (.return_, 1) := by decide +kernel
theorem dX6_addMove_0 : decode cX6_addMove 0 = .ok (.iload_n 2, 1) := by decide +kernel
theorem dX6_addMove_1 : decode cX6_addMove 1 = .ok (.iconst 1, 1) := by decide +kernel
theorem dX6_addMove_2 : decode cX6_addMove 2 = .ok (.iadd, 1) := by decide +kernel
theorem dX6_addMove_3 : decode cX6_addMove 3 = .ok (.iload_n 3, 1) := by decide +kernel
theorem dX6_addMove_4 : decode cX6_addMove 4 = .ok (.if_icmp .ge 50, 3) := by decide +kernel
theorem dX6_addMove_7 : decode cX6_addMove 7 = .ok (.aload_n 1, 1) := by decide +kernel
theorem dX6_addMove_8 : decode cX6_addMove 8 = .ok (.getfield 88, 3) := by decide +kernel
theorem dX6_addMove_11 : decode cX6_addMove 11 = .ok (.aload_n 0, 1) := by decide +kernel
theorem dX6_addMove_12 : decode cX6_addMove 12 = .ok (.getfield 9, 3) := by decide +kernel
theorem dX6_addMove_15 : decode cX6_addMove 15 = .ok (.iload_n 2, 1) := by decide +kernel
theorem dX6_addMove_16 : decode cX6_addMove 16 = .ok (.iaload, 1) := by decide +kernel
theorem dX6_addMove_17 : decode cX6_addMove 17 = .ok (.iaload, 1) := by decide +kernel
theorem dX6_addMove_18 : decode cX6_addMove 18 = .ok (.aload_n 1, 1) := by decide +kernel
theorem dX6_addMove_19 : decode cX6_addMove 19 = .ok (.getfield 88, 3) := by decide +kernel
theorem dX6_addMove_22 : decode cX6_addMove 22 = .ok (.aload_n 0, 1) := by decide +kernel
theorem dX6_addMove_23 : decode cX6_addMove 23 = .ok (.getfield 9, 3) := by decide +kernel
theorem dX6_addMove_26 : decode cX6_addMove 26 = .ok (.iload_n 2, 1) := by decide +kernel
theorem dX6_addMove_27 : decode cX6_addMove 27 = .ok (.iconst 1, 1) := by decide +kernel
theorem dX6_addMove_28 : decode cX6_addMove 28 = .ok (.iadd, 1) := by decide +kernel
theorem dX6_addMove_29 : decode cX6_addMove 29 = .ok (.iaload, 1) := by decide +kernel
theorem dX6_addMove_30 : decode cX6_addMove 30 = .ok (.iaload, 1) := by decide +kernel
theorem dX6_addMove_31 : decode cX6_addMove 31 = .ok (.if_icmp .eq 23, 3) := by decide +kernel
theorem dX6_addMove_34 : decode cX6_addMove 34 = .ok (.aload_n 0, 1) := by decide +kernel
theorem dX6_addMove_35 : decode cX6_addMove 35 = .ok (.getfield 25, 3) := by decide +kernel
theorem dX6_addMove_38 : decode cX6_addMove 38 = .ok (.aload_n 0, 1) := by decide +kernel
theorem dX6_addMove_39 : decode cX6_addMove 39 = .ok (.getfield 28, 3) := by decide +kernel
theorem dX6_addMove_42 : decode cX6_addMove 42 = .ok (.iload_n 2, 1) := by decide +kernel
theorem dX6_addMove_43 : decode cX6_addMove 43 = .ok (.iastore, 1) := by decide +kernel
theorem dX6_addMove_44 : decode cX6_addMove 44 = .ok (.aload_n 0, 1) := by decide +kernel
theorem dX6_addMove_45 : decode cX6_addMove 45 = .ok (.dup, 1) := by decide +kernel
theorem dX6_addMove_46 : decode cX6_addMove 46 = .ok (.getfield 28, 3) := by decide +kernel
theorem dX6_addMove_49 : decode cX6_addMove 49 = .ok (.iconst 1, 1) := by decide +kernel
theorem dX6_addMove_50 : decode cX6_addMove 50 = .ok (.iadd, 1) := by decide +kernel
theorem dX6_addMove_51 : decode cX6_addMove 51 = .ok (.putfield 28, 3) := by decide +kernel
theorem dX6_addMove_54 : decode cX6_addMove 54 = .ok (.return_, 1) := by decide +kernel
theorem dX7_init_0 : decode cX7_init 0 = .ok (.aload_n 0, 1) := by decide +kernel
theorem dX7_init_1 : decode cX7_init 1 = .ok (.invokespecial 3, 3) := by decide +kernel
theorem dX7_init_4 : decode cX7_init 4 = .ok (.aload_n 0, 1) := by decide +kernel
theorem dX7_init_5 : decode cX7_init 5 = .ok (.sipush 140, 3) := by decide +kernel
theorem dX7_init_8 : decode cX7_init 8 = .ok (.newarray .int, 2) := by decide +kernel
theorem dX7_init_10 : decode cX7_init 10 = .ok (.putfield 9, 3) := by decide +kernel
theorem dX7_init_13 : decode cX7_init 13 = .ok (.aload_n 0, 1) := by decide +kernel
theorem dX7_init_14 : decode cX7_init 14 = .ok (.iconst 0, 1) := by decide +kernel
theorem dX7_init_15 : decode cX7_init 15 = .ok (.putfield 15, 3) := by decide +kernel
theorem dX7_init_18 : decode cX7_init 18 = .ok (.return_, 1) := by decide +kernel
theorem dX7_put_0 : decode cX7_put 0 = .ok (.aload_n 0, 1) := by decide +kernel
theorem dX7_put_1 : decode cX7_put 1 = .ok (.getfield 15, 3) := by decide +kernel
theorem dX7_put_4 : decode cX7_put 4 = .ok (.sipush 140, 3) := by decide +kernel
theorem dX7_put_7 : decode cX7_put 7 = .ok (.if_icmp .ge 23, 3) := by decide +kernel
theorem dX7_put_10 : decode cX7_put 10 = .ok (.aload_n 0, 1) := by decide +kernel
theorem dX7_put_11 : decode cX7_put 11 = .ok (.getfield 9, 3) := by decide +kernel
theorem dX7_put_14 : decode cX7_put 14 = .ok (.aload_n 0, 1) := by decide +kernel
theorem dX7_put_15 : decode cX7_put 15 = .ok (.getfield 15, 3) := by decide +kernel
theorem dX7_put_18 : decode cX7_put 18 = .ok (.iload_n 1, 1) := by decide +kernel
theorem dX7_put_19 : decode cX7_put 19 = .ok (.iastore, 1) := by decide +kernel
theorem dX7_put_20 : decode cX7_put 20 = .ok (.aload_n 0, 1) := by decide +kernel
theorem dX7_put_21 : decode cX7_put 21 = .ok (.dup, 1) := by decide +kernel
theorem dX7_put_22 : decode cX7_put 22 = .ok (.getfield 15, 3) := by decide +kernel
theorem dX7_put_25 : decode cX7_put 25 = .ok (.iconst 1, 1) := by decide +kernel
theorem dX7_put_26 : decode cX7_put 26 = .ok (.iadd, 1) := by decide +kernel
theorem dX7_put_27 : decode cX7_put 27 = .ok (.putfield 15, 3) := by decide +kernel
theorem dX7_put_30 : decode cX7_put 30 = .ok (.return_, 1) := by decide +kernel
theorem dX7_readInto_0 : decode cX7_readInto 0 = .ok (.aload_n 1, 1) := by decide +kernel
theorem dX7_readInto_1 : decode cX7_readInto 1 = .ok (.invokevirtual 19, 3) := by decide +kernel
theorem dX7_readInto_4 : decode cX7_readInto 4 = .ok (.iconst 0, 1) := by decide +kernel
theorem dX7_readInto_5 : decode cX7_readInto 5 = .ok (.istore_n 2, 1) := by decide +kernel
theorem dX7_readInto_6 : decode cX7_readInto 6 = .ok (.iconst 0, 1) := by decide +kernel
theorem dX7_readInto_7 : decode cX7_readInto 7 = .ok (.istore_n 3, 1) := by decide +kernel
theorem dX7_readInto_8 : decode cX7_readInto 8 = .ok (.iconst 0, 1) := by decide +kernel
theorem dX7_readInto_9 : decode cX7_readInto 9 = .ok (.istore 4, 2) := by decide +kernel
theorem dX7_readInto_11 : decode cX7_readInto 11 = .ok (.iconst 0, 1) := by decide +kernel
theorem dX7_readInto_12 : decode cX7_readInto 12 = .ok (.istore 5, 2) := by decide +kernel
theorem dX7_readInto_14 : decode cX7_readInto 14 = .ok (.iload 5, 2) := by decide +kernel
theorem dX7_readInto_16 : decode cX7_readInto 16 = .ok (.bipush 24, 2) := by decide +kernel
theorem dX7_readInto_18 : decode cX7_readInto 18 = .ok (.if_icmp .ge 125, 3) := by decide +kernel
theorem dX7_readInto_21 : decode cX7_readInto 21 = .ok (.iload_n 3, 1) := by decide +kernel
theorem dX7_readInto_22 : decode cX7_readInto 22 = .ok (.bipush 6, 2) := by decide +kernel
theorem dX7_readInto_24 : decode cX7_readInto 24 = .ok (.if_icmp .ge 10, 3) := by decide +kernel
theorem dX7_readInto_27 : decode cX7_readInto 27 = .ok (.iload 4, 2) := by decide +kernel
theorem dX7_readInto_29 : decode cX7_readInto 29 = .ok (.bipush 6, 2) := by decide +kernel
theorem dX7_readInto_31 : decode cX7_readInto 31 = .ok (.if_icmp .lt 5, 3) := by decide +kernel
theorem dX7_readInto_34 : decode cX7_readInto 34 = .ok (.iload_n 2, 1) := by decide +kernel
theorem dX7_readInto_35 : decode cX7_readInto 35 = .ok (.ireturn, 1) := by decide +kernel
theorem dX7_readInto_36 : decode cX7_readInto 36 = .ok (.iload_n 2, 1) := by decide +kernel
theorem dX7_readInto_37 : decode cX7_readInto 37 = .ok (.istore 6, 2) := by decide +kernel
theorem dX7_readInto_39 : decode cX7_readInto 39 = .ok (.aload_n 0, 1) := by decide +kernel
theorem dX7_readInto_40 : decode cX7_readInto 40 = .ok (.iload 6, 2) := by decide +kernel
theorem dX7_readInto_42 : decode cX7_readInto 42 = .ok (.invokevirtual 24, 3) := by decide +kernel
theorem dX7_readInto_45 : decode cX7_readInto 45 = .ok (.istore_n 2, 1) := by decide +kernel
theorem dX7_readInto_46 : decode cX7_readInto 46 = .ok (.iload 6, 2) := by decide +kernel
theorem dX7_readInto_48 : decode cX7_readInto 48 = .ok (.iload_n 2, 1) := by decide +kernel
theorem dX7_readInto_49 : decode cX7_readInto 49 = .ok (.invokestatic 28, 3) := by decide +kernel
theorem dX7_readInto_52 : decode cX7_readInto 52 = .ok (.ifCond .ne 5, 3) := by decide +kernel
theorem dX7_readInto_55 : decode cX7_readInto 55 = .ok (.iload_n 2, 1) := by decide +kernel
theorem dX7_readInto_56 : decode cX7_readInto 56 = .ok (.ireturn, 1) := by decide +kernel
theorem dX7_readInto_57 : decode cX7_readInto 57 = .ok (.aload_n 1, 1) := by decide +kernel
theorem dX7_readInto_58 : decode cX7_readInto 58 = .ok (.iload_n 3, 1) := by decide +kernel
theorem dX7_readInto_59 : decode cX7_readInto 59 = .ok (.iload 4, 2) := by decide +kernel
theorem dX7_readInto_61 : decode cX7_readInto 61 = .ok (.aload_n 0, 1) := by decide +kernel
theorem dX7_readInto_62 : decode cX7_readInto 62 = .ok (.getfield 9, 3) := by decide +kernel
theorem dX7_readInto_65 : decode cX7_readInto 65 = .ok (.iload 6, 2) := by decide +kernel
theorem dX7_readInto_67 : decode cX7_readInto 67 = .ok (.iaload, 1) := by decide +kernel
theorem dX7_readInto_68 : decode cX7_readInto 68 = .ok (.bipush 48, 2) := by decide +kernel
theorem dX7_readInto_70 : decode cX7_readInto 70 = .ok (.isub, 1) := by decide +kernel
theorem dX7_readInto_71 : decode cX7_readInto 71 = .ok (.aload_n 0, 1) := by decide +kernel
theorem dX7_readInto_72 : decode cX7_readInto 72 = .ok (.iload 6, 2) := by decide +kernel
theorem dX7_readInto_74 : decode cX7_readInto 74 = .ok (.iconst 2, 1) := by decide +kernel
theorem dX7_readInto_75 : decode cX7_readInto 75 = .ok (.iadd, 1) := by decide +kernel
theorem dX7_readInto_76 : decode cX7_readInto 76 = .ok (.iload_n 2, 1) := by decide +kernel
theorem dX7_readInto_77 : decode cX7_readInto 77 = .ok (.invokevirtual 32, 3) := by decide +kernel
theorem dX7_readInto_80 : decode cX7_readInto 80 = .ok (.invokevirtual 36, 3) := by decide +kernel
theorem dX7_readInto_83 : decode cX7_readInto 83 = .ok (.iload_n 2, 1) := by decide +kernel
theorem dX7_readInto_84 : decode cX7_readInto 84 = .ok (.aload_n 0, 1) := by decide +kernel
theorem dX7_readInto_85 : decode cX7_readInto 85 = .ok (.getfield 15, 3) := by decide +kernel
theorem dX7_readInto_88 : decode cX7_readInto 88 = .ok (.if_icmp .ne 9, 3) := by decide +kernel
theorem dX7_readInto_91 : decode cX7_readInto 91 = .ok (.aload_n 1, 1) := by decide +kernel
theorem dX7_readInto_92 : decode cX7_readInto 92 = .ok (.invokevirtual 40, 3) := by decide +kernel
theorem dX7_readInto_95 : decode cX7_readInto 95 = .ok (.iconst (-1), 1) := by decide +kernel
theorem dX7_readInto_96 : decode cX7_readInto 96 = .ok (.ireturn, 1) := by decide +kernel
theorem dX7_readInto_97 : decode cX7_readInto 97 = .ok (.aload_n 0, 1) := by decide +kernel
theorem dX7_readInto_98 : decode cX7_readInto 98 = .ok (.iload_n 2, 1) := by decide +kernel
theorem dX7_readInto_99 : decode cX7_readInto 99 = .ok (.invokevirtual 43, 3) := by decide +kernel
theorem dX7_readInto_102 : decode cX7_readInto 102 = .ok (.bipush 44, 2) := by decide +kernel
theorem dX7_readInto_104 : decode cX7_readInto 104 = .ok (.if_icmp .ne 9, 3) := by decide +kernel
theorem dX7_readInto_107 : decode cX7_readInto 107 = .ok (.iinc 4 1, 3) := by decide +kernel
theorem dX7_readInto_110 : decode cX7_readInto 110 = .ok (.goto 24, 3) := by decide +kernel
theorem dX7_readInto_113 : decode cX7_readInto 113 = .ok (.aload_n 0, 1) := by decide +kernel
theorem dX7_readInto_114 : decode cX7_readInto 114 = .ok (.iload_n 2, 1) := by decide +kernel
theorem dX7_readInto_115 : decode cX7_readInto 115 = .ok (.invokevirtual 43, 3) := by decide +kernel
theorem dX7_readInto_118 : decode cX7_readInto 118 = .ok (.bipush 59, 2) := by decide +kernel
theorem dX7_readInto_120 : decode cX7_readInto 120 = .ok (.if_icmp .ne 12, 3) := by decide +kernel
theorem dX7_readInto_123 : decode cX7_readInto 123 = .ok (.iinc 3 1, 3) := by decide +kernel
theorem dX7_readInto_126 : decode cX7_readInto 126 = .ok (.iconst 0, 1) := by decide +kernel
theorem dX7_readInto_127 : decode cX7_readInto 127 = .ok (.istore 4, 2) := by decide +kernel
theorem dX7_readInto_129 : decode cX7_readInto 129 = .ok (.goto 5, 3) := by decide +kernel
theorem dX7_readInto_132 : decode cX7_readInto 132 = .ok (.iload_n 2, 1) := by decide +kernel
theorem dX7_readInto_133 : decode cX7_readInto 133 = .ok (.ireturn, 1) := by decide +kernel
theorem dX7_readInto_134 : decode cX7_readInto 134 = .ok (.iinc 2 1, 3) := by decide +kernel
theorem dX7_readInto_137 : decode cX7_readInto 137 = .ok (.iinc 5 1, 3) := by decide +kernel
theorem dX7_readInto_140 : decode cX7_readInto 140 = .ok (.goto (-126), 3) := by decide +kernel
theorem dX7_readInto_143 : decode cX7_readInto 143 = .ok (.iload_n 2, 1) := by decide +kernel
theorem dX7_readInto_144 : decode cX7_readInto 144 = .ok (.ireturn, 1) := by decide +kernel
theorem dX7_taskEnd_0 : decode cX7_taskEnd 0 = .ok (.aload_n 0, 1) := by decide +kernel
theorem dX7_taskEnd_1 : decode cX7_taskEnd 1 = .ok (.iload_n 1, 1) := by decide +kernel
theorem dX7_taskEnd_2 : decode cX7_taskEnd 2 = .ok (.bipush 48, 2) := by decide +kernel
theorem dX7_taskEnd_4 : decode cX7_taskEnd 4 = .ok (.bipush 52, 2) := by decide +kernel
theorem dX7_taskEnd_6 : decode cX7_taskEnd 6 = .ok (.invokevirtual 46, 3) := by decide +kernel
theorem dX7_taskEnd_9 : decode cX7_taskEnd 9 = .ok (.ifCond .ne 5, 3) := by decide +kernel
theorem dX7_taskEnd_12 : decode cX7_taskEnd 12 = .ok (.iload_n 1, 1) := by decide +kernel
theorem dX7_taskEnd_13 : decode cX7_taskEnd 13 = .ok (.ireturn, 1) := by decide +kernel
theorem dX7_taskEnd_14 : decode cX7_taskEnd 14 = .ok (.aload_n 0, 1) := by decide +kernel
theorem dX7_taskEnd_15 : decode cX7_taskEnd 15 = .ok (.iload_n 1, 1) := by decide +kernel
theorem dX7_taskEnd_16 : decode cX7_taskEnd 16 = .ok (.iconst 1, 1) := by decide +kernel
theorem dX7_taskEnd_17 : decode cX7_taskEnd 17 = .ok (.iadd, 1) := by decide +kernel
theorem dX7_taskEnd_18 : decode cX7_taskEnd 18 = .ok (.invokevirtual 43, 3) := by decide +kernel
theorem dX7_taskEnd_21 : decode cX7_taskEnd 21 = .ok (.bipush 32, 2) := by decide +kernel
theorem dX7_taskEnd_23 : decode cX7_taskEnd 23 = .ok (.if_icmp .eq 7, 3) := by decide +kernel
theorem dX7_taskEnd_26 : decode cX7_taskEnd 26 = .ok (.iload_n 1, 1) := by decide +kernel
theorem dX7_taskEnd_27 : decode cX7_taskEnd 27 = .ok (.iconst 1, 1) := by decide +kernel
theorem dX7_taskEnd_28 : decode cX7_taskEnd 28 = .ok (.iadd, 1) := by decide +kernel
theorem dX7_taskEnd_29 : decode cX7_taskEnd 29 = .ok (.ireturn, 1) := by decide +kernel
theorem dX7_taskEnd_30 : decode cX7_taskEnd 30 = .ok (.aload_n 0, 1) := by decide +kernel
theorem dX7_taskEnd_31 : decode cX7_taskEnd 31 = .ok (.iload_n 1, 1) := by decide +kernel
theorem dX7_taskEnd_32 : decode cX7_taskEnd 32 = .ok (.iconst 2, 1) := by decide +kernel
theorem dX7_taskEnd_33 : decode cX7_taskEnd 33 = .ok (.iadd, 1) := by decide +kernel
theorem dX7_taskEnd_34 : decode cX7_taskEnd 34 = .ok (.bipush 49, 2) := by decide +kernel
theorem dX7_taskEnd_36 : decode cX7_taskEnd 36 = .ok (.bipush 57, 2) := by decide +kernel
theorem dX7_taskEnd_38 : decode cX7_taskEnd 38 = .ok (.invokevirtual 46, 3) := by decide +kernel
theorem dX7_taskEnd_41 : decode cX7_taskEnd 41 = .ok (.ifCond .ne 7, 3) := by decide +kernel
theorem dX7_taskEnd_44 : decode cX7_taskEnd 44 = .ok (.iload_n 1, 1) := by decide +kernel
theorem dX7_taskEnd_45 : decode cX7_taskEnd 45 = .ok (.iconst 2, 1) := by decide +kernel
theorem dX7_taskEnd_46 : decode cX7_taskEnd 46 = .ok (.iadd, 1) := by decide +kernel
theorem dX7_taskEnd_47 : decode cX7_taskEnd 47 = .ok (.ireturn, 1) := by decide +kernel
theorem dX7_taskEnd_48 : decode cX7_taskEnd 48 = .ok (.aload_n 0, 1) := by decide +kernel
theorem dX7_taskEnd_49 : decode cX7_taskEnd 49 = .ok (.iload_n 1, 1) := by decide +kernel
theorem dX7_taskEnd_50 : decode cX7_taskEnd 50 = .ok (.iconst 3, 1) := by decide +kernel
theorem dX7_taskEnd_51 : decode cX7_taskEnd 51 = .ok (.iadd, 1) := by decide +kernel
theorem dX7_taskEnd_52 : decode cX7_taskEnd 52 = .ok (.bipush 48, 2) := by decide +kernel
theorem dX7_taskEnd_54 : decode cX7_taskEnd 54 = .ok (.bipush 57, 2) := by decide +kernel
theorem dX7_taskEnd_56 : decode cX7_taskEnd 56 = .ok (.invokevirtual 46, 3) := by decide +kernel
theorem dX7_taskEnd_59 : decode cX7_taskEnd 59 = .ok (.ifCond .eq 9, 3) := by decide +kernel
theorem dX7_taskEnd_62 : decode cX7_taskEnd 62 = .ok (.iload_n 1, 1) := by decide +kernel
theorem dX7_taskEnd_63 : decode cX7_taskEnd 63 = .ok (.iconst 4, 1) := by decide +kernel
theorem dX7_taskEnd_64 : decode cX7_taskEnd 64 = .ok (.iadd, 1) := by decide +kernel
theorem dX7_taskEnd_65 : decode cX7_taskEnd 65 = .ok (.goto 6, 3) := by decide +kernel
theorem dX7_taskEnd_68 : decode cX7_taskEnd 68 = .ok (.iload_n 1, 1) := by decide +kernel
theorem dX7_taskEnd_69 : decode cX7_taskEnd 69 = .ok (.iconst 3, 1) := by decide +kernel
theorem dX7_taskEnd_70 : decode cX7_taskEnd 70 = .ok (.iadd, 1) := by decide +kernel
theorem dX7_taskEnd_71 : decode cX7_taskEnd 71 = .ok (.ireturn, 1) := by decide +kernel
theorem dX7_isTask_0 : decode cX7_isTask 0 = .ok (.iload_n 1, 1) := by decide +kernel
theorem dX7_isTask_1 : decode cX7_isTask 1 = .ok (.iload_n 0, 1) := by decide +kernel
theorem dX7_isTask_2 : decode cX7_isTask 2 = .ok (.isub, 1) := by decide +kernel
theorem dX7_isTask_3 : decode cX7_isTask 3 = .ok (.iconst 3, 1) := by decide +kernel
theorem dX7_isTask_4 : decode cX7_isTask 4 = .ok (.if_icmp .lt 7, 3) := by decide +kernel
theorem dX7_isTask_7 : decode cX7_isTask 7 = .ok (.iconst 1, 1) := by decide +kernel
theorem dX7_isTask_8 : decode cX7_isTask 8 = .ok (.goto 4, 3) := by decide +kernel
theorem dX7_isTask_11 : decode cX7_isTask 11 = .ok (.iconst 0, 1) := by decide +kernel
theorem dX7_isTask_12 : decode cX7_isTask 12 = .ok (.ireturn, 1) := by decide +kernel
theorem dX7_number_0 : decode cX7_number 0 = .ok (.iconst 0, 1) := by decide +kernel
theorem dX7_number_1 : decode cX7_number 1 = .ok (.istore_n 3, 1) := by decide +kernel
theorem dX7_number_2 : decode cX7_number 2 = .ok (.iload_n 1, 1) := by decide +kernel
theorem dX7_number_3 : decode cX7_number 3 = .ok (.istore 4, 2) := by decide +kernel
theorem dX7_number_5 : decode cX7_number 5 = .ok (.iload 4, 2) := by decide +kernel
theorem dX7_number_7 : decode cX7_number 7 = .ok (.iload_n 2, 1) := by decide +kernel
theorem dX7_number_8 : decode cX7_number 8 = .ok (.if_icmp .ge 24, 3) := by decide +kernel
theorem dX7_number_11 : decode cX7_number 11 = .ok (.bipush 10, 2) := by decide +kernel
theorem dX7_number_13 : decode cX7_number 13 = .ok (.iload_n 3, 1) := by decide +kernel
theorem dX7_number_14 : decode cX7_number 14 = .ok (.imul, 1) := by decide +kernel
theorem dX7_number_15 : decode cX7_number 15 = .ok (.aload_n 0, 1) := by decide +kernel
theorem dX7_number_16 : decode cX7_number 16 = .ok (.iload 4, 2) := by decide +kernel
theorem dX7_number_18 : decode cX7_number 18 = .ok (.invokevirtual 43, 3) := by decide +kernel
theorem dX7_number_21 : decode cX7_number 21 = .ok (.iadd, 1) := by decide +kernel
theorem dX7_number_22 : decode cX7_number 22 = .ok (.bipush 48, 2) := by decide +kernel
theorem dX7_number_24 : decode cX7_number 24 = .ok (.isub, 1) := by decide +kernel
theorem dX7_number_25 : decode cX7_number 25 = .ok (.istore_n 3, 1) := by decide +kernel
theorem dX7_number_26 : decode cX7_number 26 = .ok (.iinc 4 1, 3) := by decide +kernel
theorem dX7_number_29 : decode cX7_number 29 = .ok (.goto (-24), 3) := by decide +kernel
theorem dX7_number_32 : decode cX7_number 32 = .ok (.iload_n 3, 1) := by decide +kernel
theorem dX7_number_33 : decode cX7_number 33 = .ok (.ireturn, 1) := by decide +kernel
theorem dX7_isFigure_0 : decode cX7_isFigure 0 = .ok (.aload_n 0, 1) := by decide +kernel
theorem dX7_isFigure_1 : decode cX7_isFigure 1 = .ok (.iload_n 1, 1) := by decide +kernel
theorem dX7_isFigure_2 : decode cX7_isFigure 2 = .ok (.invokevirtual 43, 3) := by decide +kernel
theorem dX7_isFigure_5 : decode cX7_isFigure 5 = .ok (.istore 4, 2) := by decide +kernel
theorem dX7_isFigure_7 : decode cX7_isFigure 7 = .ok (.iload 4, 2) := by decide +kernel
theorem dX7_isFigure_9 : decode cX7_isFigure 9 = .ok (.iload_n 2, 1) := by decide +kernel
theorem dX7_isFigure_10 : decode cX7_isFigure 10 = .ok (.if_icmp .lt 13, 3) := by decide +kernel
theorem dX7_isFigure_13 : decode cX7_isFigure 13 = .ok (.iload 4, 2) := by decide +kernel
theorem dX7_isFigure_15 : decode cX7_isFigure 15 = .ok (.iload_n 3, 1) := by decide +kernel
theorem dX7_isFigure_16 : decode cX7_isFigure 16 = .ok (.if_icmp .gt 7, 3) := by decide +kernel
theorem dX7_isFigure_19 : decode cX7_isFigure 19 = .ok (.iconst 1, 1) := by decide +kernel
theorem dX7_isFigure_20 : decode cX7_isFigure 20 = .ok (.goto 4, 3) := by decide +kernel
theorem dX7_isFigure_23 : decode cX7_isFigure 23 = .ok (.iconst 0, 1) := by decide +kernel
theorem dX7_isFigure_24 : decode cX7_isFigure 24 = .ok (.ireturn, 1) := by decide +kernel
theorem dX7_letterAt_0 : decode cX7_letterAt 0 = .ok (.iload_n 1, 1) := by decide +kernel
theorem dX7_letterAt_1 : decode cX7_letterAt 1 = .ok (.ifCond .lt 20, 3) := by decide +kernel
theorem dX7_letterAt_4 : decode cX7_letterAt 4 = .ok (.iload_n 1, 1) := by decide +kernel
theorem dX7_letterAt_5 : decode cX7_letterAt 5 = .ok (.aload_n 0, 1) := by decide +kernel
theorem dX7_letterAt_6 : decode cX7_letterAt 6 = .ok (.getfield 15, 3) := by decide +kernel
theorem dX7_letterAt_9 : decode cX7_letterAt 9 = .ok (.if_icmp .ge 12, 3) := by decide +kernel
theorem dX7_letterAt_12 : decode cX7_letterAt 12 = .ok (.aload_n 0, 1) := by decide +kernel
theorem dX7_letterAt_13 : decode cX7_letterAt 13 = .ok (.getfield 9, 3) := by decide +kernel
theorem dX7_letterAt_16 : decode cX7_letterAt 16 = .ok (.iload_n 1, 1) := by decide +kernel
theorem dX7_letterAt_17 : decode cX7_letterAt 17 = .ok (.iaload, 1) := by decide +kernel
theorem dX7_letterAt_18 : decode cX7_letterAt 18 = .ok (.goto 4, 3) := by decide +kernel
theorem dX7_letterAt_21 : decode cX7_letterAt 21 = .ok (.iconst (-1), 1) := by decide +kernel
theorem dX7_letterAt_22 : decode cX7_letterAt 22 = .ok (.ireturn, 1) := by decide +kernel
theorem dX8_init_0 : decode cX8_init 0 = .ok (.aload_n 0, 1) := by decide +kernel
theorem dX8_init_1 : decode cX8_init 1 = .ok (.invokespecial 3, 3) := by decide +kernel
theorem dX8_init_4 : decode cX8_init 4 = .ok (.aload_n 0, 1) := by decide +kernel
theorem dX8_init_5 : decode cX8_init 5 = .ok (.bipush 24, 2) := by decide +kernel
theorem dX8_init_7 : decode cX8_init 7 = .ok (.newarray .int, 2) := by decide +kernel
theorem dX8_init_9 : decode cX8_init 9 = .ok (.putfield 9, 3) := by decide +kernel
theorem dX8_init_12 : decode cX8_init 12 = .ok (.aload_n 0, 1) := by decide +kernel
theorem dX8_init_13 : decode cX8_init 13 = .ok (.bipush 24, 2) := by decide +kernel
theorem dX8_init_15 : decode cX8_init 15 = .ok (.newarray .int, 2) := by decide +kernel
theorem dX8_init_17 : decode cX8_init 17 = .ok (.putfield 15, 3) := by decide +kernel
theorem dX8_init_20 : decode cX8_init 20 = .ok (.aload_n 0, 1) := by decide +kernel
theorem dX8_init_21 : decode cX8_init 21 = .ok (.bipush 24, 2) := by decide +kernel
theorem dX8_init_23 : decode cX8_init 23 = .ok (.newarray .int, 2) := by decide +kernel
theorem dX8_init_25 : decode cX8_init 25 = .ok (.putfield 18, 3) := by decide +kernel
theorem dX8_init_28 : decode cX8_init 28 = .ok (.aload_n 0, 1) := by decide +kernel
theorem dX8_init_29 : decode cX8_init 29 = .ok (.bipush 24, 2) := by decide +kernel
theorem dX8_init_31 : decode cX8_init 31 = .ok (.newarray .int, 2) := by decide +kernel
theorem dX8_init_33 : decode cX8_init 33 = .ok (.putfield 21, 3) := by decide +kernel
theorem dX8_init_36 : decode cX8_init 36 = .ok (.aload_n 0, 1) := by decide +kernel
theorem dX8_init_37 : decode cX8_init 37 = .ok (.bipush 24, 2) := by decide +kernel
theorem dX8_init_39 : decode cX8_init 39 = .ok (.newarray .int, 2) := by decide +kernel
theorem dX8_init_41 : decode cX8_init 41 = .ok (.putfield 24, 3) := by decide +kernel
theorem dX8_init_44 : decode cX8_init 44 = .ok (.aload_n 0, 1) := by decide +kernel
theorem dX8_init_45 : decode cX8_init 45 = .ok (.bipush 24, 2) := by decide +kernel
theorem dX8_init_47 : decode cX8_init 47 = .ok (.newarray .int, 2) := by decide +kernel
theorem dX8_init_49 : decode cX8_init 49 = .ok (.putfield 27, 3) := by decide +kernel
theorem dX8_init_52 : decode cX8_init 52 = .ok (.aload_n 0, 1) := by decide +kernel
theorem dX8_init_53 : decode cX8_init 53 = .ok (.bipush 24, 2) := by decide +kernel
theorem dX8_init_55 : decode cX8_init 55 = .ok (.newarray .int, 2) := by decide +kernel
theorem dX8_init_57 : decode cX8_init 57 = .ok (.putfield 30, 3) := by decide +kernel
theorem dX8_init_60 : decode cX8_init 60 = .ok (.aload_n 0, 1) := by decide +kernel
theorem dX8_init_61 : decode cX8_init 61 = .ok (.bipush 24, 2) := by decide +kernel
theorem dX8_init_63 : decode cX8_init 63 = .ok (.newarray .int, 2) := by decide +kernel
theorem dX8_init_65 : decode cX8_init 65 = .ok (.putfield 33, 3) := by decide +kernel
theorem dX8_init_68 : decode cX8_init 68 = .ok (.aload_n 0, 1) := by decide +kernel
theorem dX8_init_69 : decode cX8_init 69 = .ok (.iconst 0, 1) := by decide +kernel
theorem dX8_init_70 : decode cX8_init 70 = .ok (.putfield 36, 3) := by decide +kernel
theorem dX8_init_73 : decode cX8_init 73 = .ok (.aload_n 0, 1) := by decide +kernel
theorem dX8_init_74 : decode cX8_init 74 = .ok (.iconst 0, 1) := by decide +kernel
theorem dX8_init_75 : decode cX8_init 75 = .ok (.putfield 40, 3) := by decide +kernel
theorem dX8_init_78 : decode cX8_init 78 = .ok (.aload_n 0, 1) := by decide +kernel
theorem dX8_init_79 : decode cX8_init 79 = .ok (.iconst 0, 1) := by decide +kernel
theorem dX8_init_80 : decode cX8_init 80 = .ok (.putfield 43, 3) := by decide +kernel
theorem dX8_init_83 : decode cX8_init 83 = .ok (.return_, 1) := by decide +kernel
theorem dX8_lay_0 : decode cX8_lay 0 = .ok (.aload_n 0, 1) := by decide +kernel
theorem dX8_lay_1 : decode cX8_lay 1 = .ok (.aload_n 1, 1) := by decide +kernel
theorem dX8_lay_2 : decode cX8_lay 2 = .ok (.aload_n 2, 1) := by decide +kernel
theorem dX8_lay_3 : decode cX8_lay 3 = .ok (.invokevirtual 47, 3) := by decide +kernel
theorem dX8_lay_6 : decode cX8_lay 6 = .ok (.aload_n 0, 1) := by decide +kernel
theorem dX8_lay_7 : decode cX8_lay 7 = .ok (.aload_n 1, 1) := by decide +kernel
theorem dX8_lay_8 : decode cX8_lay 8 = .ok (.invokevirtual 51, 3) := by decide +kernel
theorem dX8_lay_11 : decode cX8_lay 11 = .ok (.aload_n 0, 1) := by decide +kernel
theorem dX8_lay_12 : decode cX8_lay 12 = .ok (.iconst 0, 1) := by decide +kernel
theorem dX8_lay_13 : decode cX8_lay 13 = .ok (.putfield 40, 3) := by decide +kernel
theorem dX8_lay_16 : decode cX8_lay 16 = .ok (.aload_n 0, 1) := by decide +kernel
theorem dX8_lay_17 : decode cX8_lay 17 = .ok (.iconst 0, 1) := by decide +kernel
theorem dX8_lay_18 : decode cX8_lay 18 = .ok (.putfield 43, 3) := by decide +kernel
theorem dX8_lay_21 : decode cX8_lay 21 = .ok (.iconst 0, 1) := by decide +kernel
theorem dX8_lay_22 : decode cX8_lay 22 = .ok (.istore_n 3, 1) := by decide +kernel
theorem dX8_lay_23 : decode cX8_lay 23 = .ok (.iload_n 3, 1) := by decide +kernel
theorem dX8_lay_24 : decode cX8_lay 24 = .ok (.aload_n 1, 1) := by decide +kernel
theorem dX8_lay_25 : decode cX8_lay 25 = .ok (.getfield 55, 3) := by decide +kernel
theorem dX8_lay_28 : decode cX8_lay 28 = .ok (.if_icmp .ge 86, 3) := by decide +kernel
theorem dX8_lay_31 : decode cX8_lay 31 = .ok (.iload_n 3, 1) := by decide +kernel
theorem dX8_lay_32 : decode cX8_lay 32 = .ok (.aload_n 0, 1) := by decide +kernel
