theorem dX8_lay_33 : decode cX8_lay 33 = .ok (.getfield 36, 3) := by decide +kernel
theorem dX8_lay_36 : decode cX8_lay 36 = .ok (.if_icmp .lt 9, 3) := by decide +kernel
theorem dX8_lay_39 : decode cX8_lay 39 = .ok (.aload_n 0, 1) := by decide +kernel
theorem dX8_lay_40 : decode cX8_lay 40 = .ok (.iconst 1, 1) := by decide +kernel
theorem dX8_lay_41 : decode cX8_lay 41 = .ok (.putfield 43, 3) := by decide +kernel
theorem dX8_lay_44 : decode cX8_lay 44 = .ok (.return_, 1) := by decide +kernel
theorem dX8_lay_45 : decode cX8_lay 45 = .ok (.aload_n 0, 1) := by decide +kernel
theorem dX8_lay_46 : decode cX8_lay 46 = .ok (.getfield 33, 3) := by decide +kernel
theorem dX8_lay_49 : decode cX8_lay 49 = .ok (.iload_n 3, 1) := by decide +kernel
theorem dX8_lay_50 : decode cX8_lay 50 = .ok (.iaload, 1) := by decide +kernel
theorem dX8_lay_51 : decode cX8_lay 51 = .ok (.istore 4, 2) := by decide +kernel
theorem dX8_lay_53 : decode cX8_lay 53 = .ok (.aload_n 0, 1) := by decide +kernel
theorem dX8_lay_54 : decode cX8_lay 54 = .ok (.getfield 21, 3) := by decide +kernel
theorem dX8_lay_57 : decode cX8_lay 57 = .ok (.iload 4, 2) := by decide +kernel
theorem dX8_lay_59 : decode cX8_lay 59 = .ok (.iaload, 1) := by decide +kernel
theorem dX8_lay_60 : decode cX8_lay 60 = .ok (.aload_n 1, 1) := by decide +kernel
theorem dX8_lay_61 : decode cX8_lay 61 = .ok (.getfield 60, 3) := by decide +kernel
theorem dX8_lay_64 : decode cX8_lay 64 = .ok (.iload 4, 2) := by decide +kernel
theorem dX8_lay_66 : decode cX8_lay 66 = .ok (.iaload, 1) := by decide +kernel
theorem dX8_lay_67 : decode cX8_lay 67 = .ok (.iadd, 1) := by decide +kernel
theorem dX8_lay_68 : decode cX8_lay 68 = .ok (.istore 5, 2) := by decide +kernel
theorem dX8_lay_70 : decode cX8_lay 70 = .ok (.aload_n 0, 1) := by decide +kernel
theorem dX8_lay_71 : decode cX8_lay 71 = .ok (.aload_n 0, 1) := by decide +kernel
theorem dX8_lay_72 : decode cX8_lay 72 = .ok (.getfield 40, 3) := by decide +kernel
theorem dX8_lay_75 : decode cX8_lay 75 = .ok (.iload 5, 2) := by decide +kernel
theorem dX8_lay_77 : decode cX8_lay 77 = .ok (.invokestatic 63, 3) := by decide +kernel
theorem dX8_lay_80 : decode cX8_lay 80 = .ok (.putfield 40, 3) := by decide +kernel
theorem dX8_lay_83 : decode cX8_lay 83 = .ok (.aload_n 0, 1) := by decide +kernel
theorem dX8_lay_84 : decode cX8_lay 84 = .ok (.aload_n 1, 1) := by decide +kernel
theorem dX8_lay_85 : decode cX8_lay 85 = .ok (.iload 4, 2) := by decide +kernel
theorem dX8_lay_87 : decode cX8_lay 87 = .ok (.invokevirtual 69, 3) := by decide +kernel
theorem dX8_lay_90 : decode cX8_lay 90 = .ok (.iload 5, 2) := by decide +kernel
theorem dX8_lay_92 : decode cX8_lay 92 = .ok (.invokevirtual 73, 3) := by decide +kernel
theorem dX8_lay_95 : decode cX8_lay 95 = .ok (.aload_n 0, 1) := by decide +kernel
theorem dX8_lay_96 : decode cX8_lay 96 = .ok (.aload_n 0, 1) := by decide +kernel
theorem dX8_lay_97 : decode cX8_lay 97 = .ok (.getfield 18, 3) := by decide +kernel
theorem dX8_lay_100 : decode cX8_lay 100 = .ok (.iload 4, 2) := by decide +kernel
theorem dX8_lay_102 : decode cX8_lay 102 = .ok (.iaload, 1) := by decide +kernel
theorem dX8_lay_103 : decode cX8_lay 103 = .ok (.iload 5, 2) := by decide +kernel
theorem dX8_lay_105 : decode cX8_lay 105 = .ok (.invokevirtual 73, 3) := by decide +kernel
theorem dX8_lay_108 : decode cX8_lay 108 = .ok (.iinc 3 1, 3) := by decide +kernel
theorem dX8_lay_111 : decode cX8_lay 111 = .ok (.goto (-88), 3) := by decide +kernel
theorem dX8_lay_114 : decode cX8_lay 114 = .ok (.return_, 1) := by decide +kernel
theorem dX8_link_0 : decode cX8_link 0 = .ok (.iconst 0, 1) := by decide +kernel
theorem dX8_link_1 : decode cX8_link 1 = .ok (.istore_n 3, 1) := by decide +kernel
theorem dX8_link_2 : decode cX8_link 2 = .ok (.iload_n 3, 1) := by decide +kernel
theorem dX8_link_3 : decode cX8_link 3 = .ok (.iconst 5, 1) := by decide +kernel
theorem dX8_link_4 : decode cX8_link 4 = .ok (.if_icmp .ge 112, 3) := by decide +kernel
theorem dX8_link_7 : decode cX8_link 7 = .ok (.aload_n 1, 1) := by decide +kernel
theorem dX8_link_8 : decode cX8_link 8 = .ok (.getfield 77, 3) := by decide +kernel
theorem dX8_link_11 : decode cX8_link 11 = .ok (.iload_n 3, 1) := by decide +kernel
theorem dX8_link_12 : decode cX8_link 12 = .ok (.iaload, 1) := by decide +kernel
theorem dX8_link_13 : decode cX8_link 13 = .ok (.istore 4, 2) := by decide +kernel
theorem dX8_link_15 : decode cX8_link 15 = .ok (.aload_n 1, 1) := by decide +kernel
theorem dX8_link_16 : decode cX8_link 16 = .ok (.getfield 77, 3) := by decide +kernel
theorem dX8_link_19 : decode cX8_link 19 = .ok (.iload_n 3, 1) := by decide +kernel
theorem dX8_link_20 : decode cX8_link 20 = .ok (.iconst 1, 1) := by decide +kernel
theorem dX8_link_21 : decode cX8_link 21 = .ok (.iadd, 1) := by decide +kernel
theorem dX8_link_22 : decode cX8_link 22 = .ok (.iaload, 1) := by decide +kernel
theorem dX8_link_23 : decode cX8_link 23 = .ok (.istore 5, 2) := by decide +kernel
theorem dX8_link_25 : decode cX8_link 25 = .ok (.iload 4, 2) := by decide +kernel
theorem dX8_link_27 : decode cX8_link 27 = .ok (.istore 6, 2) := by decide +kernel
theorem dX8_link_29 : decode cX8_link 29 = .ok (.iload 6, 2) := by decide +kernel
theorem dX8_link_31 : decode cX8_link 31 = .ok (.iload 5, 2) := by decide +kernel
theorem dX8_link_33 : decode cX8_link 33 = .ok (.if_icmp .ge 77, 3) := by decide +kernel
theorem dX8_link_36 : decode cX8_link 36 = .ok (.aload_n 2, 1) := by decide +kernel
theorem dX8_link_37 : decode cX8_link 37 = .ok (.iload 6, 2) := by decide +kernel
theorem dX8_link_39 : decode cX8_link 39 = .ok (.iaload, 1) := by decide +kernel
theorem dX8_link_40 : decode cX8_link 40 = .ok (.istore 7, 2) := by decide +kernel
theorem dX8_link_42 : decode cX8_link 42 = .ok (.aload_n 0, 1) := by decide +kernel
theorem dX8_link_43 : decode cX8_link 43 = .ok (.getfield 9, 3) := by decide +kernel
theorem dX8_link_46 : decode cX8_link 46 = .ok (.iload 7, 2) := by decide +kernel
theorem dX8_link_48 : decode cX8_link 48 = .ok (.iload 6, 2) := by decide +kernel
theorem dX8_link_50 : decode cX8_link 50 = .ok (.iload 4, 2) := by decide +kernel
theorem dX8_link_52 : decode cX8_link 52 = .ok (.isub, 1) := by decide +kernel
theorem dX8_link_53 : decode cX8_link 53 = .ok (.iastore, 1) := by decide +kernel
theorem dX8_link_54 : decode cX8_link 54 = .ok (.aload_n 0, 1) := by decide +kernel
theorem dX8_link_55 : decode cX8_link 55 = .ok (.getfield 15, 3) := by decide +kernel
theorem dX8_link_58 : decode cX8_link 58 = .ok (.iload 7, 2) := by decide +kernel
theorem dX8_link_60 : decode cX8_link 60 = .ok (.iload 6, 2) := by decide +kernel
theorem dX8_link_62 : decode cX8_link 62 = .ok (.iload 4, 2) := by decide +kernel
theorem dX8_link_64 : decode cX8_link 64 = .ok (.if_icmp .le 12, 3) := by decide +kernel
theorem dX8_link_67 : decode cX8_link 67 = .ok (.aload_n 2, 1) := by decide +kernel
theorem dX8_link_68 : decode cX8_link 68 = .ok (.iload 6, 2) := by decide +kernel
theorem dX8_link_70 : decode cX8_link 70 = .ok (.iconst 1, 1) := by decide +kernel
theorem dX8_link_71 : decode cX8_link 71 = .ok (.isub, 1) := by decide +kernel
theorem dX8_link_72 : decode cX8_link 72 = .ok (.iaload, 1) := by decide +kernel
theorem dX8_link_73 : decode cX8_link 73 = .ok (.goto 4, 3) := by decide +kernel
theorem dX8_link_76 : decode cX8_link 76 = .ok (.iconst (-1), 1) := by decide +kernel
theorem dX8_link_77 : decode cX8_link 77 = .ok (.iastore, 1) := by decide +kernel
theorem dX8_link_78 : decode cX8_link 78 = .ok (.aload_n 0, 1) := by decide +kernel
theorem dX8_link_79 : decode cX8_link 79 = .ok (.getfield 18, 3) := by decide +kernel
theorem dX8_link_82 : decode cX8_link 82 = .ok (.iload 7, 2) := by decide +kernel
theorem dX8_link_84 : decode cX8_link 84 = .ok (.iload 6, 2) := by decide +kernel
theorem dX8_link_86 : decode cX8_link 86 = .ok (.iconst 1, 1) := by decide +kernel
theorem dX8_link_87 : decode cX8_link 87 = .ok (.iadd, 1) := by decide +kernel
theorem dX8_link_88 : decode cX8_link 88 = .ok (.iload 5, 2) := by decide +kernel
theorem dX8_link_90 : decode cX8_link 90 = .ok (.if_icmp .ge 12, 3) := by decide +kernel
theorem dX8_link_93 : decode cX8_link 93 = .ok (.aload_n 2, 1) := by decide +kernel
theorem dX8_link_94 : decode cX8_link 94 = .ok (.iload 6, 2) := by decide +kernel
theorem dX8_link_96 : decode cX8_link 96 = .ok (.iconst 1, 1) := by decide +kernel
theorem dX8_link_97 : decode cX8_link 97 = .ok (.iadd, 1) := by decide +kernel
theorem dX8_link_98 : decode cX8_link 98 = .ok (.iaload, 1) := by decide +kernel
theorem dX8_link_99 : decode cX8_link 99 = .ok (.goto 4, 3) := by decide +kernel
theorem dX8_link_102 : decode cX8_link 102 = .ok (.iconst (-1), 1) := by decide +kernel
theorem dX8_link_103 : decode cX8_link 103 = .ok (.iastore, 1) := by decide +kernel
theorem dX8_link_104 : decode cX8_link 104 = .ok (.iinc 6 1, 3) := by decide +kernel
theorem dX8_link_107 : decode cX8_link 107 = .ok (.goto (-78), 3) := by decide +kernel
theorem dX8_link_110 : decode cX8_link 110 = .ok (.iinc 3 1, 3) := by decide +kernel
theorem dX8_link_113 : decode cX8_link 113 = .ok (.goto (-111), 3) := by decide +kernel
theorem dX8_link_116 : decode cX8_link 116 = .ok (.return_, 1) := by decide +kernel
theorem dX8_queueFree_0 : decode cX8_queueFree 0 = .ok (.aload_n 0, 1) := by decide +kernel
theorem dX8_queueFree_1 : decode cX8_queueFree 1 = .ok (.iconst 0, 1) := by decide +kernel
theorem dX8_queueFree_2 : decode cX8_queueFree 2 = .ok (.putfield 36, 3) := by decide +kernel
theorem dX8_queueFree_5 : decode cX8_queueFree 5 = .ok (.iconst 0, 1) := by decide +kernel
theorem dX8_queueFree_6 : decode cX8_queueFree 6 = .ok (.istore_n 2, 1) := by decide +kernel
theorem dX8_queueFree_7 : decode cX8_queueFree 7 = .ok (.iload_n 2, 1) := by decide +kernel
theorem dX8_queueFree_8 : decode cX8_queueFree 8 = .ok (.aload_n 1, 1) := by decide +kernel
theorem dX8_queueFree_9 : decode cX8_queueFree 9 = .ok (.getfield 55, 3) := by decide +kernel
theorem dX8_queueFree_12 : decode cX8_queueFree 12 = .ok (.if_icmp .ge 81, 3) := by decide +kernel
theorem dX8_queueFree_15 : decode cX8_queueFree 15 = .ok (.aload_n 0, 1) := by decide +kernel
theorem dX8_queueFree_16 : decode cX8_queueFree 16 = .ok (.getfield 21, 3) := by decide +kernel
theorem dX8_queueFree_19 : decode cX8_queueFree 19 = .ok (.iload_n 2, 1) := by decide +kernel
theorem dX8_queueFree_20 : decode cX8_queueFree 20 = .ok (.iconst 0, 1) := by decide +kernel
theorem dX8_queueFree_21 : decode cX8_queueFree 21 = .ok (.iastore, 1) := by decide +kernel
theorem dX8_queueFree_22 : decode cX8_queueFree 22 = .ok (.aload_n 0, 1) := by decide +kernel
theorem dX8_queueFree_23 : decode cX8_queueFree 23 = .ok (.getfield 30, 3) := by decide +kernel
theorem dX8_queueFree_26 : decode cX8_queueFree 26 = .ok (.iload_n 2, 1) := by decide +kernel
theorem dX8_queueFree_27 : decode cX8_queueFree 27 = .ok (.aload_n 1, 1) := by decide +kernel
theorem dX8_queueFree_28 : decode cX8_queueFree 28 = .ok (.iload_n 2, 1) := by decide +kernel
theorem dX8_queueFree_29 : decode cX8_queueFree 29 = .ok (.invokevirtual 80, 3) := by decide +kernel
theorem dX8_queueFree_32 : decode cX8_queueFree 32 = .ok (.iconst (-1), 1) := by decide +kernel
theorem dX8_queueFree_33 : decode cX8_queueFree 33 = .ok (.if_icmp .eq 7, 3) := by decide +kernel
theorem dX8_queueFree_36 : decode cX8_queueFree 36 = .ok (.iconst 1, 1) := by decide +kernel
theorem dX8_queueFree_37 : decode cX8_queueFree 37 = .ok (.goto 4, 3) := by decide +kernel
theorem dX8_queueFree_40 : decode cX8_queueFree 40 = .ok (.iconst 0, 1) := by decide +kernel
theorem dX8_queueFree_41 : decode cX8_queueFree 41 = .ok (.aload_n 0, 1) := by decide +kernel
theorem dX8_queueFree_42 : decode cX8_queueFree 42 = .ok (.getfield 15, 3) := by decide +kernel
theorem dX8_queueFree_45 : decode cX8_queueFree 45 = .ok (.iload_n 2, 1) := by decide +kernel
theorem dX8_queueFree_46 : decode cX8_queueFree 46 = .ok (.iaload, 1) := by decide +kernel
theorem dX8_queueFree_47 : decode cX8_queueFree 47 = .ok (.iconst (-1), 1) := by decide +kernel
theorem dX8_queueFree_48 : decode cX8_queueFree 48 = .ok (.if_icmp .eq 7, 3) := by decide +kernel
theorem dX8_queueFree_51 : decode cX8_queueFree 51 = .ok (.iconst 1, 1) := by decide +kernel
theorem dX8_queueFree_52 : decode cX8_queueFree 52 = .ok (.goto 4, 3) := by decide +kernel
theorem dX8_queueFree_55 : decode cX8_queueFree 55 = .ok (.iconst 0, 1) := by decide +kernel
theorem dX8_queueFree_56 : decode cX8_queueFree 56 = .ok (.iadd, 1) := by decide +kernel
theorem dX8_queueFree_57 : decode cX8_queueFree 57 = .ok (.iastore, 1) := by decide +kernel
theorem dX8_queueFree_58 : decode cX8_queueFree 58 = .ok (.aload_n 0, 1) := by decide +kernel
theorem dX8_queueFree_59 : decode cX8_queueFree 59 = .ok (.getfield 30, 3) := by decide +kernel
theorem dX8_queueFree_62 : decode cX8_queueFree 62 = .ok (.iload_n 2, 1) := by decide +kernel
theorem dX8_queueFree_63 : decode cX8_queueFree 63 = .ok (.iaload, 1) := by decide +kernel
theorem dX8_queueFree_64 : decode cX8_queueFree 64 = .ok (.ifCond .ne 23, 3) := by decide +kernel
theorem dX8_queueFree_67 : decode cX8_queueFree 67 = .ok (.aload_n 0, 1) := by decide +kernel
theorem dX8_queueFree_68 : decode cX8_queueFree 68 = .ok (.getfield 33, 3) := by decide +kernel
theorem dX8_queueFree_71 : decode cX8_queueFree 71 = .ok (.aload_n 0, 1) := by decide +kernel
theorem dX8_queueFree_72 : decode cX8_queueFree 72 = .ok (.getfield 36, 3) := by decide +kernel
theorem dX8_queueFree_75 : decode cX8_queueFree 75 = .ok (.iload_n 2, 1) := by decide +kernel
theorem dX8_queueFree_76 : decode cX8_queueFree 76 = .ok (.iastore, 1) := by decide +kernel
theorem dX8_queueFree_77 : decode cX8_queueFree 77 = .ok (.aload_n 0, 1) := by decide +kernel
theorem dX8_queueFree_78 : decode cX8_queueFree 78 = .ok (.dup, 1) := by decide +kernel
theorem dX8_queueFree_79 : decode cX8_queueFree 79 = .ok (.getfield 36, 3) := by decide +kernel
theorem dX8_queueFree_82 : decode cX8_queueFree 82 = .ok (.iconst 1, 1) := by decide +kernel
theorem dX8_queueFree_83 : decode cX8_queueFree 83 = .ok (.iadd, 1) := by decide +kernel
theorem dX8_queueFree_84 : decode cX8_queueFree 84 = .ok (.putfield 36, 3) := by decide +kernel
theorem dX8_queueFree_87 : decode cX8_queueFree 87 = .ok (.iinc 2 1, 3) := by decide +kernel
theorem dX8_queueFree_90 : decode cX8_queueFree 90 = .ok (.goto (-83), 3) := by decide +kernel
theorem dX8_queueFree_93 : decode cX8_queueFree 93 = .ok (.return_, 1) := by decide +kernel
theorem dX8_release_0 : decode cX8_release 0 = .ok (.iload_n 1, 1) := by decide +kernel
theorem dX8_release_1 : decode cX8_release 1 = .ok (.iconst (-1), 1) := by decide +kernel
theorem dX8_release_2 : decode cX8_release 2 = .ok (.if_icmp .ne 4, 3) := by decide +kernel
theorem dX8_release_5 : decode cX8_release 5 = .ok (.return_, 1) := by decide +kernel
theorem dX8_release_6 : decode cX8_release 6 = .ok (.aload_n 0, 1) := by decide +kernel
theorem dX8_release_7 : decode cX8_release 7 = .ok (.getfield 21, 3) := by decide +kernel
theorem dX8_release_10 : decode cX8_release 10 = .ok (.iload_n 1, 1) := by decide +kernel
theorem dX8_release_11 : decode cX8_release 11 = .ok (.aload_n 0, 1) := by decide +kernel
theorem dX8_release_12 : decode cX8_release 12 = .ok (.getfield 21, 3) := by decide +kernel
theorem dX8_release_15 : decode cX8_release 15 = .ok (.iload_n 1, 1) := by decide +kernel
theorem dX8_release_16 : decode cX8_release 16 = .ok (.iaload, 1) := by decide +kernel
theorem dX8_release_17 : decode cX8_release 17 = .ok (.iload_n 2, 1) := by decide +kernel
theorem dX8_release_18 : decode cX8_release 18 = .ok (.invokestatic 63, 3) := by decide +kernel
theorem dX8_release_21 : decode cX8_release 21 = .ok (.iastore, 1) := by decide +kernel
theorem dX8_release_22 : decode cX8_release 22 = .ok (.aload_n 0, 1) := by decide +kernel
theorem dX8_release_23 : decode cX8_release 23 = .ok (.getfield 30, 3) := by decide +kernel
theorem dX8_release_26 : decode cX8_release 26 = .ok (.iload_n 1, 1) := by decide +kernel
theorem dX8_release_27 : decode cX8_release 27 = .ok (.dup2, 1) := by decide +kernel
theorem dX8_release_28 : decode cX8_release 28 = .ok (.iaload, 1) := by decide +kernel
theorem dX8_release_29 : decode cX8_release 29 = .ok (.iconst 1, 1) := by decide +kernel
theorem dX8_release_30 : decode cX8_release 30 = .ok (.isub, 1) := by decide +kernel
theorem dX8_release_31 : decode cX8_release 31 = .ok (.iastore, 1) := by decide +kernel
theorem dX8_release_32 : decode cX8_release 32 = .ok (.aload_n 0, 1) := by decide +kernel
theorem dX8_release_33 : decode cX8_release 33 = .ok (.getfield 30, 3) := by decide +kernel
theorem dX8_release_36 : decode cX8_release 36 = .ok (.iload_n 1, 1) := by decide +kernel
theorem dX8_release_37 : decode cX8_release 37 = .ok (.iaload, 1) := by decide +kernel
theorem dX8_release_38 : decode cX8_release 38 = .ok (.ifCond .ne 32, 3) := by decide +kernel
theorem dX8_release_41 : decode cX8_release 41 = .ok (.aload_n 0, 1) := by decide +kernel
theorem dX8_release_42 : decode cX8_release 42 = .ok (.getfield 36, 3) := by decide +kernel
theorem dX8_release_45 : decode cX8_release 45 = .ok (.bipush 24, 2) := by decide +kernel
theorem dX8_release_47 : decode cX8_release 47 = .ok (.if_icmp .ge 23, 3) := by decide +kernel
theorem dX8_release_50 : decode cX8_release 50 = .ok (.aload_n 0, 1) := by decide +kernel
theorem dX8_release_51 : decode cX8_release 51 = .ok (.getfield 33, 3) := by decide +kernel
theorem dX8_release_54 : decode cX8_release 54 = .ok (.aload_n 0, 1) := by decide +kernel
theorem dX8_release_55 : decode cX8_release 55 = .ok (.getfield 36, 3) := by decide +kernel
theorem dX8_release_58 : decode cX8_release 58 = .ok (.iload_n 1, 1) := by decide +kernel
theorem dX8_release_59 : decode cX8_release 59 = .ok (.iastore, 1) := by decide +kernel
theorem dX8_release_60 : decode cX8_release 60 = .ok (.aload_n 0, 1) := by decide +kernel
theorem dX8_release_61 : decode cX8_release 61 = .ok (.dup, 1) := by decide +kernel
theorem dX8_release_62 : decode cX8_release 62 = .ok (.getfield 36, 3) := by decide +kernel
theorem dX8_release_65 : decode cX8_release 65 = .ok (.iconst 1, 1) := by decide +kernel
theorem dX8_release_66 : decode cX8_release 66 = .ok (.iadd, 1) := by decide +kernel
theorem dX8_release_67 : decode cX8_release 67 = .ok (.putfield 36, 3) := by decide +kernel
theorem dX8_release_70 : decode cX8_release 70 = .ok (.return_, 1) := by decide +kernel
theorem dX8_layTails_0 : decode cX8_layTails 0 = .ok (.aload_n 1, 1) := by decide +kernel
theorem dX8_layTails_1 : decode cX8_layTails 1 = .ok (.getfield 55, 3) := by decide +kernel
theorem dX8_layTails_4 : decode cX8_layTails 4 = .ok (.iconst 1, 1) := by decide +kernel
theorem dX8_layTails_5 : decode cX8_layTails 5 = .ok (.isub, 1) := by decide +kernel
theorem dX8_layTails_6 : decode cX8_layTails 6 = .ok (.istore_n 2, 1) := by decide +kernel
theorem dX8_layTails_7 : decode cX8_layTails 7 = .ok (.iload_n 2, 1) := by decide +kernel
theorem dX8_layTails_8 : decode cX8_layTails 8 = .ok (.ifCond .lt 77, 3) := by decide +kernel
theorem dX8_layTails_11 : decode cX8_layTails 11 = .ok (.aload_n 0, 1) := by decide +kernel
theorem dX8_layTails_12 : decode cX8_layTails 12 = .ok (.getfield 33, 3) := by decide +kernel
theorem dX8_layTails_15 : decode cX8_layTails 15 = .ok (.iload_n 2, 1) := by decide +kernel
theorem dX8_layTails_16 : decode cX8_layTails 16 = .ok (.iaload, 1) := by decide +kernel
theorem dX8_layTails_17 : decode cX8_layTails 17 = .ok (.istore_n 3, 1) := by decide +kernel
theorem dX8_layTails_18 : decode cX8_layTails 18 = .ok (.aload_n 0, 1) := by decide +kernel
theorem dX8_layTails_19 : decode cX8_layTails 19 = .ok (.getfield 24, 3) := by decide +kernel
theorem dX8_layTails_22 : decode cX8_layTails 22 = .ok (.iload_n 3, 1) := by decide +kernel
theorem dX8_layTails_23 : decode cX8_layTails 23 = .ok (.aload_n 0, 1) := by decide +kernel
theorem dX8_layTails_24 : decode cX8_layTails 24 = .ok (.aload_n 1, 1) := by decide +kernel
theorem dX8_layTails_25 : decode cX8_layTails 25 = .ok (.aload_n 1, 1) := by decide +kernel
theorem dX8_layTails_26 : decode cX8_layTails 26 = .ok (.iload_n 3, 1) := by decide +kernel
theorem dX8_layTails_27 : decode cX8_layTails 27 = .ok (.invokevirtual 69, 3) := by decide +kernel
theorem dX8_layTails_30 : decode cX8_layTails 30 = .ok (.invokevirtual 83, 3) := by decide +kernel
theorem dX8_layTails_33 : decode cX8_layTails 33 = .ok (.aload_n 0, 1) := by decide +kernel
theorem dX8_layTails_34 : decode cX8_layTails 34 = .ok (.aload_n 1, 1) := by decide +kernel
theorem dX8_layTails_35 : decode cX8_layTails 35 = .ok (.aload_n 0, 1) := by decide +kernel
theorem dX8_layTails_36 : decode cX8_layTails 36 = .ok (.getfield 18, 3) := by decide +kernel
theorem dX8_layTails_39 : decode cX8_layTails 39 = .ok (.iload_n 3, 1) := by decide +kernel
theorem dX8_layTails_40 : decode cX8_layTails 40 = .ok (.iaload, 1) := by decide +kernel
theorem dX8_layTails_41 : decode cX8_layTails 41 = .ok (.invokevirtual 83, 3) := by decide +kernel
theorem dX8_layTails_44 : decode cX8_layTails 44 = .ok (.invokestatic 63, 3) := by decide +kernel
theorem dX8_layTails_47 : decode cX8_layTails 47 = .ok (.iastore, 1) := by decide +kernel
theorem dX8_layTails_48 : decode cX8_layTails 48 = .ok (.aload_n 0, 1) := by decide +kernel
theorem dX8_layTails_49 : decode cX8_layTails 49 = .ok (.getfield 27, 3) := by decide +kernel
theorem dX8_layTails_52 : decode cX8_layTails 52 = .ok (.iload_n 3, 1) := by decide +kernel
theorem dX8_layTails_53 : decode cX8_layTails 53 = .ok (.aload_n 0, 1) := by decide +kernel
theorem dX8_layTails_54 : decode cX8_layTails 54 = .ok (.getfield 40, 3) := by decide +kernel
theorem dX8_layTails_57 : decode cX8_layTails 57 = .ok (.aload_n 0, 1) := by decide +kernel
theorem dX8_layTails_58 : decode cX8_layTails 58 = .ok (.getfield 21, 3) := by decide +kernel
theorem dX8_layTails_61 : decode cX8_layTails 61 = .ok (.iload_n 3, 1) := by decide +kernel
theorem dX8_layTails_62 : decode cX8_layTails 62 = .ok (.iaload, 1) := by decide +kernel
theorem dX8_layTails_63 : decode cX8_layTails 63 = .ok (.isub, 1) := by decide +kernel
theorem dX8_layTails_64 : decode cX8_layTails 64 = .ok (.aload_n 1, 1) := by decide +kernel
theorem dX8_layTails_65 : decode cX8_layTails 65 = .ok (.getfield 60, 3) := by decide +kernel
theorem dX8_layTails_68 : decode cX8_layTails 68 = .ok (.iload_n 3, 1) := by decide +kernel
theorem dX8_layTails_69 : decode cX8_layTails 69 = .ok (.iaload, 1) := by decide +kernel
theorem dX8_layTails_70 : decode cX8_layTails 70 = .ok (.isub, 1) := by decide +kernel
theorem dX8_layTails_71 : decode cX8_layTails 71 = .ok (.aload_n 0, 1) := by decide +kernel
theorem dX8_layTails_72 : decode cX8_layTails 72 = .ok (.getfield 24, 3) := by decide +kernel
theorem dX8_layTails_75 : decode cX8_layTails 75 = .ok (.iload_n 3, 1) := by decide +kernel
theorem dX8_layTails_76 : decode cX8_layTails 76 = .ok (.iaload, 1) := by decide +kernel
theorem dX8_layTails_77 : decode cX8_layTails 77 = .ok (.isub, 1) := by decide +kernel
theorem dX8_layTails_78 : decode cX8_layTails 78 = .ok (.iastore, 1) := by decide +kernel
theorem dX8_layTails_79 : decode cX8_layTails 79 = .ok (.iinc 2 (-1), 3) := by decide +kernel
theorem dX8_layTails_82 : decode cX8_layTails 82 = .ok (.goto (-75), 3) := by decide +kernel
theorem dX8_layTails_85 : decode cX8_layTails 85 = .ok (.return_, 1) := by decide +kernel
theorem dX8_toCome_0 : decode cX8_toCome 0 = .ok (.iload_n 2, 1) := by decide +kernel
theorem dX8_toCome_1 : decode cX8_toCome 1 = .ok (.iconst (-1), 1) := by decide +kernel
theorem dX8_toCome_2 : decode cX8_toCome 2 = .ok (.if_icmp .ne 7, 3) := by decide +kernel
theorem dX8_toCome_5 : decode cX8_toCome 5 = .ok (.iconst 0, 1) := by decide +kernel
theorem dX8_toCome_6 : decode cX8_toCome 6 = .ok (.goto 16, 3) := by decide +kernel
theorem dX8_toCome_9 : decode cX8_toCome 9 = .ok (.aload_n 1, 1) := by decide +kernel
theorem dX8_toCome_10 : decode cX8_toCome 10 = .ok (.getfield 60, 3) := by decide +kernel
theorem dX8_toCome_13 : decode cX8_toCome 13 = .ok (.iload_n 2, 1) := by decide +kernel
theorem dX8_toCome_14 : decode cX8_toCome 14 = .ok (.iaload, 1) := by decide +kernel
theorem dX8_toCome_15 : decode cX8_toCome 15 = .ok (.aload_n 0, 1) := by decide +kernel
theorem dX8_toCome_16 : decode cX8_toCome 16 = .ok (.getfield 24, 3) := by decide +kernel
theorem dX8_toCome_19 : decode cX8_toCome 19 = .ok (.iload_n 2, 1) := by decide +kernel
theorem dX8_toCome_20 : decode cX8_toCome 20 = .ok (.iaload, 1) := by decide +kernel
theorem dX8_toCome_21 : decode cX8_toCome 21 = .ok (.iadd, 1) := by decide +kernel
theorem dX8_toCome_22 : decode cX8_toCome 22 = .ok (.ireturn, 1) := by decide +kernel
theorem dX8_endOf_0 : decode cX8_endOf 0 = .ok (.iload_n 2, 1) := by decide +kernel
theorem dX8_endOf_1 : decode cX8_endOf 1 = .ok (.iconst (-1), 1) := by decide +kernel
theorem dX8_endOf_2 : decode cX8_endOf 2 = .ok (.if_icmp .ne 7, 3) := by decide +kernel
theorem dX8_endOf_5 : decode cX8_endOf 5 = .ok (.iconst 0, 1) := by decide +kernel
theorem dX8_endOf_6 : decode cX8_endOf 6 = .ok (.goto 16, 3) := by decide +kernel
theorem dX8_endOf_9 : decode cX8_endOf 9 = .ok (.aload_n 0, 1) := by decide +kernel
theorem dX8_endOf_10 : decode cX8_endOf 10 = .ok (.getfield 21, 3) := by decide +kernel
theorem dX8_endOf_13 : decode cX8_endOf 13 = .ok (.iload_n 2, 1) := by decide +kernel
theorem dX8_endOf_14 : decode cX8_endOf 14 = .ok (.iaload, 1) := by decide +kernel
theorem dX8_endOf_15 : decode cX8_endOf 15 = .ok (.aload_n 1, 1) := by decide +kernel
theorem dX8_endOf_16 : decode cX8_endOf 16 = .ok (.getfield 60, 3) := by decide +kernel
theorem dX8_endOf_19 : decode cX8_endOf 19 = .ok (.iload_n 2, 1) := by decide +kernel
theorem dX8_endOf_20 : decode cX8_endOf 20 = .ok (.iaload, 1) := by decide +kernel
theorem dX8_endOf_21 : decode cX8_endOf 21 = .ok (.iadd, 1) := by decide +kernel
theorem dX8_endOf_22 : decode cX8_endOf 22 = .ok (.ireturn, 1) := by decide +kernel
theorem dX8_atLeast_0 : decode cX8_atLeast 0 = .ok (.aload_n 0, 1) := by decide +kernel
theorem dX8_atLeast_1 : decode cX8_atLeast 1 = .ok (.aload_n 1, 1) := by decide +kernel
theorem dX8_atLeast_2 : decode cX8_atLeast 2 = .ok (.aload_n 1, 1) := by decide +kernel
theorem dX8_atLeast_3 : decode cX8_atLeast 3 = .ok (.iload_n 3, 1) := by decide +kernel
theorem dX8_atLeast_4 : decode cX8_atLeast 4 = .ok (.invokevirtual 80, 3) := by decide +kernel
theorem dX8_atLeast_7 : decode cX8_atLeast 7 = .ok (.invokevirtual 87, 3) := by decide +kernel
theorem dX8_atLeast_10 : decode cX8_atLeast 10 = .ok (.aload_n 0, 1) := by decide +kernel
theorem dX8_atLeast_11 : decode cX8_atLeast 11 = .ok (.aload_n 1, 1) := by decide +kernel
theorem dX8_atLeast_12 : decode cX8_atLeast 12 = .ok (.aload_n 0, 1) := by decide +kernel
theorem dX8_atLeast_13 : decode cX8_atLeast 13 = .ok (.getfield 15, 3) := by decide +kernel
theorem dX8_atLeast_16 : decode cX8_atLeast 16 = .ok (.iload_n 2, 1) := by decide +kernel
theorem dX8_atLeast_17 : decode cX8_atLeast 17 = .ok (.iaload, 1) := by decide +kernel
theorem dX8_atLeast_18 : decode cX8_atLeast 18 = .ok (.invokevirtual 87, 3) := by decide +kernel
theorem dX8_atLeast_21 : decode cX8_atLeast 21 = .ok (.invokestatic 63, 3) := by decide +kernel
theorem dX8_atLeast_24 : decode cX8_atLeast 24 = .ok (.istore 4, 2) := by decide +kernel
theorem dX8_atLeast_26 : decode cX8_atLeast 26 = .ok (.iload 4, 2) := by decide +kernel
theorem dX8_atLeast_28 : decode cX8_atLeast 28 = .ok (.aload_n 1, 1) := by decide +kernel
theorem dX8_atLeast_29 : decode cX8_atLeast 29 = .ok (.getfield 60, 3) := by decide +kernel
theorem dX8_atLeast_32 : decode cX8_atLeast 32 = .ok (.iload_n 3, 1) := by decide +kernel
theorem dX8_atLeast_33 : decode cX8_atLeast 33 = .ok (.iaload, 1) := by decide +kernel
theorem dX8_atLeast_34 : decode cX8_atLeast 34 = .ok (.iadd, 1) := by decide +kernel
theorem dX8_atLeast_35 : decode cX8_atLeast 35 = .ok (.aload_n 0, 1) := by decide +kernel
theorem dX8_atLeast_36 : decode cX8_atLeast 36 = .ok (.aload_n 1, 1) := by decide +kernel
theorem dX8_atLeast_37 : decode cX8_atLeast 37 = .ok (.aload_n 1, 1) := by decide +kernel
theorem dX8_atLeast_38 : decode cX8_atLeast 38 = .ok (.iload_n 2, 1) := by decide +kernel
theorem dX8_atLeast_39 : decode cX8_atLeast 39 = .ok (.invokevirtual 80, 3) := by decide +kernel
theorem dX8_atLeast_42 : decode cX8_atLeast 42 = .ok (.invokevirtual 87, 3) := by decide +kernel
theorem dX8_atLeast_45 : decode cX8_atLeast 45 = .ok (.invokestatic 63, 3) := by decide +kernel
theorem dX8_atLeast_48 : decode cX8_atLeast 48 = .ok (.istore 5, 2) := by decide +kernel
theorem dX8_atLeast_50 : decode cX8_atLeast 50 = .ok (.aload_n 0, 1) := by decide +kernel
theorem dX8_atLeast_51 : decode cX8_atLeast 51 = .ok (.aload_n 1, 1) := by decide +kernel
theorem dX8_atLeast_52 : decode cX8_atLeast 52 = .ok (.aload_n 1, 1) := by decide +kernel
theorem dX8_atLeast_53 : decode cX8_atLeast 53 = .ok (.iload_n 2, 1) := by decide +kernel
theorem dX8_atLeast_54 : decode cX8_atLeast 54 = .ok (.invokevirtual 69, 3) := by decide +kernel
theorem dX8_atLeast_57 : decode cX8_atLeast 57 = .ok (.invokevirtual 83, 3) := by decide +kernel
theorem dX8_atLeast_60 : decode cX8_atLeast 60 = .ok (.aload_n 0, 1) := by decide +kernel
theorem dX8_atLeast_61 : decode cX8_atLeast 61 = .ok (.aload_n 1, 1) := by decide +kernel
theorem dX8_atLeast_62 : decode cX8_atLeast 62 = .ok (.aload_n 0, 1) := by decide +kernel
theorem dX8_atLeast_63 : decode cX8_atLeast 63 = .ok (.getfield 18, 3) := by decide +kernel
theorem dX8_atLeast_66 : decode cX8_atLeast 66 = .ok (.iload_n 3, 1) := by decide +kernel
theorem dX8_atLeast_67 : decode cX8_atLeast 67 = .ok (.iaload, 1) := by decide +kernel
theorem dX8_atLeast_68 : decode cX8_atLeast 68 = .ok (.invokevirtual 83, 3) := by decide +kernel
theorem dX8_atLeast_71 : decode cX8_atLeast 71 = .ok (.invokestatic 63, 3) := by decide +kernel
theorem dX8_atLeast_74 : decode cX8_atLeast 74 = .ok (.istore 6, 2) := by decide +kernel
theorem dX8_atLeast_76 : decode cX8_atLeast 76 = .ok (.aload_n 0, 1) := by decide +kernel
theorem dX8_atLeast_77 : decode cX8_atLeast 77 = .ok (.aload_n 1, 1) := by decide +kernel
theorem dX8_atLeast_78 : decode cX8_atLeast 78 = .ok (.aload_n 1, 1) := by decide +kernel
theorem dX8_atLeast_79 : decode cX8_atLeast 79 = .ok (.iload_n 3, 1) := by decide +kernel
theorem dX8_atLeast_80 : decode cX8_atLeast 80 = .ok (.invokevirtual 69, 3) := by decide +kernel
theorem dX8_atLeast_83 : decode cX8_atLeast 83 = .ok (.invokevirtual 83, 3) := by decide +kernel
theorem dX8_atLeast_86 : decode cX8_atLeast 86 = .ok (.aload_n 1, 1) := by decide +kernel
theorem dX8_atLeast_87 : decode cX8_atLeast 87 = .ok (.getfield 60, 3) := by decide +kernel
theorem dX8_atLeast_90 : decode cX8_atLeast 90 = .ok (.iload_n 2, 1) := by decide +kernel
theorem dX8_atLeast_91 : decode cX8_atLeast 91 = .ok (.iaload, 1) := by decide +kernel
theorem dX8_atLeast_92 : decode cX8_atLeast 92 = .ok (.iload 6, 2) := by decide +kernel
theorem dX8_atLeast_94 : decode cX8_atLeast 94 = .ok (.iadd, 1) := by decide +kernel
theorem dX8_atLeast_95 : decode cX8_atLeast 95 = .ok (.invokestatic 63, 3) := by decide +kernel
theorem dX8_atLeast_98 : decode cX8_atLeast 98 = .ok (.istore 7, 2) := by decide +kernel
theorem dX8_atLeast_100 : decode cX8_atLeast 100 = .ok (.iload 5, 2) := by decide +kernel
theorem dX8_atLeast_102 : decode cX8_atLeast 102 = .ok (.aload_n 1, 1) := by decide +kernel
theorem dX8_atLeast_103 : decode cX8_atLeast 103 = .ok (.getfield 60, 3) := by decide +kernel
theorem dX8_atLeast_106 : decode cX8_atLeast 106 = .ok (.iload_n 2, 1) := by decide +kernel
theorem dX8_atLeast_107 : decode cX8_atLeast 107 = .ok (.iaload, 1) := by decide +kernel
theorem dX8_atLeast_108 : decode cX8_atLeast 108 = .ok (.iadd, 1) := by decide +kernel
theorem dX8_atLeast_109 : decode cX8_atLeast 109 = .ok (.iload 6, 2) := by decide +kernel
theorem dX8_atLeast_111 : decode cX8_atLeast 111 = .ok (.iadd, 1) := by decide +kernel
theorem dX8_atLeast_112 : decode cX8_atLeast 112 = .ok (.iload 4, 2) := by decide +kernel
theorem dX8_atLeast_114 : decode cX8_atLeast 114 = .ok (.aload_n 1, 1) := by decide +kernel
theorem dX8_atLeast_115 : decode cX8_atLeast 115 = .ok (.getfield 60, 3) := by decide +kernel
theorem dX8_atLeast_118 : decode cX8_atLeast 118 = .ok (.iload_n 3, 1) := by decide +kernel
theorem dX8_atLeast_119 : decode cX8_atLeast 119 = .ok (.iaload, 1) := by decide +kernel
theorem dX8_atLeast_120 : decode cX8_atLeast 120 = .ok (.iadd, 1) := by decide +kernel
theorem dX8_atLeast_121 : decode cX8_atLeast 121 = .ok (.iload 7, 2) := by decide +kernel
theorem dX8_atLeast_123 : decode cX8_atLeast 123 = .ok (.iadd, 1) := by decide +kernel
theorem dX8_atLeast_124 : decode cX8_atLeast 124 = .ok (.invokestatic 63, 3) := by decide +kernel
theorem dX8_atLeast_127 : decode cX8_atLeast 127 = .ok (.ireturn, 1) := by decide +kernel
theorem dX9_init_0 : decode cX9_init 0 = .ok (.aload_n 0, 1) := by decide +kernel
theorem dX9_init_1 : decode cX9_init 1 = .ok (.invokespecial 1, 3) := by decide +kernel
theorem dX9_init_4 : decode cX9_init 4 = .ok (.aload_n 0, 1) := by decide +kernel
theorem dX9_init_5 : decode cX9_init 5 = .ok (.new 7, 3) := by decide +kernel
theorem dX9_init_8 : decode cX9_init 8 = .ok (.dup, 1) := by decide +kernel
theorem dX9_init_9 : decode cX9_init 9 = .ok (.invokespecial 9, 3) := by decide +kernel
theorem dX9_init_12 : decode cX9_init 12 = .ok (.putfield 10, 3) := by decide +kernel
theorem dX9_init_15 : decode cX9_init 15 = .ok (.aload_n 0, 1) := by decide +kernel
theorem dX9_init_16 : decode cX9_init 16 = .ok (.new 16, 3) := by decide +kernel
theorem dX9_init_19 : decode cX9_init 19 = .ok (.dup, 1) := by decide +kernel
theorem dX9_init_20 : decode cX9_init 20 = .ok (.invokespecial 18, 3) := by decide +kernel
theorem dX9_init_23 : decode cX9_init 23 = .ok (.putfield 19, 3) := by decide +kernel
theorem dX9_init_26 : decode cX9_init 26 = .ok (.aload_n 0, 1) := by decide +kernel
theorem dX9_init_27 : decode cX9_init 27 = .ok (.new 16, 3) := by decide +kernel
theorem dX9_init_30 : decode cX9_init 30 = .ok (.dup, 1) := by decide +kernel
theorem dX9_init_31 : decode cX9_init 31 = .ok (.invokespecial 18, 3) := by decide +kernel
theorem dX9_init_34 : decode cX9_init 34 = .ok (.putfield 23, 3) := by decide +kernel
theorem dX9_init_37 : decode cX9_init 37 = .ok (.aload_n 0, 1) := by decide +kernel
theorem dX9_init_38 : decode cX9_init 38 = .ok (.bipush 24, 2) := by decide +kernel
theorem dX9_init_40 : decode cX9_init 40 = .ok (.newarray .int, 2) := by decide +kernel
theorem dX9_init_42 : decode cX9_init 42 = .ok (.putfield 26, 3) := by decide +kernel
theorem dX9_init_45 : decode cX9_init 45 = .ok (.aload_n 0, 1) := by decide +kernel
theorem dX9_init_46 : decode cX9_init 46 = .ok (.new 30, 3) := by decide +kernel
theorem dX9_init_49 : decode cX9_init 49 = .ok (.dup, 1) := by decide +kernel
theorem dX9_init_50 : decode cX9_init 50 = .ok (.invokespecial 32, 3) := by decide +kernel
theorem dX9_init_53 : decode cX9_init 53 = .ok (.putfield 33, 3) := by decide +kernel
theorem dX9_init_56 : decode cX9_init 56 = .ok (.aload_n 0, 1) := by decide +kernel
theorem dX9_init_57 : decode cX9_init 57 = .ok (.new 30, 3) := by decide +kernel
theorem dX9_init_60 : decode cX9_init 60 = .ok (.dup, 1) := by decide +kernel
theorem dX9_init_61 : decode cX9_init 61 = .ok (.invokespecial 32, 3) := by decide +kernel
theorem dX9_init_64 : decode cX9_init 64 = .ok (.putfield 37, 3) := by decide +kernel
theorem dX9_init_67 : decode cX9_init 67 = .ok (.aload_n 0, 1) := by decide +kernel
theorem dX9_init_68 : decode cX9_init 68 = .ok (.new 40, 3) := by decide +kernel
theorem dX9_init_71 : decode cX9_init 71 = .ok (.dup, 1) := by decide +kernel
theorem dX9_init_72 : decode cX9_init 72 = .ok (.invokespecial 42, 3) := by decide +kernel
theorem dX9_init_75 : decode cX9_init 75 = .ok (.putfield 43, 3) := by decide +kernel
theorem dX9_init_78 : decode cX9_init 78 = .ok (.aload_n 0, 1) := by decide +kernel
theorem dX9_init_79 : decode cX9_init 79 = .ok (.new 47, 3) := by decide +kernel
theorem dX9_init_82 : decode cX9_init 82 = .ok (.dup, 1) := by decide +kernel
theorem dX9_init_83 : decode cX9_init 83 = .ok (.invokespecial 49, 3) := by decide +kernel
theorem dX9_init_86 : decode cX9_init 86 = .ok (.putfield 50, 3) := by decide +kernel
theorem dX9_init_89 : decode cX9_init 89 = .ok (.aload_n 0, 1) := by decide +kernel
theorem dX9_init_90 : decode cX9_init 90 = .ok (.new 54, 3) := by decide +kernel
theorem dX9_init_93 : decode cX9_init 93 = .ok (.dup, 1) := by decide +kernel
theorem dX9_init_94 : decode cX9_init 94 = .ok (.invokespecial 56, 3) := by decide +kernel
theorem dX9_init_97 : decode cX9_init 97 = .ok (.putfield 57, 3) := by decide +kernel
theorem dX9_init_100 : decode cX9_init 100 = .ok (.aload_n 0, 1) := by decide +kernel
theorem dX9_init_101 : decode cX9_init 101 = .ok (.new 61, 3) := by decide +kernel
theorem dX9_init_104 : decode cX9_init 104 = .ok (.dup, 1) := by decide +kernel
theorem dX9_init_105 : decode cX9_init 105 = .ok (.invokespecial 63, 3) := by decide +kernel
theorem dX9_init_108 : decode cX9_init 108 = .ok (.putfield 64, 3) := by decide +kernel
theorem dX9_init_111 : decode cX9_init 111 = .ok (.aload_n 0, 1) := by decide +kernel
theorem dX9_init_112 : decode cX9_init 112 = .ok (.new 68, 3) := by decide +kernel
theorem dX9_init_115 : decode cX9_init 115 = .ok (.dup, 1) := by decide +kernel
theorem dX9_init_116 : decode cX9_init 116 = .ok (.invokespecial 70, 3) := by decide +kernel
theorem dX9_init_119 : decode cX9_init 119 = .ok (.putfield 71, 3) := by decide +kernel
theorem dX9_init_122 : decode cX9_init 122 = .ok (.aload_n 0, 1) := by decide +kernel
theorem dX9_init_123 : decode cX9_init 123 = .ok (.new 75, 3) := by decide +kernel
theorem dX9_init_126 : decode cX9_init 126 = .ok (.dup, 1) := by decide +kernel
theorem dX9_init_127 : decode cX9_init 127 = .ok (.invokespecial 77, 3) := by decide +kernel
theorem dX9_init_130 : decode cX9_init 130 = .ok (.putfield 78, 3) := by decide +kernel
theorem dX9_init_133 : decode cX9_init 133 = .ok (.aload_n 0, 1) := by decide +kernel
theorem dX9_init_134 : decode cX9_init 134 = .ok (.new 16, 3) := by decide +kernel
theorem dX9_init_137 : decode cX9_init 137 = .ok (.dup, 1) := by decide +kernel
theorem dX9_init_138 : decode cX9_init 138 = .ok (.invokespecial 18, 3) := by decide +kernel
theorem dX9_init_141 : decode cX9_init 141 = .ok (.putfield 82, 3) := by decide +kernel
theorem dX9_init_144 : decode cX9_init 144 = .ok (.aload_n 0, 1) := by decide +kernel
theorem dX9_init_145 : decode cX9_init 145 = .ok (.bipush 24, 2) := by decide +kernel
theorem dX9_init_147 : decode cX9_init 147 = .ok (.newarray .int, 2) := by decide +kernel
theorem dX9_init_149 : decode cX9_init 149 = .ok (.putfield 85, 3) := by decide +kernel
theorem dX9_init_152 : decode cX9_init 152 = .ok (.aload_n 0, 1) := by decide +kernel
theorem dX9_init_153 : decode cX9_init 153 = .ok (.bipush 24, 2) := by decide +kernel
theorem dX9_init_155 : decode cX9_init 155 = .ok (.newarray .int, 2) := by decide +kernel
theorem dX9_init_157 : decode cX9_init 157 = .ok (.putfield 88, 3) := by decide +kernel
theorem dX9_init_160 : decode cX9_init 160 = .ok (.aload_n 0, 1) := by decide +kernel
theorem dX9_init_161 : decode cX9_init 161 = .ok (.iconst (-1), 1) := by decide +kernel
theorem dX9_init_162 : decode cX9_init 162 = .ok (.putfield 91, 3) := by decide +kernel
theorem dX9_init_165 : decode cX9_init 165 = .ok (.aload_n 0, 1) := by decide +kernel
theorem dX9_init_166 : decode cX9_init 166 = .ok (.iconst 0, 1) := by decide +kernel
theorem dX9_init_167 : decode cX9_init 167 = .ok (.putfield 95, 3) := by decide +kernel
theorem dX9_init_170 : decode cX9_init 170 = .ok (.return_, 1) := by decide +kernel
theorem dX9_feed_0 : decode cX9_feed 0 = .ok (.iload_n 1, 1) := by decide +kernel
theorem dX9_feed_1 : decode cX9_feed 1 = .ok (.bipush 32, 2) := by decide +kernel
theorem dX9_feed_3 : decode cX9_feed 3 = .ok (.if_icmp .lt 9, 3) := by decide +kernel
theorem dX9_feed_6 : decode cX9_feed 6 = .ok (.iload_n 1, 1) := by decide +kernel
theorem dX9_feed_7 : decode cX9_feed 7 = .ok (.bipush 126, 2) := by decide +kernel
theorem dX9_feed_9 : decode cX9_feed 9 = .ok (.if_icmp .le 5, 3) := by decide +kernel
theorem dX9_feed_12 : decode cX9_feed 12 = .ok (.iconst (-1), 1) := by decide +kernel
theorem dX9_feed_13 : decode cX9_feed 13 = .ok (.ireturn, 1) := by decide +kernel
theorem dX9_feed_14 : decode cX9_feed 14 = .ok (.aload_n 0, 1) := by decide +kernel
theorem dX9_feed_15 : decode cX9_feed 15 = .ok (.getfield 10, 3) := by decide +kernel
theorem dX9_feed_18 : decode cX9_feed 18 = .ok (.getfield 98, 3) := by decide +kernel
theorem dX9_feed_21 : decode cX9_feed 21 = .ok (.sipush 140, 3) := by decide +kernel
theorem dX9_feed_24 : decode cX9_feed 24 = .ok (.if_icmp .lt 6, 3) := by decide +kernel
theorem dX9_feed_27 : decode cX9_feed 27 = .ok (.bipush (-3), 2) := by decide +kernel
theorem dX9_feed_29 : decode cX9_feed 29 = .ok (.ireturn, 1) := by decide +kernel
theorem dX9_feed_30 : decode cX9_feed 30 = .ok (.aload_n 0, 1) := by decide +kernel
theorem dX9_feed_31 : decode cX9_feed 31 = .ok (.getfield 10, 3) := by decide +kernel
theorem dX9_feed_34 : decode cX9_feed 34 = .ok (.iload_n 1, 1) := by decide +kernel
theorem dX9_feed_35 : decode cX9_feed 35 = .ok (.invokevirtual 101, 3) := by decide +kernel
theorem dX9_feed_38 : decode cX9_feed 38 = .ok (.aload_n 0, 1) := by decide +kernel
theorem dX9_feed_39 : decode cX9_feed 39 = .ok (.getfield 10, 3) := by decide +kernel
theorem dX9_feed_42 : decode cX9_feed 42 = .ok (.getfield 98, 3) := by decide +kernel
theorem dX9_feed_45 : decode cX9_feed 45 = .ok (.ireturn, 1) := by decide +kernel
theorem dX9_shop_0 : decode cX9_shop 0 = .ok (.aload_n 0, 1) := by decide +kernel
theorem dX9_shop_1 : decode cX9_shop 1 = .ok (.getfield 10, 3) := by decide +kernel
theorem dX9_shop_4 : decode cX9_shop 4 = .ok (.aload_n 0, 1) := by decide +kernel
theorem dX9_shop_5 : decode cX9_shop 5 = .ok (.getfield 23, 3) := by decide +kernel
theorem dX9_shop_8 : decode cX9_shop 8 = .ok (.invokevirtual 105, 3) := by decide +kernel
theorem dX9_shop_11 : decode cX9_shop 11 = .ok (.istore_n 1, 1) := by decide +kernel
theorem dX9_shop_12 : decode cX9_shop 12 = .ok (.aload_n 0, 1) := by decide +kernel
theorem dX9_shop_13 : decode cX9_shop 13 = .ok (.getfield 10, 3) := by decide +kernel
theorem dX9_shop_16 : decode cX9_shop 16 = .ok (.iconst 0, 1) := by decide +kernel
theorem dX9_shop_17 : decode cX9_shop 17 = .ok (.putfield 98, 3) := by decide +kernel
theorem dX9_shop_20 : decode cX9_shop 20 = .ok (.iload_n 1, 1) := by decide +kernel
theorem dX9_shop_21 : decode cX9_shop 21 = .ok (.iconst (-1), 1) := by decide +kernel
theorem dX9_shop_22 : decode cX9_shop 22 = .ok (.if_icmp .eq 8, 3) := by decide +kernel
theorem dX9_shop_25 : decode cX9_shop 25 = .ok (.bipush (-100), 2) := by decide +kernel
theorem dX9_shop_27 : decode cX9_shop 27 = .ok (.iload_n 1, 1) := by decide +kernel
theorem dX9_shop_28 : decode cX9_shop 28 = .ok (.isub, 1) := by decide +kernel
theorem dX9_shop_29 : decode cX9_shop 29 = .ok (.ireturn, 1) := by decide +kernel
theorem dX9_shop_30 : decode cX9_shop 30 = .ok (.aload_n 0, 1) := by decide +kernel
theorem dX9_shop_31 : decode cX9_shop 31 = .ok (.getfield 19, 3) := by decide +kernel
theorem dX9_shop_34 : decode cX9_shop 34 = .ok (.aload_n 0, 1) := by decide +kernel
theorem dX9_shop_35 : decode cX9_shop 35 = .ok (.getfield 23, 3) := by decide +kernel
theorem dX9_shop_38 : decode cX9_shop 38 = .ok (.invokevirtual 109, 3) := by decide +kernel
theorem dX9_shop_41 : decode cX9_shop 41 = .ok (.aload_n 0, 1) := by decide +kernel
theorem dX9_shop_42 : decode cX9_shop 42 = .ok (.getfield 19, 3) := by decide +kernel
theorem dX9_shop_45 : decode cX9_shop 45 = .ok (.aload_n 0, 1) := by decide +kernel
theorem dX9_shop_46 : decode cX9_shop 46 = .ok (.getfield 26, 3) := by decide +kernel
theorem dX9_shop_49 : decode cX9_shop 49 = .ok (.invokevirtual 113, 3) := by decide +kernel
theorem dX9_shop_52 : decode cX9_shop 52 = .ok (.aload_n 0, 1) := by decide +kernel
theorem dX9_shop_53 : decode cX9_shop 53 = .ok (.invokevirtual 117, 3) := by decide +kernel
theorem dX9_shop_56 : decode cX9_shop 56 = .ok (.aload_n 0, 1) := by decide +kernel
theorem dX9_shop_57 : decode cX9_shop 57 = .ok (.getfield 19, 3) := by decide +kernel
theorem dX9_shop_60 : decode cX9_shop 60 = .ok (.getfield 120, 3) := by decide +kernel
theorem dX9_shop_63 : decode cX9_shop 63 = .ok (.ireturn, 1) := by decide +kernel
theorem dX9_task_0 : decode cX9_task 0 = .ok (.aload_n 0, 1) := by decide +kernel
theorem dX9_task_1 : decode cX9_task 1 = .ok (.iload_n 1, 1) := by decide +kernel
theorem dX9_task_2 : decode cX9_task 2 = .ok (.invokevirtual 123, 3) := by decide +kernel
theorem dX9_task_5 : decode cX9_task 5 = .ok (.ifCond .ne 12, 3) := by decide +kernel
theorem dX9_task_8 : decode cX9_task 8 = .ok (.iload_n 2, 1) := by decide +kernel
theorem dX9_task_9 : decode cX9_task 9 = .ok (.ifCond .lt 8, 3) := by decide +kernel
theorem dX9_task_12 : decode cX9_task 12 = .ok (.iload_n 2, 1) := by decide +kernel
theorem dX9_task_13 : decode cX9_task 13 = .ok (.iconst 4, 1) := by decide +kernel
theorem dX9_task_14 : decode cX9_task 14 = .ok (.if_icmp .le 5, 3) := by decide +kernel
theorem dX9_task_17 : decode cX9_task 17 = .ok (.iconst (-1), 1) := by decide +kernel
theorem dX9_task_18 : decode cX9_task 18 = .ok (.ireturn, 1) := by decide +kernel
theorem dX9_task_19 : decode cX9_task 19 = .ok (.iload_n 2, 1) := by decide +kernel
theorem dX9_task_20 : decode cX9_task 20 = .ok (.tableswitch 72 0 3 #[32, 42, 52, 62], 32) := by decide +kernel
theorem dX9_task_52 : decode cX9_task 52 = .ok (.aload_n 0, 1) := by decide +kernel
theorem dX9_task_53 : decode cX9_task 53 = .ok (.getfield 19, 3) := by decide +kernel
theorem dX9_task_56 : decode cX9_task 56 = .ok (.getfield 127, 3) := by decide +kernel
theorem dX9_task_59 : decode cX9_task 59 = .ok (.iload_n 1, 1) := by decide +kernel
theorem dX9_task_60 : decode cX9_task 60 = .ok (.iaload, 1) := by decide +kernel
theorem dX9_task_61 : decode cX9_task 61 = .ok (.ireturn, 1) := by decide +kernel
theorem dX9_task_62 : decode cX9_task 62 = .ok (.aload_n 0, 1) := by decide +kernel
theorem dX9_task_63 : decode cX9_task 63 = .ok (.getfield 19, 3) := by decide +kernel
theorem dX9_task_66 : decode cX9_task 66 = .ok (.getfield 130, 3) := by decide +kernel
theorem dX9_task_69 : decode cX9_task 69 = .ok (.iload_n 1, 1) := by decide +kernel
theorem dX9_task_70 : decode cX9_task 70 = .ok (.iaload, 1) := by decide +kernel
theorem dX9_task_71 : decode cX9_task 71 = .ok (.ireturn, 1) := by decide +kernel
theorem dX9_task_72 : decode cX9_task 72 = .ok (.aload_n 0, 1) := by decide +kernel
theorem dX9_task_73 : decode cX9_task 73 = .ok (.getfield 19, 3) := by decide +kernel
theorem dX9_task_76 : decode cX9_task 76 = .ok (.getfield 133, 3) := by decide +kernel
theorem dX9_task_79 : decode cX9_task 79 = .ok (.iload_n 1, 1) := by decide +kernel
theorem dX9_task_80 : decode cX9_task 80 = .ok (.iaload, 1) := by decide +kernel
theorem dX9_task_81 : decode cX9_task 81 = .ok (.ireturn, 1) := by decide +kernel
theorem dX9_task_82 : decode cX9_task 82 = .ok (.aload_n 0, 1) := by decide +kernel
theorem dX9_task_83 : decode cX9_task 83 = .ok (.getfield 19, 3) := by decide +kernel
theorem dX9_task_86 : decode cX9_task 86 = .ok (.getfield 136, 3) := by decide +kernel
theorem dX9_task_89 : decode cX9_task 89 = .ok (.iload_n 1, 1) := by decide +kernel
theorem dX9_task_90 : decode cX9_task 90 = .ok (.iaload, 1) := by decide +kernel
theorem dX9_task_91 : decode cX9_task 91 = .ok (.ireturn, 1) := by decide +kernel
theorem dX9_task_92 : decode cX9_task 92 = .ok (.aload_n 0, 1) := by decide +kernel
theorem dX9_task_93 : decode cX9_task 93 = .ok (.getfield 33, 3) := by decide +kernel
theorem dX9_task_96 : decode cX9_task 96 = .ok (.getfield 139, 3) := by decide +kernel
theorem dX9_task_99 : decode cX9_task 99 = .ok (.iload_n 1, 1) := by decide +kernel
theorem dX9_task_100 : decode cX9_task 100 = .ok (.iaload, 1) := by decide +kernel
theorem dX9_task_101 : decode cX9_task 101 = .ok (.ireturn, 1) := by decide +kernel
theorem dX9_order_0 : decode cX9_order 0 = .ok (.iload_n 1, 1) := by decide +kernel
theorem dX9_order_1 : decode cX9_order 1 = .ok (.invokestatic 142, 3) := by decide +kernel
theorem dX9_order_4 : decode cX9_order 4 = .ok (.ifCond .ne 8, 3) := by decide +kernel
theorem dX9_order_7 : decode cX9_order 7 = .ok (.iload_n 2, 1) := by decide +kernel
theorem dX9_order_8 : decode cX9_order 8 = .ok (.iconst (-1), 1) := by decide +kernel
theorem dX9_order_9 : decode cX9_order 9 = .ok (.if_icmp .ge 5, 3) := by decide +kernel
theorem dX9_order_12 : decode cX9_order 12 = .ok (.iconst (-1), 1) := by decide +kernel
theorem dX9_order_13 : decode cX9_order 13 = .ok (.ireturn, 1) := by decide +kernel
theorem dX9_order_14 : decode cX9_order 14 = .ok (.aload_n 0, 1) := by decide +kernel
theorem dX9_order_15 : decode cX9_order 15 = .ok (.invokevirtual 145, 3) := by decide +kernel
theorem dX9_order_18 : decode cX9_order 18 = .ok (.ifCond .eq 6, 3) := by decide +kernel
theorem dX9_order_21 : decode cX9_order 21 = .ok (.bipush (-5), 2) := by decide +kernel
theorem dX9_order_23 : decode cX9_order 23 = .ok (.ireturn, 1) := by decide +kernel
theorem dX9_order_24 : decode cX9_order 24 = .ok (.aload_n 0, 1) := by decide +kernel
theorem dX9_order_25 : decode cX9_order 25 = .ok (.getfield 19, 3) := by decide +kernel
theorem dX9_order_28 : decode cX9_order 28 = .ok (.iload_n 1, 1) := by decide +kernel
theorem dX9_order_29 : decode cX9_order 29 = .ok (.invokevirtual 149, 3) := by decide +kernel
theorem dX9_order_32 : decode cX9_order 32 = .ok (.istore_n 3, 1) := by decide +kernel
theorem dX9_order_33 : decode cX9_order 33 = .ok (.iload_n 2, 1) := by decide +kernel
theorem dX9_order_34 : decode cX9_order 34 = .ok (.iconst (-1), 1) := by decide +kernel
theorem dX9_order_35 : decode cX9_order 35 = .ok (.if_icmp .ne 5, 3) := by decide +kernel
theorem dX9_order_38 : decode cX9_order 38 = .ok (.iload_n 3, 1) := by decide +kernel
theorem dX9_order_39 : decode cX9_order 39 = .ok (.ireturn, 1) := by decide +kernel
theorem dX9_order_40 : decode cX9_order 40 = .ok (.iload_n 2, 1) := by decide +kernel
theorem dX9_order_41 : decode cX9_order 41 = .ok (.iload_n 3, 1) := by decide +kernel
theorem dX9_order_42 : decode cX9_order 42 = .ok (.if_icmp .ge 22, 3) := by decide +kernel
theorem dX9_order_45 : decode cX9_order 45 = .ok (.aload_n 0, 1) := by decide +kernel
theorem dX9_order_46 : decode cX9_order 46 = .ok (.getfield 26, 3) := by decide +kernel
theorem dX9_order_49 : decode cX9_order 49 = .ok (.aload_n 0, 1) := by decide +kernel
theorem dX9_order_50 : decode cX9_order 50 = .ok (.getfield 19, 3) := by decide +kernel
theorem dX9_order_53 : decode cX9_order 53 = .ok (.getfield 153, 3) := by decide +kernel
theorem dX9_order_56 : decode cX9_order 56 = .ok (.iload_n 1, 1) := by decide +kernel
theorem dX9_order_57 : decode cX9_order 57 = .ok (.iaload, 1) := by decide +kernel
theorem dX9_order_58 : decode cX9_order 58 = .ok (.iload_n 2, 1) := by decide +kernel
theorem dX9_order_59 : decode cX9_order 59 = .ok (.iadd, 1) := by decide +kernel
theorem dX9_order_60 : decode cX9_order 60 = .ok (.iaload, 1) := by decide +kernel
theorem dX9_order_61 : decode cX9_order 61 = .ok (.goto 5, 3) := by decide +kernel
theorem dX9_order_64 : decode cX9_order 64 = .ok (.bipush (-2), 2) := by decide +kernel
theorem dX9_order_66 : decode cX9_order 66 = .ok (.ireturn, 1) := by decide +kernel
theorem dX9_turn_0 : decode cX9_turn 0 = .ok (.iload_n 1, 1) := by decide +kernel
theorem dX9_turn_1 : decode cX9_turn 1 = .ok (.invokestatic 142, 3) := by decide +kernel
theorem dX9_turn_4 : decode cX9_turn 4 = .ok (.ifCond .ne 21, 3) := by decide +kernel
theorem dX9_turn_7 : decode cX9_turn 7 = .ok (.iload_n 2, 1) := by decide +kernel
theorem dX9_turn_8 : decode cX9_turn 8 = .ok (.ifCond .lt 17, 3) := by decide +kernel
theorem dX9_turn_11 : decode cX9_turn 11 = .ok (.iload_n 2, 1) := by decide +kernel
theorem dX9_turn_12 : decode cX9_turn 12 = .ok (.aload_n 0, 1) := by decide +kernel
theorem dX9_turn_13 : decode cX9_turn 13 = .ok (.getfield 19, 3) := by decide +kernel
theorem dX9_turn_16 : decode cX9_turn 16 = .ok (.iload_n 1, 1) := by decide +kernel
theorem dX9_turn_17 : decode cX9_turn 17 = .ok (.invokevirtual 149, 3) := by decide +kernel
theorem dX9_turn_20 : decode cX9_turn 20 = .ok (.iconst 1, 1) := by decide +kernel
theorem dX9_turn_21 : decode cX9_turn 21 = .ok (.isub, 1) := by decide +kernel
theorem dX9_turn_22 : decode cX9_turn 22 = .ok (.if_icmp .lt 5, 3) := by decide +kernel
theorem dX9_turn_25 : decode cX9_turn 25 = .ok (.iconst (-1), 1) := by decide +kernel
theorem dX9_turn_26 : decode cX9_turn 26 = .ok (.ireturn, 1) := by decide +kernel
theorem dX9_turn_27 : decode cX9_turn 27 = .ok (.aload_n 0, 1) := by decide +kernel
theorem dX9_turn_28 : decode cX9_turn 28 = .ok (.aload_n 0, 1) := by decide +kernel
theorem dX9_turn_29 : decode cX9_turn 29 = .ok (.getfield 19, 3) := by decide +kernel
theorem dX9_turn_32 : decode cX9_turn 32 = .ok (.getfield 153, 3) := by decide +kernel
theorem dX9_turn_35 : decode cX9_turn 35 = .ok (.iload_n 1, 1) := by decide +kernel
theorem dX9_turn_36 : decode cX9_turn 36 = .ok (.iaload, 1) := by decide +kernel
theorem dX9_turn_37 : decode cX9_turn 37 = .ok (.iload_n 2, 1) := by decide +kernel
theorem dX9_turn_38 : decode cX9_turn 38 = .ok (.iadd, 1) := by decide +kernel
theorem dX9_turn_39 : decode cX9_turn 39 = .ok (.invokevirtual 156, 3) := by decide +kernel
theorem dX9_turn_42 : decode cX9_turn 42 = .ok (.aload_n 0, 1) := by decide +kernel
theorem dX9_turn_43 : decode cX9_turn 43 = .ok (.invokevirtual 159, 3) := by decide +kernel
theorem dX9_turn_46 : decode cX9_turn 46 = .ok (.aload_n 0, 1) := by decide +kernel
theorem dX9_turn_47 : decode cX9_turn 47 = .ok (.invokevirtual 162, 3) := by decide +kernel
theorem dX9_turn_50 : decode cX9_turn 50 = .ok (.ireturn, 1) := by decide +kernel
theorem dX9_span_0 : decode cX9_span 0 = .ok (.aload_n 0, 1) := by decide +kernel
theorem dX9_span_1 : decode cX9_span 1 = .ok (.invokevirtual 166, 3) := by decide +kernel
theorem dX9_span_4 : decode cX9_span 4 = .ok (.istore_n 1, 1) := by decide +kernel
theorem dX9_span_5 : decode cX9_span 5 = .ok (.iload_n 1, 1) := by decide +kernel
theorem dX9_span_6 : decode cX9_span 6 = .ok (.ifCond .eq 7, 3) := by decide +kernel
theorem dX9_span_9 : decode cX9_span 9 = .ok (.iload_n 1, 1) := by decide +kernel
theorem dX9_span_10 : decode cX9_span 10 = .ok (.goto 10, 3) := by decide +kernel
theorem dX9_span_13 : decode cX9_span 13 = .ok (.aload_n 0, 1) := by decide +kernel
theorem dX9_span_14 : decode cX9_span 14 = .ok (.getfield 33, 3) := by decide +kernel
theorem dX9_span_17 : decode cX9_span 17 = .ok (.getfield 169, 3) := by decide +kernel
theorem dX9_span_20 : decode cX9_span 20 = .ok (.ireturn, 1) := by decide +kernel
theorem dX9_of_0 : decode cX9_of 0 = .ok (.aload_n 0, 1) := by decide +kernel
theorem dX9_of_1 : decode cX9_of 1 = .ok (.iload_n 1, 1) := by decide +kernel
theorem dX9_of_2 : decode cX9_of 2 = .ok (.invokevirtual 123, 3) := by decide +kernel
theorem dX9_of_5 : decode cX9_of 5 = .ok (.ifCond .ne 12, 3) := by decide +kernel
theorem dX9_of_8 : decode cX9_of 8 = .ok (.iload_n 2, 1) := by decide +kernel
theorem dX9_of_9 : decode cX9_of 9 = .ok (.ifCond .lt 8, 3) := by decide +kernel
theorem dX9_of_12 : decode cX9_of 12 = .ok (.iload_n 2, 1) := by decide +kernel
theorem dX9_of_13 : decode cX9_of 13 = .ok (.iconst 3, 1) := by decide +kernel
theorem dX9_of_14 : decode cX9_of 14 = .ok (.if_icmp .le 5, 3) := by decide +kernel
theorem dX9_of_17 : decode cX9_of 17 = .ok (.iconst (-1), 1) := by decide +kernel
theorem dX9_of_18 : decode cX9_of 18 = .ok (.ireturn, 1) := by decide +kernel
theorem dX9_of_19 : decode cX9_of 19 = .ok (.aload_n 0, 1) := by decide +kernel
theorem dX9_of_20 : decode cX9_of 20 = .ok (.invokevirtual 166, 3) := by decide +kernel
theorem dX9_of_23 : decode cX9_of 23 = .ok (.istore_n 3, 1) := by decide +kernel
theorem dX9_of_24 : decode cX9_of 24 = .ok (.iload_n 3, 1) := by decide +kernel
theorem dX9_of_25 : decode cX9_of 25 = .ok (.ifCond .eq 5, 3) := by decide +kernel
theorem dX9_of_28 : decode cX9_of 28 = .ok (.iload_n 3, 1) := by decide +kernel
theorem dX9_of_29 : decode cX9_of 29 = .ok (.ireturn, 1) := by decide +kernel
theorem dX9_of_30 : decode cX9_of 30 = .ok (.iload_n 2, 1) := by decide +kernel
theorem dX9_of_31 : decode cX9_of 31 = .ok (.tableswitch 55 0 2 #[25, 35, 45], 25) := by decide +kernel
theorem dX9_of_56 : decode cX9_of 56 = .ok (.aload_n 0, 1) := by decide +kernel
theorem dX9_of_57 : decode cX9_of 57 = .ok (.getfield 33, 3) := by decide +kernel
theorem dX9_of_60 : decode cX9_of 60 = .ok (.getfield 172, 3) := by decide +kernel
theorem dX9_of_63 : decode cX9_of 63 = .ok (.iload_n 1, 1) := by decide +kernel
theorem dX9_of_64 : decode cX9_of 64 = .ok (.iaload, 1) := by decide +kernel
theorem dX9_of_65 : decode cX9_of 65 = .ok (.ireturn, 1) := by decide +kernel
theorem dX9_of_66 : decode cX9_of 66 = .ok (.aload_n 0, 1) := by decide +kernel
theorem dX9_of_67 : decode cX9_of 67 = .ok (.getfield 33, 3) := by decide +kernel
theorem dX9_of_70 : decode cX9_of 70 = .ok (.getfield 175, 3) := by decide +kernel
theorem dX9_of_73 : decode cX9_of 73 = .ok (.iload_n 1, 1) := by decide +kernel
theorem dX9_of_74 : decode cX9_of 74 = .ok (.iaload, 1) := by decide +kernel
theorem dX9_of_75 : decode cX9_of 75 = .ok (.ireturn, 1) := by decide +kernel
theorem dX9_of_76 : decode cX9_of 76 = .ok (.aload_n 0, 1) := by decide +kernel
theorem dX9_of_77 : decode cX9_of 77 = .ok (.getfield 33, 3) := by decide +kernel
theorem dX9_of_80 : decode cX9_of 80 = .ok (.getfield 178, 3) := by decide +kernel
theorem dX9_of_83 : decode cX9_of 83 = .ok (.iload_n 1, 1) := by decide +kernel
theorem dX9_of_84 : decode cX9_of 84 = .ok (.iaload, 1) := by decide +kernel
theorem dX9_of_85 : decode cX9_of 85 = .ok (.ireturn, 1) := by decide +kernel
theorem dX9_of_86 : decode cX9_of 86 = .ok (.aload_n 0, 1) := by decide +kernel
theorem dX9_of_87 : decode cX9_of 87 = .ok (.getfield 33, 3) := by decide +kernel
theorem dX9_of_90 : decode cX9_of 90 = .ok (.getfield 178, 3) := by decide +kernel
theorem dX9_of_93 : decode cX9_of 93 = .ok (.iload_n 1, 1) := by decide +kernel
theorem dX9_of_94 : decode cX9_of 94 = .ok (.iaload, 1) := by decide +kernel
theorem dX9_of_95 : decode cX9_of 95 = .ok (.ifCond .ne 7, 3) := by decide +kernel
theorem dX9_of_98 : decode cX9_of 98 = .ok (.iconst 1, 1) := by decide +kernel
theorem dX9_of_99 : decode cX9_of 99 = .ok (.goto 4, 3) := by decide +kernel
theorem dX9_of_102 : decode cX9_of 102 = .ok (.iconst 0, 1) := by decide +kernel
theorem dX9_of_103 : decode cX9_of 103 = .ok (.ireturn, 1) := by decide +kernel
theorem dX9_way_0 : decode cX9_way 0 = .ok (.iload_n 1, 1) := by decide +kernel
theorem dX9_way_1 : decode cX9_way 1 = .ok (.iconst (-1), 1) := by decide +kernel
theorem dX9_way_2 : decode cX9_way 2 = .ok (.if_icmp .ge 5, 3) := by decide +kernel
theorem dX9_way_5 : decode cX9_way 5 = .ok (.iconst (-1), 1) := by decide +kernel
theorem dX9_way_6 : decode cX9_way 6 = .ok (.ireturn, 1) := by decide +kernel
theorem dX9_way_7 : decode cX9_way 7 = .ok (.aload_n 0, 1) := by decide +kernel
theorem dX9_way_8 : decode cX9_way 8 = .ok (.invokevirtual 166, 3) := by decide +kernel
theorem dX9_way_11 : decode cX9_way 11 = .ok (.istore_n 2, 1) := by decide +kernel
theorem dX9_way_12 : decode cX9_way 12 = .ok (.iload_n 2, 1) := by decide +kernel
theorem dX9_way_13 : decode cX9_way 13 = .ok (.ifCond .eq 5, 3) := by decide +kernel
theorem dX9_way_16 : decode cX9_way 16 = .ok (.iload_n 2, 1) := by decide +kernel
theorem dX9_way_17 : decode cX9_way 17 = .ok (.ireturn, 1) := by decide +kernel
theorem dX9_way_18 : decode cX9_way 18 = .ok (.iload_n 1, 1) := by decide +kernel
theorem dX9_way_19 : decode cX9_way 19 = .ok (.iconst (-1), 1) := by decide +kernel
theorem dX9_way_20 : decode cX9_way 20 = .ok (.if_icmp .ne 11, 3) := by decide +kernel
theorem dX9_way_23 : decode cX9_way 23 = .ok (.aload_n 0, 1) := by decide +kernel
theorem dX9_way_24 : decode cX9_way 24 = .ok (.getfield 43, 3) := by decide +kernel
theorem dX9_way_27 : decode cX9_way 27 = .ok (.getfield 181, 3) := by decide +kernel
theorem dX9_way_30 : decode cX9_way 30 = .ok (.ireturn, 1) := by decide +kernel
theorem dX9_way_31 : decode cX9_way 31 = .ok (.iload_n 1, 1) := by decide +kernel
theorem dX9_way_32 : decode cX9_way 32 = .ok (.aload_n 0, 1) := by decide +kernel
theorem dX9_way_33 : decode cX9_way 33 = .ok (.getfield 43, 3) := by decide +kernel
theorem dX9_way_36 : decode cX9_way 36 = .ok (.getfield 181, 3) := by decide +kernel
theorem dX9_way_39 : decode cX9_way 39 = .ok (.if_icmp .ge 15, 3) := by decide +kernel
theorem dX9_way_42 : decode cX9_way 42 = .ok (.aload_n 0, 1) := by decide +kernel
theorem dX9_way_43 : decode cX9_way 43 = .ok (.getfield 43, 3) := by decide +kernel
theorem dX9_way_46 : decode cX9_way 46 = .ok (.getfield 182, 3) := by decide +kernel
theorem dX9_way_49 : decode cX9_way 49 = .ok (.iload_n 1, 1) := by decide +kernel
theorem dX9_way_50 : decode cX9_way 50 = .ok (.iaload, 1) := by decide +kernel
theorem dX9_way_51 : decode cX9_way 51 = .ok (.goto 5, 3) := by decide +kernel
theorem dX9_way_54 : decode cX9_way 54 = .ok (.bipush (-2), 2) := by decide +kernel
theorem dX9_way_56 : decode cX9_way 56 = .ok (.ireturn, 1) := by decide +kernel
theorem dX9_block_0 : decode cX9_block 0 = .ok (.iload_n 1, 1) := by decide +kernel
theorem dX9_block_1 : decode cX9_block 1 = .ok (.iconst (-1), 1) := by decide +kernel
theorem dX9_block_2 : decode cX9_block 2 = .ok (.if_icmp .ge 5, 3) := by decide +kernel
theorem dX9_block_5 : decode cX9_block 5 = .ok (.iconst (-1), 1) := by decide +kernel
theorem dX9_block_6 : decode cX9_block 6 = .ok (.ireturn, 1) := by decide +kernel
theorem dX9_block_7 : decode cX9_block 7 = .ok (.aload_n 0, 1) := by decide +kernel
theorem dX9_block_8 : decode cX9_block 8 = .ok (.invokevirtual 166, 3) := by decide +kernel
theorem dX9_block_11 : decode cX9_block 11 = .ok (.istore_n 2, 1) := by decide +kernel
theorem dX9_block_12 : decode cX9_block 12 = .ok (.iload_n 2, 1) := by decide +kernel
theorem dX9_block_13 : decode cX9_block 13 = .ok (.ifCond .eq 5, 3) := by decide +kernel
theorem dX9_block_16 : decode cX9_block 16 = .ok (.iload_n 2, 1) := by decide +kernel
theorem dX9_block_17 : decode cX9_block 17 = .ok (.ireturn, 1) := by decide +kernel
theorem dX9_block_18 : decode cX9_block 18 = .ok (.iload_n 1, 1) := by decide +kernel
theorem dX9_block_19 : decode cX9_block 19 = .ok (.iconst (-1), 1) := by decide +kernel
theorem dX9_block_20 : decode cX9_block 20 = .ok (.if_icmp .ne 11, 3) := by decide +kernel
theorem dX9_block_23 : decode cX9_block 23 = .ok (.aload_n 0, 1) := by decide +kernel
theorem dX9_block_24 : decode cX9_block 24 = .ok (.getfield 43, 3) := by decide +kernel
theorem dX9_block_27 : decode cX9_block 27 = .ok (.getfield 184, 3) := by decide +kernel
theorem dX9_block_30 : decode cX9_block 30 = .ok (.ireturn, 1) := by decide +kernel
theorem dX9_block_31 : decode cX9_block 31 = .ok (.iload_n 1, 1) := by decide +kernel
theorem dX9_block_32 : decode cX9_block 32 = .ok (.aload_n 0, 1) := by decide +kernel
theorem dX9_block_33 : decode cX9_block 33 = .ok (.getfield 43, 3) := by decide +kernel
theorem dX9_block_36 : decode cX9_block 36 = .ok (.getfield 184, 3) := by decide +kernel
theorem dX9_block_39 : decode cX9_block 39 = .ok (.if_icmp .ge 27, 3) := by decide +kernel
theorem dX9_block_42 : decode cX9_block 42 = .ok (.aload_n 0, 1) := by decide +kernel
theorem dX9_block_43 : decode cX9_block 43 = .ok (.getfield 43, 3) := by decide +kernel
theorem dX9_block_46 : decode cX9_block 46 = .ok (.getfield 187, 3) := by decide +kernel
theorem dX9_block_49 : decode cX9_block 49 = .ok (.iload_n 1, 1) := by decide +kernel
theorem dX9_block_50 : decode cX9_block 50 = .ok (.iconst 1, 1) := by decide +kernel
theorem dX9_block_51 : decode cX9_block 51 = .ok (.iadd, 1) := by decide +kernel
theorem dX9_block_52 : decode cX9_block 52 = .ok (.iaload, 1) := by decide +kernel
theorem dX9_block_53 : decode cX9_block 53 = .ok (.aload_n 0, 1) := by decide +kernel
theorem dX9_block_54 : decode cX9_block 54 = .ok (.getfield 43, 3) := by decide +kernel
theorem dX9_block_57 : decode cX9_block 57 = .ok (.getfield 187, 3) := by decide +kernel
theorem dX9_block_60 : decode cX9_block 60 = .ok (.iload_n 1, 1) := by decide +kernel
theorem dX9_block_61 : decode cX9_block 61 = .ok (.iaload, 1) := by decide +kernel
theorem dX9_block_62 : decode cX9_block 62 = .ok (.isub, 1) := by decide +kernel
theorem dX9_block_63 : decode cX9_block 63 = .ok (.goto 5, 3) := by decide +kernel
theorem dX9_block_66 : decode cX9_block 66 = .ok (.bipush (-2), 2) := by decide +kernel
theorem dX9_block_68 : decode cX9_block 68 = .ok (.ireturn, 1) := by decide +kernel
theorem dX9_move_0 : decode cX9_move 0 = .ok (.iload_n 1, 1) := by decide +kernel
theorem dX9_move_1 : decode cX9_move 1 = .ok (.iconst (-1), 1) := by decide +kernel
theorem dX9_move_2 : decode cX9_move 2 = .ok (.if_icmp .ge 5, 3) := by decide +kernel
theorem dX9_move_5 : decode cX9_move 5 = .ok (.iconst (-1), 1) := by decide +kernel
theorem dX9_move_6 : decode cX9_move 6 = .ok (.ireturn, 1) := by decide +kernel
theorem dX9_move_7 : decode cX9_move 7 = .ok (.aload_n 0, 1) := by decide +kernel
theorem dX9_move_8 : decode cX9_move 8 = .ok (.invokevirtual 166, 3) := by decide +kernel
theorem dX9_move_11 : decode cX9_move 11 = .ok (.istore_n 2, 1) := by decide +kernel
theorem dX9_move_12 : decode cX9_move 12 = .ok (.iload_n 2, 1) := by decide +kernel
theorem dX9_move_13 : decode cX9_move 13 = .ok (.ifCond .eq 5, 3) := by decide +kernel
theorem dX9_move_16 : decode cX9_move 16 = .ok (.iload_n 2, 1) := by decide +kernel
theorem dX9_move_17 : decode cX9_move 17 = .ok (.ireturn, 1) := by decide +kernel
theorem dX9_move_18 : decode cX9_move 18 = .ok (.iload_n 1, 1) := by decide +kernel
theorem dX9_move_19 : decode cX9_move 19 = .ok (.iconst (-1), 1) := by decide +kernel
theorem dX9_move_20 : decode cX9_move 20 = .ok (.if_icmp .ne 11, 3) := by decide +kernel
theorem dX9_move_23 : decode cX9_move 23 = .ok (.aload_n 0, 1) := by decide +kernel
theorem dX9_move_24 : decode cX9_move 24 = .ok (.getfield 43, 3) := by decide +kernel
theorem dX9_move_27 : decode cX9_move 27 = .ok (.getfield 190, 3) := by decide +kernel
theorem dX9_move_30 : decode cX9_move 30 = .ok (.ireturn, 1) := by decide +kernel
theorem dX9_move_31 : decode cX9_move 31 = .ok (.iload_n 1, 1) := by decide +kernel
theorem dX9_move_32 : decode cX9_move 32 = .ok (.aload_n 0, 1) := by decide +kernel
theorem dX9_move_33 : decode cX9_move 33 = .ok (.getfield 43, 3) := by decide +kernel
theorem dX9_move_36 : decode cX9_move 36 = .ok (.getfield 190, 3) := by decide +kernel
theorem dX9_move_39 : decode cX9_move 39 = .ok (.if_icmp .ge 25, 3) := by decide +kernel
theorem dX9_move_42 : decode cX9_move 42 = .ok (.aload_n 0, 1) := by decide +kernel
theorem dX9_move_43 : decode cX9_move 43 = .ok (.getfield 43, 3) := by decide +kernel
theorem dX9_move_46 : decode cX9_move 46 = .ok (.iload_n 1, 1) := by decide +kernel
theorem dX9_move_47 : decode cX9_move 47 = .ok (.invokevirtual 193, 3) := by decide +kernel
theorem dX9_move_50 : decode cX9_move 50 = .ok (.aload_n 0, 1) := by decide +kernel
theorem dX9_move_51 : decode cX9_move 51 = .ok (.getfield 43, 3) := by decide +kernel
theorem dX9_move_54 : decode cX9_move 54 = .ok (.iload_n 1, 1) := by decide +kernel
theorem dX9_move_55 : decode cX9_move 55 = .ok (.invokevirtual 196, 3) := by decide +kernel
theorem dX9_move_58 : decode cX9_move 58 = .ok (.invokestatic 199, 3) := by decide +kernel
theorem dX9_move_61 : decode cX9_move 61 = .ok (.goto 5, 3) := by decide +kernel
theorem dX9_move_64 : decode cX9_move 64 = .ok (.bipush (-2), 2) := by decide +kernel
theorem dX9_move_66 : decode cX9_move 66 = .ok (.ireturn, 1) := by decide +kernel
theorem dX9_brings_0 : decode cX9_brings 0 = .ok (.iload_n 1, 1) := by decide +kernel
theorem dX9_brings_1 : decode cX9_brings 1 = .ok (.ifCond .lt 12, 3) := by decide +kernel
theorem dX9_brings_4 : decode cX9_brings 4 = .ok (.iload_n 2, 1) := by decide +kernel
theorem dX9_brings_5 : decode cX9_brings 5 = .ok (.ifCond .lt 8, 3) := by decide +kernel
theorem dX9_brings_8 : decode cX9_brings 8 = .ok (.iload_n 2, 1) := by decide +kernel
theorem dX9_brings_9 : decode cX9_brings 9 = .ok (.iconst 2, 1) := by decide +kernel
theorem dX9_brings_10 : decode cX9_brings 10 = .ok (.if_icmp .le 5, 3) := by decide +kernel
theorem dX9_brings_13 : decode cX9_brings 13 = .ok (.iconst (-1), 1) := by decide +kernel
theorem dX9_brings_14 : decode cX9_brings 14 = .ok (.ireturn, 1) := by decide +kernel
theorem dX9_brings_15 : decode cX9_brings 15 = .ok (.aload_n 0, 1) := by decide +kernel
theorem dX9_brings_16 : decode cX9_brings 16 = .ok (.invokevirtual 166, 3) := by decide +kernel
theorem dX9_brings_19 : decode cX9_brings 19 = .ok (.istore_n 3, 1) := by decide +kernel
theorem dX9_brings_20 : decode cX9_brings 20 = .ok (.iload_n 3, 1) := by decide +kernel
theorem dX9_brings_21 : decode cX9_brings 21 = .ok (.ifCond .eq 5, 3) := by decide +kernel
theorem dX9_brings_24 : decode cX9_brings 24 = .ok (.iload_n 3, 1) := by decide +kernel
theorem dX9_brings_25 : decode cX9_brings 25 = .ok (.ireturn, 1) := by decide +kernel
theorem dX9_brings_26 : decode cX9_brings 26 = .ok (.iload_n 1, 1) := by decide +kernel
theorem dX9_brings_27 : decode cX9_brings 27 = .ok (.aload_n 0, 1) := by decide +kernel
theorem dX9_brings_28 : decode cX9_brings 28 = .ok (.getfield 43, 3) := by decide +kernel
theorem dX9_brings_31 : decode cX9_brings 31 = .ok (.getfield 190, 3) := by decide +kernel
theorem dX9_brings_34 : decode cX9_brings 34 = .ok (.if_icmp .lt 6, 3) := by decide +kernel
theorem dX9_brings_37 : decode cX9_brings 37 = .ok (.bipush (-2), 2) := by decide +kernel
theorem dX9_brings_39 : decode cX9_brings 39 = .ok (.ireturn, 1) := by decide +kernel
theorem dX9_brings_40 : decode cX9_brings 40 = .ok (.iload_n 2, 1) := by decide +kernel
theorem dX9_brings_41 : decode cX9_brings 41 = .ok (.ifCond .ne 31, 3) := by decide +kernel
theorem dX9_brings_44 : decode cX9_brings 44 = .ok (.aload_n 0, 1) := by decide +kernel
theorem dX9_brings_45 : decode cX9_brings 45 = .ok (.getfield 33, 3) := by decide +kernel
theorem dX9_brings_48 : decode cX9_brings 48 = .ok (.aload_n 0, 1) := by decide +kernel
theorem dX9_brings_49 : decode cX9_brings 49 = .ok (.getfield 19, 3) := by decide +kernel
theorem dX9_brings_52 : decode cX9_brings 52 = .ok (.aload_n 0, 1) := by decide +kernel
theorem dX9_brings_53 : decode cX9_brings 53 = .ok (.getfield 43, 3) := by decide +kernel
theorem dX9_brings_56 : decode cX9_brings 56 = .ok (.iload_n 1, 1) := by decide +kernel
theorem dX9_brings_57 : decode cX9_brings 57 = .ok (.invokevirtual 193, 3) := by decide +kernel
theorem dX9_brings_60 : decode cX9_brings 60 = .ok (.aload_n 0, 1) := by decide +kernel
theorem dX9_brings_61 : decode cX9_brings 61 = .ok (.getfield 43, 3) := by decide +kernel
theorem dX9_brings_64 : decode cX9_brings 64 = .ok (.iload_n 1, 1) := by decide +kernel
theorem dX9_brings_65 : decode cX9_brings 65 = .ok (.invokevirtual 196, 3) := by decide +kernel
theorem dX9_brings_68 : decode cX9_brings 68 = .ok (.invokevirtual 203, 3) := by decide +kernel
theorem dX9_brings_71 : decode cX9_brings 71 = .ok (.ireturn, 1) := by decide +kernel
theorem dX9_brings_72 : decode cX9_brings 72 = .ok (.iload_n 2, 1) := by decide +kernel
theorem dX9_brings_73 : decode cX9_brings 73 = .ok (.iconst 1, 1) := by decide +kernel
theorem dX9_brings_74 : decode cX9_brings 74 = .ok (.if_icmp .ne 9, 3) := by decide +kernel
theorem dX9_brings_77 : decode cX9_brings 77 = .ok (.aload_n 0, 1) := by decide +kernel
theorem dX9_brings_78 : decode cX9_brings 78 = .ok (.iload_n 1, 1) := by decide +kernel
theorem dX9_brings_79 : decode cX9_brings 79 = .ok (.invokevirtual 207, 3) := by decide +kernel
theorem dX9_brings_82 : decode cX9_brings 82 = .ok (.ireturn, 1) := by decide +kernel
theorem dX9_brings_83 : decode cX9_brings 83 = .ok (.aload_n 0, 1) := by decide +kernel
theorem dX9_brings_84 : decode cX9_brings 84 = .ok (.iload_n 1, 1) := by decide +kernel
theorem dX9_brings_85 : decode cX9_brings 85 = .ok (.invokevirtual 210, 3) := by decide +kernel
theorem dX9_brings_88 : decode cX9_brings 88 = .ok (.iconst (-1), 1) := by decide +kernel
theorem dX9_brings_89 : decode cX9_brings 89 = .ok (.if_icmp .eq 7, 3) := by decide +kernel
theorem dX9_brings_92 : decode cX9_brings 92 = .ok (.iconst 1, 1) := by decide +kernel
theorem dX9_brings_93 : decode cX9_brings 93 = .ok (.goto 4, 3) := by decide +kernel
theorem dX9_brings_96 : decode cX9_brings 96 = .ok (.iconst 0, 1) := by decide +kernel
theorem dX9_brings_97 : decode cX9_brings 97 = .ok (.ireturn, 1) := by decide +kernel
theorem dX9_does_0 : decode cX9_does 0 = .ok (.iload_n 1, 1) := by decide +kernel
theorem dX9_does_1 : decode cX9_does 1 = .ok (.ifCond .ge 5, 3) := by decide +kernel
theorem dX9_does_4 : decode cX9_does 4 = .ok (.iconst (-1), 1) := by decide +kernel
theorem dX9_does_5 : decode cX9_does 5 = .ok (.ireturn, 1) := by decide +kernel
theorem dX9_does_6 : decode cX9_does 6 = .ok (.aload_n 0, 1) := by decide +kernel
theorem dX9_does_7 : decode cX9_does 7 = .ok (.invokevirtual 166, 3) := by decide +kernel
theorem dX9_does_10 : decode cX9_does 10 = .ok (.istore_n 2, 1) := by decide +kernel
theorem dX9_does_11 : decode cX9_does 11 = .ok (.iload_n 2, 1) := by decide +kernel
theorem dX9_does_12 : decode cX9_does 12 = .ok (.ifCond .eq 5, 3) := by decide +kernel
theorem dX9_does_15 : decode cX9_does 15 = .ok (.iload_n 2, 1) := by decide +kernel
theorem dX9_does_16 : decode cX9_does 16 = .ok (.ireturn, 1) := by decide +kernel
theorem dX9_does_17 : decode cX9_does 17 = .ok (.iload_n 1, 1) := by decide +kernel
theorem dX9_does_18 : decode cX9_does 18 = .ok (.aload_n 0, 1) := by decide +kernel
theorem dX9_does_19 : decode cX9_does 19 = .ok (.getfield 43, 3) := by decide +kernel
theorem dX9_does_22 : decode cX9_does 22 = .ok (.getfield 190, 3) := by decide +kernel
theorem dX9_does_25 : decode cX9_does 25 = .ok (.if_icmp .lt 6, 3) := by decide +kernel
theorem dX9_does_28 : decode cX9_does 28 = .ok (.bipush (-2), 2) := by decide +kernel
theorem dX9_does_30 : decode cX9_does 30 = .ok (.ireturn, 1) := by decide +kernel
theorem dX9_does_31 : decode cX9_does 31 = .ok (.aload_n 0, 1) := by decide +kernel
theorem dX9_does_32 : decode cX9_does 32 = .ok (.aload_n 0, 1) := by decide +kernel
theorem dX9_does_33 : decode cX9_does 33 = .ok (.aload_n 0, 1) := by decide +kernel
theorem dX9_does_34 : decode cX9_does 34 = .ok (.getfield 43, 3) := by decide +kernel
theorem dX9_does_37 : decode cX9_does 37 = .ok (.iload_n 1, 1) := by decide +kernel
theorem dX9_does_38 : decode cX9_does 38 = .ok (.invokevirtual 193, 3) := by decide +kernel
theorem dX9_does_41 : decode cX9_does 41 = .ok (.invokevirtual 213, 3) := by decide +kernel
theorem dX9_does_44 : decode cX9_does 44 = .ok (.invokevirtual 156, 3) := by decide +kernel
theorem dX9_does_47 : decode cX9_does 47 = .ok (.aload_n 0, 1) := by decide +kernel
theorem dX9_does_48 : decode cX9_does 48 = .ok (.invokevirtual 159, 3) := by decide +kernel
theorem dX9_does_51 : decode cX9_does 51 = .ok (.aload_n 0, 1) := by decide +kernel
theorem dX9_does_52 : decode cX9_does 52 = .ok (.invokevirtual 162, 3) := by decide +kernel
theorem dX9_does_55 : decode cX9_does 55 = .ok (.ireturn, 1) := by decide +kernel
theorem dX9_tabu_0 : decode cX9_tabu 0 = .ok (.iload_n 1, 1) := by decide +kernel
theorem dX9_tabu_1 : decode cX9_tabu 1 = .ok (.ifCond .lt 9, 3) := by decide +kernel
theorem dX9_tabu_4 : decode cX9_tabu 4 = .ok (.iload_n 1, 1) := by decide +kernel
theorem dX9_tabu_5 : decode cX9_tabu 5 = .ok (.bipush 9, 2) := by decide +kernel
theorem dX9_tabu_7 : decode cX9_tabu 7 = .ok (.if_icmp .le 5, 3) := by decide +kernel
theorem dX9_tabu_10 : decode cX9_tabu 10 = .ok (.iconst (-1), 1) := by decide +kernel
theorem dX9_tabu_11 : decode cX9_tabu 11 = .ok (.ireturn, 1) := by decide +kernel
theorem dX9_tabu_12 : decode cX9_tabu 12 = .ok (.aload_n 0, 1) := by decide +kernel
theorem dX9_tabu_13 : decode cX9_tabu 13 = .ok (.getfield 50, 3) := by decide +kernel
theorem dX9_tabu_16 : decode cX9_tabu 16 = .ok (.getfield 216, 3) := by decide +kernel
theorem dX9_tabu_19 : decode cX9_tabu 19 = .ok (.istore_n 2, 1) := by decide +kernel
theorem dX9_tabu_20 : decode cX9_tabu 20 = .ok (.aload_n 0, 1) := by decide +kernel
theorem dX9_tabu_21 : decode cX9_tabu 21 = .ok (.getfield 50, 3) := by decide +kernel
theorem dX9_tabu_24 : decode cX9_tabu 24 = .ok (.iload_n 1, 1) := by decide +kernel
theorem dX9_tabu_25 : decode cX9_tabu 25 = .ok (.putfield 216, 3) := by decide +kernel
theorem dX9_tabu_28 : decode cX9_tabu 28 = .ok (.aload_n 0, 1) := by decide +kernel
theorem dX9_tabu_29 : decode cX9_tabu 29 = .ok (.invokevirtual 219, 3) := by decide +kernel
theorem dX9_tabu_32 : decode cX9_tabu 32 = .ok (.iload_n 2, 1) := by decide +kernel
theorem dX9_tabu_33 : decode cX9_tabu 33 = .ok (.ireturn, 1) := by decide +kernel
theorem dX9_step_0 : decode cX9_step 0 = .ok (.iload_n 1, 1) := by decide +kernel
theorem dX9_step_1 : decode cX9_step 1 = .ok (.iconst 1, 1) := by decide +kernel
theorem dX9_step_2 : decode cX9_step 2 = .ok (.if_icmp .lt 9, 3) := by decide +kernel
theorem dX9_step_5 : decode cX9_step 5 = .ok (.iload_n 1, 1) := by decide +kernel
theorem dX9_step_6 : decode cX9_step 6 = .ok (.bipush 30, 2) := by decide +kernel
theorem dX9_step_8 : decode cX9_step 8 = .ok (.if_icmp .le 5, 3) := by decide +kernel
theorem dX9_step_11 : decode cX9_step 11 = .ok (.iconst (-1), 1) := by decide +kernel
theorem dX9_step_12 : decode cX9_step 12 = .ok (.ireturn, 1) := by decide +kernel
theorem dX9_step_13 : decode cX9_step 13 = .ok (.aload_n 0, 1) := by decide +kernel
theorem dX9_step_14 : decode cX9_step 14 = .ok (.invokevirtual 166, 3) := by decide +kernel
theorem dX9_step_17 : decode cX9_step 17 = .ok (.istore_n 2, 1) := by decide +kernel
theorem dX9_step_18 : decode cX9_step 18 = .ok (.iload_n 2, 1) := by decide +kernel
theorem dX9_step_19 : decode cX9_step 19 = .ok (.ifCond .eq 5, 3) := by decide +kernel
theorem dX9_step_22 : decode cX9_step 22 = .ok (.iload_n 2, 1) := by decide +kernel
theorem dX9_step_23 : decode cX9_step 23 = .ok (.ireturn, 1) := by decide +kernel
theorem dX9_step_24 : decode cX9_step 24 = .ok (.iconst 0, 1) := by decide +kernel
theorem dX9_step_25 : decode cX9_step 25 = .ok (.istore_n 3, 1) := by decide +kernel
theorem dX9_step_26 : decode cX9_step 26 = .ok (.iload_n 3, 1) := by decide +kernel
theorem dX9_step_27 : decode cX9_step 27 = .ok (.iload_n 1, 1) := by decide +kernel
theorem dX9_step_28 : decode cX9_step 28 = .ok (.if_icmp .ge 16, 3) := by decide +kernel
theorem dX9_step_31 : decode cX9_step 31 = .ok (.aload_n 0, 1) := by decide +kernel
theorem dX9_step_32 : decode cX9_step 32 = .ok (.invokevirtual 222, 3) := by decide +kernel
theorem dX9_step_35 : decode cX9_step 35 = .ok (.ifCond .eq 9, 3) := by decide +kernel
theorem dX9_step_38 : decode cX9_step 38 = .ok (.iinc 3 1, 3) := by decide +kernel
theorem dX9_step_41 : decode cX9_step 41 = .ok (.goto (-15), 3) := by decide +kernel
theorem dX9_step_44 : decode cX9_step 44 = .ok (.aload_n 0, 1) := by decide +kernel
theorem dX9_step_45 : decode cX9_step 45 = .ok (.dup, 1) := by decide +kernel
theorem dX9_step_46 : decode cX9_step 46 = .ok (.getfield 95, 3) := by decide +kernel
theorem dX9_step_49 : decode cX9_step 49 = .ok (.iload_n 3, 1) := by decide +kernel
theorem dX9_step_50 : decode cX9_step 50 = .ok (.iadd, 1) := by decide +kernel
theorem dX9_step_51 : decode cX9_step 51 = .ok (.putfield 95, 3) := by decide +kernel
theorem dX9_step_54 : decode cX9_step 54 = .ok (.iload_n 3, 1) := by decide +kernel
theorem dX9_step_55 : decode cX9_step 55 = .ok (.ireturn, 1) := by decide +kernel
theorem dX9_kept_0 : decode cX9_kept 0 = .ok (.iload_n 1, 1) := by decide +kernel
theorem dX9_kept_1 : decode cX9_kept 1 = .ok (.iconst (-1), 1) := by decide +kernel
theorem dX9_kept_2 : decode cX9_kept 2 = .ok (.if_icmp .ge 5, 3) := by decide +kernel
theorem dX9_kept_5 : decode cX9_kept 5 = .ok (.iconst (-1), 1) := by decide +kernel
theorem dX9_kept_6 : decode cX9_kept 6 = .ok (.ireturn, 1) := by decide +kernel
theorem dX9_kept_7 : decode cX9_kept 7 = .ok (.iload_n 1, 1) := by decide +kernel
theorem dX9_kept_8 : decode cX9_kept 8 = .ok (.iconst (-1), 1) := by decide +kernel
theorem dX9_kept_9 : decode cX9_kept 9 = .ok (.if_icmp .ne 11, 3) := by decide +kernel
theorem dX9_kept_12 : decode cX9_kept 12 = .ok (.aload_n 0, 1) := by decide +kernel
theorem dX9_kept_13 : decode cX9_kept 13 = .ok (.getfield 50, 3) := by decide +kernel
theorem dX9_kept_16 : decode cX9_kept 16 = .ok (.getfield 225, 3) := by decide +kernel
theorem dX9_kept_19 : decode cX9_kept 19 = .ok (.ireturn, 1) := by decide +kernel
theorem dX9_kept_20 : decode cX9_kept 20 = .ok (.iload_n 1, 1) := by decide +kernel
theorem dX9_kept_21 : decode cX9_kept 21 = .ok (.aload_n 0, 1) := by decide +kernel
theorem dX9_kept_22 : decode cX9_kept 22 = .ok (.getfield 50, 3) := by decide +kernel
theorem dX9_kept_25 : decode cX9_kept 25 = .ok (.getfield 225, 3) := by decide +kernel
theorem dX9_kept_28 : decode cX9_kept 28 = .ok (.if_icmp .ge 15, 3) := by decide +kernel
theorem dX9_kept_31 : decode cX9_kept 31 = .ok (.aload_n 0, 1) := by decide +kernel
theorem dX9_kept_32 : decode cX9_kept 32 = .ok (.getfield 50, 3) := by decide +kernel
theorem dX9_kept_35 : decode cX9_kept 35 = .ok (.getfield 228, 3) := by decide +kernel
theorem dX9_kept_38 : decode cX9_kept 38 = .ok (.iload_n 1, 1) := by decide +kernel
theorem dX9_kept_39 : decode cX9_kept 39 = .ok (.iaload, 1) := by decide +kernel
theorem dX9_kept_40 : decode cX9_kept 40 = .ok (.goto 5, 3) := by decide +kernel
theorem dX9_kept_43 : decode cX9_kept 43 = .ok (.bipush (-2), 2) := by decide +kernel
theorem dX9_kept_45 : decode cX9_kept 45 = .ok (.ireturn, 1) := by decide +kernel
theorem dX9_best_0 : decode cX9_best 0 = .ok (.iload_n 1, 1) := by decide +kernel
theorem dX9_best_1 : decode cX9_best 1 = .ok (.ifCond .lt 8, 3) := by decide +kernel
theorem dX9_best_4 : decode cX9_best 4 = .ok (.iload_n 1, 1) := by decide +kernel
theorem dX9_best_5 : decode cX9_best 5 = .ok (.iconst 1, 1) := by decide +kernel
theorem dX9_best_6 : decode cX9_best 6 = .ok (.if_icmp .le 5, 3) := by decide +kernel
theorem dX9_best_9 : decode cX9_best 9 = .ok (.iconst (-1), 1) := by decide +kernel
theorem dX9_best_10 : decode cX9_best 10 = .ok (.ireturn, 1) := by decide +kernel
theorem dX9_best_11 : decode cX9_best 11 = .ok (.aload_n 0, 1) := by decide +kernel
theorem dX9_best_12 : decode cX9_best 12 = .ok (.invokevirtual 145, 3) := by decide +kernel
theorem dX9_best_15 : decode cX9_best 15 = .ok (.ifCond .eq 6, 3) := by decide +kernel
theorem dX9_best_18 : decode cX9_best 18 = .ok (.bipush (-5), 2) := by decide +kernel
theorem dX9_best_20 : decode cX9_best 20 = .ok (.ireturn, 1) := by decide +kernel
theorem dX9_best_21 : decode cX9_best 21 = .ok (.aload_n 0, 1) := by decide +kernel
theorem dX9_best_22 : decode cX9_best 22 = .ok (.getfield 91, 3) := by decide +kernel
theorem dX9_best_25 : decode cX9_best 25 = .ok (.iconst (-1), 1) := by decide +kernel
theorem dX9_best_26 : decode cX9_best 26 = .ok (.if_icmp .ne 6, 3) := by decide +kernel
theorem dX9_best_29 : decode cX9_best 29 = .ok (.bipush (-2), 2) := by decide +kernel
theorem dX9_best_31 : decode cX9_best 31 = .ok (.ireturn, 1) := by decide +kernel
theorem dX9_best_32 : decode cX9_best 32 = .ok (.iload_n 1, 1) := by decide +kernel
theorem dX9_best_33 : decode cX9_best 33 = .ok (.ifCond .ne 8, 3) := by decide +kernel
theorem dX9_best_36 : decode cX9_best 36 = .ok (.aload_n 0, 1) := by decide +kernel
theorem dX9_best_37 : decode cX9_best 37 = .ok (.getfield 91, 3) := by decide +kernel
theorem dX9_best_40 : decode cX9_best 40 = .ok (.ireturn, 1) := by decide +kernel
theorem dX9_best_41 : decode cX9_best 41 = .ok (.aload_n 0, 1) := by decide +kernel
theorem dX9_best_42 : decode cX9_best 42 = .ok (.getfield 88, 3) := by decide +kernel
theorem dX9_best_45 : decode cX9_best 45 = .ok (.aload_n 0, 1) := by decide +kernel
theorem dX9_best_46 : decode cX9_best 46 = .ok (.getfield 26, 3) := by decide +kernel
theorem dX9_best_49 : decode cX9_best 49 = .ok (.invokestatic 231, 3) := by decide +kernel
theorem dX9_best_52 : decode cX9_best 52 = .ok (.aload_n 0, 1) := by decide +kernel
theorem dX9_best_53 : decode cX9_best 53 = .ok (.invokevirtual 159, 3) := by decide +kernel
theorem dX9_best_56 : decode cX9_best 56 = .ok (.aload_n 0, 1) := by decide +kernel
theorem dX9_best_57 : decode cX9_best 57 = .ok (.invokevirtual 162, 3) := by decide +kernel
theorem dX9_best_60 : decode cX9_best 60 = .ok (.ireturn, 1) := by decide +kernel
theorem dX9_dispatch_0 : decode cX9_dispatch 0 = .ok (.aload_n 0, 1) := by decide +kernel
theorem dX9_dispatch_1 : decode cX9_dispatch 1 = .ok (.iload_n 1, 1) := by decide +kernel
theorem dX9_dispatch_2 : decode cX9_dispatch 2 = .ok (.invokevirtual 235, 3) := by decide +kernel
theorem dX9_dispatch_5 : decode cX9_dispatch 5 = .ok (.istore_n 2, 1) := by decide +kernel
theorem dX9_dispatch_6 : decode cX9_dispatch 6 = .ok (.iload_n 2, 1) := by decide +kernel
theorem dX9_dispatch_7 : decode cX9_dispatch 7 = .ok (.ifCond .ge 5, 3) := by decide +kernel
theorem dX9_dispatch_10 : decode cX9_dispatch 10 = .ok (.iload_n 2, 1) := by decide +kernel
theorem dX9_dispatch_11 : decode cX9_dispatch 11 = .ok (.ireturn, 1) := by decide +kernel
theorem dX9_dispatch_12 : decode cX9_dispatch 12 = .ok (.aload_n 0, 1) := by decide +kernel
theorem dX9_dispatch_13 : decode cX9_dispatch 13 = .ok (.getfield 64, 3) := by decide +kernel
theorem dX9_dispatch_16 : decode cX9_dispatch 16 = .ok (.getfield 238, 3) := by decide +kernel
theorem dX9_dispatch_19 : decode cX9_dispatch 19 = .ok (.aload_n 0, 1) := by decide +kernel
theorem dX9_dispatch_20 : decode cX9_dispatch 20 = .ok (.getfield 26, 3) := by decide +kernel
theorem dX9_dispatch_23 : decode cX9_dispatch 23 = .ok (.invokestatic 231, 3) := by decide +kernel
theorem dX9_dispatch_26 : decode cX9_dispatch 26 = .ok (.aload_n 0, 1) := by decide +kernel
theorem dX9_dispatch_27 : decode cX9_dispatch 27 = .ok (.invokevirtual 159, 3) := by decide +kernel
theorem dX9_dispatch_30 : decode cX9_dispatch 30 = .ok (.aload_n 0, 1) := by decide +kernel
theorem dX9_dispatch_31 : decode cX9_dispatch 31 = .ok (.invokevirtual 162, 3) := by decide +kernel
theorem dX9_dispatch_34 : decode cX9_dispatch 34 = .ok (.ireturn, 1) := by decide +kernel
theorem dX9_would_0 : decode cX9_would 0 = .ok (.iload_n 1, 1) := by decide +kernel
theorem dX9_would_1 : decode cX9_would 1 = .ok (.ifCond .lt 8, 3) := by decide +kernel
theorem dX9_would_4 : decode cX9_would 4 = .ok (.iload_n 1, 1) := by decide +kernel
theorem dX9_would_5 : decode cX9_would 5 = .ok (.iconst 4, 1) := by decide +kernel
theorem dX9_would_6 : decode cX9_would 6 = .ok (.if_icmp .lt 5, 3) := by decide +kernel
theorem dX9_would_9 : decode cX9_would 9 = .ok (.iconst (-1), 1) := by decide +kernel
theorem dX9_would_10 : decode cX9_would 10 = .ok (.ireturn, 1) := by decide +kernel
theorem dX9_would_11 : decode cX9_would 11 = .ok (.aload_n 0, 1) := by decide +kernel
theorem dX9_would_12 : decode cX9_would 12 = .ok (.invokevirtual 145, 3) := by decide +kernel
theorem dX9_would_15 : decode cX9_would 15 = .ok (.ifCond .eq 6, 3) := by decide +kernel
theorem dX9_would_18 : decode cX9_would 18 = .ok (.bipush (-5), 2) := by decide +kernel
theorem dX9_would_20 : decode cX9_would 20 = .ok (.ireturn, 1) := by decide +kernel
theorem dX9_would_21 : decode cX9_would 21 = .ok (.aload_n 0, 1) := by decide +kernel
theorem dX9_would_22 : decode cX9_would 22 = .ok (.getfield 64, 3) := by decide +kernel
theorem dX9_would_25 : decode cX9_would 25 = .ok (.aload_n 0, 1) := by decide +kernel
theorem dX9_would_26 : decode cX9_would 26 = .ok (.getfield 19, 3) := by decide +kernel
theorem dX9_would_29 : decode cX9_would 29 = .ok (.iload_n 1, 1) := by decide +kernel
theorem dX9_would_30 : decode cX9_would 30 = .ok (.invokevirtual 239, 3) := by decide +kernel
theorem dX9_would_33 : decode cX9_would 33 = .ok (.aload_n 0, 1) := by decide +kernel
theorem dX9_would_34 : decode cX9_would 34 = .ok (.getfield 64, 3) := by decide +kernel
theorem dX9_would_37 : decode cX9_would 37 = .ok (.getfield 243, 3) := by decide +kernel
theorem dX9_would_40 : decode cX9_would 40 = .ok (.ireturn, 1) := by decide +kernel
theorem dX9_machine_0 : decode cX9_machine 0 = .ok (.iload_n 1, 1) := by decide +kernel
theorem dX9_machine_1 : decode cX9_machine 1 = .ok (.invokestatic 142, 3) := by decide +kernel
theorem dX9_machine_4 : decode cX9_machine 4 = .ok (.ifCond .ne 12, 3) := by decide +kernel
theorem dX9_machine_7 : decode cX9_machine 7 = .ok (.iload_n 2, 1) := by decide +kernel
theorem dX9_machine_8 : decode cX9_machine 8 = .ok (.ifCond .lt 8, 3) := by decide +kernel
theorem dX9_machine_11 : decode cX9_machine 11 = .ok (.iload_n 2, 1) := by decide +kernel
theorem dX9_machine_12 : decode cX9_machine 12 = .ok (.iconst 1, 1) := by decide +kernel
theorem dX9_machine_13 : decode cX9_machine 13 = .ok (.if_icmp .le 5, 3) := by decide +kernel
theorem dX9_machine_16 : decode cX9_machine 16 = .ok (.iconst (-1), 1) := by decide +kernel
theorem dX9_machine_17 : decode cX9_machine 17 = .ok (.ireturn, 1) := by decide +kernel
theorem dX9_machine_18 : decode cX9_machine 18 = .ok (.aload_n 0, 1) := by decide +kernel
theorem dX9_machine_19 : decode cX9_machine 19 = .ok (.invokevirtual 145, 3) := by decide +kernel
theorem dX9_machine_22 : decode cX9_machine 22 = .ok (.ifCond .eq 6, 3) := by decide +kernel
theorem dX9_machine_25 : decode cX9_machine 25 = .ok (.bipush (-5), 2) := by decide +kernel
theorem dX9_machine_27 : decode cX9_machine 27 = .ok (.ireturn, 1) := by decide +kernel
theorem dX9_machine_28 : decode cX9_machine 28 = .ok (.aload_n 0, 1) := by decide +kernel
theorem dX9_machine_29 : decode cX9_machine 29 = .ok (.getfield 19, 3) := by decide +kernel
theorem dX9_machine_32 : decode cX9_machine 32 = .ok (.iload_n 1, 1) := by decide +kernel
theorem dX9_machine_33 : decode cX9_machine 33 = .ok (.invokevirtual 149, 3) := by decide +kernel
theorem dX9_machine_36 : decode cX9_machine 36 = .ok (.ifCond .ne 6, 3) := by decide +kernel
theorem dX9_machine_39 : decode cX9_machine 39 = .ok (.bipush (-2), 2) := by decide +kernel
theorem dX9_machine_41 : decode cX9_machine 41 = .ok (.ireturn, 1) := by decide +kernel
theorem dX9_machine_42 : decode cX9_machine 42 = .ok (.iload_n 2, 1) := by decide +kernel
theorem dX9_machine_43 : decode cX9_machine 43 = .ok (.ifCond .ne 18, 3) := by decide +kernel
theorem dX9_machine_46 : decode cX9_machine 46 = .ok (.aload_n 0, 1) := by decide +kernel
theorem dX9_machine_47 : decode cX9_machine 47 = .ok (.getfield 71, 3) := by decide +kernel
theorem dX9_machine_50 : decode cX9_machine 50 = .ok (.aload_n 0, 1) := by decide +kernel
theorem dX9_machine_51 : decode cX9_machine 51 = .ok (.getfield 19, 3) := by decide +kernel
theorem dX9_machine_54 : decode cX9_machine 54 = .ok (.iload_n 1, 1) := by decide +kernel
theorem dX9_machine_55 : decode cX9_machine 55 = .ok (.invokevirtual 244, 3) := by decide +kernel
theorem dX9_machine_58 : decode cX9_machine 58 = .ok (.goto 15, 3) := by decide +kernel
theorem dX9_machine_61 : decode cX9_machine 61 = .ok (.aload_n 0, 1) := by decide +kernel
theorem dX9_machine_62 : decode cX9_machine 62 = .ok (.getfield 71, 3) := by decide +kernel
theorem dX9_machine_65 : decode cX9_machine 65 = .ok (.aload_n 0, 1) := by decide +kernel
theorem dX9_machine_66 : decode cX9_machine 66 = .ok (.getfield 19, 3) := by decide +kernel
theorem dX9_machine_69 : decode cX9_machine 69 = .ok (.iload_n 1, 1) := by decide +kernel
theorem dX9_machine_70 : decode cX9_machine 70 = .ok (.invokevirtual 248, 3) := by decide +kernel
theorem dX9_machine_73 : decode cX9_machine 73 = .ok (.ireturn, 1) := by decide +kernel
theorem dX9_bound_0 : decode cX9_bound 0 = .ok (.aload_n 0, 1) := by decide +kernel
theorem dX9_bound_1 : decode cX9_bound 1 = .ok (.invokevirtual 145, 3) := by decide +kernel
theorem dX9_bound_4 : decode cX9_bound 4 = .ok (.ifCond .eq 6, 3) := by decide +kernel
theorem dX9_bound_7 : decode cX9_bound 7 = .ok (.bipush (-5), 2) := by decide +kernel
theorem dX9_bound_9 : decode cX9_bound 9 = .ok (.ireturn, 1) := by decide +kernel
theorem dX9_bound_10 : decode cX9_bound 10 = .ok (.aload_n 0, 1) := by decide +kernel
theorem dX9_bound_11 : decode cX9_bound 11 = .ok (.getfield 19, 3) := by decide +kernel
theorem dX9_bound_14 : decode cX9_bound 14 = .ok (.invokevirtual 251, 3) := by decide +kernel
theorem dX9_bound_17 : decode cX9_bound 17 = .ok (.istore_n 1, 1) := by decide +kernel
theorem dX9_bound_18 : decode cX9_bound 18 = .ok (.iconst 0, 1) := by decide +kernel
theorem dX9_bound_19 : decode cX9_bound 19 = .ok (.istore_n 2, 1) := by decide +kernel
theorem dX9_bound_20 : decode cX9_bound 20 = .ok (.iload_n 2, 1) := by decide +kernel
theorem dX9_bound_21 : decode cX9_bound 21 = .ok (.iconst 5, 1) := by decide +kernel
theorem dX9_bound_22 : decode cX9_bound 22 = .ok (.if_icmp .ge 37, 3) := by decide +kernel
theorem dX9_bound_25 : decode cX9_bound 25 = .ok (.aload_n 0, 1) := by decide +kernel
theorem dX9_bound_26 : decode cX9_bound 26 = .ok (.getfield 71, 3) := by decide +kernel
theorem dX9_bound_29 : decode cX9_bound 29 = .ok (.aload_n 0, 1) := by decide +kernel
theorem dX9_bound_30 : decode cX9_bound 30 = .ok (.getfield 19, 3) := by decide +kernel
theorem dX9_bound_33 : decode cX9_bound 33 = .ok (.iload_n 2, 1) := by decide +kernel
theorem dX9_bound_34 : decode cX9_bound 34 = .ok (.invokevirtual 244, 3) := by decide +kernel
theorem dX9_bound_37 : decode cX9_bound 37 = .ok (.istore_n 3, 1) := by decide +kernel
theorem dX9_bound_38 : decode cX9_bound 38 = .ok (.iload_n 3, 1) := by decide +kernel
theorem dX9_bound_39 : decode cX9_bound 39 = .ok (.bipush (-7), 2) := by decide +kernel
theorem dX9_bound_41 : decode cX9_bound 41 = .ok (.if_icmp .ne 6, 3) := by decide +kernel
theorem dX9_bound_44 : decode cX9_bound 44 = .ok (.bipush (-7), 2) := by decide +kernel
theorem dX9_bound_46 : decode cX9_bound 46 = .ok (.ireturn, 1) := by decide +kernel
theorem dX9_bound_47 : decode cX9_bound 47 = .ok (.iload_n 1, 1) := by decide +kernel
theorem dX9_bound_48 : decode cX9_bound 48 = .ok (.iload_n 3, 1) := by decide +kernel
theorem dX9_bound_49 : decode cX9_bound 49 = .ok (.invokestatic 254, 3) := by decide +kernel
theorem dX9_bound_52 : decode cX9_bound 52 = .ok (.istore_n 1, 1) := by decide +kernel
theorem dX9_bound_53 : decode cX9_bound 53 = .ok (.iinc 2 1, 3) := by decide +kernel
theorem dX9_bound_56 : decode cX9_bound 56 = .ok (.goto (-36), 3) := by decide +kernel
theorem dX9_bound_59 : decode cX9_bound 59 = .ok (.iload_n 1, 1) := by decide +kernel
theorem dX9_bound_60 : decode cX9_bound 60 = .ok (.ireturn, 1) := by decide +kernel
theorem dX9_all_0 : decode cX9_all 0 = .ok (.iload_n 1, 1) := by decide +kernel
theorem dX9_all_1 : decode cX9_all 1 = .ok (.ifCond .lt 8, 3) := by decide +kernel
theorem dX9_all_4 : decode cX9_all 4 = .ok (.iload_n 1, 1) := by decide +kernel
theorem dX9_all_5 : decode cX9_all 5 = .ok (.iconst 1, 1) := by decide +kernel
theorem dX9_all_6 : decode cX9_all 6 = .ok (.if_icmp .le 5, 3) := by decide +kernel
theorem dX9_all_9 : decode cX9_all 9 = .ok (.iconst (-1), 1) := by decide +kernel
theorem dX9_all_10 : decode cX9_all 10 = .ok (.ireturn, 1) := by decide +kernel
theorem dX9_all_11 : decode cX9_all 11 = .ok (.aload_n 0, 1) := by decide +kernel
theorem dX9_all_12 : decode cX9_all 12 = .ok (.invokevirtual 145, 3) := by decide +kernel
theorem dX9_all_15 : decode cX9_all 15 = .ok (.ifCond .eq 6, 3) := by decide +kernel
theorem dX9_all_18 : decode cX9_all 18 = .ok (.bipush (-5), 2) := by decide +kernel
theorem dX9_all_20 : decode cX9_all 20 = .ok (.ireturn, 1) := by decide +kernel
theorem dX9_all_21 : decode cX9_all 21 = .ok (.aload_n 0, 1) := by decide +kernel
theorem dX9_all_22 : decode cX9_all 22 = .ok (.getfield 78, 3) := by decide +kernel
theorem dX9_all_25 : decode cX9_all 25 = .ok (.aload_n 0, 1) := by decide +kernel
theorem dX9_all_26 : decode cX9_all 26 = .ok (.getfield 19, 3) := by decide +kernel
theorem dX9_all_29 : decode cX9_all 29 = .ok (.aload_n 0, 1) := by decide +kernel
theorem dX9_all_30 : decode cX9_all 30 = .ok (.getfield 37, 3) := by decide +kernel
theorem dX9_all_33 : decode cX9_all 33 = .ok (.invokevirtual 259, 3) := by decide +kernel
theorem dX9_all_36 : decode cX9_all 36 = .ok (.ifCond .ne 6, 3) := by decide +kernel
theorem dX9_all_39 : decode cX9_all 39 = .ok (.bipush (-7), 2) := by decide +kernel
theorem dX9_all_41 : decode cX9_all 41 = .ok (.ireturn, 1) := by decide +kernel
theorem dX9_all_42 : decode cX9_all 42 = .ok (.iload_n 1, 1) := by decide +kernel
theorem dX9_all_43 : decode cX9_all 43 = .ok (.ifCond .ne 13, 3) := by decide +kernel
theorem dX9_all_46 : decode cX9_all 46 = .ok (.aload_n 0, 1) := by decide +kernel
theorem dX9_all_47 : decode cX9_all 47 = .ok (.getfield 78, 3) := by decide +kernel
theorem dX9_all_50 : decode cX9_all 50 = .ok (.getfield 263, 3) := by decide +kernel
theorem dX9_all_53 : decode cX9_all 53 = .ok (.goto 10, 3) := by decide +kernel
theorem dX9_all_56 : decode cX9_all 56 = .ok (.aload_n 0, 1) := by decide +kernel
theorem dX9_all_57 : decode cX9_all 57 = .ok (.getfield 78, 3) := by decide +kernel
theorem dX9_all_60 : decode cX9_all 60 = .ok (.getfield 266, 3) := by decide +kernel
theorem dX9_all_63 : decode cX9_all 63 = .ok (.ireturn, 1) := by decide +kernel
theorem dX9_chart_0 : decode cX9_chart 0 = .ok (.iload_n 1, 1) := by decide +kernel
theorem dX9_chart_1 : decode cX9_chart 1 = .ok (.iconst (-1), 1) := by decide +kernel
theorem dX9_chart_2 : decode cX9_chart 2 = .ok (.if_icmp .ge 5, 3) := by decide +kernel
theorem dX9_chart_5 : decode cX9_chart 5 = .ok (.iconst (-1), 1) := by decide +kernel
theorem dX9_chart_6 : decode cX9_chart 6 = .ok (.ireturn, 1) := by decide +kernel
theorem dX9_chart_7 : decode cX9_chart 7 = .ok (.aload_n 0, 1) := by decide +kernel
theorem dX9_chart_8 : decode cX9_chart 8 = .ok (.invokevirtual 166, 3) := by decide +kernel
theorem dX9_chart_11 : decode cX9_chart 11 = .ok (.istore_n 2, 1) := by decide +kernel
theorem dX9_chart_12 : decode cX9_chart 12 = .ok (.iload_n 2, 1) := by decide +kernel
theorem dX9_chart_13 : decode cX9_chart 13 = .ok (.ifCond .eq 5, 3) := by decide +kernel
theorem dX9_chart_16 : decode cX9_chart 16 = .ok (.iload_n 2, 1) := by decide +kernel
theorem dX9_chart_17 : decode cX9_chart 17 = .ok (.ireturn, 1) := by decide +kernel
theorem dX9_chart_18 : decode cX9_chart 18 = .ok (.aload_n 0, 1) := by decide +kernel
theorem dX9_chart_19 : decode cX9_chart 19 = .ok (.getfield 33, 3) := by decide +kernel
theorem dX9_chart_22 : decode cX9_chart 22 = .ok (.getfield 169, 3) := by decide +kernel
theorem dX9_chart_25 : decode cX9_chart 25 = .ok (.iconst 1, 1) := by decide +kernel
theorem dX9_chart_26 : decode cX9_chart 26 = .ok (.iadd, 1) := by decide +kernel
theorem dX9_chart_27 : decode cX9_chart 27 = .ok (.istore_n 3, 1) := by decide +kernel
theorem dX9_chart_28 : decode cX9_chart 28 = .ok (.iload_n 1, 1) := by decide +kernel
theorem dX9_chart_29 : decode cX9_chart 29 = .ok (.iconst (-1), 1) := by decide +kernel
theorem dX9_chart_30 : decode cX9_chart 30 = .ok (.if_icmp .ne 7, 3) := by decide +kernel
theorem dX9_chart_33 : decode cX9_chart 33 = .ok (.iconst 5, 1) := by decide +kernel
theorem dX9_chart_34 : decode cX9_chart 34 = .ok (.iload_n 3, 1) := by decide +kernel
theorem dX9_chart_35 : decode cX9_chart 35 = .ok (.imul, 1) := by decide +kernel
theorem dX9_chart_36 : decode cX9_chart 36 = .ok (.ireturn, 1) := by decide +kernel
theorem dX9_chart_37 : decode cX9_chart 37 = .ok (.iload_n 3, 1) := by decide +kernel
theorem dX9_chart_38 : decode cX9_chart 38 = .ok (.ifCond .le 23, 3) := by decide +kernel
theorem dX9_chart_41 : decode cX9_chart 41 = .ok (.iload_n 1, 1) := by decide +kernel
theorem dX9_chart_42 : decode cX9_chart 42 = .ok (.iconst 5, 1) := by decide +kernel
theorem dX9_chart_43 : decode cX9_chart 43 = .ok (.iload_n 3, 1) := by decide +kernel
theorem dX9_chart_44 : decode cX9_chart 44 = .ok (.imul, 1) := by decide +kernel
theorem dX9_chart_45 : decode cX9_chart 45 = .ok (.if_icmp .ge 16, 3) := by decide +kernel
theorem dX9_chart_48 : decode cX9_chart 48 = .ok (.aload_n 0, 1) := by decide +kernel
theorem dX9_chart_49 : decode cX9_chart 49 = .ok (.iload_n 1, 1) := by decide +kernel
theorem dX9_chart_50 : decode cX9_chart 50 = .ok (.iload_n 3, 1) := by decide +kernel
theorem dX9_chart_51 : decode cX9_chart 51 = .ok (.idiv, 1) := by decide +kernel
theorem dX9_chart_52 : decode cX9_chart 52 = .ok (.iload_n 1, 1) := by decide +kernel
theorem dX9_chart_53 : decode cX9_chart 53 = .ok (.iload_n 3, 1) := by decide +kernel
theorem dX9_chart_54 : decode cX9_chart 54 = .ok (.irem, 1) := by decide +kernel
theorem dX9_chart_55 : decode cX9_chart 55 = .ok (.invokevirtual 267, 3) := by decide +kernel
theorem dX9_chart_58 : decode cX9_chart 58 = .ok (.goto 5, 3) := by decide +kernel
theorem dX9_chart_61 : decode cX9_chart 61 = .ok (.bipush (-2), 2) := by decide +kernel
theorem dX9_chart_63 : decode cX9_chart 63 = .ok (.ireturn, 1) := by decide +kernel
theorem dX9_undo_0 : decode cX9_undo 0 = .ok (.aload_n 0, 1) := by decide +kernel
theorem dX9_undo_1 : decode cX9_undo 1 = .ok (.getfield 57, 3) := by decide +kernel
theorem dX9_undo_4 : decode cX9_undo 4 = .ok (.aload_n 0, 1) := by decide +kernel
theorem dX9_undo_5 : decode cX9_undo 5 = .ok (.getfield 26, 3) := by decide +kernel
theorem dX9_undo_8 : decode cX9_undo 8 = .ok (.invokevirtual 270, 3) := by decide +kernel
theorem dX9_undo_11 : decode cX9_undo 11 = .ok (.ifCond .ne 6, 3) := by decide +kernel
theorem dX9_undo_14 : decode cX9_undo 14 = .ok (.bipush (-5), 2) := by decide +kernel
theorem dX9_undo_16 : decode cX9_undo 16 = .ok (.ireturn, 1) := by decide +kernel
theorem dX9_undo_17 : decode cX9_undo 17 = .ok (.aload_n 0, 1) := by decide +kernel
theorem dX9_undo_18 : decode cX9_undo 18 = .ok (.invokevirtual 274, 3) := by decide +kernel
theorem dX9_undo_21 : decode cX9_undo 21 = .ok (.aload_n 0, 1) := by decide +kernel
theorem dX9_undo_22 : decode cX9_undo 22 = .ok (.getfield 57, 3) := by decide +kernel
theorem dX9_undo_25 : decode cX9_undo 25 = .ok (.getfield 277, 3) := by decide +kernel
theorem dX9_undo_28 : decode cX9_undo 28 = .ok (.ireturn, 1) := by decide +kernel
theorem dX9_redo_0 : decode cX9_redo 0 = .ok (.aload_n 0, 1) := by decide +kernel
theorem dX9_redo_1 : decode cX9_redo 1 = .ok (.getfield 57, 3) := by decide +kernel
theorem dX9_redo_4 : decode cX9_redo 4 = .ok (.aload_n 0, 1) := by decide +kernel
theorem dX9_redo_5 : decode cX9_redo 5 = .ok (.getfield 26, 3) := by decide +kernel
theorem dX9_redo_8 : decode cX9_redo 8 = .ok (.invokevirtual 280, 3) := by decide +kernel
theorem dX9_redo_11 : decode cX9_redo 11 = .ok (.ifCond .ne 6, 3) := by decide +kernel
theorem dX9_redo_14 : decode cX9_redo 14 = .ok (.bipush (-5), 2) := by decide +kernel
theorem dX9_redo_16 : decode cX9_redo 16 = .ok (.ireturn, 1) := by decide +kernel
theorem dX9_redo_17 : decode cX9_redo 17 = .ok (.aload_n 0, 1) := by decide +kernel
theorem dX9_redo_18 : decode cX9_redo 18 = .ok (.invokevirtual 274, 3) := by decide +kernel
theorem dX9_redo_21 : decode cX9_redo 21 = .ok (.aload_n 0, 1) := by decide +kernel
theorem dX9_redo_22 : decode cX9_redo 22 = .ok (.getfield 57, 3) := by decide +kernel
theorem dX9_redo_25 : decode cX9_redo 25 = .ok (.getfield 283, 3) := by decide +kernel
theorem dX9_redo_28 : decode cX9_redo 28 = .ok (.aload_n 0, 1) := by decide +kernel
theorem dX9_redo_29 : decode cX9_redo 29 = .ok (.getfield 57, 3) := by decide +kernel
theorem dX9_redo_32 : decode cX9_redo 32 = .ok (.getfield 277, 3) := by decide +kernel
theorem dX9_redo_35 : decode cX9_redo 35 = .ok (.isub, 1) := by decide +kernel
theorem dX9_redo_36 : decode cX9_redo 36 = .ok (.ireturn, 1) := by decide +kernel
theorem dX9_image_0 : decode cX9_image 0 = .ok (.aload_n 0, 1) := by decide +kernel
theorem dX9_image_1 : decode cX9_image 1 = .ok (.invokevirtual 145, 3) := by decide +kernel
theorem dX9_image_4 : decode cX9_image 4 = .ok (.ifCond .eq 6, 3) := by decide +kernel
theorem dX9_image_7 : decode cX9_image 7 = .ok (.bipush (-5), 2) := by decide +kernel
theorem dX9_image_9 : decode cX9_image 9 = .ok (.ireturn, 1) := by decide +kernel
theorem dX9_image_10 : decode cX9_image 10 = .ok (.aload_n 0, 1) := by decide +kernel
theorem dX9_image_11 : decode cX9_image 11 = .ok (.getfield 82, 3) := by decide +kernel
theorem dX9_image_14 : decode cX9_image 14 = .ok (.aload_n 0, 1) := by decide +kernel
theorem dX9_image_15 : decode cX9_image 15 = .ok (.getfield 19, 3) := by decide +kernel
theorem dX9_image_18 : decode cX9_image 18 = .ok (.invokevirtual 109, 3) := by decide +kernel
theorem dX9_image_21 : decode cX9_image 21 = .ok (.aload_n 0, 1) := by decide +kernel
theorem dX9_image_22 : decode cX9_image 22 = .ok (.getfield 26, 3) := by decide +kernel
theorem dX9_image_25 : decode cX9_image 25 = .ok (.aload_n 0, 1) := by decide +kernel
theorem dX9_image_26 : decode cX9_image 26 = .ok (.getfield 85, 3) := by decide +kernel
theorem dX9_image_29 : decode cX9_image 29 = .ok (.invokestatic 231, 3) := by decide +kernel
theorem dX9_image_32 : decode cX9_image 32 = .ok (.aload_n 0, 1) := by decide +kernel
theorem dX9_image_33 : decode cX9_image 33 = .ok (.getfield 19, 3) := by decide +kernel
theorem dX9_image_36 : decode cX9_image 36 = .ok (.getfield 120, 3) := by decide +kernel
theorem dX9_image_39 : decode cX9_image 39 = .ok (.ireturn, 1) := by decide +kernel
theorem dX9_back_0 : decode cX9_back 0 = .ok (.aload_n 0, 1) := by decide +kernel
theorem dX9_back_1 : decode cX9_back 1 = .ok (.getfield 82, 3) := by decide +kernel
theorem dX9_back_4 : decode cX9_back 4 = .ok (.getfield 120, 3) := by decide +kernel
theorem dX9_back_7 : decode cX9_back 7 = .ok (.ifCond .ne 6, 3) := by decide +kernel
theorem dX9_back_10 : decode cX9_back 10 = .ok (.bipush (-5), 2) := by decide +kernel
theorem dX9_back_12 : decode cX9_back 12 = .ok (.ireturn, 1) := by decide +kernel
theorem dX9_back_13 : decode cX9_back 13 = .ok (.aload_n 0, 1) := by decide +kernel
theorem dX9_back_14 : decode cX9_back 14 = .ok (.getfield 19, 3) := by decide +kernel
theorem dX9_back_17 : decode cX9_back 17 = .ok (.aload_n 0, 1) := by decide +kernel
theorem dX9_back_18 : decode cX9_back 18 = .ok (.getfield 82, 3) := by decide +kernel
theorem dX9_back_21 : decode cX9_back 21 = .ok (.invokevirtual 109, 3) := by decide +kernel
theorem dX9_back_24 : decode cX9_back 24 = .ok (.aload_n 0, 1) := by decide +kernel
theorem dX9_back_25 : decode cX9_back 25 = .ok (.getfield 85, 3) := by decide +kernel
theorem dX9_back_28 : decode cX9_back 28 = .ok (.aload_n 0, 1) := by decide +kernel
theorem dX9_back_29 : decode cX9_back 29 = .ok (.getfield 26, 3) := by decide +kernel
theorem dX9_back_32 : decode cX9_back 32 = .ok (.invokestatic 231, 3) := by decide +kernel
theorem dX9_back_35 : decode cX9_back 35 = .ok (.aload_n 0, 1) := by decide +kernel
theorem dX9_back_36 : decode cX9_back 36 = .ok (.invokevirtual 117, 3) := by decide +kernel
theorem dX9_back_39 : decode cX9_back 39 = .ok (.aload_n 0, 1) := by decide +kernel
theorem dX9_back_40 : decode cX9_back 40 = .ok (.getfield 19, 3) := by decide +kernel
theorem dX9_back_43 : decode cX9_back 43 = .ok (.getfield 120, 3) := by decide +kernel
theorem dX9_back_46 : decode cX9_back 46 = .ok (.ireturn, 1) := by decide +kernel
theorem dX9_count_0 : decode cX9_count 0 = .ok (.iload_n 1, 1) := by decide +kernel
theorem dX9_count_1 : decode cX9_count 1 = .ok (.tableswitch 92 0 5 #[39, 47, 55, 63, 71, 87], 39) := by decide +kernel
theorem dX9_count_40 : decode cX9_count 40 = .ok (.aload_n 0, 1) := by decide +kernel
theorem dX9_count_41 : decode cX9_count 41 = .ok (.getfield 19, 3) := by decide +kernel
theorem dX9_count_44 : decode cX9_count 44 = .ok (.getfield 286, 3) := by decide +kernel
theorem dX9_count_47 : decode cX9_count 47 = .ok (.ireturn, 1) := by decide +kernel
theorem dX9_count_48 : decode cX9_count 48 = .ok (.aload_n 0, 1) := by decide +kernel
theorem dX9_count_49 : decode cX9_count 49 = .ok (.getfield 19, 3) := by decide +kernel
theorem dX9_count_52 : decode cX9_count 52 = .ok (.getfield 120, 3) := by decide +kernel
theorem dX9_count_55 : decode cX9_count 55 = .ok (.ireturn, 1) := by decide +kernel
theorem dX9_count_56 : decode cX9_count 56 = .ok (.aload_n 0, 1) := by decide +kernel
theorem dX9_count_57 : decode cX9_count 57 = .ok (.getfield 10, 3) := by decide +kernel
theorem dX9_count_60 : decode cX9_count 60 = .ok (.getfield 98, 3) := by decide +kernel
theorem dX9_count_63 : decode cX9_count 63 = .ok (.ireturn, 1) := by decide +kernel
theorem dX9_count_64 : decode cX9_count 64 = .ok (.aload_n 0, 1) := by decide +kernel
theorem dX9_count_65 : decode cX9_count 65 = .ok (.getfield 57, 3) := by decide +kernel
theorem dX9_count_68 : decode cX9_count 68 = .ok (.getfield 277, 3) := by decide +kernel
theorem dX9_count_71 : decode cX9_count 71 = .ok (.ireturn, 1) := by decide +kernel
theorem dX9_count_72 : decode cX9_count 72 = .ok (.aload_n 0, 1) := by decide +kernel
theorem dX9_count_73 : decode cX9_count 73 = .ok (.getfield 57, 3) := by decide +kernel
theorem dX9_count_76 : decode cX9_count 76 = .ok (.getfield 283, 3) := by decide +kernel
theorem dX9_count_79 : decode cX9_count 79 = .ok (.aload_n 0, 1) := by decide +kernel
theorem dX9_count_80 : decode cX9_count 80 = .ok (.getfield 57, 3) := by decide +kernel
theorem dX9_count_83 : decode cX9_count 83 = .ok (.getfield 277, 3) := by decide +kernel
theorem dX9_count_86 : decode cX9_count 86 = .ok (.isub, 1) := by decide +kernel
theorem dX9_count_87 : decode cX9_count 87 = .ok (.ireturn, 1) := by decide +kernel
theorem dX9_count_88 : decode cX9_count 88 = .ok (.aload_n 0, 1) := by decide +kernel
theorem dX9_count_89 : decode cX9_count 89 = .ok (.getfield 95, 3) := by decide +kernel
theorem dX9_count_92 : decode cX9_count 92 = .ok (.ireturn, 1) := by decide +kernel
theorem dX9_count_93 : decode cX9_count 93 = .ok (.iconst (-1), 1) := by decide +kernel
theorem dX9_count_94 : decode cX9_count 94 = .ok (.ireturn, 1) := by decide +kernel
theorem dX9_noShop_0 : decode cX9_noShop 0 = .ok (.aload_n 0, 1) := by decide +kernel
theorem dX9_noShop_1 : decode cX9_noShop 1 = .ok (.getfield 19, 3) := by decide +kernel
theorem dX9_noShop_4 : decode cX9_noShop 4 = .ok (.getfield 120, 3) := by decide +kernel
theorem dX9_noShop_7 : decode cX9_noShop 7 = .ok (.ifCond .ne 7, 3) := by decide +kernel
theorem dX9_noShop_10 : decode cX9_noShop 10 = .ok (.iconst 1, 1) := by decide +kernel
theorem dX9_noShop_11 : decode cX9_noShop 11 = .ok (.goto 4, 3) := by decide +kernel
theorem dX9_noShop_14 : decode cX9_noShop 14 = .ok (.iconst 0, 1) := by decide +kernel
theorem dX9_noShop_15 : decode cX9_noShop 15 = .ok (.ireturn, 1) := by decide +kernel
theorem dX9_noTask_0 : decode cX9_noTask 0 = .ok (.iload_n 1, 1) := by decide +kernel
theorem dX9_noTask_1 : decode cX9_noTask 1 = .ok (.ifCond .lt 14, 3) := by decide +kernel
theorem dX9_noTask_4 : decode cX9_noTask 4 = .ok (.iload_n 1, 1) := by decide +kernel
theorem dX9_noTask_5 : decode cX9_noTask 5 = .ok (.aload_n 0, 1) := by decide +kernel
theorem dX9_noTask_6 : decode cX9_noTask 6 = .ok (.getfield 19, 3) := by decide +kernel
theorem dX9_noTask_9 : decode cX9_noTask 9 = .ok (.getfield 120, 3) := by decide +kernel
theorem dX9_noTask_12 : decode cX9_noTask 12 = .ok (.if_icmp .lt 7, 3) := by decide +kernel
theorem dX9_noTask_15 : decode cX9_noTask 15 = .ok (.iconst 1, 1) := by decide +kernel
theorem dX9_noTask_16 : decode cX9_noTask 16 = .ok (.goto 4, 3) := by decide +kernel
theorem dX9_noTask_19 : decode cX9_noTask 19 = .ok (.iconst 0, 1) := by decide +kernel
theorem dX9_noTask_20 : decode cX9_noTask 20 = .ok (.ireturn, 1) := by decide +kernel
theorem dX9_noMachine_0 : decode cX9_noMachine 0 = .ok (.iload_n 0, 1) := by decide +kernel
theorem dX9_noMachine_1 : decode cX9_noMachine 1 = .ok (.ifCond .lt 8, 3) := by decide +kernel
theorem dX9_noMachine_4 : decode cX9_noMachine 4 = .ok (.iload_n 0, 1) := by decide +kernel
theorem dX9_noMachine_5 : decode cX9_noMachine 5 = .ok (.iconst 5, 1) := by decide +kernel
theorem dX9_noMachine_6 : decode cX9_noMachine 6 = .ok (.if_icmp .lt 7, 3) := by decide +kernel
theorem dX9_noMachine_9 : decode cX9_noMachine 9 = .ok (.iconst 1, 1) := by decide +kernel
theorem dX9_noMachine_10 : decode cX9_noMachine 10 = .ok (.goto 4, 3) := by decide +kernel
theorem dX9_noMachine_13 : decode cX9_noMachine 13 = .ok (.iconst 0, 1) := by decide +kernel
theorem dX9_noMachine_14 : decode cX9_noMachine 14 = .ok (.ireturn, 1) := by decide +kernel
theorem dX9_refusedByState_0 : decode cX9_refusedByState 0 = .ok (.aload_n 0, 1) := by decide +kernel
theorem dX9_refusedByState_1 : decode cX9_refusedByState 1 = .ok (.invokevirtual 145, 3) := by decide +kernel
theorem dX9_refusedByState_4 : decode cX9_refusedByState 4 = .ok (.ifCond .eq 6, 3) := by decide +kernel
theorem dX9_refusedByState_7 : decode cX9_refusedByState 7 = .ok (.bipush (-5), 2) := by decide +kernel
theorem dX9_refusedByState_9 : decode cX9_refusedByState 9 = .ok (.ireturn, 1) := by decide +kernel
theorem dX9_refusedByState_10 : decode cX9_refusedByState 10 = .ok (.aload_n 0, 1) := by decide +kernel
theorem dX9_refusedByState_11 : decode cX9_refusedByState 11 = .ok (.getfield 33, 3) := by decide +kernel
theorem dX9_refusedByState_14 : decode cX9_refusedByState 14 = .ok (.getfield 288, 3) := by decide +kernel
theorem dX9_refusedByState_17 : decode cX9_refusedByState 17 = .ok (.ifCond .eq 8, 3) := by decide +kernel
theorem dX9_refusedByState_20 : decode cX9_refusedByState 20 = .ok (.bipush (-4), 2) := by decide +kernel
theorem dX9_refusedByState_22 : decode cX9_refusedByState 22 = .ok (.goto 4, 3) := by decide +kernel
theorem dX9_refusedByState_25 : decode cX9_refusedByState 25 = .ok (.iconst 0, 1) := by decide +kernel
theorem dX9_refusedByState_26 : decode cX9_refusedByState 26 = .ok (.ireturn, 1) := by decide +kernel
theorem dX9_spanOrRing_0 : decode cX9_spanOrRing 0 = .ok (.aload_n 0, 1) := by decide +kernel
theorem dX9_spanOrRing_1 : decode cX9_spanOrRing 1 = .ok (.getfield 33, 3) := by decide +kernel
theorem dX9_spanOrRing_4 : decode cX9_spanOrRing 4 = .ok (.getfield 288, 3) := by decide +kernel
theorem dX9_spanOrRing_7 : decode cX9_spanOrRing 7 = .ok (.ifCond .eq 8, 3) := by decide +kernel
theorem dX9_spanOrRing_10 : decode cX9_spanOrRing 10 = .ok (.bipush (-4), 2) := by decide +kernel
theorem dX9_spanOrRing_12 : decode cX9_spanOrRing 12 = .ok (.goto 10, 3) := by decide +kernel
theorem dX9_spanOrRing_15 : decode cX9_spanOrRing 15 = .ok (.aload_n 0, 1) := by decide +kernel
theorem dX9_spanOrRing_16 : decode cX9_spanOrRing 16 = .ok (.getfield 33, 3) := by decide +kernel
theorem dX9_spanOrRing_19 : decode cX9_spanOrRing 19 = .ok (.getfield 169, 3) := by decide +kernel
theorem dX9_spanOrRing_22 : decode cX9_spanOrRing 22 = .ok (.ireturn, 1) := by decide +kernel
theorem dX9_copyRow_0 : decode cX9_copyRow 0 = .ok (.aload_n 0, 1) := by decide +kernel
theorem dX9_copyRow_1 : decode cX9_copyRow 1 = .ok (.iconst 0, 1) := by decide +kernel
theorem dX9_copyRow_2 : decode cX9_copyRow 2 = .ok (.aload_n 1, 1) := by decide +kernel
theorem dX9_copyRow_3 : decode cX9_copyRow 3 = .ok (.iconst 0, 1) := by decide +kernel
theorem dX9_copyRow_4 : decode cX9_copyRow 4 = .ok (.bipush 24, 2) := by decide +kernel
theorem dX9_copyRow_6 : decode cX9_copyRow 6 = .ok (.invokestatic 292, 3) := by decide +kernel
theorem dX9_copyRow_9 : decode cX9_copyRow 9 = .ok (.return_, 1) := by decide +kernel
theorem dX9_pair_0 : decode cX9_pair 0 = .ok (.bipush 100, 2) := by decide +kernel
theorem dX9_pair_2 : decode cX9_pair 2 = .ok (.iload_n 0, 1) := by decide +kernel
theorem dX9_pair_3 : decode cX9_pair 3 = .ok (.imul, 1) := by decide +kernel
theorem dX9_pair_4 : decode cX9_pair 4 = .ok (.iload_n 1, 1) := by decide +kernel
theorem dX9_pair_5 : decode cX9_pair 5 = .ok (.iadd, 1) := by decide +kernel
theorem dX9_pair_6 : decode cX9_pair 6 = .ok (.ireturn, 1) := by decide +kernel
theorem dX9_slotOf_0 : decode cX9_slotOf 0 = .ok (.aload_n 0, 1) := by decide +kernel
theorem dX9_slotOf_1 : decode cX9_slotOf 1 = .ok (.getfield 19, 3) := by decide +kernel
theorem dX9_slotOf_4 : decode cX9_slotOf 4 = .ok (.getfield 153, 3) := by decide +kernel
theorem dX9_slotOf_7 : decode cX9_slotOf 7 = .ok (.aload_n 0, 1) := by decide +kernel
theorem dX9_slotOf_8 : decode cX9_slotOf 8 = .ok (.getfield 19, 3) := by decide +kernel
theorem dX9_slotOf_11 : decode cX9_slotOf 11 = .ok (.getfield 133, 3) := by decide +kernel
theorem dX9_slotOf_14 : decode cX9_slotOf 14 = .ok (.iload_n 1, 1) := by decide +kernel
theorem dX9_slotOf_15 : decode cX9_slotOf 15 = .ok (.iaload, 1) := by decide +kernel
theorem dX9_slotOf_16 : decode cX9_slotOf 16 = .ok (.iaload, 1) := by decide +kernel
theorem dX9_slotOf_17 : decode cX9_slotOf 17 = .ok (.aload_n 0, 1) := by decide +kernel
theorem dX9_slotOf_18 : decode cX9_slotOf 18 = .ok (.getfield 33, 3) := by decide +kernel
theorem dX9_slotOf_21 : decode cX9_slotOf 21 = .ok (.getfield 139, 3) := by decide +kernel
theorem dX9_slotOf_24 : decode cX9_slotOf 24 = .ok (.iload_n 1, 1) := by decide +kernel
theorem dX9_slotOf_25 : decode cX9_slotOf 25 = .ok (.iaload, 1) := by decide +kernel
theorem dX9_slotOf_26 : decode cX9_slotOf 26 = .ok (.iadd, 1) := by decide +kernel
theorem dX9_slotOf_27 : decode cX9_slotOf 27 = .ok (.ireturn, 1) := by decide +kernel
theorem dX9_changePlaces_0 : decode cX9_changePlaces 0 = .ok (.iload_n 1, 1) := by decide +kernel
theorem dX9_changePlaces_1 : decode cX9_changePlaces 1 = .ok (.ifCond .lt 11, 3) := by decide +kernel
theorem dX9_changePlaces_4 : decode cX9_changePlaces 4 = .ok (.iload_n 1, 1) := by decide +kernel
theorem dX9_changePlaces_5 : decode cX9_changePlaces 5 = .ok (.iconst 1, 1) := by decide +kernel
theorem dX9_changePlaces_6 : decode cX9_changePlaces 6 = .ok (.iadd, 1) := by decide +kernel
theorem dX9_changePlaces_7 : decode cX9_changePlaces 7 = .ok (.bipush 24, 2) := by decide +kernel
theorem dX9_changePlaces_9 : decode cX9_changePlaces 9 = .ok (.if_icmp .lt 4, 3) := by decide +kernel
theorem dX9_changePlaces_12 : decode cX9_changePlaces 12 = .ok (.return_, 1) := by decide +kernel
theorem dX9_changePlaces_13 : decode cX9_changePlaces 13 = .ok (.aload_n 0, 1) := by decide +kernel
theorem dX9_changePlaces_14 : decode cX9_changePlaces 14 = .ok (.getfield 26, 3) := by decide +kernel
theorem dX9_changePlaces_17 : decode cX9_changePlaces 17 = .ok (.iload_n 1, 1) := by decide +kernel
theorem dX9_changePlaces_18 : decode cX9_changePlaces 18 = .ok (.iaload, 1) := by decide +kernel
theorem dX9_changePlaces_19 : decode cX9_changePlaces 19 = .ok (.istore_n 2, 1) := by decide +kernel
theorem dX9_changePlaces_20 : decode cX9_changePlaces 20 = .ok (.aload_n 0, 1) := by decide +kernel
theorem dX9_changePlaces_21 : decode cX9_changePlaces 21 = .ok (.getfield 26, 3) := by decide +kernel
theorem dX9_changePlaces_24 : decode cX9_changePlaces 24 = .ok (.iload_n 1, 1) := by decide +kernel
theorem dX9_changePlaces_25 : decode cX9_changePlaces 25 = .ok (.aload_n 0, 1) := by decide +kernel
theorem dX9_changePlaces_26 : decode cX9_changePlaces 26 = .ok (.getfield 26, 3) := by decide +kernel
theorem dX9_changePlaces_29 : decode cX9_changePlaces 29 = .ok (.iload_n 1, 1) := by decide +kernel
theorem dX9_changePlaces_30 : decode cX9_changePlaces 30 = .ok (.iconst 1, 1) := by decide +kernel
theorem dX9_changePlaces_31 : decode cX9_changePlaces 31 = .ok (.iadd, 1) := by decide +kernel
theorem dX9_changePlaces_32 : decode cX9_changePlaces 32 = .ok (.iaload, 1) := by decide +kernel
theorem dX9_changePlaces_33 : decode cX9_changePlaces 33 = .ok (.iastore, 1) := by decide +kernel
theorem dX9_changePlaces_34 : decode cX9_changePlaces 34 = .ok (.aload_n 0, 1) := by decide +kernel
theorem dX9_changePlaces_35 : decode cX9_changePlaces 35 = .ok (.getfield 26, 3) := by decide +kernel
theorem dX9_changePlaces_38 : decode cX9_changePlaces 38 = .ok (.iload_n 1, 1) := by decide +kernel
theorem dX9_changePlaces_39 : decode cX9_changePlaces 39 = .ok (.iconst 1, 1) := by decide +kernel
theorem dX9_changePlaces_40 : decode cX9_changePlaces 40 = .ok (.iadd, 1) := by decide +kernel
theorem dX9_changePlaces_41 : decode cX9_changePlaces 41 = .ok (.iload_n 2, 1) := by decide +kernel
theorem dX9_changePlaces_42 : decode cX9_changePlaces 42 = .ok (.iastore, 1) := by decide +kernel
theorem dX9_changePlaces_43 : decode cX9_changePlaces 43 = .ok (.return_, 1) := by decide +kernel
theorem dX9_startAnew_0 : decode cX9_startAnew 0 = .ok (.aload_n 0, 1) := by decide +kernel
theorem dX9_startAnew_1 : decode cX9_startAnew 1 = .ok (.getfield 57, 3) := by decide +kernel
theorem dX9_startAnew_4 : decode cX9_startAnew 4 = .ok (.aload_n 0, 1) := by decide +kernel
theorem dX9_startAnew_5 : decode cX9_startAnew 5 = .ok (.getfield 26, 3) := by decide +kernel
theorem dX9_startAnew_8 : decode cX9_startAnew 8 = .ok (.invokevirtual 298, 3) := by decide +kernel
theorem dX9_startAnew_11 : decode cX9_startAnew 11 = .ok (.aload_n 0, 1) := by decide +kernel
theorem dX9_startAnew_12 : decode cX9_startAnew 12 = .ok (.invokevirtual 219, 3) := by decide +kernel
theorem dX9_startAnew_15 : decode cX9_startAnew 15 = .ok (.aload_n 0, 1) := by decide +kernel
theorem dX9_startAnew_16 : decode cX9_startAnew 16 = .ok (.getfield 71, 3) := by decide +kernel
theorem dX9_startAnew_19 : decode cX9_startAnew 19 = .ok (.invokevirtual 301, 3) := by decide +kernel
theorem dX9_startAnew_22 : decode cX9_startAnew 22 = .ok (.aload_n 0, 1) := by decide +kernel
theorem dX9_startAnew_23 : decode cX9_startAnew 23 = .ok (.getfield 78, 3) := by decide +kernel
theorem dX9_startAnew_26 : decode cX9_startAnew 26 = .ok (.invokevirtual 304, 3) := by decide +kernel
theorem dX9_startAnew_29 : decode cX9_startAnew 29 = .ok (.aload_n 0, 1) := by decide +kernel
theorem dX9_startAnew_30 : decode cX9_startAnew 30 = .ok (.invokevirtual 274, 3) := by decide +kernel
theorem dX9_startAnew_33 : decode cX9_startAnew 33 = .ok (.return_, 1) := by decide +kernel
theorem dX9_forgetSteps_0 : decode cX9_forgetSteps 0 = .ok (.aload_n 0, 1) := by decide +kernel
theorem dX9_forgetSteps_1 : decode cX9_forgetSteps 1 = .ok (.getfield 50, 3) := by decide +kernel
theorem dX9_forgetSteps_4 : decode cX9_forgetSteps 4 = .ok (.iconst 0, 1) := by decide +kernel
theorem dX9_forgetSteps_5 : decode cX9_forgetSteps 5 = .ok (.putfield 225, 3) := by decide +kernel
theorem dX9_forgetSteps_8 : decode cX9_forgetSteps 8 = .ok (.aload_n 0, 1) := by decide +kernel
theorem dX9_forgetSteps_9 : decode cX9_forgetSteps 9 = .ok (.iconst (-1), 1) := by decide +kernel
theorem dX9_forgetSteps_10 : decode cX9_forgetSteps 10 = .ok (.putfield 91, 3) := by decide +kernel
theorem dX9_forgetSteps_13 : decode cX9_forgetSteps 13 = .ok (.return_, 1) := by decide +kernel
theorem dX9_changed_0 : decode cX9_changed 0 = .ok (.aload_n 0, 1) := by decide +kernel
theorem dX9_changed_1 : decode cX9_changed 1 = .ok (.getfield 57, 3) := by decide +kernel
theorem dX9_changed_4 : decode cX9_changed 4 = .ok (.aload_n 0, 1) := by decide +kernel
theorem dX9_changed_5 : decode cX9_changed 5 = .ok (.getfield 26, 3) := by decide +kernel
theorem dX9_changed_8 : decode cX9_changed 8 = .ok (.invokevirtual 305, 3) := by decide +kernel
theorem dX9_changed_11 : decode cX9_changed 11 = .ok (.aload_n 0, 1) := by decide +kernel
theorem dX9_changed_12 : decode cX9_changed 12 = .ok (.invokevirtual 274, 3) := by decide +kernel
theorem dX9_changed_15 : decode cX9_changed 15 = .ok (.return_, 1) := by decide +kernel
theorem dX9_settle_0 : decode cX9_settle 0 = .ok (.aload_n 0, 1) := by decide +kernel
theorem dX9_settle_1 : decode cX9_settle 1 = .ok (.getfield 33, 3) := by decide +kernel
theorem dX9_settle_4 : decode cX9_settle 4 = .ok (.aload_n 0, 1) := by decide +kernel
theorem dX9_settle_5 : decode cX9_settle 5 = .ok (.getfield 19, 3) := by decide +kernel
theorem dX9_settle_8 : decode cX9_settle 8 = .ok (.aload_n 0, 1) := by decide +kernel
theorem dX9_settle_9 : decode cX9_settle 9 = .ok (.getfield 26, 3) := by decide +kernel
theorem dX9_settle_12 : decode cX9_settle 12 = .ok (.invokevirtual 308, 3) := by decide +kernel
theorem dX9_settle_15 : decode cX9_settle 15 = .ok (.aload_n 0, 1) := by decide +kernel
theorem dX9_settle_16 : decode cX9_settle 16 = .ok (.getfield 33, 3) := by decide +kernel
theorem dX9_settle_19 : decode cX9_settle 19 = .ok (.getfield 288, 3) := by decide +kernel
theorem dX9_settle_22 : decode cX9_settle 22 = .ok (.ifCond .ne 29, 3) := by decide +kernel
theorem dX9_settle_25 : decode cX9_settle 25 = .ok (.aload_n 0, 1) := by decide +kernel
theorem dX9_settle_26 : decode cX9_settle 26 = .ok (.getfield 33, 3) := by decide +kernel
theorem dX9_settle_29 : decode cX9_settle 29 = .ok (.aload_n 0, 1) := by decide +kernel
theorem dX9_settle_30 : decode cX9_settle 30 = .ok (.getfield 19, 3) := by decide +kernel
theorem dX9_settle_33 : decode cX9_settle 33 = .ok (.invokevirtual 311, 3) := by decide +kernel
theorem dX9_settle_36 : decode cX9_settle 36 = .ok (.aload_n 0, 1) := by decide +kernel
theorem dX9_settle_37 : decode cX9_settle 37 = .ok (.getfield 43, 3) := by decide +kernel
theorem dX9_settle_40 : decode cX9_settle 40 = .ok (.aload_n 0, 1) := by decide +kernel
theorem dX9_settle_41 : decode cX9_settle 41 = .ok (.getfield 19, 3) := by decide +kernel
theorem dX9_settle_44 : decode cX9_settle 44 = .ok (.aload_n 0, 1) := by decide +kernel
theorem dX9_settle_45 : decode cX9_settle 45 = .ok (.getfield 33, 3) := by decide +kernel
theorem dX9_settle_48 : decode cX9_settle 48 = .ok (.invokevirtual 314, 3) := by decide +kernel
theorem dX9_settle_51 : decode cX9_settle 51 = .ok (.return_, 1) := by decide +kernel
theorem dX9_spanBehind_0 : decode cX9_spanBehind 0 = .ok (.aload_n 0, 1) := by decide +kernel
theorem dX9_spanBehind_1 : decode cX9_spanBehind 1 = .ok (.aload_n 0, 1) := by decide +kernel
theorem dX9_spanBehind_2 : decode cX9_spanBehind 2 = .ok (.getfield 43, 3) := by decide +kernel
theorem dX9_spanBehind_5 : decode cX9_spanBehind 5 = .ok (.iload_n 1, 1) := by decide +kernel
theorem dX9_spanBehind_6 : decode cX9_spanBehind 6 = .ok (.invokevirtual 193, 3) := by decide +kernel
theorem dX9_spanBehind_9 : decode cX9_spanBehind 9 = .ok (.invokevirtual 213, 3) := by decide +kernel
theorem dX9_spanBehind_12 : decode cX9_spanBehind 12 = .ok (.istore_n 2, 1) := by decide +kernel
theorem dX9_spanBehind_13 : decode cX9_spanBehind 13 = .ok (.aload_n 0, 1) := by decide +kernel
theorem dX9_spanBehind_14 : decode cX9_spanBehind 14 = .ok (.iload_n 2, 1) := by decide +kernel
theorem dX9_spanBehind_15 : decode cX9_spanBehind 15 = .ok (.invokevirtual 156, 3) := by decide +kernel
theorem dX9_spanBehind_18 : decode cX9_spanBehind 18 = .ok (.aload_n 0, 1) := by decide +kernel
theorem dX9_spanBehind_19 : decode cX9_spanBehind 19 = .ok (.getfield 37, 3) := by decide +kernel
theorem dX9_spanBehind_22 : decode cX9_spanBehind 22 = .ok (.aload_n 0, 1) := by decide +kernel
theorem dX9_spanBehind_23 : decode cX9_spanBehind 23 = .ok (.getfield 19, 3) := by decide +kernel
theorem dX9_spanBehind_26 : decode cX9_spanBehind 26 = .ok (.aload_n 0, 1) := by decide +kernel
theorem dX9_spanBehind_27 : decode cX9_spanBehind 27 = .ok (.getfield 26, 3) := by decide +kernel
theorem dX9_spanBehind_30 : decode cX9_spanBehind 30 = .ok (.invokevirtual 308, 3) := by decide +kernel
theorem dX9_spanBehind_33 : decode cX9_spanBehind 33 = .ok (.aload_n 0, 1) := by decide +kernel
theorem dX9_spanBehind_34 : decode cX9_spanBehind 34 = .ok (.iload_n 2, 1) := by decide +kernel
theorem dX9_spanBehind_35 : decode cX9_spanBehind 35 = .ok (.invokevirtual 156, 3) := by decide +kernel
theorem dX9_spanBehind_38 : decode cX9_spanBehind 38 = .ok (.aload_n 0, 1) := by decide +kernel
theorem dX9_spanBehind_39 : decode cX9_spanBehind 39 = .ok (.getfield 37, 3) := by decide +kernel
theorem dX9_spanBehind_42 : decode cX9_spanBehind 42 = .ok (.getfield 169, 3) := by decide +kernel
theorem dX9_spanBehind_45 : decode cX9_spanBehind 45 = .ok (.ireturn, 1) := by decide +kernel
theorem dX9_keptSince_0 : decode cX9_keptSince 0 = .ok (.aload_n 0, 1) := by decide +kernel
theorem dX9_keptSince_1 : decode cX9_keptSince 1 = .ok (.getfield 50, 3) := by decide +kernel
theorem dX9_keptSince_4 : decode cX9_keptSince 4 = .ok (.aload_n 0, 1) := by decide +kernel
theorem dX9_keptSince_5 : decode cX9_keptSince 5 = .ok (.getfield 43, 3) := by decide +kernel
theorem dX9_keptSince_8 : decode cX9_keptSince 8 = .ok (.iload_n 1, 1) := by decide +kernel
theorem dX9_keptSince_9 : decode cX9_keptSince 9 = .ok (.invokevirtual 193, 3) := by decide +kernel
theorem dX9_keptSince_12 : decode cX9_keptSince 12 = .ok (.aload_n 0, 1) := by decide +kernel
theorem dX9_keptSince_13 : decode cX9_keptSince 13 = .ok (.getfield 43, 3) := by decide +kernel
theorem dX9_keptSince_16 : decode cX9_keptSince 16 = .ok (.iload_n 1, 1) := by decide +kernel
theorem dX9_keptSince_17 : decode cX9_keptSince 17 = .ok (.invokevirtual 196, 3) := by decide +kernel
theorem dX9_keptSince_20 : decode cX9_keptSince 20 = .ok (.invokestatic 199, 3) := by decide +kernel
theorem dX9_keptSince_23 : decode cX9_keptSince 23 = .ok (.invokevirtual 318, 3) := by decide +kernel
theorem dX9_keptSince_26 : decode cX9_keptSince 26 = .ok (.ireturn, 1) := by decide +kernel
theorem dX9_goOn_0 : decode cX9_goOn 0 = .ok (.aload_n 0, 1) := by decide +kernel
theorem dX9_goOn_1 : decode cX9_goOn 1 = .ok (.invokevirtual 320, 3) := by decide +kernel
theorem dX9_goOn_4 : decode cX9_goOn 4 = .ok (.aload_n 0, 1) := by decide +kernel
theorem dX9_goOn_5 : decode cX9_goOn 5 = .ok (.getfield 43, 3) := by decide +kernel
theorem dX9_goOn_8 : decode cX9_goOn 8 = .ok (.getfield 190, 3) := by decide +kernel
theorem dX9_goOn_11 : decode cX9_goOn 11 = .ok (.ifCond .ne 5, 3) := by decide +kernel
theorem dX9_goOn_14 : decode cX9_goOn 14 = .ok (.iconst 0, 1) := by decide +kernel
theorem dX9_goOn_15 : decode cX9_goOn 15 = .ok (.ireturn, 1) := by decide +kernel
theorem dX9_goOn_16 : decode cX9_goOn 16 = .ok (.aload_n 0, 1) := by decide +kernel
theorem dX9_goOn_17 : decode cX9_goOn 17 = .ok (.invokevirtual 323, 3) := by decide +kernel
theorem dX9_goOn_20 : decode cX9_goOn 20 = .ok (.istore_n 1, 1) := by decide +kernel
theorem dX9_goOn_21 : decode cX9_goOn 21 = .ok (.aload_n 0, 1) := by decide +kernel
theorem dX9_goOn_22 : decode cX9_goOn 22 = .ok (.getfield 43, 3) := by decide +kernel
theorem dX9_goOn_25 : decode cX9_goOn 25 = .ok (.iload_n 1, 1) := by decide +kernel
theorem dX9_goOn_26 : decode cX9_goOn 26 = .ok (.invokevirtual 193, 3) := by decide +kernel
theorem dX9_goOn_29 : decode cX9_goOn 29 = .ok (.istore_n 2, 1) := by decide +kernel
theorem dX9_goOn_30 : decode cX9_goOn 30 = .ok (.aload_n 0, 1) := by decide +kernel
theorem dX9_goOn_31 : decode cX9_goOn 31 = .ok (.getfield 43, 3) := by decide +kernel
theorem dX9_goOn_34 : decode cX9_goOn 34 = .ok (.iload_n 1, 1) := by decide +kernel
theorem dX9_goOn_35 : decode cX9_goOn 35 = .ok (.invokevirtual 196, 3) := by decide +kernel
theorem dX9_goOn_38 : decode cX9_goOn 38 = .ok (.istore_n 3, 1) := by decide +kernel
theorem dX9_goOn_39 : decode cX9_goOn 39 = .ok (.aload_n 0, 1) := by decide +kernel
theorem dX9_goOn_40 : decode cX9_goOn 40 = .ok (.aload_n 0, 1) := by decide +kernel
theorem dX9_goOn_41 : decode cX9_goOn 41 = .ok (.iload_n 2, 1) := by decide +kernel
theorem dX9_goOn_42 : decode cX9_goOn 42 = .ok (.invokevirtual 213, 3) := by decide +kernel
theorem dX9_goOn_45 : decode cX9_goOn 45 = .ok (.invokevirtual 156, 3) := by decide +kernel
theorem dX9_goOn_48 : decode cX9_goOn 48 = .ok (.aload_n 0, 1) := by decide +kernel
theorem dX9_goOn_49 : decode cX9_goOn 49 = .ok (.invokevirtual 159, 3) := by decide +kernel
theorem dX9_goOn_52 : decode cX9_goOn 52 = .ok (.aload_n 0, 1) := by decide +kernel
theorem dX9_goOn_53 : decode cX9_goOn 53 = .ok (.getfield 50, 3) := by decide +kernel
theorem dX9_goOn_56 : decode cX9_goOn 56 = .ok (.iload_n 3, 1) := by decide +kernel
theorem dX9_goOn_57 : decode cX9_goOn 57 = .ok (.iload_n 2, 1) := by decide +kernel
theorem dX9_goOn_58 : decode cX9_goOn 58 = .ok (.invokestatic 199, 3) := by decide +kernel
theorem dX9_goOn_61 : decode cX9_goOn 61 = .ok (.invokevirtual 326, 3) := by decide +kernel
theorem dX9_goOn_64 : decode cX9_goOn 64 = .ok (.aload_n 0, 1) := by decide +kernel
theorem dX9_goOn_65 : decode cX9_goOn 65 = .ok (.invokevirtual 320, 3) := by decide +kernel
theorem dX9_goOn_68 : decode cX9_goOn 68 = .ok (.iconst 1, 1) := by decide +kernel
theorem dX9_goOn_69 : decode cX9_goOn 69 = .ok (.ireturn, 1) := by decide +kernel
theorem dX9_lookForLeast_0 : decode cX9_lookForLeast 0 = .ok (.aload_n 0, 1) := by decide +kernel
theorem dX9_lookForLeast_1 : decode cX9_lookForLeast 1 = .ok (.getfield 91, 3) := by decide +kernel
theorem dX9_lookForLeast_4 : decode cX9_lookForLeast 4 = .ok (.iconst (-1), 1) := by decide +kernel
theorem dX9_lookForLeast_5 : decode cX9_lookForLeast 5 = .ok (.if_icmp .eq 17, 3) := by decide +kernel
theorem dX9_lookForLeast_8 : decode cX9_lookForLeast 8 = .ok (.aload_n 0, 1) := by decide +kernel
theorem dX9_lookForLeast_9 : decode cX9_lookForLeast 9 = .ok (.getfield 33, 3) := by decide +kernel
theorem dX9_lookForLeast_12 : decode cX9_lookForLeast 12 = .ok (.getfield 169, 3) := by decide +kernel
theorem dX9_lookForLeast_15 : decode cX9_lookForLeast 15 = .ok (.aload_n 0, 1) := by decide +kernel
theorem dX9_lookForLeast_16 : decode cX9_lookForLeast 16 = .ok (.getfield 91, 3) := by decide +kernel
theorem dX9_lookForLeast_19 : decode cX9_lookForLeast 19 = .ok (.if_icmp .ge 25, 3) := by decide +kernel
theorem dX9_lookForLeast_22 : decode cX9_lookForLeast 22 = .ok (.aload_n 0, 1) := by decide +kernel
theorem dX9_lookForLeast_23 : decode cX9_lookForLeast 23 = .ok (.aload_n 0, 1) := by decide +kernel
theorem dX9_lookForLeast_24 : decode cX9_lookForLeast 24 = .ok (.getfield 33, 3) := by decide +kernel
theorem dX9_lookForLeast_27 : decode cX9_lookForLeast 27 = .ok (.getfield 169, 3) := by decide +kernel
theorem dX9_lookForLeast_30 : decode cX9_lookForLeast 30 = .ok (.putfield 91, 3) := by decide +kernel
theorem dX9_lookForLeast_33 : decode cX9_lookForLeast 33 = .ok (.aload_n 0, 1) := by decide +kernel
theorem dX9_lookForLeast_34 : decode cX9_lookForLeast 34 = .ok (.getfield 26, 3) := by decide +kernel
theorem dX9_lookForLeast_37 : decode cX9_lookForLeast 37 = .ok (.aload_n 0, 1) := by decide +kernel
theorem dX9_lookForLeast_38 : decode cX9_lookForLeast 38 = .ok (.getfield 88, 3) := by decide +kernel
theorem dX9_lookForLeast_41 : decode cX9_lookForLeast 41 = .ok (.invokestatic 231, 3) := by decide +kernel
theorem dX9_lookForLeast_44 : decode cX9_lookForLeast 44 = .ok (.return_, 1) := by decide +kernel
theorem dX9_chosen_0 : decode cX9_chosen 0 = .ok (.iconst (-1), 1) := by decide +kernel
theorem dX9_chosen_1 : decode cX9_chosen 1 = .ok (.istore_n 1, 1) := by decide +kernel
theorem dX9_chosen_2 : decode cX9_chosen 2 = .ok (.iconst 0, 1) := by decide +kernel
theorem dX9_chosen_3 : decode cX9_chosen 3 = .ok (.istore_n 2, 1) := by decide +kernel
theorem dX9_chosen_4 : decode cX9_chosen 4 = .ok (.iconst 0, 1) := by decide +kernel
theorem dX9_chosen_5 : decode cX9_chosen 5 = .ok (.istore_n 3, 1) := by decide +kernel
theorem dX9_chosen_6 : decode cX9_chosen 6 = .ok (.bipush 9, 2) := by decide +kernel
theorem dX9_chosen_8 : decode cX9_chosen 8 = .ok (.istore 4, 2) := by decide +kernel
theorem dX9_chosen_10 : decode cX9_chosen 10 = .ok (.iconst 0, 1) := by decide +kernel
theorem dX9_chosen_11 : decode cX9_chosen 11 = .ok (.istore 5, 2) := by decide +kernel
theorem dX9_chosen_13 : decode cX9_chosen 13 = .ok (.iload 5, 2) := by decide +kernel
theorem dX9_chosen_15 : decode cX9_chosen 15 = .ok (.aload_n 0, 1) := by decide +kernel
theorem dX9_chosen_16 : decode cX9_chosen 16 = .ok (.getfield 43, 3) := by decide +kernel
theorem dX9_chosen_19 : decode cX9_chosen 19 = .ok (.getfield 190, 3) := by decide +kernel
theorem dX9_chosen_22 : decode cX9_chosen 22 = .ok (.if_icmp .ge 74, 3) := by decide +kernel
theorem dX9_chosen_25 : decode cX9_chosen 25 = .ok (.aload_n 0, 1) := by decide +kernel
theorem dX9_chosen_26 : decode cX9_chosen 26 = .ok (.iload 5, 2) := by decide +kernel
theorem dX9_chosen_28 : decode cX9_chosen 28 = .ok (.invokevirtual 207, 3) := by decide +kernel
theorem dX9_chosen_31 : decode cX9_chosen 31 = .ok (.istore 6, 2) := by decide +kernel
theorem dX9_chosen_33 : decode cX9_chosen 33 = .ok (.aload_n 0, 1) := by decide +kernel
theorem dX9_chosen_34 : decode cX9_chosen 34 = .ok (.iload 5, 2) := by decide +kernel
theorem dX9_chosen_36 : decode cX9_chosen 36 = .ok (.invokevirtual 210, 3) := by decide +kernel
theorem dX9_chosen_39 : decode cX9_chosen 39 = .ok (.istore 7, 2) := by decide +kernel
theorem dX9_chosen_41 : decode cX9_chosen 41 = .ok (.iload 7, 2) := by decide +kernel
theorem dX9_chosen_43 : decode cX9_chosen 43 = .ok (.iconst (-1), 1) := by decide +kernel
theorem dX9_chosen_44 : decode cX9_chosen 44 = .ok (.if_icmp .eq 29, 3) := by decide +kernel
theorem dX9_chosen_47 : decode cX9_chosen 47 = .ok (.iload 6, 2) := by decide +kernel
theorem dX9_chosen_49 : decode cX9_chosen 49 = .ok (.aload_n 0, 1) := by decide +kernel
theorem dX9_chosen_50 : decode cX9_chosen 50 = .ok (.getfield 91, 3) := by decide +kernel
theorem dX9_chosen_53 : decode cX9_chosen 53 = .ok (.if_icmp .lt 20, 3) := by decide +kernel
theorem dX9_chosen_56 : decode cX9_chosen 56 = .ok (.iload 7, 2) := by decide +kernel
theorem dX9_chosen_58 : decode cX9_chosen 58 = .ok (.iload 4, 2) := by decide +kernel
theorem dX9_chosen_60 : decode cX9_chosen 60 = .ok (.if_icmp .ge 30, 3) := by decide +kernel
theorem dX9_chosen_63 : decode cX9_chosen 63 = .ok (.iload 7, 2) := by decide +kernel
theorem dX9_chosen_65 : decode cX9_chosen 65 = .ok (.istore 4, 2) := by decide +kernel
theorem dX9_chosen_67 : decode cX9_chosen 67 = .ok (.iload 5, 2) := by decide +kernel
theorem dX9_chosen_69 : decode cX9_chosen 69 = .ok (.istore_n 3, 1) := by decide +kernel
theorem dX9_chosen_70 : decode cX9_chosen 70 = .ok (.goto 20, 3) := by decide +kernel
theorem dX9_chosen_73 : decode cX9_chosen 73 = .ok (.iload_n 1, 1) := by decide +kernel
theorem dX9_chosen_74 : decode cX9_chosen 74 = .ok (.iconst (-1), 1) := by decide +kernel
theorem dX9_chosen_75 : decode cX9_chosen 75 = .ok (.if_icmp .eq 9, 3) := by decide +kernel
theorem dX9_chosen_78 : decode cX9_chosen 78 = .ok (.iload 6, 2) := by decide +kernel
theorem dX9_chosen_80 : decode cX9_chosen 80 = .ok (.iload_n 2, 1) := by decide +kernel
theorem dX9_chosen_81 : decode cX9_chosen 81 = .ok (.if_icmp .ge 9, 3) := by decide +kernel
theorem dX9_chosen_84 : decode cX9_chosen 84 = .ok (.iload 5, 2) := by decide +kernel
theorem dX9_chosen_86 : decode cX9_chosen 86 = .ok (.istore_n 1, 1) := by decide +kernel
theorem dX9_chosen_87 : decode cX9_chosen 87 = .ok (.iload 6, 2) := by decide +kernel
theorem dX9_chosen_89 : decode cX9_chosen 89 = .ok (.istore_n 2, 1) := by decide +kernel
theorem dX9_chosen_90 : decode cX9_chosen 90 = .ok (.iinc 5 1, 3) := by decide +kernel
theorem dX9_chosen_93 : decode cX9_chosen 93 = .ok (.goto (-80), 3) := by decide +kernel
theorem dX9_chosen_96 : decode cX9_chosen 96 = .ok (.iload_n 1, 1) := by decide +kernel
theorem dX9_chosen_97 : decode cX9_chosen 97 = .ok (.iconst (-1), 1) := by decide +kernel
theorem dX9_chosen_98 : decode cX9_chosen 98 = .ok (.if_icmp .eq 7, 3) := by decide +kernel
theorem dX9_chosen_101 : decode cX9_chosen 101 = .ok (.iload_n 1, 1) := by decide +kernel
theorem dX9_chosen_102 : decode cX9_chosen 102 = .ok (.goto 4, 3) := by decide +kernel
theorem dX9_chosen_105 : decode cX9_chosen 105 = .ok (.iload_n 3, 1) := by decide +kernel
theorem dX9_chosen_106 : decode cX9_chosen 106 = .ok (.ireturn, 1) := by decide +kernel
theorem dX9_chartByte_0 : decode cX9_chartByte 0 = .ok (.iload_n 2, 1) := by decide +kernel
theorem dX9_chartByte_1 : decode cX9_chartByte 1 = .ok (.aload_n 0, 1) := by decide +kernel
theorem dX9_chartByte_2 : decode cX9_chartByte 2 = .ok (.getfield 33, 3) := by decide +kernel
theorem dX9_chartByte_5 : decode cX9_chartByte 5 = .ok (.getfield 169, 3) := by decide +kernel
theorem dX9_chartByte_8 : decode cX9_chartByte 8 = .ok (.if_icmp .ne 6, 3) := by decide +kernel
theorem dX9_chartByte_11 : decode cX9_chartByte 11 = .ok (.bipush 10, 2) := by decide +kernel
theorem dX9_chartByte_13 : decode cX9_chartByte 13 = .ok (.ireturn, 1) := by decide +kernel
theorem dX9_chartByte_14 : decode cX9_chartByte 14 = .ok (.iconst 0, 1) := by decide +kernel
theorem dX9_chartByte_15 : decode cX9_chartByte 15 = .ok (.istore_n 3, 1) := by decide +kernel
theorem dX9_chartByte_16 : decode cX9_chartByte 16 = .ok (.iload_n 3, 1) := by decide +kernel
theorem dX9_chartByte_17 : decode cX9_chartByte 17 = .ok (.aload_n 0, 1) := by decide +kernel
theorem dX9_chartByte_18 : decode cX9_chartByte 18 = .ok (.getfield 19, 3) := by decide +kernel
theorem dX9_chartByte_21 : decode cX9_chartByte 21 = .ok (.getfield 120, 3) := by decide +kernel
theorem dX9_chartByte_24 : decode cX9_chartByte 24 = .ok (.if_icmp .ge 95, 3) := by decide +kernel
theorem dX9_chartByte_27 : decode cX9_chartByte 27 = .ok (.aload_n 0, 1) := by decide +kernel
theorem dX9_chartByte_28 : decode cX9_chartByte 28 = .ok (.getfield 33, 3) := by decide +kernel
theorem dX9_chartByte_31 : decode cX9_chartByte 31 = .ok (.getfield 172, 3) := by decide +kernel
theorem dX9_chartByte_34 : decode cX9_chartByte 34 = .ok (.iload_n 3, 1) := by decide +kernel
theorem dX9_chartByte_35 : decode cX9_chartByte 35 = .ok (.iaload, 1) := by decide +kernel
theorem dX9_chartByte_36 : decode cX9_chartByte 36 = .ok (.iload_n 2, 1) := by decide +kernel
theorem dX9_chartByte_37 : decode cX9_chartByte 37 = .ok (.if_icmp .gt 7, 3) := by decide +kernel
theorem dX9_chartByte_40 : decode cX9_chartByte 40 = .ok (.iconst 1, 1) := by decide +kernel
theorem dX9_chartByte_41 : decode cX9_chartByte 41 = .ok (.goto 4, 3) := by decide +kernel
theorem dX9_chartByte_44 : decode cX9_chartByte 44 = .ok (.iconst 0, 1) := by decide +kernel
theorem dX9_chartByte_45 : decode cX9_chartByte 45 = .ok (.istore 4, 2) := by decide +kernel
theorem dX9_chartByte_47 : decode cX9_chartByte 47 = .ok (.aload_n 0, 1) := by decide +kernel
theorem dX9_chartByte_48 : decode cX9_chartByte 48 = .ok (.getfield 33, 3) := by decide +kernel
theorem dX9_chartByte_51 : decode cX9_chartByte 51 = .ok (.getfield 172, 3) := by decide +kernel
theorem dX9_chartByte_54 : decode cX9_chartByte 54 = .ok (.iload_n 3, 1) := by decide +kernel
theorem dX9_chartByte_55 : decode cX9_chartByte 55 = .ok (.iaload, 1) := by decide +kernel
theorem dX9_chartByte_56 : decode cX9_chartByte 56 = .ok (.aload_n 0, 1) := by decide +kernel
theorem dX9_chartByte_57 : decode cX9_chartByte 57 = .ok (.getfield 19, 3) := by decide +kernel
theorem dX9_chartByte_60 : decode cX9_chartByte 60 = .ok (.getfield 136, 3) := by decide +kernel
theorem dX9_chartByte_63 : decode cX9_chartByte 63 = .ok (.iload_n 3, 1) := by decide +kernel
theorem dX9_chartByte_64 : decode cX9_chartByte 64 = .ok (.iaload, 1) := by decide +kernel
theorem dX9_chartByte_65 : decode cX9_chartByte 65 = .ok (.iadd, 1) := by decide +kernel
theorem dX9_chartByte_66 : decode cX9_chartByte 66 = .ok (.iload_n 2, 1) := by decide +kernel
theorem dX9_chartByte_67 : decode cX9_chartByte 67 = .ok (.if_icmp .gt 7, 3) := by decide +kernel
theorem dX9_chartByte_70 : decode cX9_chartByte 70 = .ok (.iconst 1, 1) := by decide +kernel
theorem dX9_chartByte_71 : decode cX9_chartByte 71 = .ok (.goto 4, 3) := by decide +kernel
theorem dX9_chartByte_74 : decode cX9_chartByte 74 = .ok (.iconst 0, 1) := by decide +kernel
theorem dX9_chartByte_75 : decode cX9_chartByte 75 = .ok (.istore 5, 2) := by decide +kernel
theorem dX9_chartByte_77 : decode cX9_chartByte 77 = .ok (.aload_n 0, 1) := by decide +kernel
theorem dX9_chartByte_78 : decode cX9_chartByte 78 = .ok (.getfield 19, 3) := by decide +kernel
theorem dX9_chartByte_81 : decode cX9_chartByte 81 = .ok (.getfield 133, 3) := by decide +kernel
theorem dX9_chartByte_84 : decode cX9_chartByte 84 = .ok (.iload_n 3, 1) := by decide +kernel
theorem dX9_chartByte_85 : decode cX9_chartByte 85 = .ok (.iaload, 1) := by decide +kernel
theorem dX9_chartByte_86 : decode cX9_chartByte 86 = .ok (.iload_n 1, 1) := by decide +kernel
theorem dX9_chartByte_87 : decode cX9_chartByte 87 = .ok (.if_icmp .ne 26, 3) := by decide +kernel
theorem dX9_chartByte_90 : decode cX9_chartByte 90 = .ok (.iload 4, 2) := by decide +kernel
theorem dX9_chartByte_92 : decode cX9_chartByte 92 = .ok (.ifCond .eq 21, 3) := by decide +kernel
theorem dX9_chartByte_95 : decode cX9_chartByte 95 = .ok (.iload 5, 2) := by decide +kernel
theorem dX9_chartByte_97 : decode cX9_chartByte 97 = .ok (.ifCond .ne 16, 3) := by decide +kernel
theorem dX9_chartByte_100 : decode cX9_chartByte 100 = .ok (.bipush 48, 2) := by decide +kernel
theorem dX9_chartByte_102 : decode cX9_chartByte 102 = .ok (.aload_n 0, 1) := by decide +kernel
theorem dX9_chartByte_103 : decode cX9_chartByte 103 = .ok (.getfield 19, 3) := by decide +kernel
theorem dX9_chartByte_106 : decode cX9_chartByte 106 = .ok (.getfield 127, 3) := by decide +kernel
theorem dX9_chartByte_109 : decode cX9_chartByte 109 = .ok (.iload_n 3, 1) := by decide +kernel
theorem dX9_chartByte_110 : decode cX9_chartByte 110 = .ok (.iaload, 1) := by decide +kernel
theorem dX9_chartByte_111 : decode cX9_chartByte 111 = .ok (.iadd, 1) := by decide +kernel
theorem dX9_chartByte_112 : decode cX9_chartByte 112 = .ok (.ireturn, 1) := by decide +kernel
theorem dX9_chartByte_113 : decode cX9_chartByte 113 = .ok (.iinc 3 1, 3) := by decide +kernel
theorem dX9_chartByte_116 : decode cX9_chartByte 116 = .ok (.goto (-100), 3) := by decide +kernel
theorem dX9_chartByte_119 : decode cX9_chartByte 119 = .ok (.bipush 46, 2) := by decide +kernel
theorem dX9_chartByte_121 : decode cX9_chartByte 121 = .ok (.ireturn, 1) := by decide +kernel
theorem dX9_nextOrder_0 : decode cX9_nextOrder 0 = .ok (.iload_n 2, 1) := by decide +kernel
theorem dX9_nextOrder_1 : decode cX9_nextOrder 1 = .ok (.iconst 2, 1) := by decide +kernel
theorem dX9_nextOrder_2 : decode cX9_nextOrder 2 = .ok (.isub, 1) := by decide +kernel
theorem dX9_nextOrder_3 : decode cX9_nextOrder 3 = .ok (.istore_n 3, 1) := by decide +kernel
theorem dX9_nextOrder_4 : decode cX9_nextOrder 4 = .ok (.iload_n 3, 1) := by decide +kernel
theorem dX9_nextOrder_5 : decode cX9_nextOrder 5 = .ok (.iload_n 1, 1) := by decide +kernel
theorem dX9_nextOrder_6 : decode cX9_nextOrder 6 = .ok (.if_icmp .lt 20, 3) := by decide +kernel
theorem dX9_nextOrder_9 : decode cX9_nextOrder 9 = .ok (.aload_n 0, 1) := by decide +kernel
theorem dX9_nextOrder_10 : decode cX9_nextOrder 10 = .ok (.iload_n 3, 1) := by decide +kernel
theorem dX9_nextOrder_11 : decode cX9_nextOrder 11 = .ok (.iaload, 1) := by decide +kernel
theorem dX9_nextOrder_12 : decode cX9_nextOrder 12 = .ok (.aload_n 0, 1) := by decide +kernel
theorem dX9_nextOrder_13 : decode cX9_nextOrder 13 = .ok (.iload_n 3, 1) := by decide +kernel
theorem dX9_nextOrder_14 : decode cX9_nextOrder 14 = .ok (.iconst 1, 1) := by decide +kernel
theorem dX9_nextOrder_15 : decode cX9_nextOrder 15 = .ok (.iadd, 1) := by decide +kernel
theorem dX9_nextOrder_16 : decode cX9_nextOrder 16 = .ok (.iaload, 1) := by decide +kernel
theorem dX9_nextOrder_17 : decode cX9_nextOrder 17 = .ok (.if_icmp .le 9, 3) := by decide +kernel
theorem dX9_nextOrder_20 : decode cX9_nextOrder 20 = .ok (.iinc 3 (-1), 3) := by decide +kernel
theorem dX9_nextOrder_23 : decode cX9_nextOrder 23 = .ok (.goto (-19), 3) := by decide +kernel
theorem dX9_nextOrder_26 : decode cX9_nextOrder 26 = .ok (.iload_n 3, 1) := by decide +kernel
theorem dX9_nextOrder_27 : decode cX9_nextOrder 27 = .ok (.iload_n 1, 1) := by decide +kernel
theorem dX9_nextOrder_28 : decode cX9_nextOrder 28 = .ok (.if_icmp .lt 48, 3) := by decide +kernel
theorem dX9_nextOrder_31 : decode cX9_nextOrder 31 = .ok (.iload_n 2, 1) := by decide +kernel
theorem dX9_nextOrder_32 : decode cX9_nextOrder 32 = .ok (.iconst 1, 1) := by decide +kernel
theorem dX9_nextOrder_33 : decode cX9_nextOrder 33 = .ok (.isub, 1) := by decide +kernel
theorem dX9_nextOrder_34 : decode cX9_nextOrder 34 = .ok (.istore 4, 2) := by decide +kernel
theorem dX9_nextOrder_36 : decode cX9_nextOrder 36 = .ok (.iload 4, 2) := by decide +kernel
theorem dX9_nextOrder_38 : decode cX9_nextOrder 38 = .ok (.iload_n 3, 1) := by decide +kernel
theorem dX9_nextOrder_39 : decode cX9_nextOrder 39 = .ok (.if_icmp .le 19, 3) := by decide +kernel
theorem dX9_nextOrder_42 : decode cX9_nextOrder 42 = .ok (.aload_n 0, 1) := by decide +kernel
theorem dX9_nextOrder_43 : decode cX9_nextOrder 43 = .ok (.iload 4, 2) := by decide +kernel
theorem dX9_nextOrder_45 : decode cX9_nextOrder 45 = .ok (.iaload, 1) := by decide +kernel
theorem dX9_nextOrder_46 : decode cX9_nextOrder 46 = .ok (.aload_n 0, 1) := by decide +kernel
theorem dX9_nextOrder_47 : decode cX9_nextOrder 47 = .ok (.iload_n 3, 1) := by decide +kernel
theorem dX9_nextOrder_48 : decode cX9_nextOrder 48 = .ok (.iaload, 1) := by decide +kernel
theorem dX9_nextOrder_49 : decode cX9_nextOrder 49 = .ok (.if_icmp .ge 9, 3) := by decide +kernel
theorem dX9_nextOrder_52 : decode cX9_nextOrder 52 = .ok (.iinc 4 (-1), 3) := by decide +kernel
theorem dX9_nextOrder_55 : decode cX9_nextOrder 55 = .ok (.goto (-19), 3) := by decide +kernel
theorem dX9_nextOrder_58 : decode cX9_nextOrder 58 = .ok (.aload_n 0, 1) := by decide +kernel
theorem dX9_nextOrder_59 : decode cX9_nextOrder 59 = .ok (.iload_n 3, 1) := by decide +kernel
theorem dX9_nextOrder_60 : decode cX9_nextOrder 60 = .ok (.iaload, 1) := by decide +kernel
theorem dX9_nextOrder_61 : decode cX9_nextOrder 61 = .ok (.istore 5, 2) := by decide +kernel
theorem dX9_nextOrder_63 : decode cX9_nextOrder 63 = .ok (.aload_n 0, 1) := by decide +kernel
theorem dX9_nextOrder_64 : decode cX9_nextOrder 64 = .ok (.iload_n 3, 1) := by decide +kernel
theorem dX9_nextOrder_65 : decode cX9_nextOrder 65 = .ok (.aload_n 0, 1) := by decide +kernel
theorem dX9_nextOrder_66 : decode cX9_nextOrder 66 = .ok (.iload 4, 2) := by decide +kernel
theorem dX9_nextOrder_68 : decode cX9_nextOrder 68 = .ok (.iaload, 1) := by decide +kernel
theorem dX9_nextOrder_69 : decode cX9_nextOrder 69 = .ok (.iastore, 1) := by decide +kernel
theorem dX9_nextOrder_70 : decode cX9_nextOrder 70 = .ok (.aload_n 0, 1) := by decide +kernel
theorem dX9_nextOrder_71 : decode cX9_nextOrder 71 = .ok (.iload 4, 2) := by decide +kernel
theorem dX9_nextOrder_73 : decode cX9_nextOrder 73 = .ok (.iload 5, 2) := by decide +kernel
theorem dX9_nextOrder_75 : decode cX9_nextOrder 75 = .ok (.iastore, 1) := by decide +kernel
theorem dX9_nextOrder_76 : decode cX9_nextOrder 76 = .ok (.iload_n 3, 1) := by decide +kernel
theorem dX9_nextOrder_77 : decode cX9_nextOrder 77 = .ok (.iload_n 1, 1) := by decide +kernel
theorem dX9_nextOrder_78 : decode cX9_nextOrder 78 = .ok (.iconst 1, 1) := by decide +kernel
theorem dX9_nextOrder_79 : decode cX9_nextOrder 79 = .ok (.isub, 1) := by decide +kernel
theorem dX9_nextOrder_80 : decode cX9_nextOrder 80 = .ok (.invokestatic 254, 3) := by decide +kernel
theorem dX9_nextOrder_83 : decode cX9_nextOrder 83 = .ok (.iconst 1, 1) := by decide +kernel
theorem dX9_nextOrder_84 : decode cX9_nextOrder 84 = .ok (.iadd, 1) := by decide +kernel
theorem dX9_nextOrder_85 : decode cX9_nextOrder 85 = .ok (.istore 4, 2) := by decide +kernel
theorem dX9_nextOrder_87 : decode cX9_nextOrder 87 = .ok (.iload_n 2, 1) := by decide +kernel
theorem dX9_nextOrder_88 : decode cX9_nextOrder 88 = .ok (.iconst 1, 1) := by decide +kernel
theorem dX9_nextOrder_89 : decode cX9_nextOrder 89 = .ok (.isub, 1) := by decide +kernel
theorem dX9_nextOrder_90 : decode cX9_nextOrder 90 = .ok (.istore 5, 2) := by decide +kernel
theorem dX9_nextOrder_92 : decode cX9_nextOrder 92 = .ok (.iload 4, 2) := by decide +kernel
theorem dX9_nextOrder_94 : decode cX9_nextOrder 94 = .ok (.iload 5, 2) := by decide +kernel
theorem dX9_nextOrder_96 : decode cX9_nextOrder 96 = .ok (.if_icmp .ge 32, 3) := by decide +kernel
theorem dX9_nextOrder_99 : decode cX9_nextOrder 99 = .ok (.aload_n 0, 1) := by decide +kernel
theorem dX9_nextOrder_100 : decode cX9_nextOrder 100 = .ok (.iload 4, 2) := by decide +kernel
theorem dX9_nextOrder_102 : decode cX9_nextOrder 102 = .ok (.iaload, 1) := by decide +kernel
theorem dX9_nextOrder_103 : decode cX9_nextOrder 103 = .ok (.istore 6, 2) := by decide +kernel
theorem dX9_nextOrder_105 : decode cX9_nextOrder 105 = .ok (.aload_n 0, 1) := by decide +kernel
theorem dX9_nextOrder_106 : decode cX9_nextOrder 106 = .ok (.iload 4, 2) := by decide +kernel
theorem dX9_nextOrder_108 : decode cX9_nextOrder 108 = .ok (.aload_n 0, 1) := by decide +kernel
theorem dX9_nextOrder_109 : decode cX9_nextOrder 109 = .ok (.iload 5, 2) := by decide +kernel
theorem dX9_nextOrder_111 : decode cX9_nextOrder 111 = .ok (.iaload, 1) := by decide +kernel
theorem dX9_nextOrder_112 : decode cX9_nextOrder 112 = .ok (.iastore, 1) := by decide +kernel
theorem dX9_nextOrder_113 : decode cX9_nextOrder 113 = .ok (.aload_n 0, 1) := by decide +kernel
theorem dX9_nextOrder_114 : decode cX9_nextOrder 114 = .ok (.iload 5, 2) := by decide +kernel
theorem dX9_nextOrder_116 : decode cX9_nextOrder 116 = .ok (.iload 6, 2) := by decide +kernel
theorem dX9_nextOrder_118 : decode cX9_nextOrder 118 = .ok (.iastore, 1) := by decide +kernel
theorem dX9_nextOrder_119 : decode cX9_nextOrder 119 = .ok (.iinc 4 1, 3) := by decide +kernel
theorem dX9_nextOrder_122 : decode cX9_nextOrder 122 = .ok (.iinc 5 (-1), 3) := by decide +kernel
theorem dX9_nextOrder_125 : decode cX9_nextOrder 125 = .ok (.goto (-33), 3) := by decide +kernel
theorem dX9_nextOrder_128 : decode cX9_nextOrder 128 = .ok (.iload_n 3, 1) := by decide +kernel
theorem dX9_nextOrder_129 : decode cX9_nextOrder 129 = .ok (.iload_n 1, 1) := by decide +kernel
theorem dX9_nextOrder_130 : decode cX9_nextOrder 130 = .ok (.if_icmp .lt 7, 3) := by decide +kernel
theorem dX9_nextOrder_133 : decode cX9_nextOrder 133 = .ok (.iconst 1, 1) := by decide +kernel
theorem dX9_nextOrder_134 : decode cX9_nextOrder 134 = .ok (.goto 4, 3) := by decide +kernel
theorem dX9_nextOrder_137 : decode cX9_nextOrder 137 = .ok (.iconst 0, 1) := by decide +kernel
theorem dX9_nextOrder_138 : decode cX9_nextOrder 138 = .ok (.ireturn, 1) := by decide +kernel
theorem dX10_init_0 : decode cX10_init 0 = .ok (.aload_n 0, 1) := by decide +kernel
theorem dX10_init_1 : decode cX10_init 1 = .ok (.invokespecial 3, 3) := by decide +kernel
theorem dX10_init_4 : decode cX10_init 4 = .ok (.aload_n 0, 1) := by decide +kernel
theorem dX10_init_5 : decode cX10_init 5 = .ok (.bipush 24, 2) := by decide +kernel
theorem dX10_init_7 : decode cX10_init 7 = .ok (.newarray .int, 2) := by decide +kernel
theorem dX10_init_9 : decode cX10_init 9 = .ok (.putfield 9, 3) := by decide +kernel
theorem dX10_init_12 : decode cX10_init 12 = .ok (.aload_n 0, 1) := by decide +kernel
theorem dX10_init_13 : decode cX10_init 13 = .ok (.bipush 24, 2) := by decide +kernel
theorem dX10_init_15 : decode cX10_init 15 = .ok (.newarray .int, 2) := by decide +kernel
theorem dX10_init_17 : decode cX10_init 17 = .ok (.putfield 13, 3) := by decide +kernel
theorem dX10_init_20 : decode cX10_init 20 = .ok (.aload_n 0, 1) := by decide +kernel
theorem dX10_init_21 : decode cX10_init 21 = .ok (.bipush 24, 2) := by decide +kernel
theorem dX10_init_23 : decode cX10_init 23 = .ok (.newarray .int, 2) := by decide +kernel
theorem dX10_init_25 : decode cX10_init 25 = .ok (.putfield 16, 3) := by decide +kernel
theorem dX10_init_28 : decode cX10_init 28 = .ok (.aload_n 0, 1) := by decide +kernel
theorem dX10_init_29 : decode cX10_init 29 = .ok (.bipush 24, 2) := by decide +kernel
theorem dX10_init_31 : decode cX10_init 31 = .ok (.newarray .int, 2) := by decide +kernel
theorem dX10_init_33 : decode cX10_init 33 = .ok (.putfield 19, 3) := by decide +kernel
theorem dX10_init_36 : decode cX10_init 36 = .ok (.aload_n 0, 1) := by decide +kernel
theorem dX10_init_37 : decode cX10_init 37 = .ok (.bipush 120, 2) := by decide +kernel
theorem dX10_init_39 : decode cX10_init 39 = .ok (.newarray .int, 2) := by decide +kernel
theorem dX10_init_41 : decode cX10_init 41 = .ok (.putfield 22, 3) := by decide +kernel
theorem dX10_init_44 : decode cX10_init 44 = .ok (.aload_n 0, 1) := by decide +kernel
theorem dX10_init_45 : decode cX10_init 45 = .ok (.iconst 5, 1) := by decide +kernel
theorem dX10_init_46 : decode cX10_init 46 = .ok (.newarray .int, 2) := by decide +kernel
theorem dX10_init_48 : decode cX10_init 48 = .ok (.putfield 25, 3) := by decide +kernel
theorem dX10_init_51 : decode cX10_init 51 = .ok (.aload_n 0, 1) := by decide +kernel
theorem dX10_init_52 : decode cX10_init 52 = .ok (.sipush 140, 3) := by decide +kernel
theorem dX10_init_55 : decode cX10_init 55 = .ok (.newarray .int, 2) := by decide +kernel
theorem dX10_init_57 : decode cX10_init 57 = .ok (.putfield 28, 3) := by decide +kernel
theorem dX10_init_60 : decode cX10_init 60 = .ok (.aload_n 0, 1) := by decide +kernel
theorem dX10_init_61 : decode cX10_init 61 = .ok (.bipush 24, 2) := by decide +kernel
theorem dX10_init_63 : decode cX10_init 63 = .ok (.newarray .int, 2) := by decide +kernel
theorem dX10_init_65 : decode cX10_init 65 = .ok (.putfield 31, 3) := by decide +kernel
theorem dX10_init_68 : decode cX10_init 68 = .ok (.aload_n 0, 1) := by decide +kernel
theorem dX10_init_69 : decode cX10_init 69 = .ok (.bipush 24, 2) := by decide +kernel
theorem dX10_init_71 : decode cX10_init 71 = .ok (.newarray .int, 2) := by decide +kernel
theorem dX10_init_73 : decode cX10_init 73 = .ok (.putfield 34, 3) := by decide +kernel
theorem dX10_init_76 : decode cX10_init 76 = .ok (.aload_n 0, 1) := by decide +kernel
theorem dX10_init_77 : decode cX10_init 77 = .ok (.bipush 24, 2) := by decide +kernel
theorem dX10_init_79 : decode cX10_init 79 = .ok (.newarray .int, 2) := by decide +kernel
theorem dX10_init_81 : decode cX10_init 81 = .ok (.putfield 37, 3) := by decide +kernel
theorem dX10_init_84 : decode cX10_init 84 = .ok (.aload_n 0, 1) := by decide +kernel
theorem dX10_init_85 : decode cX10_init 85 = .ok (.sipush 2040, 3) := by decide +kernel
theorem dX10_init_88 : decode cX10_init 88 = .ok (.newarray .int, 2) := by decide +kernel
theorem dX10_init_90 : decode cX10_init 90 = .ok (.putfield 40, 3) := by decide +kernel
theorem dX10_init_93 : decode cX10_init 93 = .ok (.aload_n 0, 1) := by decide +kernel
theorem dX10_init_94 : decode cX10_init 94 = .ok (.bipush 24, 2) := by decide +kernel
theorem dX10_init_96 : decode cX10_init 96 = .ok (.newarray .int, 2) := by decide +kernel
theorem dX10_init_98 : decode cX10_init 98 = .ok (.putfield 43, 3) := by decide +kernel
theorem dX10_init_101 : decode cX10_init 101 = .ok (.aload_n 0, 1) := by decide +kernel
theorem dX10_init_102 : decode cX10_init 102 = .ok (.bipush 24, 2) := by decide +kernel
theorem dX10_init_104 : decode cX10_init 104 = .ok (.newarray .int, 2) := by decide +kernel
theorem dX10_init_106 : decode cX10_init 106 = .ok (.putfield 46, 3) := by decide +kernel
theorem dX10_init_109 : decode cX10_init 109 = .ok (.aload_n 0, 1) := by decide +kernel
theorem dX10_init_110 : decode cX10_init 110 = .ok (.bipush 24, 2) := by decide +kernel
theorem dX10_init_112 : decode cX10_init 112 = .ok (.newarray .int, 2) := by decide +kernel
theorem dX10_init_114 : decode cX10_init 114 = .ok (.putfield 49, 3) := by decide +kernel
theorem dX10_init_117 : decode cX10_init 117 = .ok (.aload_n 0, 1) := by decide +kernel
theorem dX10_init_118 : decode cX10_init 118 = .ok (.bipush 24, 2) := by decide +kernel
theorem dX10_init_120 : decode cX10_init 120 = .ok (.newarray .int, 2) := by decide +kernel
theorem dX10_init_122 : decode cX10_init 122 = .ok (.putfield 52, 3) := by decide +kernel
theorem dX10_init_125 : decode cX10_init 125 = .ok (.aload_n 0, 1) := by decide +kernel
theorem dX10_init_126 : decode cX10_init 126 = .ok (.bipush 24, 2) := by decide +kernel
theorem dX10_init_128 : decode cX10_init 128 = .ok (.newarray .int, 2) := by decide +kernel
theorem dX10_init_130 : decode cX10_init 130 = .ok (.putfield 55, 3) := by decide +kernel
theorem dX10_init_133 : decode cX10_init 133 = .ok (.aload_n 0, 1) := by decide +kernel
theorem dX10_init_134 : decode cX10_init 134 = .ok (.bipush 24, 2) := by decide +kernel
theorem dX10_init_136 : decode cX10_init 136 = .ok (.newarray .boolean, 2) := by decide +kernel
theorem dX10_init_138 : decode cX10_init 138 = .ok (.putfield 58, 3) := by decide +kernel
theorem dX10_init_141 : decode cX10_init 141 = .ok (.aload_n 0, 1) := by decide +kernel
theorem dX10_init_142 : decode cX10_init 142 = .ok (.bipush 24, 2) := by decide +kernel
theorem dX10_init_144 : decode cX10_init 144 = .ok (.newarray .int, 2) := by decide +kernel
theorem dX10_init_146 : decode cX10_init 146 = .ok (.putfield 62, 3) := by decide +kernel
theorem dX10_init_149 : decode cX10_init 149 = .ok (.aload_n 0, 1) := by decide +kernel
theorem dX10_init_150 : decode cX10_init 150 = .ok (.bipush 25, 2) := by decide +kernel
theorem dX10_init_152 : decode cX10_init 152 = .ok (.newarray .int, 2) := by decide +kernel
theorem dX10_init_154 : decode cX10_init 154 = .ok (.putfield 65, 3) := by decide +kernel
theorem dX10_init_157 : decode cX10_init 157 = .ok (.aload_n 0, 1) := by decide +kernel
theorem dX10_init_158 : decode cX10_init 158 = .ok (.bipush 48, 2) := by decide +kernel
theorem dX10_init_160 : decode cX10_init 160 = .ok (.newarray .int, 2) := by decide +kernel
theorem dX10_init_162 : decode cX10_init 162 = .ok (.putfield 68, 3) := by decide +kernel
theorem dX10_init_165 : decode cX10_init 165 = .ok (.aload_n 0, 1) := by decide +kernel
theorem dX10_init_166 : decode cX10_init 166 = .ok (.bipush 48, 2) := by decide +kernel
theorem dX10_init_168 : decode cX10_init 168 = .ok (.newarray .int, 2) := by decide +kernel
theorem dX10_init_170 : decode cX10_init 170 = .ok (.putfield 71, 3) := by decide +kernel
theorem dX10_init_173 : decode cX10_init 173 = .ok (.aload_n 0, 1) := by decide +kernel
theorem dX10_init_174 : decode cX10_init 174 = .ok (.iconst 4, 1) := by decide +kernel
theorem dX10_init_175 : decode cX10_init 175 = .ok (.putfield 74, 3) := by decide +kernel
theorem dX10_init_178 : decode cX10_init 178 = .ok (.aload_n 0, 1) := by decide +kernel
theorem dX10_init_179 : decode cX10_init 179 = .ok (.bipush 10, 2) := by decide +kernel
theorem dX10_init_181 : decode cX10_init 181 = .ok (.newarray .int, 2) := by decide +kernel
theorem dX10_init_183 : decode cX10_init 183 = .ok (.putfield 78, 3) := by decide +kernel
theorem dX10_init_186 : decode cX10_init 186 = .ok (.aload_n 0, 1) := by decide +kernel
theorem dX10_init_187 : decode cX10_init 187 = .ok (.bipush 120, 2) := by decide +kernel
theorem dX10_init_189 : decode cX10_init 189 = .ok (.newarray .int, 2) := by decide +kernel
theorem dX10_init_191 : decode cX10_init 191 = .ok (.putfield 81, 3) := by decide +kernel
theorem dX10_init_194 : decode cX10_init 194 = .ok (.aload_n 0, 1) := by decide +kernel
theorem dX10_init_195 : decode cX10_init 195 = .ok (.bipush 48, 2) := by decide +kernel
theorem dX10_init_197 : decode cX10_init 197 = .ok (.newarray .int, 2) := by decide +kernel
theorem dX10_init_199 : decode cX10_init 199 = .ok (.putfield 84, 3) := by decide +kernel
theorem dX10_init_202 : decode cX10_init 202 = .ok (.aload_n 0, 1) := by decide +kernel
theorem dX10_init_203 : decode cX10_init 203 = .ok (.bipush 6, 2) := by decide +kernel
theorem dX10_init_205 : decode cX10_init 205 = .ok (.newarray .int, 2) := by decide +kernel
theorem dX10_init_207 : decode cX10_init 207 = .ok (.putfield 87, 3) := by decide +kernel
theorem dX10_init_210 : decode cX10_init 210 = .ok (.aload_n 0, 1) := by decide +kernel
theorem dX10_init_211 : decode cX10_init 211 = .ok (.bipush 6, 2) := by decide +kernel
theorem dX10_init_213 : decode cX10_init 213 = .ok (.newarray .int, 2) := by decide +kernel
theorem dX10_init_215 : decode cX10_init 215 = .ok (.putfield 90, 3) := by decide +kernel
theorem dX10_init_218 : decode cX10_init 218 = .ok (.aload_n 0, 1) := by decide +kernel
theorem dX10_init_219 : decode cX10_init 219 = .ok (.iconst 5, 1) := by decide +kernel
theorem dX10_init_220 : decode cX10_init 220 = .ok (.newarray .int, 2) := by decide +kernel
theorem dX10_init_222 : decode cX10_init 222 = .ok (.putfield 93, 3) := by decide +kernel
theorem dX10_init_225 : decode cX10_init 225 = .ok (.aload_n 0, 1) := by decide +kernel
theorem dX10_init_226 : decode cX10_init 226 = .ok (.bipush 24, 2) := by decide +kernel
theorem dX10_init_228 : decode cX10_init 228 = .ok (.newarray .int, 2) := by decide +kernel
theorem dX10_init_230 : decode cX10_init 230 = .ok (.putfield 96, 3) := by decide +kernel
theorem dX10_init_233 : decode cX10_init 233 = .ok (.aload_n 0, 1) := by decide +kernel
theorem dX10_init_234 : decode cX10_init 234 = .ok (.bipush 24, 2) := by decide +kernel
theorem dX10_init_236 : decode cX10_init 236 = .ok (.newarray .int, 2) := by decide +kernel
theorem dX10_init_238 : decode cX10_init 238 = .ok (.putfield 99, 3) := by decide +kernel
theorem dX10_init_241 : decode cX10_init 241 = .ok (.aload_n 0, 1) := by decide +kernel
theorem dX10_init_242 : decode cX10_init 242 = .ok (.sipush 223, 3) := by decide +kernel
theorem dX10_init_245 : decode cX10_init 245 = .ok (.newarray .int, 2) := by decide +kernel
theorem dX10_init_247 : decode cX10_init 247 = .ok (.putfield 102, 3) := by decide +kernel
theorem dX10_init_250 : decode cX10_init 250 = .ok (.return_, 1) := by decide +kernel
theorem dX10_in_0 : decode cX10_in 0 = .ok (.iload_n 0, 1) := by decide +kernel
theorem dX10_in_1 : decode cX10_in 1 = .ok (.iload_n 1, 1) := by decide +kernel
theorem dX10_in_2 : decode cX10_in 2 = .ok (.if_icmp .lt 12, 3) := by decide +kernel
theorem dX10_in_5 : decode cX10_in 5 = .ok (.iload_n 0, 1) := by decide +kernel
theorem dX10_in_6 : decode cX10_in 6 = .ok (.iload_n 2, 1) := by decide +kernel
theorem dX10_in_7 : decode cX10_in 7 = .ok (.if_icmp .gt 7, 3) := by decide +kernel
theorem dX10_in_10 : decode cX10_in 10 = .ok (.iconst 1, 1) := by decide +kernel
theorem dX10_in_11 : decode cX10_in 11 = .ok (.goto 4, 3) := by decide +kernel
theorem dX10_in_14 : decode cX10_in 14 = .ok (.iconst 0, 1) := by decide +kernel
theorem dX10_in_15 : decode cX10_in 15 = .ok (.ireturn, 1) := by decide +kernel
theorem dX10_isTask_0 : decode cX10_isTask 0 = .ok (.iload_n 1, 1) := by decide +kernel
theorem dX10_isTask_1 : decode cX10_isTask 1 = .ok (.iconst 0, 1) := by decide +kernel
theorem dX10_isTask_2 : decode cX10_isTask 2 = .ok (.aload_n 0, 1) := by decide +kernel
theorem dX10_isTask_3 : decode cX10_isTask 3 = .ok (.getfield 105, 3) := by decide +kernel
theorem dX10_isTask_6 : decode cX10_isTask 6 = .ok (.iconst 1, 1) := by decide +kernel
theorem dX10_isTask_7 : decode cX10_isTask 7 = .ok (.isub, 1) := by decide +kernel
theorem dX10_isTask_8 : decode cX10_isTask 8 = .ok (.invokestatic 108, 3) := by decide +kernel
theorem dX10_isTask_11 : decode cX10_isTask 11 = .ok (.ireturn, 1) := by decide +kernel
theorem dX10_isMachine_0 : decode cX10_isMachine 0 = .ok (.iload_n 0, 1) := by decide +kernel
theorem dX10_isMachine_1 : decode cX10_isMachine 1 = .ok (.iconst 0, 1) := by decide +kernel
theorem dX10_isMachine_2 : decode cX10_isMachine 2 = .ok (.iconst 4, 1) := by decide +kernel
theorem dX10_isMachine_3 : decode cX10_isMachine 3 = .ok (.invokestatic 108, 3) := by decide +kernel
theorem dX10_isMachine_6 : decode cX10_isMachine 6 = .ok (.ireturn, 1) := by decide +kernel
theorem dX10_feed_0 : decode cX10_feed 0 = .ok (.iload_n 1, 1) := by decide +kernel
theorem dX10_feed_1 : decode cX10_feed 1 = .ok (.bipush 32, 2) := by decide +kernel
