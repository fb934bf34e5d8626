theorem dX11_carries_51 : decode cX11_carries 51 = .ok (.iload 5, 2) := by decide +kernel
theorem dX11_carries_53 : decode cX11_carries 53 = .ok (.iaload, 1) := by decide +kernel
theorem dX11_carries_54 : decode cX11_carries 54 = .ok (.iload 5, 2) := by decide +kernel
theorem dX11_carries_56 : decode cX11_carries 56 = .ok (.invokevirtual 151, 3) := by decide +kernel
theorem dX11_carries_59 : decode cX11_carries 59 = .ok (.istore 5, 2) := by decide +kernel
theorem dX11_carries_61 : decode cX11_carries 61 = .ok (.goto (-53), 3) := by decide +kernel
theorem dX11_carries_64 : decode cX11_carries 64 = .ok (.iload_n 2, 1) := by decide +kernel
theorem dX11_carries_65 : decode cX11_carries 65 = .ok (.istore 5, 2) := by decide +kernel
theorem dX11_carries_67 : decode cX11_carries 67 = .ok (.iload 5, 2) := by decide +kernel
theorem dX11_carries_69 : decode cX11_carries 69 = .ok (.iload_n 1, 1) := by decide +kernel
theorem dX11_carries_70 : decode cX11_carries 70 = .ok (.if_icmp .eq 65, 3) := by decide +kernel
theorem dX11_carries_73 : decode cX11_carries 73 = .ok (.aload_n 0, 1) := by decide +kernel
theorem dX11_carries_74 : decode cX11_carries 74 = .ok (.getfield 89, 3) := by decide +kernel
theorem dX11_carries_77 : decode cX11_carries 77 = .ok (.iload 5, 2) := by decide +kernel
theorem dX11_carries_79 : decode cX11_carries 79 = .ok (.iaload, 1) := by decide +kernel
theorem dX11_carries_80 : decode cX11_carries 80 = .ok (.istore 6, 2) := by decide +kernel
theorem dX11_carries_82 : decode cX11_carries 82 = .ok (.aload_n 0, 1) := by decide +kernel
theorem dX11_carries_83 : decode cX11_carries 83 = .ok (.getfield 86, 3) := by decide +kernel
theorem dX11_carries_86 : decode cX11_carries 86 = .ok (.iload 6, 2) := by decide +kernel
theorem dX11_carries_88 : decode cX11_carries 88 = .ok (.aload_n 0, 1) := by decide +kernel
theorem dX11_carries_89 : decode cX11_carries 89 = .ok (.getfield 86, 3) := by decide +kernel
theorem dX11_carries_92 : decode cX11_carries 92 = .ok (.iload 6, 2) := by decide +kernel
theorem dX11_carries_94 : decode cX11_carries 94 = .ok (.iaload, 1) := by decide +kernel
theorem dX11_carries_95 : decode cX11_carries 95 = .ok (.aload_n 0, 1) := by decide +kernel
theorem dX11_carries_96 : decode cX11_carries 96 = .ok (.getfield 22, 3) := by decide +kernel
theorem dX11_carries_99 : decode cX11_carries 99 = .ok (.iload 6, 2) := by decide +kernel
theorem dX11_carries_101 : decode cX11_carries 101 = .ok (.iaload, 1) := by decide +kernel
theorem dX11_carries_102 : decode cX11_carries 102 = .ok (.iload 5, 2) := by decide +kernel
theorem dX11_carries_104 : decode cX11_carries 104 = .ok (.if_icmp .ne 9, 3) := by decide +kernel
theorem dX11_carries_107 : decode cX11_carries 107 = .ok (.iload 4, 2) := by decide +kernel
theorem dX11_carries_109 : decode cX11_carries 109 = .ok (.ineg, 1) := by decide +kernel
theorem dX11_carries_110 : decode cX11_carries 110 = .ok (.goto 5, 3) := by decide +kernel
theorem dX11_carries_113 : decode cX11_carries 113 = .ok (.iload 4, 2) := by decide +kernel
theorem dX11_carries_115 : decode cX11_carries 115 = .ok (.iadd, 1) := by decide +kernel
theorem dX11_carries_116 : decode cX11_carries 116 = .ok (.iastore, 1) := by decide +kernel
theorem dX11_carries_117 : decode cX11_carries 117 = .ok (.aload_n 0, 1) := by decide +kernel
theorem dX11_carries_118 : decode cX11_carries 118 = .ok (.aload_n 0, 1) := by decide +kernel
theorem dX11_carries_119 : decode cX11_carries 119 = .ok (.getfield 89, 3) := by decide +kernel
theorem dX11_carries_122 : decode cX11_carries 122 = .ok (.iload 5, 2) := by decide +kernel
theorem dX11_carries_124 : decode cX11_carries 124 = .ok (.iaload, 1) := by decide +kernel
theorem dX11_carries_125 : decode cX11_carries 125 = .ok (.iload 5, 2) := by decide +kernel
theorem dX11_carries_127 : decode cX11_carries 127 = .ok (.invokevirtual 151, 3) := by decide +kernel
theorem dX11_carries_130 : decode cX11_carries 130 = .ok (.istore 5, 2) := by decide +kernel
theorem dX11_carries_132 : decode cX11_carries 132 = .ok (.goto (-65), 3) := by decide +kernel
theorem dX11_carries_135 : decode cX11_carries 135 = .ok (.iload 4, 2) := by decide +kernel
theorem dX11_carries_137 : decode cX11_carries 137 = .ok (.ireturn, 1) := by decide +kernel
theorem dX11_laysFlow_0 : decode cX11_laysFlow 0 = .ok (.iconst 0, 1) := by decide +kernel
theorem dX11_laysFlow_1 : decode cX11_laysFlow 1 = .ok (.istore 4, 2) := by decide +kernel
theorem dX11_laysFlow_3 : decode cX11_laysFlow 3 = .ok (.iload 4, 2) := by decide +kernel
theorem dX11_laysFlow_5 : decode cX11_laysFlow 5 = .ok (.aload_n 0, 1) := by decide +kernel
theorem dX11_laysFlow_6 : decode cX11_laysFlow 6 = .ok (.getfield 145, 3) := by decide +kernel
theorem dX11_laysFlow_9 : decode cX11_laysFlow 9 = .ok (.if_icmp .ge 17, 3) := by decide +kernel
theorem dX11_laysFlow_12 : decode cX11_laysFlow 12 = .ok (.aload_n 0, 1) := by decide +kernel
theorem dX11_laysFlow_13 : decode cX11_laysFlow 13 = .ok (.getfield 86, 3) := by decide +kernel
theorem dX11_laysFlow_16 : decode cX11_laysFlow 16 = .ok (.iload 4, 2) := by decide +kernel
theorem dX11_laysFlow_18 : decode cX11_laysFlow 18 = .ok (.iconst 0, 1) := by decide +kernel
theorem dX11_laysFlow_19 : decode cX11_laysFlow 19 = .ok (.iastore, 1) := by decide +kernel
theorem dX11_laysFlow_20 : decode cX11_laysFlow 20 = .ok (.iinc 4 1, 3) := by decide +kernel
theorem dX11_laysFlow_23 : decode cX11_laysFlow 23 = .ok (.goto (-20), 3) := by decide +kernel
theorem dX11_laysFlow_26 : decode cX11_laysFlow 26 = .ok (.iconst 0, 1) := by decide +kernel
theorem dX11_laysFlow_27 : decode cX11_laysFlow 27 = .ok (.istore 4, 2) := by decide +kernel
theorem dX11_laysFlow_29 : decode cX11_laysFlow 29 = .ok (.aload_n 0, 1) := by decide +kernel
theorem dX11_laysFlow_30 : decode cX11_laysFlow 30 = .ok (.aload_n 0, 1) := by decide +kernel
theorem dX11_laysFlow_31 : decode cX11_laysFlow 31 = .ok (.iload_n 1, 1) := by decide +kernel
theorem dX11_laysFlow_32 : decode cX11_laysFlow 32 = .ok (.iload_n 3, 1) := by decide +kernel
theorem dX11_laysFlow_33 : decode cX11_laysFlow 33 = .ok (.invokevirtual 356, 3) := by decide +kernel
theorem dX11_laysFlow_36 : decode cX11_laysFlow 36 = .ok (.putfield 360, 3) := by decide +kernel
theorem dX11_laysFlow_39 : decode cX11_laysFlow 39 = .ok (.aload_n 0, 1) := by decide +kernel
theorem dX11_laysFlow_40 : decode cX11_laysFlow 40 = .ok (.getfield 360, 3) := by decide +kernel
theorem dX11_laysFlow_43 : decode cX11_laysFlow 43 = .ok (.iload_n 2, 1) := by decide +kernel
theorem dX11_laysFlow_44 : decode cX11_laysFlow 44 = .ok (.invokestatic 137, 3) := by decide +kernel
theorem dX11_laysFlow_47 : decode cX11_laysFlow 47 = .ok (.ifCond .eq 28, 3) := by decide +kernel
theorem dX11_laysFlow_50 : decode cX11_laysFlow 50 = .ok (.iload 4, 2) := by decide +kernel
theorem dX11_laysFlow_52 : decode cX11_laysFlow 52 = .ok (.aload_n 0, 1) := by decide +kernel
theorem dX11_laysFlow_53 : decode cX11_laysFlow 53 = .ok (.iload_n 1, 1) := by decide +kernel
theorem dX11_laysFlow_54 : decode cX11_laysFlow 54 = .ok (.iload_n 2, 1) := by decide +kernel
theorem dX11_laysFlow_55 : decode cX11_laysFlow 55 = .ok (.iload_n 3, 1) := by decide +kernel
theorem dX11_laysFlow_56 : decode cX11_laysFlow 56 = .ok (.invokevirtual 363, 3) := by decide +kernel
theorem dX11_laysFlow_59 : decode cX11_laysFlow 59 = .ok (.iadd, 1) := by decide +kernel
theorem dX11_laysFlow_60 : decode cX11_laysFlow 60 = .ok (.istore 4, 2) := by decide +kernel
theorem dX11_laysFlow_62 : decode cX11_laysFlow 62 = .ok (.aload_n 0, 1) := by decide +kernel
theorem dX11_laysFlow_63 : decode cX11_laysFlow 63 = .ok (.aload_n 0, 1) := by decide +kernel
theorem dX11_laysFlow_64 : decode cX11_laysFlow 64 = .ok (.iload_n 1, 1) := by decide +kernel
theorem dX11_laysFlow_65 : decode cX11_laysFlow 65 = .ok (.iload_n 3, 1) := by decide +kernel
theorem dX11_laysFlow_66 : decode cX11_laysFlow 66 = .ok (.invokevirtual 356, 3) := by decide +kernel
theorem dX11_laysFlow_69 : decode cX11_laysFlow 69 = .ok (.putfield 360, 3) := by decide +kernel
theorem dX11_laysFlow_72 : decode cX11_laysFlow 72 = .ok (.goto (-33), 3) := by decide +kernel
theorem dX11_laysFlow_75 : decode cX11_laysFlow 75 = .ok (.iload 4, 2) := by decide +kernel
theorem dX11_laysFlow_77 : decode cX11_laysFlow 77 = .ok (.ireturn, 1) := by decide +kernel
theorem dX11_most_0 : decode cX11_most 0 = .ok (.aload_n 0, 1) := by decide +kernel
theorem dX11_most_1 : decode cX11_most 1 = .ok (.iload_n 1, 1) := by decide +kernel
theorem dX11_most_2 : decode cX11_most 2 = .ok (.iload_n 2, 1) := by decide +kernel
theorem dX11_most_3 : decode cX11_most 3 = .ok (.invokevirtual 366, 3) := by decide +kernel
theorem dX11_most_6 : decode cX11_most 6 = .ok (.ifCond .eq 12, 3) := by decide +kernel
theorem dX11_most_9 : decode cX11_most 9 = .ok (.iload_n 3, 1) := by decide +kernel
theorem dX11_most_10 : decode cX11_most 10 = .ok (.iconst 0, 1) := by decide +kernel
theorem dX11_most_11 : decode cX11_most 11 = .ok (.iconst 1, 1) := by decide +kernel
theorem dX11_most_12 : decode cX11_most 12 = .ok (.invokestatic 129, 3) := by decide +kernel
theorem dX11_most_15 : decode cX11_most 15 = .ok (.ifCond .ne 5, 3) := by decide +kernel
theorem dX11_most_18 : decode cX11_most 18 = .ok (.iconst (-1), 1) := by decide +kernel
theorem dX11_most_19 : decode cX11_most 19 = .ok (.ireturn, 1) := by decide +kernel
theorem dX11_most_20 : decode cX11_most 20 = .ok (.aload_n 0, 1) := by decide +kernel
theorem dX11_most_21 : decode cX11_most 21 = .ok (.iload_n 1, 1) := by decide +kernel
theorem dX11_most_22 : decode cX11_most 22 = .ok (.iload_n 2, 1) := by decide +kernel
theorem dX11_most_23 : decode cX11_most 23 = .ok (.iconst 0, 1) := by decide +kernel
theorem dX11_most_24 : decode cX11_most 24 = .ok (.invokevirtual 369, 3) := by decide +kernel
theorem dX11_most_27 : decode cX11_most 27 = .ok (.istore 4, 2) := by decide +kernel
theorem dX11_most_29 : decode cX11_most 29 = .ok (.iload_n 3, 1) := by decide +kernel
theorem dX11_most_30 : decode cX11_most 30 = .ok (.ifCond .ne 8, 3) := by decide +kernel
theorem dX11_most_33 : decode cX11_most 33 = .ok (.iload 4, 2) := by decide +kernel
theorem dX11_most_35 : decode cX11_most 35 = .ok (.goto 7, 3) := by decide +kernel
theorem dX11_most_38 : decode cX11_most 38 = .ok (.aload_n 0, 1) := by decide +kernel
theorem dX11_most_39 : decode cX11_most 39 = .ok (.getfield 360, 3) := by decide +kernel
theorem dX11_most_42 : decode cX11_most 42 = .ok (.ireturn, 1) := by decide +kernel
theorem dX11_cut_0 : decode cX11_cut 0 = .ok (.aload_n 0, 1) := by decide +kernel
theorem dX11_cut_1 : decode cX11_cut 1 = .ok (.iload_n 1, 1) := by decide +kernel
theorem dX11_cut_2 : decode cX11_cut 2 = .ok (.iload_n 2, 1) := by decide +kernel
theorem dX11_cut_3 : decode cX11_cut 3 = .ok (.invokevirtual 366, 3) := by decide +kernel
theorem dX11_cut_6 : decode cX11_cut 6 = .ok (.ifCond .eq 13, 3) := by decide +kernel
theorem dX11_cut_9 : decode cX11_cut 9 = .ok (.aload_n 0, 1) := by decide +kernel
theorem dX11_cut_10 : decode cX11_cut 10 = .ok (.iload_n 1, 1) := by decide +kernel
theorem dX11_cut_11 : decode cX11_cut 11 = .ok (.iload_n 2, 1) := by decide +kernel
theorem dX11_cut_12 : decode cX11_cut 12 = .ok (.iconst 1, 1) := by decide +kernel
theorem dX11_cut_13 : decode cX11_cut 13 = .ok (.invokevirtual 369, 3) := by decide +kernel
theorem dX11_cut_16 : decode cX11_cut 16 = .ok (.goto 4, 3) := by decide +kernel
theorem dX11_cut_19 : decode cX11_cut 19 = .ok (.iconst (-1), 1) := by decide +kernel
theorem dX11_cut_20 : decode cX11_cut 20 = .ok (.ireturn, 1) := by decide +kernel
theorem dX11_reached_0 : decode cX11_reached 0 = .ok (.iconst 1, 1) := by decide +kernel
theorem dX11_reached_1 : decode cX11_reached 1 = .ok (.iload_n 1, 1) := by decide +kernel
theorem dX11_reached_2 : decode cX11_reached 2 = .ok (.ishl, 1) := by decide +kernel
theorem dX11_reached_3 : decode cX11_reached 3 = .ok (.istore 4, 2) := by decide +kernel
theorem dX11_reached_5 : decode cX11_reached 5 = .ok (.iconst 0, 1) := by decide +kernel
theorem dX11_reached_6 : decode cX11_reached 6 = .ok (.istore 5, 2) := by decide +kernel
theorem dX11_reached_8 : decode cX11_reached 8 = .ok (.iload 4, 2) := by decide +kernel
theorem dX11_reached_10 : decode cX11_reached 10 = .ok (.iload 5, 2) := by decide +kernel
theorem dX11_reached_12 : decode cX11_reached 12 = .ok (.if_icmp .eq 93, 3) := by decide +kernel
theorem dX11_reached_15 : decode cX11_reached 15 = .ok (.iload 4, 2) := by decide +kernel
theorem dX11_reached_17 : decode cX11_reached 17 = .ok (.istore 5, 2) := by decide +kernel
theorem dX11_reached_19 : decode cX11_reached 19 = .ok (.iconst 0, 1) := by decide +kernel
theorem dX11_reached_20 : decode cX11_reached 20 = .ok (.istore 6, 2) := by decide +kernel
theorem dX11_reached_22 : decode cX11_reached 22 = .ok (.iload 6, 2) := by decide +kernel
theorem dX11_reached_24 : decode cX11_reached 24 = .ok (.aload_n 0, 1) := by decide +kernel
theorem dX11_reached_25 : decode cX11_reached 25 = .ok (.getfield 145, 3) := by decide +kernel
theorem dX11_reached_28 : decode cX11_reached 28 = .ok (.if_icmp .ge 74, 3) := by decide +kernel
theorem dX11_reached_31 : decode cX11_reached 31 = .ok (.aload_n 0, 1) := by decide +kernel
theorem dX11_reached_32 : decode cX11_reached 32 = .ok (.iload 6, 2) := by decide +kernel
theorem dX11_reached_34 : decode cX11_reached 34 = .ok (.invokevirtual 148, 3) := by decide +kernel
theorem dX11_reached_37 : decode cX11_reached 37 = .ok (.ifCond .eq 59, 3) := by decide +kernel
theorem dX11_reached_40 : decode cX11_reached 40 = .ok (.iload 6, 2) := by decide +kernel
theorem dX11_reached_42 : decode cX11_reached 42 = .ok (.iload_n 3, 1) := by decide +kernel
theorem dX11_reached_43 : decode cX11_reached 43 = .ok (.if_icmp .eq 53, 3) := by decide +kernel
theorem dX11_reached_46 : decode cX11_reached 46 = .ok (.aload_n 0, 1) := by decide +kernel
theorem dX11_reached_47 : decode cX11_reached 47 = .ok (.getfield 28, 3) := by decide +kernel
theorem dX11_reached_50 : decode cX11_reached 50 = .ok (.iload 6, 2) := by decide +kernel
theorem dX11_reached_52 : decode cX11_reached 52 = .ok (.iaload, 1) := by decide +kernel
theorem dX11_reached_53 : decode cX11_reached 53 = .ok (.iload_n 2, 1) := by decide +kernel
theorem dX11_reached_54 : decode cX11_reached 54 = .ok (.if_icmp .ge 6, 3) := by decide +kernel
theorem dX11_reached_57 : decode cX11_reached 57 = .ok (.goto 39, 3) := by decide +kernel
theorem dX11_reached_60 : decode cX11_reached 60 = .ok (.iconst 1, 1) := by decide +kernel
theorem dX11_reached_61 : decode cX11_reached 61 = .ok (.aload_n 0, 1) := by decide +kernel
theorem dX11_reached_62 : decode cX11_reached 62 = .ok (.getfield 22, 3) := by decide +kernel
theorem dX11_reached_65 : decode cX11_reached 65 = .ok (.iload 6, 2) := by decide +kernel
theorem dX11_reached_67 : decode cX11_reached 67 = .ok (.iaload, 1) := by decide +kernel
theorem dX11_reached_68 : decode cX11_reached 68 = .ok (.ishl, 1) := by decide +kernel
theorem dX11_reached_69 : decode cX11_reached 69 = .ok (.iconst 1, 1) := by decide +kernel
theorem dX11_reached_70 : decode cX11_reached 70 = .ok (.aload_n 0, 1) := by decide +kernel
theorem dX11_reached_71 : decode cX11_reached 71 = .ok (.getfield 25, 3) := by decide +kernel
theorem dX11_reached_74 : decode cX11_reached 74 = .ok (.iload 6, 2) := by decide +kernel
theorem dX11_reached_76 : decode cX11_reached 76 = .ok (.iaload, 1) := by decide +kernel
theorem dX11_reached_77 : decode cX11_reached 77 = .ok (.ishl, 1) := by decide +kernel
theorem dX11_reached_78 : decode cX11_reached 78 = .ok (.ior, 1) := by decide +kernel
theorem dX11_reached_79 : decode cX11_reached 79 = .ok (.istore 7, 2) := by decide +kernel
theorem dX11_reached_81 : decode cX11_reached 81 = .ok (.iload 4, 2) := by decide +kernel
theorem dX11_reached_83 : decode cX11_reached 83 = .ok (.iload 7, 2) := by decide +kernel
theorem dX11_reached_85 : decode cX11_reached 85 = .ok (.iand, 1) := by decide +kernel
theorem dX11_reached_86 : decode cX11_reached 86 = .ok (.ifCond .eq 10, 3) := by decide +kernel
theorem dX11_reached_89 : decode cX11_reached 89 = .ok (.iload 4, 2) := by decide +kernel
theorem dX11_reached_91 : decode cX11_reached 91 = .ok (.iload 7, 2) := by decide +kernel
theorem dX11_reached_93 : decode cX11_reached 93 = .ok (.ior, 1) := by decide +kernel
theorem dX11_reached_94 : decode cX11_reached 94 = .ok (.istore 4, 2) := by decide +kernel
theorem dX11_reached_96 : decode cX11_reached 96 = .ok (.iinc 6 1, 3) := by decide +kernel
theorem dX11_reached_99 : decode cX11_reached 99 = .ok (.goto (-77), 3) := by decide +kernel
theorem dX11_reached_102 : decode cX11_reached 102 = .ok (.goto (-94), 3) := by decide +kernel
theorem dX11_reached_105 : decode cX11_reached 105 = .ok (.iload 4, 2) := by decide +kernel
theorem dX11_reached_107 : decode cX11_reached 107 = .ok (.ireturn, 1) := by decide +kernel
theorem dX11_widest_0 : decode cX11_widest 0 = .ok (.aload_n 0, 1) := by decide +kernel
theorem dX11_widest_1 : decode cX11_widest 1 = .ok (.iload_n 1, 1) := by decide +kernel
theorem dX11_widest_2 : decode cX11_widest 2 = .ok (.iload_n 2, 1) := by decide +kernel
theorem dX11_widest_3 : decode cX11_widest 3 = .ok (.invokevirtual 366, 3) := by decide +kernel
theorem dX11_widest_6 : decode cX11_widest 6 = .ok (.ifCond .ne 5, 3) := by decide +kernel
theorem dX11_widest_9 : decode cX11_widest 9 = .ok (.iconst (-1), 1) := by decide +kernel
theorem dX11_widest_10 : decode cX11_widest 10 = .ok (.ireturn, 1) := by decide +kernel
theorem dX11_widest_11 : decode cX11_widest 11 = .ok (.bipush 99, 2) := by decide +kernel
theorem dX11_widest_13 : decode cX11_widest 13 = .ok (.istore_n 3, 1) := by decide +kernel
theorem dX11_widest_14 : decode cX11_widest 14 = .ok (.iload_n 3, 1) := by decide +kernel
theorem dX11_widest_15 : decode cX11_widest 15 = .ok (.ifCond .le 25, 3) := by decide +kernel
theorem dX11_widest_18 : decode cX11_widest 18 = .ok (.aload_n 0, 1) := by decide +kernel
theorem dX11_widest_19 : decode cX11_widest 19 = .ok (.iload_n 1, 1) := by decide +kernel
theorem dX11_widest_20 : decode cX11_widest 20 = .ok (.iload_n 3, 1) := by decide +kernel
theorem dX11_widest_21 : decode cX11_widest 21 = .ok (.iconst (-1), 1) := by decide +kernel
theorem dX11_widest_22 : decode cX11_widest 22 = .ok (.invokevirtual 372, 3) := by decide +kernel
theorem dX11_widest_25 : decode cX11_widest 25 = .ok (.iload_n 2, 1) := by decide +kernel
theorem dX11_widest_26 : decode cX11_widest 26 = .ok (.invokestatic 137, 3) := by decide +kernel
theorem dX11_widest_29 : decode cX11_widest 29 = .ok (.ifCond .eq 5, 3) := by decide +kernel
theorem dX11_widest_32 : decode cX11_widest 32 = .ok (.iload_n 3, 1) := by decide +kernel
theorem dX11_widest_33 : decode cX11_widest 33 = .ok (.ireturn, 1) := by decide +kernel
theorem dX11_widest_34 : decode cX11_widest 34 = .ok (.iinc 3 (-1), 3) := by decide +kernel
theorem dX11_widest_37 : decode cX11_widest 37 = .ok (.goto (-23), 3) := by decide +kernel
theorem dX11_widest_40 : decode cX11_widest 40 = .ok (.bipush (-2), 2) := by decide +kernel
theorem dX11_widest_42 : decode cX11_widest 42 = .ok (.ireturn, 1) := by decide +kernel
theorem dX11_laysSteps_0 : decode cX11_laysSteps 0 = .ok (.iconst 0, 1) := by decide +kernel
theorem dX11_laysSteps_1 : decode cX11_laysSteps 1 = .ok (.istore_n 3, 1) := by decide +kernel
theorem dX11_laysSteps_2 : decode cX11_laysSteps 2 = .ok (.iload_n 3, 1) := by decide +kernel
theorem dX11_laysSteps_3 : decode cX11_laysSteps 3 = .ok (.bipush 16, 2) := by decide +kernel
theorem dX11_laysSteps_5 : decode cX11_laysSteps 5 = .ok (.if_icmp .ge 22, 3) := by decide +kernel
theorem dX11_laysSteps_8 : decode cX11_laysSteps 8 = .ok (.aload_n 0, 1) := by decide +kernel
theorem dX11_laysSteps_9 : decode cX11_laysSteps 9 = .ok (.getfield 95, 3) := by decide +kernel
theorem dX11_laysSteps_12 : decode cX11_laysSteps 12 = .ok (.bipush 16, 2) := by decide +kernel
theorem dX11_laysSteps_14 : decode cX11_laysSteps 14 = .ok (.iload_n 1, 1) := by decide +kernel
theorem dX11_laysSteps_15 : decode cX11_laysSteps 15 = .ok (.imul, 1) := by decide +kernel
theorem dX11_laysSteps_16 : decode cX11_laysSteps 16 = .ok (.iload_n 3, 1) := by decide +kernel
theorem dX11_laysSteps_17 : decode cX11_laysSteps 17 = .ok (.iadd, 1) := by decide +kernel
theorem dX11_laysSteps_18 : decode cX11_laysSteps 18 = .ok (.bipush (-2), 2) := by decide +kernel
theorem dX11_laysSteps_20 : decode cX11_laysSteps 20 = .ok (.iastore, 1) := by decide +kernel
theorem dX11_laysSteps_21 : decode cX11_laysSteps 21 = .ok (.iinc 3 1, 3) := by decide +kernel
theorem dX11_laysSteps_24 : decode cX11_laysSteps 24 = .ok (.goto (-22), 3) := by decide +kernel
theorem dX11_laysSteps_27 : decode cX11_laysSteps 27 = .ok (.aload_n 0, 1) := by decide +kernel
theorem dX11_laysSteps_28 : decode cX11_laysSteps 28 = .ok (.getfield 95, 3) := by decide +kernel
theorem dX11_laysSteps_31 : decode cX11_laysSteps 31 = .ok (.bipush 16, 2) := by decide +kernel
theorem dX11_laysSteps_33 : decode cX11_laysSteps 33 = .ok (.iload_n 1, 1) := by decide +kernel
theorem dX11_laysSteps_34 : decode cX11_laysSteps 34 = .ok (.imul, 1) := by decide +kernel
theorem dX11_laysSteps_35 : decode cX11_laysSteps 35 = .ok (.iload_n 1, 1) := by decide +kernel
theorem dX11_laysSteps_36 : decode cX11_laysSteps 36 = .ok (.iadd, 1) := by decide +kernel
theorem dX11_laysSteps_37 : decode cX11_laysSteps 37 = .ok (.iconst 0, 1) := by decide +kernel
theorem dX11_laysSteps_38 : decode cX11_laysSteps 38 = .ok (.iastore, 1) := by decide +kernel
theorem dX11_laysSteps_39 : decode cX11_laysSteps 39 = .ok (.aload_n 0, 1) := by decide +kernel
theorem dX11_laysSteps_40 : decode cX11_laysSteps 40 = .ok (.getfield 92, 3) := by decide +kernel
theorem dX11_laysSteps_43 : decode cX11_laysSteps 43 = .ok (.iconst 0, 1) := by decide +kernel
theorem dX11_laysSteps_44 : decode cX11_laysSteps 44 = .ok (.iload_n 1, 1) := by decide +kernel
theorem dX11_laysSteps_45 : decode cX11_laysSteps 45 = .ok (.iastore, 1) := by decide +kernel
theorem dX11_laysSteps_46 : decode cX11_laysSteps 46 = .ok (.aload_n 0, 1) := by decide +kernel
theorem dX11_laysSteps_47 : decode cX11_laysSteps 47 = .ok (.iconst 1, 1) := by decide +kernel
theorem dX11_laysSteps_48 : decode cX11_laysSteps 48 = .ok (.putfield 348, 3) := by decide +kernel
theorem dX11_laysSteps_51 : decode cX11_laysSteps 51 = .ok (.iconst 0, 1) := by decide +kernel
theorem dX11_laysSteps_52 : decode cX11_laysSteps 52 = .ok (.istore_n 3, 1) := by decide +kernel
theorem dX11_laysSteps_53 : decode cX11_laysSteps 53 = .ok (.iload_n 3, 1) := by decide +kernel
theorem dX11_laysSteps_54 : decode cX11_laysSteps 54 = .ok (.aload_n 0, 1) := by decide +kernel
theorem dX11_laysSteps_55 : decode cX11_laysSteps 55 = .ok (.getfield 348, 3) := by decide +kernel
theorem dX11_laysSteps_58 : decode cX11_laysSteps 58 = .ok (.if_icmp .ge 128, 3) := by decide +kernel
theorem dX11_laysSteps_61 : decode cX11_laysSteps 61 = .ok (.iconst 0, 1) := by decide +kernel
theorem dX11_laysSteps_62 : decode cX11_laysSteps 62 = .ok (.istore 4, 2) := by decide +kernel
theorem dX11_laysSteps_64 : decode cX11_laysSteps 64 = .ok (.iload 4, 2) := by decide +kernel
theorem dX11_laysSteps_66 : decode cX11_laysSteps 66 = .ok (.aload_n 0, 1) := by decide +kernel
theorem dX11_laysSteps_67 : decode cX11_laysSteps 67 = .ok (.getfield 145, 3) := by decide +kernel
theorem dX11_laysSteps_70 : decode cX11_laysSteps 70 = .ok (.if_icmp .ge 110, 3) := by decide +kernel
theorem dX11_laysSteps_73 : decode cX11_laysSteps 73 = .ok (.iload 4, 2) := by decide +kernel
theorem dX11_laysSteps_75 : decode cX11_laysSteps 75 = .ok (.iload_n 2, 1) := by decide +kernel
theorem dX11_laysSteps_76 : decode cX11_laysSteps 76 = .ok (.if_icmp .ne 7, 3) := by decide +kernel
theorem dX11_laysSteps_79 : decode cX11_laysSteps 79 = .ok (.iconst (-1), 1) := by decide +kernel
theorem dX11_laysSteps_80 : decode cX11_laysSteps 80 = .ok (.goto 15, 3) := by decide +kernel
theorem dX11_laysSteps_83 : decode cX11_laysSteps 83 = .ok (.aload_n 0, 1) := by decide +kernel
theorem dX11_laysSteps_84 : decode cX11_laysSteps 84 = .ok (.iload 4, 2) := by decide +kernel
theorem dX11_laysSteps_86 : decode cX11_laysSteps 86 = .ok (.aload_n 0, 1) := by decide +kernel
theorem dX11_laysSteps_87 : decode cX11_laysSteps 87 = .ok (.getfield 92, 3) := by decide +kernel
theorem dX11_laysSteps_90 : decode cX11_laysSteps 90 = .ok (.iload_n 3, 1) := by decide +kernel
theorem dX11_laysSteps_91 : decode cX11_laysSteps 91 = .ok (.iaload, 1) := by decide +kernel
theorem dX11_laysSteps_92 : decode cX11_laysSteps 92 = .ok (.invokevirtual 151, 3) := by decide +kernel
theorem dX11_laysSteps_95 : decode cX11_laysSteps 95 = .ok (.istore 5, 2) := by decide +kernel
theorem dX11_laysSteps_97 : decode cX11_laysSteps 97 = .ok (.iload 5, 2) := by decide +kernel
theorem dX11_laysSteps_99 : decode cX11_laysSteps 99 = .ok (.iconst (-1), 1) := by decide +kernel
theorem dX11_laysSteps_100 : decode cX11_laysSteps 100 = .ok (.if_icmp .eq 74, 3) := by decide +kernel
theorem dX11_laysSteps_103 : decode cX11_laysSteps 103 = .ok (.aload_n 0, 1) := by decide +kernel
theorem dX11_laysSteps_104 : decode cX11_laysSteps 104 = .ok (.getfield 95, 3) := by decide +kernel
theorem dX11_laysSteps_107 : decode cX11_laysSteps 107 = .ok (.bipush 16, 2) := by decide +kernel
theorem dX11_laysSteps_109 : decode cX11_laysSteps 109 = .ok (.iload_n 1, 1) := by decide +kernel
theorem dX11_laysSteps_110 : decode cX11_laysSteps 110 = .ok (.imul, 1) := by decide +kernel
theorem dX11_laysSteps_111 : decode cX11_laysSteps 111 = .ok (.iload 5, 2) := by decide +kernel
theorem dX11_laysSteps_113 : decode cX11_laysSteps 113 = .ok (.iadd, 1) := by decide +kernel
theorem dX11_laysSteps_114 : decode cX11_laysSteps 114 = .ok (.iaload, 1) := by decide +kernel
theorem dX11_laysSteps_115 : decode cX11_laysSteps 115 = .ok (.bipush (-2), 2) := by decide +kernel
theorem dX11_laysSteps_117 : decode cX11_laysSteps 117 = .ok (.if_icmp .eq 6, 3) := by decide +kernel
theorem dX11_laysSteps_120 : decode cX11_laysSteps 120 = .ok (.goto 54, 3) := by decide +kernel
theorem dX11_laysSteps_123 : decode cX11_laysSteps 123 = .ok (.aload_n 0, 1) := by decide +kernel
theorem dX11_laysSteps_124 : decode cX11_laysSteps 124 = .ok (.getfield 95, 3) := by decide +kernel
theorem dX11_laysSteps_127 : decode cX11_laysSteps 127 = .ok (.bipush 16, 2) := by decide +kernel
theorem dX11_laysSteps_129 : decode cX11_laysSteps 129 = .ok (.iload_n 1, 1) := by decide +kernel
theorem dX11_laysSteps_130 : decode cX11_laysSteps 130 = .ok (.imul, 1) := by decide +kernel
theorem dX11_laysSteps_131 : decode cX11_laysSteps 131 = .ok (.iload 5, 2) := by decide +kernel
theorem dX11_laysSteps_133 : decode cX11_laysSteps 133 = .ok (.iadd, 1) := by decide +kernel
theorem dX11_laysSteps_134 : decode cX11_laysSteps 134 = .ok (.aload_n 0, 1) := by decide +kernel
theorem dX11_laysSteps_135 : decode cX11_laysSteps 135 = .ok (.getfield 95, 3) := by decide +kernel
theorem dX11_laysSteps_138 : decode cX11_laysSteps 138 = .ok (.bipush 16, 2) := by decide +kernel
theorem dX11_laysSteps_140 : decode cX11_laysSteps 140 = .ok (.iload_n 1, 1) := by decide +kernel
theorem dX11_laysSteps_141 : decode cX11_laysSteps 141 = .ok (.imul, 1) := by decide +kernel
theorem dX11_laysSteps_142 : decode cX11_laysSteps 142 = .ok (.aload_n 0, 1) := by decide +kernel
theorem dX11_laysSteps_143 : decode cX11_laysSteps 143 = .ok (.getfield 92, 3) := by decide +kernel
theorem dX11_laysSteps_146 : decode cX11_laysSteps 146 = .ok (.iload_n 3, 1) := by decide +kernel
theorem dX11_laysSteps_147 : decode cX11_laysSteps 147 = .ok (.iaload, 1) := by decide +kernel
theorem dX11_laysSteps_148 : decode cX11_laysSteps 148 = .ok (.iadd, 1) := by decide +kernel
theorem dX11_laysSteps_149 : decode cX11_laysSteps 149 = .ok (.iaload, 1) := by decide +kernel
theorem dX11_laysSteps_150 : decode cX11_laysSteps 150 = .ok (.iconst 1, 1) := by decide +kernel
theorem dX11_laysSteps_151 : decode cX11_laysSteps 151 = .ok (.iadd, 1) := by decide +kernel
theorem dX11_laysSteps_152 : decode cX11_laysSteps 152 = .ok (.iastore, 1) := by decide +kernel
theorem dX11_laysSteps_153 : decode cX11_laysSteps 153 = .ok (.aload_n 0, 1) := by decide +kernel
theorem dX11_laysSteps_154 : decode cX11_laysSteps 154 = .ok (.getfield 92, 3) := by decide +kernel
theorem dX11_laysSteps_157 : decode cX11_laysSteps 157 = .ok (.aload_n 0, 1) := by decide +kernel
theorem dX11_laysSteps_158 : decode cX11_laysSteps 158 = .ok (.getfield 348, 3) := by decide +kernel
theorem dX11_laysSteps_161 : decode cX11_laysSteps 161 = .ok (.iload 5, 2) := by decide +kernel
theorem dX11_laysSteps_163 : decode cX11_laysSteps 163 = .ok (.iastore, 1) := by decide +kernel
theorem dX11_laysSteps_164 : decode cX11_laysSteps 164 = .ok (.aload_n 0, 1) := by decide +kernel
theorem dX11_laysSteps_165 : decode cX11_laysSteps 165 = .ok (.aload_n 0, 1) := by decide +kernel
theorem dX11_laysSteps_166 : decode cX11_laysSteps 166 = .ok (.getfield 348, 3) := by decide +kernel
theorem dX11_laysSteps_169 : decode cX11_laysSteps 169 = .ok (.iconst 1, 1) := by decide +kernel
theorem dX11_laysSteps_170 : decode cX11_laysSteps 170 = .ok (.iadd, 1) := by decide +kernel
theorem dX11_laysSteps_171 : decode cX11_laysSteps 171 = .ok (.putfield 348, 3) := by decide +kernel
theorem dX11_laysSteps_174 : decode cX11_laysSteps 174 = .ok (.iinc 4 1, 3) := by decide +kernel
theorem dX11_laysSteps_177 : decode cX11_laysSteps 177 = .ok (.goto (-113), 3) := by decide +kernel
theorem dX11_laysSteps_180 : decode cX11_laysSteps 180 = .ok (.iinc 3 1, 3) := by decide +kernel
theorem dX11_laysSteps_183 : decode cX11_laysSteps 183 = .ok (.goto (-130), 3) := by decide +kernel
theorem dX11_laysSteps_186 : decode cX11_laysSteps 186 = .ok (.return_, 1) := by decide +kernel
theorem dX11_far_0 : decode cX11_far 0 = .ok (.aload_n 0, 1) := by decide +kernel
theorem dX11_far_1 : decode cX11_far 1 = .ok (.getfield 95, 3) := by decide +kernel
theorem dX11_far_4 : decode cX11_far 4 = .ok (.bipush 16, 2) := by decide +kernel
theorem dX11_far_6 : decode cX11_far 6 = .ok (.iload_n 1, 1) := by decide +kernel
theorem dX11_far_7 : decode cX11_far 7 = .ok (.imul, 1) := by decide +kernel
theorem dX11_far_8 : decode cX11_far 8 = .ok (.iload_n 2, 1) := by decide +kernel
theorem dX11_far_9 : decode cX11_far 9 = .ok (.iadd, 1) := by decide +kernel
theorem dX11_far_10 : decode cX11_far 10 = .ok (.iaload, 1) := by decide +kernel
theorem dX11_far_11 : decode cX11_far 11 = .ok (.ireturn, 1) := by decide +kernel
theorem dX11_laysAllSteps_0 : decode cX11_laysAllSteps 0 = .ok (.iconst 0, 1) := by decide +kernel
theorem dX11_laysAllSteps_1 : decode cX11_laysAllSteps 1 = .ok (.istore_n 1, 1) := by decide +kernel
theorem dX11_laysAllSteps_2 : decode cX11_laysAllSteps 2 = .ok (.iload_n 1, 1) := by decide +kernel
theorem dX11_laysAllSteps_3 : decode cX11_laysAllSteps 3 = .ok (.bipush 16, 2) := by decide +kernel
theorem dX11_laysAllSteps_5 : decode cX11_laysAllSteps 5 = .ok (.if_icmp .ge 23, 3) := by decide +kernel
theorem dX11_laysAllSteps_8 : decode cX11_laysAllSteps 8 = .ok (.aload_n 0, 1) := by decide +kernel
theorem dX11_laysAllSteps_9 : decode cX11_laysAllSteps 9 = .ok (.iload_n 1, 1) := by decide +kernel
theorem dX11_laysAllSteps_10 : decode cX11_laysAllSteps 10 = .ok (.invokevirtual 141, 3) := by decide +kernel
theorem dX11_laysAllSteps_13 : decode cX11_laysAllSteps 13 = .ok (.ifCond .eq 9, 3) := by decide +kernel
theorem dX11_laysAllSteps_16 : decode cX11_laysAllSteps 16 = .ok (.aload_n 0, 1) := by decide +kernel
theorem dX11_laysAllSteps_17 : decode cX11_laysAllSteps 17 = .ok (.iload_n 1, 1) := by decide +kernel
theorem dX11_laysAllSteps_18 : decode cX11_laysAllSteps 18 = .ok (.iconst (-1), 1) := by decide +kernel
theorem dX11_laysAllSteps_19 : decode cX11_laysAllSteps 19 = .ok (.invokevirtual 375, 3) := by decide +kernel
theorem dX11_laysAllSteps_22 : decode cX11_laysAllSteps 22 = .ok (.iinc 1 1, 3) := by decide +kernel
theorem dX11_laysAllSteps_25 : decode cX11_laysAllSteps 25 = .ok (.goto (-23), 3) := by decide +kernel
theorem dX11_laysAllSteps_28 : decode cX11_laysAllSteps 28 = .ok (.return_, 1) := by decide +kernel
theorem dX11_steps_0 : decode cX11_steps 0 = .ok (.aload_n 0, 1) := by decide +kernel
theorem dX11_steps_1 : decode cX11_steps 1 = .ok (.iload_n 1, 1) := by decide +kernel
theorem dX11_steps_2 : decode cX11_steps 2 = .ok (.invokevirtual 141, 3) := by decide +kernel
theorem dX11_steps_5 : decode cX11_steps 5 = .ok (.ifCond .eq 11, 3) := by decide +kernel
theorem dX11_steps_8 : decode cX11_steps 8 = .ok (.aload_n 0, 1) := by decide +kernel
theorem dX11_steps_9 : decode cX11_steps 9 = .ok (.iload_n 2, 1) := by decide +kernel
theorem dX11_steps_10 : decode cX11_steps 10 = .ok (.invokevirtual 141, 3) := by decide +kernel
theorem dX11_steps_13 : decode cX11_steps 13 = .ok (.ifCond .ne 5, 3) := by decide +kernel
theorem dX11_steps_16 : decode cX11_steps 16 = .ok (.iconst (-1), 1) := by decide +kernel
theorem dX11_steps_17 : decode cX11_steps 17 = .ok (.ireturn, 1) := by decide +kernel
theorem dX11_steps_18 : decode cX11_steps 18 = .ok (.aload_n 0, 1) := by decide +kernel
theorem dX11_steps_19 : decode cX11_steps 19 = .ok (.iload_n 1, 1) := by decide +kernel
theorem dX11_steps_20 : decode cX11_steps 20 = .ok (.iconst (-1), 1) := by decide +kernel
theorem dX11_steps_21 : decode cX11_steps 21 = .ok (.invokevirtual 375, 3) := by decide +kernel
theorem dX11_steps_24 : decode cX11_steps 24 = .ok (.aload_n 0, 1) := by decide +kernel
theorem dX11_steps_25 : decode cX11_steps 25 = .ok (.iload_n 1, 1) := by decide +kernel
theorem dX11_steps_26 : decode cX11_steps 26 = .ok (.iload_n 2, 1) := by decide +kernel
theorem dX11_steps_27 : decode cX11_steps 27 = .ok (.invokevirtual 378, 3) := by decide +kernel
theorem dX11_steps_30 : decode cX11_steps 30 = .ok (.ireturn, 1) := by decide +kernel
theorem dX11_bridges_0 : decode cX11_bridges 0 = .ok (.iload_n 1, 1) := by decide +kernel
theorem dX11_bridges_1 : decode cX11_bridges 1 = .ok (.iconst 0, 1) := by decide +kernel
theorem dX11_bridges_2 : decode cX11_bridges 2 = .ok (.iconst 1, 1) := by decide +kernel
theorem dX11_bridges_3 : decode cX11_bridges 3 = .ok (.invokestatic 129, 3) := by decide +kernel
theorem dX11_bridges_6 : decode cX11_bridges 6 = .ok (.ifCond .ne 5, 3) := by decide +kernel
theorem dX11_bridges_9 : decode cX11_bridges 9 = .ok (.iconst (-1), 1) := by decide +kernel
theorem dX11_bridges_10 : decode cX11_bridges 10 = .ok (.ireturn, 1) := by decide +kernel
theorem dX11_bridges_11 : decode cX11_bridges 11 = .ok (.iconst 0, 1) := by decide +kernel
theorem dX11_bridges_12 : decode cX11_bridges 12 = .ok (.istore_n 2, 1) := by decide +kernel
theorem dX11_bridges_13 : decode cX11_bridges 13 = .ok (.bipush (-2), 2) := by decide +kernel
theorem dX11_bridges_15 : decode cX11_bridges 15 = .ok (.istore_n 3, 1) := by decide +kernel
theorem dX11_bridges_16 : decode cX11_bridges 16 = .ok (.aload_n 0, 1) := by decide +kernel
theorem dX11_bridges_17 : decode cX11_bridges 17 = .ok (.getfield 145, 3) := by decide +kernel
theorem dX11_bridges_20 : decode cX11_bridges 20 = .ok (.iconst 1, 1) := by decide +kernel
theorem dX11_bridges_21 : decode cX11_bridges 21 = .ok (.isub, 1) := by decide +kernel
theorem dX11_bridges_22 : decode cX11_bridges 22 = .ok (.istore 4, 2) := by decide +kernel
theorem dX11_bridges_24 : decode cX11_bridges 24 = .ok (.iload 4, 2) := by decide +kernel
theorem dX11_bridges_26 : decode cX11_bridges 26 = .ok (.ifCond .lt 55, 3) := by decide +kernel
theorem dX11_bridges_29 : decode cX11_bridges 29 = .ok (.aload_n 0, 1) := by decide +kernel
theorem dX11_bridges_30 : decode cX11_bridges 30 = .ok (.iload 4, 2) := by decide +kernel
theorem dX11_bridges_32 : decode cX11_bridges 32 = .ok (.invokevirtual 148, 3) := by decide +kernel
theorem dX11_bridges_35 : decode cX11_bridges 35 = .ok (.ifCond .eq 40, 3) := by decide +kernel
theorem dX11_bridges_38 : decode cX11_bridges 38 = .ok (.aload_n 0, 1) := by decide +kernel
theorem dX11_bridges_39 : decode cX11_bridges 39 = .ok (.aload_n 0, 1) := by decide +kernel
theorem dX11_bridges_40 : decode cX11_bridges 40 = .ok (.getfield 22, 3) := by decide +kernel
theorem dX11_bridges_43 : decode cX11_bridges 43 = .ok (.iload 4, 2) := by decide +kernel
theorem dX11_bridges_45 : decode cX11_bridges 45 = .ok (.iaload, 1) := by decide +kernel
theorem dX11_bridges_46 : decode cX11_bridges 46 = .ok (.iconst 1, 1) := by decide +kernel
theorem dX11_bridges_47 : decode cX11_bridges 47 = .ok (.iload 4, 2) := by decide +kernel
theorem dX11_bridges_49 : decode cX11_bridges 49 = .ok (.invokevirtual 372, 3) := by decide +kernel
theorem dX11_bridges_52 : decode cX11_bridges 52 = .ok (.aload_n 0, 1) := by decide +kernel
theorem dX11_bridges_53 : decode cX11_bridges 53 = .ok (.getfield 25, 3) := by decide +kernel
theorem dX11_bridges_56 : decode cX11_bridges 56 = .ok (.iload 4, 2) := by decide +kernel
theorem dX11_bridges_58 : decode cX11_bridges 58 = .ok (.iaload, 1) := by decide +kernel
theorem dX11_bridges_59 : decode cX11_bridges 59 = .ok (.invokestatic 137, 3) := by decide +kernel
theorem dX11_bridges_62 : decode cX11_bridges 62 = .ok (.ifCond .eq 6, 3) := by decide +kernel
theorem dX11_bridges_65 : decode cX11_bridges 65 = .ok (.goto 10, 3) := by decide +kernel
theorem dX11_bridges_68 : decode cX11_bridges 68 = .ok (.iload_n 2, 1) := by decide +kernel
theorem dX11_bridges_69 : decode cX11_bridges 69 = .ok (.iconst 1, 1) := by decide +kernel
theorem dX11_bridges_70 : decode cX11_bridges 70 = .ok (.iadd, 1) := by decide +kernel
theorem dX11_bridges_71 : decode cX11_bridges 71 = .ok (.istore_n 2, 1) := by decide +kernel
theorem dX11_bridges_72 : decode cX11_bridges 72 = .ok (.iload 4, 2) := by decide +kernel
theorem dX11_bridges_74 : decode cX11_bridges 74 = .ok (.istore_n 3, 1) := by decide +kernel
theorem dX11_bridges_75 : decode cX11_bridges 75 = .ok (.iinc 4 (-1), 3) := by decide +kernel
theorem dX11_bridges_78 : decode cX11_bridges 78 = .ok (.goto (-54), 3) := by decide +kernel
theorem dX11_bridges_81 : decode cX11_bridges 81 = .ok (.iload_n 1, 1) := by decide +kernel
theorem dX11_bridges_82 : decode cX11_bridges 82 = .ok (.ifCond .ne 7, 3) := by decide +kernel
theorem dX11_bridges_85 : decode cX11_bridges 85 = .ok (.iload_n 2, 1) := by decide +kernel
theorem dX11_bridges_86 : decode cX11_bridges 86 = .ok (.goto 4, 3) := by decide +kernel
theorem dX11_bridges_89 : decode cX11_bridges 89 = .ok (.iload_n 3, 1) := by decide +kernel
theorem dX11_bridges_90 : decode cX11_bridges 90 = .ok (.ireturn, 1) := by decide +kernel
theorem dX11_groups_0 : decode cX11_groups 0 = .ok (.iconst 0, 1) := by decide +kernel
theorem dX11_groups_1 : decode cX11_groups 1 = .ok (.istore_n 1, 1) := by decide +kernel
theorem dX11_groups_2 : decode cX11_groups 2 = .ok (.iconst 0, 1) := by decide +kernel
theorem dX11_groups_3 : decode cX11_groups 3 = .ok (.istore_n 2, 1) := by decide +kernel
theorem dX11_groups_4 : decode cX11_groups 4 = .ok (.iconst 0, 1) := by decide +kernel
theorem dX11_groups_5 : decode cX11_groups 5 = .ok (.istore_n 3, 1) := by decide +kernel
theorem dX11_groups_6 : decode cX11_groups 6 = .ok (.iload_n 3, 1) := by decide +kernel
theorem dX11_groups_7 : decode cX11_groups 7 = .ok (.bipush 16, 2) := by decide +kernel
theorem dX11_groups_9 : decode cX11_groups 9 = .ok (.if_icmp .ge 42, 3) := by decide +kernel
theorem dX11_groups_12 : decode cX11_groups 12 = .ok (.aload_n 0, 1) := by decide +kernel
theorem dX11_groups_13 : decode cX11_groups 13 = .ok (.iload_n 3, 1) := by decide +kernel
theorem dX11_groups_14 : decode cX11_groups 14 = .ok (.invokevirtual 141, 3) := by decide +kernel
theorem dX11_groups_17 : decode cX11_groups 17 = .ok (.ifCond .eq 28, 3) := by decide +kernel
theorem dX11_groups_20 : decode cX11_groups 20 = .ok (.iload_n 2, 1) := by decide +kernel
theorem dX11_groups_21 : decode cX11_groups 21 = .ok (.iload_n 3, 1) := by decide +kernel
theorem dX11_groups_22 : decode cX11_groups 22 = .ok (.invokestatic 137, 3) := by decide +kernel
theorem dX11_groups_25 : decode cX11_groups 25 = .ok (.ifCond .eq 6, 3) := by decide +kernel
theorem dX11_groups_28 : decode cX11_groups 28 = .ok (.goto 17, 3) := by decide +kernel
theorem dX11_groups_31 : decode cX11_groups 31 = .ok (.iload_n 2, 1) := by decide +kernel
theorem dX11_groups_32 : decode cX11_groups 32 = .ok (.aload_n 0, 1) := by decide +kernel
theorem dX11_groups_33 : decode cX11_groups 33 = .ok (.iload_n 3, 1) := by decide +kernel
theorem dX11_groups_34 : decode cX11_groups 34 = .ok (.iconst 1, 1) := by decide +kernel
theorem dX11_groups_35 : decode cX11_groups 35 = .ok (.iconst (-1), 1) := by decide +kernel
theorem dX11_groups_36 : decode cX11_groups 36 = .ok (.invokevirtual 372, 3) := by decide +kernel
theorem dX11_groups_39 : decode cX11_groups 39 = .ok (.ior, 1) := by decide +kernel
theorem dX11_groups_40 : decode cX11_groups 40 = .ok (.istore_n 2, 1) := by decide +kernel
theorem dX11_groups_41 : decode cX11_groups 41 = .ok (.iload_n 1, 1) := by decide +kernel
theorem dX11_groups_42 : decode cX11_groups 42 = .ok (.iconst 1, 1) := by decide +kernel
theorem dX11_groups_43 : decode cX11_groups 43 = .ok (.iadd, 1) := by decide +kernel
theorem dX11_groups_44 : decode cX11_groups 44 = .ok (.istore_n 1, 1) := by decide +kernel
theorem dX11_groups_45 : decode cX11_groups 45 = .ok (.iinc 3 1, 3) := by decide +kernel
theorem dX11_groups_48 : decode cX11_groups 48 = .ok (.goto (-42), 3) := by decide +kernel
theorem dX11_groups_51 : decode cX11_groups 51 = .ok (.iload_n 1, 1) := by decide +kernel
theorem dX11_groups_52 : decode cX11_groups 52 = .ok (.ireturn, 1) := by decide +kernel
theorem dX11_worstOf_0 : decode cX11_worstOf 0 = .ok (.iconst 0, 1) := by decide +kernel
theorem dX11_worstOf_1 : decode cX11_worstOf 1 = .ok (.istore_n 2, 1) := by decide +kernel
theorem dX11_worstOf_2 : decode cX11_worstOf 2 = .ok (.iconst 0, 1) := by decide +kernel
theorem dX11_worstOf_3 : decode cX11_worstOf 3 = .ok (.istore_n 3, 1) := by decide +kernel
theorem dX11_worstOf_4 : decode cX11_worstOf 4 = .ok (.iload_n 3, 1) := by decide +kernel
theorem dX11_worstOf_5 : decode cX11_worstOf 5 = .ok (.bipush 16, 2) := by decide +kernel
theorem dX11_worstOf_7 : decode cX11_worstOf 7 = .ok (.if_icmp .ge 83, 3) := by decide +kernel
theorem dX11_worstOf_10 : decode cX11_worstOf 10 = .ok (.aload_n 0, 1) := by decide +kernel
theorem dX11_worstOf_11 : decode cX11_worstOf 11 = .ok (.iload_n 3, 1) := by decide +kernel
theorem dX11_worstOf_12 : decode cX11_worstOf 12 = .ok (.invokevirtual 141, 3) := by decide +kernel
theorem dX11_worstOf_15 : decode cX11_worstOf 15 = .ok (.ifCond .ne 6, 3) := by decide +kernel
theorem dX11_worstOf_18 : decode cX11_worstOf 18 = .ok (.goto 66, 3) := by decide +kernel
theorem dX11_worstOf_21 : decode cX11_worstOf 21 = .ok (.ldc_w 355, 3) := by decide +kernel
theorem dX11_worstOf_24 : decode cX11_worstOf 24 = .ok (.istore 4, 2) := by decide +kernel
theorem dX11_worstOf_26 : decode cX11_worstOf 26 = .ok (.iconst 0, 1) := by decide +kernel
theorem dX11_worstOf_27 : decode cX11_worstOf 27 = .ok (.istore 5, 2) := by decide +kernel
theorem dX11_worstOf_29 : decode cX11_worstOf 29 = .ok (.iload 5, 2) := by decide +kernel
theorem dX11_worstOf_31 : decode cX11_worstOf 31 = .ok (.bipush 16, 2) := by decide +kernel
theorem dX11_worstOf_33 : decode cX11_worstOf 33 = .ok (.if_icmp .ge 44, 3) := by decide +kernel
theorem dX11_worstOf_36 : decode cX11_worstOf 36 = .ok (.iload_n 1, 1) := by decide +kernel
theorem dX11_worstOf_37 : decode cX11_worstOf 37 = .ok (.iload 5, 2) := by decide +kernel
theorem dX11_worstOf_39 : decode cX11_worstOf 39 = .ok (.invokestatic 137, 3) := by decide +kernel
theorem dX11_worstOf_42 : decode cX11_worstOf 42 = .ok (.ifCond .eq 29, 3) := by decide +kernel
theorem dX11_worstOf_45 : decode cX11_worstOf 45 = .ok (.aload_n 0, 1) := by decide +kernel
theorem dX11_worstOf_46 : decode cX11_worstOf 46 = .ok (.iload 5, 2) := by decide +kernel
theorem dX11_worstOf_48 : decode cX11_worstOf 48 = .ok (.iload_n 3, 1) := by decide +kernel
theorem dX11_worstOf_49 : decode cX11_worstOf 49 = .ok (.invokevirtual 378, 3) := by decide +kernel
theorem dX11_worstOf_52 : decode cX11_worstOf 52 = .ok (.bipush (-2), 2) := by decide +kernel
theorem dX11_worstOf_54 : decode cX11_worstOf 54 = .ok (.if_icmp .eq 17, 3) := by decide +kernel
theorem dX11_worstOf_57 : decode cX11_worstOf 57 = .ok (.iload 4, 2) := by decide +kernel
theorem dX11_worstOf_59 : decode cX11_worstOf 59 = .ok (.aload_n 0, 1) := by decide +kernel
theorem dX11_worstOf_60 : decode cX11_worstOf 60 = .ok (.iload 5, 2) := by decide +kernel
theorem dX11_worstOf_62 : decode cX11_worstOf 62 = .ok (.iload_n 3, 1) := by decide +kernel
theorem dX11_worstOf_63 : decode cX11_worstOf 63 = .ok (.invokevirtual 378, 3) := by decide +kernel
theorem dX11_worstOf_66 : decode cX11_worstOf 66 = .ok (.invokestatic 286, 3) := by decide +kernel
theorem dX11_worstOf_69 : decode cX11_worstOf 69 = .ok (.istore 4, 2) := by decide +kernel
theorem dX11_worstOf_71 : decode cX11_worstOf 71 = .ok (.iinc 5 1, 3) := by decide +kernel
theorem dX11_worstOf_74 : decode cX11_worstOf 74 = .ok (.goto (-45), 3) := by decide +kernel
theorem dX11_worstOf_77 : decode cX11_worstOf 77 = .ok (.iload_n 2, 1) := by decide +kernel
theorem dX11_worstOf_78 : decode cX11_worstOf 78 = .ok (.iload 4, 2) := by decide +kernel
theorem dX11_worstOf_80 : decode cX11_worstOf 80 = .ok (.invokestatic 289, 3) := by decide +kernel
theorem dX11_worstOf_83 : decode cX11_worstOf 83 = .ok (.istore_n 2, 1) := by decide +kernel
theorem dX11_worstOf_84 : decode cX11_worstOf 84 = .ok (.iinc 3 1, 3) := by decide +kernel
theorem dX11_worstOf_87 : decode cX11_worstOf 87 = .ok (.goto (-83), 3) := by decide +kernel
theorem dX11_worstOf_90 : decode cX11_worstOf 90 = .ok (.iload_n 2, 1) := by decide +kernel
theorem dX11_worstOf_91 : decode cX11_worstOf 91 = .ok (.ireturn, 1) := by decide +kernel
theorem dX11_brigades_0 : decode cX11_brigades 0 = .ok (.iload_n 1, 1) := by decide +kernel
theorem dX11_brigades_1 : decode cX11_brigades 1 = .ok (.iconst 1, 1) := by decide +kernel
theorem dX11_brigades_2 : decode cX11_brigades 2 = .ok (.iconst 5, 1) := by decide +kernel
theorem dX11_brigades_3 : decode cX11_brigades 3 = .ok (.invokestatic 129, 3) := by decide +kernel
theorem dX11_brigades_6 : decode cX11_brigades 6 = .ok (.ifCond .eq 12, 3) := by decide +kernel
theorem dX11_brigades_9 : decode cX11_brigades 9 = .ok (.iload_n 2, 1) := by decide +kernel
theorem dX11_brigades_10 : decode cX11_brigades 10 = .ok (.iconst 0, 1) := by decide +kernel
theorem dX11_brigades_11 : decode cX11_brigades 11 = .ok (.iconst 1, 1) := by decide +kernel
theorem dX11_brigades_12 : decode cX11_brigades 12 = .ok (.invokestatic 129, 3) := by decide +kernel
theorem dX11_brigades_15 : decode cX11_brigades 15 = .ok (.ifCond .ne 5, 3) := by decide +kernel
theorem dX11_brigades_18 : decode cX11_brigades 18 = .ok (.iconst (-1), 1) := by decide +kernel
theorem dX11_brigades_19 : decode cX11_brigades 19 = .ok (.ireturn, 1) := by decide +kernel
theorem dX11_brigades_20 : decode cX11_brigades 20 = .ok (.aload_n 0, 1) := by decide +kernel
theorem dX11_brigades_21 : decode cX11_brigades 21 = .ok (.invokevirtual 381, 3) := by decide +kernel
theorem dX11_brigades_24 : decode cX11_brigades 24 = .ok (.bipush (-2), 2) := by decide +kernel
theorem dX11_brigades_26 : decode cX11_brigades 26 = .ok (.istore_n 3, 1) := by decide +kernel
theorem dX11_brigades_27 : decode cX11_brigades 27 = .ok (.ldc_w 355, 3) := by decide +kernel
theorem dX11_brigades_30 : decode cX11_brigades 30 = .ok (.istore 4, 2) := by decide +kernel
theorem dX11_brigades_32 : decode cX11_brigades 32 = .ok (.iconst 1, 1) := by decide +kernel
theorem dX11_brigades_33 : decode cX11_brigades 33 = .ok (.istore 5, 2) := by decide +kernel
theorem dX11_brigades_35 : decode cX11_brigades 35 = .ok (.iload 5, 2) := by decide +kernel
theorem dX11_brigades_37 : decode cX11_brigades 37 = .ok (.ldc 101, 2) := by decide +kernel
theorem dX11_brigades_39 : decode cX11_brigades 39 = .ok (.if_icmp .ge 58, 3) := by decide +kernel
theorem dX11_brigades_42 : decode cX11_brigades 42 = .ok (.iload 5, 2) := by decide +kernel
theorem dX11_brigades_44 : decode cX11_brigades 44 = .ok (.aload_n 0, 1) := by decide +kernel
theorem dX11_brigades_45 : decode cX11_brigades 45 = .ok (.getfield 133, 3) := by decide +kernel
theorem dX11_brigades_48 : decode cX11_brigades 48 = .ok (.iconst (-1), 1) := by decide +kernel
theorem dX11_brigades_49 : decode cX11_brigades 49 = .ok (.ixor, 1) := by decide +kernel
theorem dX11_brigades_50 : decode cX11_brigades 50 = .ok (.iand, 1) := by decide +kernel
theorem dX11_brigades_51 : decode cX11_brigades 51 = .ok (.ifCond .ne 40, 3) := by decide +kernel
theorem dX11_brigades_54 : decode cX11_brigades 54 = .ok (.iload 5, 2) := by decide +kernel
theorem dX11_brigades_56 : decode cX11_brigades 56 = .ok (.invokestatic 384, 3) := by decide +kernel
theorem dX11_brigades_59 : decode cX11_brigades 59 = .ok (.iload_n 1, 1) := by decide +kernel
theorem dX11_brigades_60 : decode cX11_brigades 60 = .ok (.if_icmp .eq 6, 3) := by decide +kernel
theorem dX11_brigades_63 : decode cX11_brigades 63 = .ok (.goto 28, 3) := by decide +kernel
theorem dX11_brigades_66 : decode cX11_brigades 66 = .ok (.aload_n 0, 1) := by decide +kernel
theorem dX11_brigades_67 : decode cX11_brigades 67 = .ok (.iload 5, 2) := by decide +kernel
theorem dX11_brigades_69 : decode cX11_brigades 69 = .ok (.invokevirtual 387, 3) := by decide +kernel
theorem dX11_brigades_72 : decode cX11_brigades 72 = .ok (.istore 6, 2) := by decide +kernel
theorem dX11_brigades_74 : decode cX11_brigades 74 = .ok (.iload 6, 2) := by decide +kernel
theorem dX11_brigades_76 : decode cX11_brigades 76 = .ok (.iload 4, 2) := by decide +kernel
theorem dX11_brigades_78 : decode cX11_brigades 78 = .ok (.if_icmp .lt 6, 3) := by decide +kernel
theorem dX11_brigades_81 : decode cX11_brigades 81 = .ok (.goto 10, 3) := by decide +kernel
theorem dX11_brigades_84 : decode cX11_brigades 84 = .ok (.iload 6, 2) := by decide +kernel
theorem dX11_brigades_86 : decode cX11_brigades 86 = .ok (.istore 4, 2) := by decide +kernel
theorem dX11_brigades_88 : decode cX11_brigades 88 = .ok (.iload 5, 2) := by decide +kernel
theorem dX11_brigades_90 : decode cX11_brigades 90 = .ok (.istore_n 3, 1) := by decide +kernel
theorem dX11_brigades_91 : decode cX11_brigades 91 = .ok (.iinc 5 1, 3) := by decide +kernel
theorem dX11_brigades_94 : decode cX11_brigades 94 = .ok (.goto (-59), 3) := by decide +kernel
theorem dX11_brigades_97 : decode cX11_brigades 97 = .ok (.iload_n 2, 1) := by decide +kernel
theorem dX11_brigades_98 : decode cX11_brigades 98 = .ok (.iconst 1, 1) := by decide +kernel
theorem dX11_brigades_99 : decode cX11_brigades 99 = .ok (.if_icmp .eq 9, 3) := by decide +kernel
theorem dX11_brigades_102 : decode cX11_brigades 102 = .ok (.iload_n 3, 1) := by decide +kernel
theorem dX11_brigades_103 : decode cX11_brigades 103 = .ok (.bipush (-2), 2) := by decide +kernel
theorem dX11_brigades_105 : decode cX11_brigades 105 = .ok (.if_icmp .ne 7, 3) := by decide +kernel
theorem dX11_brigades_108 : decode cX11_brigades 108 = .ok (.iload_n 3, 1) := by decide +kernel
theorem dX11_brigades_109 : decode cX11_brigades 109 = .ok (.goto 5, 3) := by decide +kernel
theorem dX11_brigades_112 : decode cX11_brigades 112 = .ok (.iload 4, 2) := by decide +kernel
theorem dX11_brigades_114 : decode cX11_brigades 114 = .ok (.ireturn, 1) := by decide +kernel
theorem dX11_painting_0 : decode cX11_painting 0 = .ok (.iconst 1, 1) := by decide +kernel
theorem dX11_painting_1 : decode cX11_painting 1 = .ok (.aload_n 0, 1) := by decide +kernel
theorem dX11_painting_2 : decode cX11_painting 2 = .ok (.getfield 390, 3) := by decide +kernel
theorem dX11_painting_5 : decode cX11_painting 5 = .ok (.ishl, 1) := by decide +kernel
theorem dX11_painting_6 : decode cX11_painting 6 = .ok (.iconst 1, 1) := by decide +kernel
theorem dX11_painting_7 : decode cX11_painting 7 = .ok (.isub, 1) := by decide +kernel
theorem dX11_painting_8 : decode cX11_painting 8 = .ok (.istore_n 1, 1) := by decide +kernel
theorem dX11_painting_9 : decode cX11_painting 9 = .ok (.aload_n 0, 1) := by decide +kernel
theorem dX11_painting_10 : decode cX11_painting 10 = .ok (.getfield 102, 3) := by decide +kernel
theorem dX11_painting_13 : decode cX11_painting 13 = .ok (.iconst 0, 1) := by decide +kernel
theorem dX11_painting_14 : decode cX11_painting 14 = .ok (.iconst 0, 1) := by decide +kernel
theorem dX11_painting_15 : decode cX11_painting 15 = .ok (.iastore, 1) := by decide +kernel
theorem dX11_painting_16 : decode cX11_painting 16 = .ok (.iconst 1, 1) := by decide +kernel
theorem dX11_painting_17 : decode cX11_painting 17 = .ok (.istore_n 2, 1) := by decide +kernel
theorem dX11_painting_18 : decode cX11_painting 18 = .ok (.iload_n 2, 1) := by decide +kernel
theorem dX11_painting_19 : decode cX11_painting 19 = .ok (.iload_n 1, 1) := by decide +kernel
theorem dX11_painting_20 : decode cX11_painting 20 = .ok (.if_icmp .gt 114, 3) := by decide +kernel
theorem dX11_painting_23 : decode cX11_painting 23 = .ok (.aload_n 0, 1) := by decide +kernel
theorem dX11_painting_24 : decode cX11_painting 24 = .ok (.getfield 102, 3) := by decide +kernel
theorem dX11_painting_27 : decode cX11_painting 27 = .ok (.iload_n 2, 1) := by decide +kernel
theorem dX11_painting_28 : decode cX11_painting 28 = .ok (.ldc_w 355, 3) := by decide +kernel
theorem dX11_painting_31 : decode cX11_painting 31 = .ok (.iastore, 1) := by decide +kernel
theorem dX11_painting_32 : decode cX11_painting 32 = .ok (.iconst 0, 1) := by decide +kernel
theorem dX11_painting_33 : decode cX11_painting 33 = .ok (.istore_n 3, 1) := by decide +kernel
theorem dX11_painting_34 : decode cX11_painting 34 = .ok (.iload_n 2, 1) := by decide +kernel
theorem dX11_painting_35 : decode cX11_painting 35 = .ok (.iload_n 3, 1) := by decide +kernel
theorem dX11_painting_36 : decode cX11_painting 36 = .ok (.invokestatic 137, 3) := by decide +kernel
theorem dX11_painting_39 : decode cX11_painting 39 = .ok (.ifCond .ne 10, 3) := by decide +kernel
theorem dX11_painting_42 : decode cX11_painting 42 = .ok (.iload_n 3, 1) := by decide +kernel
theorem dX11_painting_43 : decode cX11_painting 43 = .ok (.iconst 1, 1) := by decide +kernel
theorem dX11_painting_44 : decode cX11_painting 44 = .ok (.iadd, 1) := by decide +kernel
theorem dX11_painting_45 : decode cX11_painting 45 = .ok (.istore_n 3, 1) := by decide +kernel
theorem dX11_painting_46 : decode cX11_painting 46 = .ok (.goto (-12), 3) := by decide +kernel
theorem dX11_painting_49 : decode cX11_painting 49 = .ok (.iload_n 3, 1) := by decide +kernel
theorem dX11_painting_50 : decode cX11_painting 50 = .ok (.iconst 1, 1) := by decide +kernel
theorem dX11_painting_51 : decode cX11_painting 51 = .ok (.iadd, 1) := by decide +kernel
theorem dX11_painting_52 : decode cX11_painting 52 = .ok (.istore 4, 2) := by decide +kernel
theorem dX11_painting_54 : decode cX11_painting 54 = .ok (.iload 4, 2) := by decide +kernel
theorem dX11_painting_56 : decode cX11_painting 56 = .ok (.aload_n 0, 1) := by decide +kernel
theorem dX11_painting_57 : decode cX11_painting 57 = .ok (.getfield 390, 3) := by decide +kernel
theorem dX11_painting_60 : decode cX11_painting 60 = .ok (.if_icmp .ge 68, 3) := by decide +kernel
theorem dX11_painting_63 : decode cX11_painting 63 = .ok (.iload_n 2, 1) := by decide +kernel
theorem dX11_painting_64 : decode cX11_painting 64 = .ok (.iload 4, 2) := by decide +kernel
theorem dX11_painting_66 : decode cX11_painting 66 = .ok (.invokestatic 137, 3) := by decide +kernel
theorem dX11_painting_69 : decode cX11_painting 69 = .ok (.ifCond .eq 53, 3) := by decide +kernel
theorem dX11_painting_72 : decode cX11_painting 72 = .ok (.aload_n 0, 1) := by decide +kernel
theorem dX11_painting_73 : decode cX11_painting 73 = .ok (.getfield 102, 3) := by decide +kernel
theorem dX11_painting_76 : decode cX11_painting 76 = .ok (.iload_n 2, 1) := by decide +kernel
theorem dX11_painting_77 : decode cX11_painting 77 = .ok (.aload_n 0, 1) := by decide +kernel
theorem dX11_painting_78 : decode cX11_painting 78 = .ok (.getfield 102, 3) := by decide +kernel
theorem dX11_painting_81 : decode cX11_painting 81 = .ok (.iload_n 2, 1) := by decide +kernel
theorem dX11_painting_82 : decode cX11_painting 82 = .ok (.iaload, 1) := by decide +kernel
theorem dX11_painting_83 : decode cX11_painting 83 = .ok (.aload_n 0, 1) := by decide +kernel
theorem dX11_painting_84 : decode cX11_painting 84 = .ok (.getfield 102, 3) := by decide +kernel
theorem dX11_painting_87 : decode cX11_painting 87 = .ok (.iload_n 2, 1) := by decide +kernel
theorem dX11_painting_88 : decode cX11_painting 88 = .ok (.iconst 1, 1) := by decide +kernel
theorem dX11_painting_89 : decode cX11_painting 89 = .ok (.iload_n 3, 1) := by decide +kernel
theorem dX11_painting_90 : decode cX11_painting 90 = .ok (.ishl, 1) := by decide +kernel
theorem dX11_painting_91 : decode cX11_painting 91 = .ok (.iconst 1, 1) := by decide +kernel
theorem dX11_painting_92 : decode cX11_painting 92 = .ok (.iload 4, 2) := by decide +kernel
theorem dX11_painting_94 : decode cX11_painting 94 = .ok (.ishl, 1) := by decide +kernel
theorem dX11_painting_95 : decode cX11_painting 95 = .ok (.ior, 1) := by decide +kernel
theorem dX11_painting_96 : decode cX11_painting 96 = .ok (.iconst (-1), 1) := by decide +kernel
theorem dX11_painting_97 : decode cX11_painting 97 = .ok (.ixor, 1) := by decide +kernel
theorem dX11_painting_98 : decode cX11_painting 98 = .ok (.iand, 1) := by decide +kernel
theorem dX11_painting_99 : decode cX11_painting 99 = .ok (.iaload, 1) := by decide +kernel
theorem dX11_painting_100 : decode cX11_painting 100 = .ok (.aload_n 0, 1) := by decide +kernel
theorem dX11_painting_101 : decode cX11_painting 101 = .ok (.aload_n 0, 1) := by decide +kernel
theorem dX11_painting_102 : decode cX11_painting 102 = .ok (.getfield 98, 3) := by decide +kernel
theorem dX11_painting_105 : decode cX11_painting 105 = .ok (.iload_n 3, 1) := by decide +kernel
theorem dX11_painting_106 : decode cX11_painting 106 = .ok (.iaload, 1) := by decide +kernel
theorem dX11_painting_107 : decode cX11_painting 107 = .ok (.aload_n 0, 1) := by decide +kernel
theorem dX11_painting_108 : decode cX11_painting 108 = .ok (.getfield 98, 3) := by decide +kernel
theorem dX11_painting_111 : decode cX11_painting 111 = .ok (.iload 4, 2) := by decide +kernel
theorem dX11_painting_113 : decode cX11_painting 113 = .ok (.iaload, 1) := by decide +kernel
theorem dX11_painting_114 : decode cX11_painting 114 = .ok (.invokevirtual 378, 3) := by decide +kernel
theorem dX11_painting_117 : decode cX11_painting 117 = .ok (.iadd, 1) := by decide +kernel
theorem dX11_painting_118 : decode cX11_painting 118 = .ok (.invokestatic 286, 3) := by decide +kernel
theorem dX11_painting_121 : decode cX11_painting 121 = .ok (.iastore, 1) := by decide +kernel
theorem dX11_painting_122 : decode cX11_painting 122 = .ok (.iinc 4 1, 3) := by decide +kernel
theorem dX11_painting_125 : decode cX11_painting 125 = .ok (.goto (-71), 3) := by decide +kernel
theorem dX11_painting_128 : decode cX11_painting 128 = .ok (.iinc 2 1, 3) := by decide +kernel
theorem dX11_painting_131 : decode cX11_painting 131 = .ok (.goto (-113), 3) := by decide +kernel
theorem dX11_painting_134 : decode cX11_painting 134 = .ok (.aload_n 0, 1) := by decide +kernel
theorem dX11_painting_135 : decode cX11_painting 135 = .ok (.getfield 102, 3) := by decide +kernel
theorem dX11_painting_138 : decode cX11_painting 138 = .ok (.iload_n 1, 1) := by decide +kernel
theorem dX11_painting_139 : decode cX11_painting 139 = .ok (.iaload, 1) := by decide +kernel
theorem dX11_painting_140 : decode cX11_painting 140 = .ok (.ireturn, 1) := by decide +kernel
theorem dX11_painted_0 : decode cX11_painted 0 = .ok (.aload_n 0, 1) := by decide +kernel
theorem dX11_painted_1 : decode cX11_painted 1 = .ok (.iload_n 1, 1) := by decide +kernel
theorem dX11_painted_2 : decode cX11_painted 2 = .ok (.invokevirtual 141, 3) := by decide +kernel
theorem dX11_painted_5 : decode cX11_painted 5 = .ok (.ifCond .ne 5, 3) := by decide +kernel
theorem dX11_painted_8 : decode cX11_painted 8 = .ok (.iconst (-1), 1) := by decide +kernel
theorem dX11_painted_9 : decode cX11_painted 9 = .ok (.ireturn, 1) := by decide +kernel
theorem dX11_painted_10 : decode cX11_painted 10 = .ok (.aload_n 0, 1) := by decide +kernel
theorem dX11_painted_11 : decode cX11_painted 11 = .ok (.invokevirtual 381, 3) := by decide +kernel
theorem dX11_painted_14 : decode cX11_painted 14 = .ok (.aload_n 0, 1) := by decide +kernel
theorem dX11_painted_15 : decode cX11_painted 15 = .ok (.iload_n 1, 1) := by decide +kernel
theorem dX11_painted_16 : decode cX11_painted 16 = .ok (.iconst 1, 1) := by decide +kernel
theorem dX11_painted_17 : decode cX11_painted 17 = .ok (.iconst (-1), 1) := by decide +kernel
theorem dX11_painted_18 : decode cX11_painted 18 = .ok (.invokevirtual 372, 3) := by decide +kernel
theorem dX11_painted_21 : decode cX11_painted 21 = .ok (.istore_n 2, 1) := by decide +kernel
theorem dX11_painted_22 : decode cX11_painted 22 = .ok (.iconst 0, 1) := by decide +kernel
theorem dX11_painted_23 : decode cX11_painted 23 = .ok (.istore_n 3, 1) := by decide +kernel
theorem dX11_painted_24 : decode cX11_painted 24 = .ok (.aload_n 0, 1) := by decide +kernel
theorem dX11_painted_25 : decode cX11_painted 25 = .ok (.iconst 0, 1) := by decide +kernel
theorem dX11_painted_26 : decode cX11_painted 26 = .ok (.putfield 390, 3) := by decide +kernel
theorem dX11_painted_29 : decode cX11_painted 29 = .ok (.iconst 0, 1) := by decide +kernel
theorem dX11_painted_30 : decode cX11_painted 30 = .ok (.istore 4, 2) := by decide +kernel
theorem dX11_painted_32 : decode cX11_painted 32 = .ok (.iload 4, 2) := by decide +kernel
theorem dX11_painted_34 : decode cX11_painted 34 = .ok (.bipush 16, 2) := by decide +kernel
theorem dX11_painted_36 : decode cX11_painted 36 = .ok (.if_icmp .ge 65, 3) := by decide +kernel
theorem dX11_painted_39 : decode cX11_painted 39 = .ok (.iload_n 2, 1) := by decide +kernel
theorem dX11_painted_40 : decode cX11_painted 40 = .ok (.iload 4, 2) := by decide +kernel
theorem dX11_painted_42 : decode cX11_painted 42 = .ok (.invokestatic 137, 3) := by decide +kernel
theorem dX11_painted_45 : decode cX11_painted 45 = .ok (.ifCond .ne 6, 3) := by decide +kernel
theorem dX11_painted_48 : decode cX11_painted 48 = .ok (.goto 47, 3) := by decide +kernel
theorem dX11_painted_51 : decode cX11_painted 51 = .ok (.iload_n 3, 1) := by decide +kernel
theorem dX11_painted_52 : decode cX11_painted 52 = .ok (.aload_n 0, 1) := by decide +kernel
theorem dX11_painted_53 : decode cX11_painted 53 = .ok (.iload 4, 2) := by decide +kernel
theorem dX11_painted_55 : decode cX11_painted 55 = .ok (.invokevirtual 308, 3) := by decide +kernel
theorem dX11_painted_58 : decode cX11_painted 58 = .ok (.iadd, 1) := by decide +kernel
theorem dX11_painted_59 : decode cX11_painted 59 = .ok (.istore_n 3, 1) := by decide +kernel
theorem dX11_painted_60 : decode cX11_painted 60 = .ok (.aload_n 0, 1) := by decide +kernel
theorem dX11_painted_61 : decode cX11_painted 61 = .ok (.iload 4, 2) := by decide +kernel
theorem dX11_painted_63 : decode cX11_painted 63 = .ok (.invokevirtual 308, 3) := by decide +kernel
theorem dX11_painted_66 : decode cX11_painted 66 = .ok (.iconst 2, 1) := by decide +kernel
theorem dX11_painted_67 : decode cX11_painted 67 = .ok (.irem, 1) := by decide +kernel
theorem dX11_painted_68 : decode cX11_painted 68 = .ok (.ifCond .ne 6, 3) := by decide +kernel
theorem dX11_painted_71 : decode cX11_painted 71 = .ok (.goto 24, 3) := by decide +kernel
theorem dX11_painted_74 : decode cX11_painted 74 = .ok (.aload_n 0, 1) := by decide +kernel
theorem dX11_painted_75 : decode cX11_painted 75 = .ok (.getfield 98, 3) := by decide +kernel
theorem dX11_painted_78 : decode cX11_painted 78 = .ok (.aload_n 0, 1) := by decide +kernel
theorem dX11_painted_79 : decode cX11_painted 79 = .ok (.getfield 390, 3) := by decide +kernel
theorem dX11_painted_82 : decode cX11_painted 82 = .ok (.iload 4, 2) := by decide +kernel
theorem dX11_painted_84 : decode cX11_painted 84 = .ok (.iastore, 1) := by decide +kernel
theorem dX11_painted_85 : decode cX11_painted 85 = .ok (.aload_n 0, 1) := by decide +kernel
theorem dX11_painted_86 : decode cX11_painted 86 = .ok (.aload_n 0, 1) := by decide +kernel
theorem dX11_painted_87 : decode cX11_painted 87 = .ok (.getfield 390, 3) := by decide +kernel
theorem dX11_painted_90 : decode cX11_painted 90 = .ok (.iconst 1, 1) := by decide +kernel
theorem dX11_painted_91 : decode cX11_painted 91 = .ok (.iadd, 1) := by decide +kernel
theorem dX11_painted_92 : decode cX11_painted 92 = .ok (.putfield 390, 3) := by decide +kernel
theorem dX11_painted_95 : decode cX11_painted 95 = .ok (.iinc 4 1, 3) := by decide +kernel
theorem dX11_painted_98 : decode cX11_painted 98 = .ok (.goto (-66), 3) := by decide +kernel
theorem dX11_painted_101 : decode cX11_painted 101 = .ok (.iload_n 3, 1) := by decide +kernel
theorem dX11_painted_102 : decode cX11_painted 102 = .ok (.iconst 2, 1) := by decide +kernel
theorem dX11_painted_103 : decode cX11_painted 103 = .ok (.idiv, 1) := by decide +kernel
theorem dX11_painted_104 : decode cX11_painted 104 = .ok (.aload_n 0, 1) := by decide +kernel
theorem dX11_painted_105 : decode cX11_painted 105 = .ok (.invokevirtual 393, 3) := by decide +kernel
theorem dX11_painted_108 : decode cX11_painted 108 = .ok (.iadd, 1) := by decide +kernel
theorem dX11_painted_109 : decode cX11_painted 109 = .ok (.ireturn, 1) := by decide +kernel
theorem dX11_keptOpen_0 : decode cX11_keptOpen 0 = .ok (.iconst 0, 1) := by decide +kernel
theorem dX11_keptOpen_1 : decode cX11_keptOpen 1 = .ok (.istore_n 1, 1) := by decide +kernel
theorem dX11_keptOpen_2 : decode cX11_keptOpen 2 = .ok (.iconst 0, 1) := by decide +kernel
theorem dX11_keptOpen_3 : decode cX11_keptOpen 3 = .ok (.istore_n 2, 1) := by decide +kernel
theorem dX11_keptOpen_4 : decode cX11_keptOpen 4 = .ok (.iload_n 2, 1) := by decide +kernel
theorem dX11_keptOpen_5 : decode cX11_keptOpen 5 = .ok (.bipush 16, 2) := by decide +kernel
theorem dX11_keptOpen_7 : decode cX11_keptOpen 7 = .ok (.if_icmp .ge 16, 3) := by decide +kernel
theorem dX11_keptOpen_10 : decode cX11_keptOpen 10 = .ok (.aload_n 0, 1) := by decide +kernel
theorem dX11_keptOpen_11 : decode cX11_keptOpen 11 = .ok (.getfield 105, 3) := by decide +kernel
theorem dX11_keptOpen_14 : decode cX11_keptOpen 14 = .ok (.iload_n 2, 1) := by decide +kernel
theorem dX11_keptOpen_15 : decode cX11_keptOpen 15 = .ok (.iload_n 2, 1) := by decide +kernel
theorem dX11_keptOpen_16 : decode cX11_keptOpen 16 = .ok (.iastore, 1) := by decide +kernel
theorem dX11_keptOpen_17 : decode cX11_keptOpen 17 = .ok (.iinc 2 1, 3) := by decide +kernel
theorem dX11_keptOpen_20 : decode cX11_keptOpen 20 = .ok (.goto (-16), 3) := by decide +kernel
theorem dX11_keptOpen_23 : decode cX11_keptOpen 23 = .ok (.bipush 99, 2) := by decide +kernel
theorem dX11_keptOpen_25 : decode cX11_keptOpen 25 = .ok (.istore_n 2, 1) := by decide +kernel
theorem dX11_keptOpen_26 : decode cX11_keptOpen 26 = .ok (.iload_n 2, 1) := by decide +kernel
theorem dX11_keptOpen_27 : decode cX11_keptOpen 27 = .ok (.ifCond .le 134, 3) := by decide +kernel
theorem dX11_keptOpen_30 : decode cX11_keptOpen 30 = .ok (.iconst 0, 1) := by decide +kernel
theorem dX11_keptOpen_31 : decode cX11_keptOpen 31 = .ok (.istore_n 3, 1) := by decide +kernel
theorem dX11_keptOpen_32 : decode cX11_keptOpen 32 = .ok (.iload_n 3, 1) := by decide +kernel
theorem dX11_keptOpen_33 : decode cX11_keptOpen 33 = .ok (.aload_n 0, 1) := by decide +kernel
theorem dX11_keptOpen_34 : decode cX11_keptOpen 34 = .ok (.getfield 145, 3) := by decide +kernel
theorem dX11_keptOpen_37 : decode cX11_keptOpen 37 = .ok (.if_icmp .ge 118, 3) := by decide +kernel
theorem dX11_keptOpen_40 : decode cX11_keptOpen 40 = .ok (.aload_n 0, 1) := by decide +kernel
theorem dX11_keptOpen_41 : decode cX11_keptOpen 41 = .ok (.iload_n 3, 1) := by decide +kernel
theorem dX11_keptOpen_42 : decode cX11_keptOpen 42 = .ok (.invokevirtual 148, 3) := by decide +kernel
theorem dX11_keptOpen_45 : decode cX11_keptOpen 45 = .ok (.ifCond .eq 104, 3) := by decide +kernel
theorem dX11_keptOpen_48 : decode cX11_keptOpen 48 = .ok (.aload_n 0, 1) := by decide +kernel
theorem dX11_keptOpen_49 : decode cX11_keptOpen 49 = .ok (.getfield 28, 3) := by decide +kernel
theorem dX11_keptOpen_52 : decode cX11_keptOpen 52 = .ok (.iload_n 3, 1) := by decide +kernel
theorem dX11_keptOpen_53 : decode cX11_keptOpen 53 = .ok (.iaload, 1) := by decide +kernel
theorem dX11_keptOpen_54 : decode cX11_keptOpen 54 = .ok (.iload_n 2, 1) := by decide +kernel
theorem dX11_keptOpen_55 : decode cX11_keptOpen 55 = .ok (.if_icmp .ne 94, 3) := by decide +kernel
theorem dX11_keptOpen_58 : decode cX11_keptOpen 58 = .ok (.aload_n 0, 1) := by decide +kernel
theorem dX11_keptOpen_59 : decode cX11_keptOpen 59 = .ok (.getfield 105, 3) := by decide +kernel
theorem dX11_keptOpen_62 : decode cX11_keptOpen 62 = .ok (.aload_n 0, 1) := by decide +kernel
theorem dX11_keptOpen_63 : decode cX11_keptOpen 63 = .ok (.getfield 22, 3) := by decide +kernel
theorem dX11_keptOpen_66 : decode cX11_keptOpen 66 = .ok (.iload_n 3, 1) := by decide +kernel
theorem dX11_keptOpen_67 : decode cX11_keptOpen 67 = .ok (.iaload, 1) := by decide +kernel
theorem dX11_keptOpen_68 : decode cX11_keptOpen 68 = .ok (.iaload, 1) := by decide +kernel
theorem dX11_keptOpen_69 : decode cX11_keptOpen 69 = .ok (.aload_n 0, 1) := by decide +kernel
theorem dX11_keptOpen_70 : decode cX11_keptOpen 70 = .ok (.getfield 105, 3) := by decide +kernel
theorem dX11_keptOpen_73 : decode cX11_keptOpen 73 = .ok (.aload_n 0, 1) := by decide +kernel
theorem dX11_keptOpen_74 : decode cX11_keptOpen 74 = .ok (.getfield 25, 3) := by decide +kernel
theorem dX11_keptOpen_77 : decode cX11_keptOpen 77 = .ok (.iload_n 3, 1) := by decide +kernel
theorem dX11_keptOpen_78 : decode cX11_keptOpen 78 = .ok (.iaload, 1) := by decide +kernel
theorem dX11_keptOpen_79 : decode cX11_keptOpen 79 = .ok (.iaload, 1) := by decide +kernel
theorem dX11_keptOpen_80 : decode cX11_keptOpen 80 = .ok (.if_icmp .ne 6, 3) := by decide +kernel
theorem dX11_keptOpen_83 : decode cX11_keptOpen 83 = .ok (.goto 66, 3) := by decide +kernel
theorem dX11_keptOpen_86 : decode cX11_keptOpen 86 = .ok (.aload_n 0, 1) := by decide +kernel
theorem dX11_keptOpen_87 : decode cX11_keptOpen 87 = .ok (.getfield 105, 3) := by decide +kernel
theorem dX11_keptOpen_90 : decode cX11_keptOpen 90 = .ok (.aload_n 0, 1) := by decide +kernel
theorem dX11_keptOpen_91 : decode cX11_keptOpen 91 = .ok (.getfield 25, 3) := by decide +kernel
theorem dX11_keptOpen_94 : decode cX11_keptOpen 94 = .ok (.iload_n 3, 1) := by decide +kernel
theorem dX11_keptOpen_95 : decode cX11_keptOpen 95 = .ok (.iaload, 1) := by decide +kernel
theorem dX11_keptOpen_96 : decode cX11_keptOpen 96 = .ok (.iaload, 1) := by decide +kernel
theorem dX11_keptOpen_97 : decode cX11_keptOpen 97 = .ok (.istore 4, 2) := by decide +kernel
theorem dX11_keptOpen_99 : decode cX11_keptOpen 99 = .ok (.iconst 0, 1) := by decide +kernel
theorem dX11_keptOpen_100 : decode cX11_keptOpen 100 = .ok (.istore 5, 2) := by decide +kernel
theorem dX11_keptOpen_102 : decode cX11_keptOpen 102 = .ok (.iload 5, 2) := by decide +kernel
theorem dX11_keptOpen_104 : decode cX11_keptOpen 104 = .ok (.bipush 16, 2) := by decide +kernel
theorem dX11_keptOpen_106 : decode cX11_keptOpen 106 = .ok (.if_icmp .ge 39, 3) := by decide +kernel
theorem dX11_keptOpen_109 : decode cX11_keptOpen 109 = .ok (.aload_n 0, 1) := by decide +kernel
theorem dX11_keptOpen_110 : decode cX11_keptOpen 110 = .ok (.getfield 105, 3) := by decide +kernel
theorem dX11_keptOpen_113 : decode cX11_keptOpen 113 = .ok (.iload 5, 2) := by decide +kernel
theorem dX11_keptOpen_115 : decode cX11_keptOpen 115 = .ok (.iaload, 1) := by decide +kernel
theorem dX11_keptOpen_116 : decode cX11_keptOpen 116 = .ok (.iload 4, 2) := by decide +kernel
theorem dX11_keptOpen_118 : decode cX11_keptOpen 118 = .ok (.if_icmp .ne 21, 3) := by decide +kernel
theorem dX11_keptOpen_121 : decode cX11_keptOpen 121 = .ok (.aload_n 0, 1) := by decide +kernel
theorem dX11_keptOpen_122 : decode cX11_keptOpen 122 = .ok (.getfield 105, 3) := by decide +kernel
theorem dX11_keptOpen_125 : decode cX11_keptOpen 125 = .ok (.iload 5, 2) := by decide +kernel
theorem dX11_keptOpen_127 : decode cX11_keptOpen 127 = .ok (.aload_n 0, 1) := by decide +kernel
theorem dX11_keptOpen_128 : decode cX11_keptOpen 128 = .ok (.getfield 105, 3) := by decide +kernel
theorem dX11_keptOpen_131 : decode cX11_keptOpen 131 = .ok (.aload_n 0, 1) := by decide +kernel
theorem dX11_keptOpen_132 : decode cX11_keptOpen 132 = .ok (.getfield 22, 3) := by decide +kernel
theorem dX11_keptOpen_135 : decode cX11_keptOpen 135 = .ok (.iload_n 3, 1) := by decide +kernel
theorem dX11_keptOpen_136 : decode cX11_keptOpen 136 = .ok (.iaload, 1) := by decide +kernel
theorem dX11_keptOpen_137 : decode cX11_keptOpen 137 = .ok (.iaload, 1) := by decide +kernel
theorem dX11_keptOpen_138 : decode cX11_keptOpen 138 = .ok (.iastore, 1) := by decide +kernel
theorem dX11_keptOpen_139 : decode cX11_keptOpen 139 = .ok (.iinc 5 1, 3) := by decide +kernel
theorem dX11_keptOpen_142 : decode cX11_keptOpen 142 = .ok (.goto (-40), 3) := by decide +kernel
theorem dX11_keptOpen_145 : decode cX11_keptOpen 145 = .ok (.iload_n 1, 1) := by decide +kernel
theorem dX11_keptOpen_146 : decode cX11_keptOpen 146 = .ok (.iload_n 2, 1) := by decide +kernel
theorem dX11_keptOpen_147 : decode cX11_keptOpen 147 = .ok (.iadd, 1) := by decide +kernel
theorem dX11_keptOpen_148 : decode cX11_keptOpen 148 = .ok (.istore_n 1, 1) := by decide +kernel
theorem dX11_keptOpen_149 : decode cX11_keptOpen 149 = .ok (.iinc 3 1, 3) := by decide +kernel
theorem dX11_keptOpen_152 : decode cX11_keptOpen 152 = .ok (.goto (-120), 3) := by decide +kernel
theorem dX11_keptOpen_155 : decode cX11_keptOpen 155 = .ok (.iinc 2 (-1), 3) := by decide +kernel
theorem dX11_keptOpen_158 : decode cX11_keptOpen 158 = .ok (.goto (-132), 3) := by decide +kernel
theorem dX11_keptOpen_161 : decode cX11_keptOpen 161 = .ok (.iload_n 1, 1) := by decide +kernel
theorem dX11_keptOpen_162 : decode cX11_keptOpen 162 = .ok (.ireturn, 1) := by decide +kernel
theorem dX11_farthest_0 : decode cX11_farthest 0 = .ok (.iload_n 1, 1) := by decide +kernel
theorem dX11_farthest_1 : decode cX11_farthest 1 = .ok (.iconst 0, 1) := by decide +kernel
theorem dX11_farthest_2 : decode cX11_farthest 2 = .ok (.iconst 2, 1) := by decide +kernel
theorem dX11_farthest_3 : decode cX11_farthest 3 = .ok (.invokestatic 129, 3) := by decide +kernel
theorem dX11_farthest_6 : decode cX11_farthest 6 = .ok (.ifCond .ne 5, 3) := by decide +kernel
theorem dX11_farthest_9 : decode cX11_farthest 9 = .ok (.iconst (-1), 1) := by decide +kernel
theorem dX11_farthest_10 : decode cX11_farthest 10 = .ok (.ireturn, 1) := by decide +kernel
theorem dX11_farthest_11 : decode cX11_farthest 11 = .ok (.aload_n 0, 1) := by decide +kernel
theorem dX11_farthest_12 : decode cX11_farthest 12 = .ok (.invokevirtual 381, 3) := by decide +kernel
theorem dX11_farthest_15 : decode cX11_farthest 15 = .ok (.bipush (-2), 2) := by decide +kernel
theorem dX11_farthest_17 : decode cX11_farthest 17 = .ok (.istore_n 2, 1) := by decide +kernel
theorem dX11_farthest_18 : decode cX11_farthest 18 = .ok (.bipush (-2), 2) := by decide +kernel
theorem dX11_farthest_20 : decode cX11_farthest 20 = .ok (.istore_n 3, 1) := by decide +kernel
theorem dX11_farthest_21 : decode cX11_farthest 21 = .ok (.bipush (-2), 2) := by decide +kernel
theorem dX11_farthest_23 : decode cX11_farthest 23 = .ok (.istore 4, 2) := by decide +kernel
theorem dX11_farthest_25 : decode cX11_farthest 25 = .ok (.iconst 0, 1) := by decide +kernel
theorem dX11_farthest_26 : decode cX11_farthest 26 = .ok (.istore 5, 2) := by decide +kernel
theorem dX11_farthest_28 : decode cX11_farthest 28 = .ok (.iload 5, 2) := by decide +kernel
theorem dX11_farthest_30 : decode cX11_farthest 30 = .ok (.bipush 16, 2) := by decide +kernel
theorem dX11_farthest_32 : decode cX11_farthest 32 = .ok (.if_icmp .ge 76, 3) := by decide +kernel
theorem dX11_farthest_35 : decode cX11_farthest 35 = .ok (.iload 5, 2) := by decide +kernel
theorem dX11_farthest_37 : decode cX11_farthest 37 = .ok (.istore 6, 2) := by decide +kernel
theorem dX11_farthest_39 : decode cX11_farthest 39 = .ok (.iload 6, 2) := by decide +kernel
theorem dX11_farthest_41 : decode cX11_farthest 41 = .ok (.bipush 16, 2) := by decide +kernel
theorem dX11_farthest_43 : decode cX11_farthest 43 = .ok (.if_icmp .ge 59, 3) := by decide +kernel
theorem dX11_farthest_46 : decode cX11_farthest 46 = .ok (.aload_n 0, 1) := by decide +kernel
theorem dX11_farthest_47 : decode cX11_farthest 47 = .ok (.iload 5, 2) := by decide +kernel
theorem dX11_farthest_49 : decode cX11_farthest 49 = .ok (.invokevirtual 141, 3) := by decide +kernel
theorem dX11_farthest_52 : decode cX11_farthest 52 = .ok (.ifCond .eq 44, 3) := by decide +kernel
theorem dX11_farthest_55 : decode cX11_farthest 55 = .ok (.aload_n 0, 1) := by decide +kernel
theorem dX11_farthest_56 : decode cX11_farthest 56 = .ok (.iload 6, 2) := by decide +kernel
theorem dX11_farthest_58 : decode cX11_farthest 58 = .ok (.invokevirtual 141, 3) := by decide +kernel
theorem dX11_farthest_61 : decode cX11_farthest 61 = .ok (.ifCond .eq 35, 3) := by decide +kernel
theorem dX11_farthest_64 : decode cX11_farthest 64 = .ok (.aload_n 0, 1) := by decide +kernel
theorem dX11_farthest_65 : decode cX11_farthest 65 = .ok (.iload 5, 2) := by decide +kernel
theorem dX11_farthest_67 : decode cX11_farthest 67 = .ok (.iload 6, 2) := by decide +kernel
theorem dX11_farthest_69 : decode cX11_farthest 69 = .ok (.invokevirtual 378, 3) := by decide +kernel
theorem dX11_farthest_72 : decode cX11_farthest 72 = .ok (.iload 4, 2) := by decide +kernel
theorem dX11_farthest_74 : decode cX11_farthest 74 = .ok (.if_icmp .gt 6, 3) := by decide +kernel
theorem dX11_farthest_77 : decode cX11_farthest 77 = .ok (.goto 19, 3) := by decide +kernel
theorem dX11_farthest_80 : decode cX11_farthest 80 = .ok (.aload_n 0, 1) := by decide +kernel
theorem dX11_farthest_81 : decode cX11_farthest 81 = .ok (.iload 5, 2) := by decide +kernel
theorem dX11_farthest_83 : decode cX11_farthest 83 = .ok (.iload 6, 2) := by decide +kernel
theorem dX11_farthest_85 : decode cX11_farthest 85 = .ok (.invokevirtual 378, 3) := by decide +kernel
theorem dX11_farthest_88 : decode cX11_farthest 88 = .ok (.istore 4, 2) := by decide +kernel
theorem dX11_farthest_90 : decode cX11_farthest 90 = .ok (.iload 5, 2) := by decide +kernel
theorem dX11_farthest_92 : decode cX11_farthest 92 = .ok (.istore_n 2, 1) := by decide +kernel
theorem dX11_farthest_93 : decode cX11_farthest 93 = .ok (.iload 6, 2) := by decide +kernel
theorem dX11_farthest_95 : decode cX11_farthest 95 = .ok (.istore_n 3, 1) := by decide +kernel
theorem dX11_farthest_96 : decode cX11_farthest 96 = .ok (.iinc 6 1, 3) := by decide +kernel
theorem dX11_farthest_99 : decode cX11_farthest 99 = .ok (.goto (-60), 3) := by decide +kernel
theorem dX11_farthest_102 : decode cX11_farthest 102 = .ok (.iinc 5 1, 3) := by decide +kernel
theorem dX11_farthest_105 : decode cX11_farthest 105 = .ok (.goto (-77), 3) := by decide +kernel
theorem dX11_farthest_108 : decode cX11_farthest 108 = .ok (.iload_n 1, 1) := by decide +kernel
theorem dX11_farthest_109 : decode cX11_farthest 109 = .ok (.ifCond .ne 8, 3) := by decide +kernel
theorem dX11_farthest_112 : decode cX11_farthest 112 = .ok (.iload 4, 2) := by decide +kernel
theorem dX11_farthest_114 : decode cX11_farthest 114 = .ok (.goto 13, 3) := by decide +kernel
theorem dX11_farthest_117 : decode cX11_farthest 117 = .ok (.iload_n 1, 1) := by decide +kernel
theorem dX11_farthest_118 : decode cX11_farthest 118 = .ok (.iconst 1, 1) := by decide +kernel
theorem dX11_farthest_119 : decode cX11_farthest 119 = .ok (.if_icmp .ne 7, 3) := by decide +kernel
theorem dX11_farthest_122 : decode cX11_farthest 122 = .ok (.iload_n 2, 1) := by decide +kernel
theorem dX11_farthest_123 : decode cX11_farthest 123 = .ok (.goto 4, 3) := by decide +kernel
theorem dX11_farthest_126 : decode cX11_farthest 126 = .ok (.iload_n 3, 1) := by decide +kernel
theorem dX11_farthest_127 : decode cX11_farthest 127 = .ok (.ireturn, 1) := by decide +kernel
theorem dX11_ring_0 : decode cX11_ring 0 = .ok (.aload_n 0, 1) := by decide +kernel
theorem dX11_ring_1 : decode cX11_ring 1 = .ok (.iload_n 1, 1) := by decide +kernel
theorem dX11_ring_2 : decode cX11_ring 2 = .ok (.invokevirtual 141, 3) := by decide +kernel
theorem dX11_ring_5 : decode cX11_ring 5 = .ok (.ifCond .ne 5, 3) := by decide +kernel
theorem dX11_ring_8 : decode cX11_ring 8 = .ok (.iconst (-1), 1) := by decide +kernel
theorem dX11_ring_9 : decode cX11_ring 9 = .ok (.ireturn, 1) := by decide +kernel
theorem dX11_ring_10 : decode cX11_ring 10 = .ok (.bipush (-2), 2) := by decide +kernel
theorem dX11_ring_12 : decode cX11_ring 12 = .ok (.istore_n 2, 1) := by decide +kernel
theorem dX11_ring_13 : decode cX11_ring 13 = .ok (.iconst 0, 1) := by decide +kernel
theorem dX11_ring_14 : decode cX11_ring 14 = .ok (.istore_n 3, 1) := by decide +kernel
theorem dX11_ring_15 : decode cX11_ring 15 = .ok (.iload_n 3, 1) := by decide +kernel
theorem dX11_ring_16 : decode cX11_ring 16 = .ok (.aload_n 0, 1) := by decide +kernel
theorem dX11_ring_17 : decode cX11_ring 17 = .ok (.getfield 145, 3) := by decide +kernel
theorem dX11_ring_20 : decode cX11_ring 20 = .ok (.if_icmp .ge 71, 3) := by decide +kernel
theorem dX11_ring_23 : decode cX11_ring 23 = .ok (.aload_n 0, 1) := by decide +kernel
theorem dX11_ring_24 : decode cX11_ring 24 = .ok (.iload_n 3, 1) := by decide +kernel
theorem dX11_ring_25 : decode cX11_ring 25 = .ok (.iload_n 1, 1) := by decide +kernel
theorem dX11_ring_26 : decode cX11_ring 26 = .ok (.invokevirtual 151, 3) := by decide +kernel
theorem dX11_ring_29 : decode cX11_ring 29 = .ok (.istore 4, 2) := by decide +kernel
theorem dX11_ring_31 : decode cX11_ring 31 = .ok (.iload 4, 2) := by decide +kernel
theorem dX11_ring_33 : decode cX11_ring 33 = .ok (.iconst (-1), 1) := by decide +kernel
theorem dX11_ring_34 : decode cX11_ring 34 = .ok (.if_icmp .ne 6, 3) := by decide +kernel
theorem dX11_ring_37 : decode cX11_ring 37 = .ok (.goto 48, 3) := by decide +kernel
theorem dX11_ring_40 : decode cX11_ring 40 = .ok (.aload_n 0, 1) := by decide +kernel
theorem dX11_ring_41 : decode cX11_ring 41 = .ok (.iload 4, 2) := by decide +kernel
theorem dX11_ring_43 : decode cX11_ring 43 = .ok (.iload_n 3, 1) := by decide +kernel
theorem dX11_ring_44 : decode cX11_ring 44 = .ok (.invokevirtual 375, 3) := by decide +kernel
theorem dX11_ring_47 : decode cX11_ring 47 = .ok (.aload_n 0, 1) := by decide +kernel
theorem dX11_ring_48 : decode cX11_ring 48 = .ok (.iload 4, 2) := by decide +kernel
theorem dX11_ring_50 : decode cX11_ring 50 = .ok (.iload_n 1, 1) := by decide +kernel
theorem dX11_ring_51 : decode cX11_ring 51 = .ok (.invokevirtual 378, 3) := by decide +kernel
theorem dX11_ring_54 : decode cX11_ring 54 = .ok (.iconst 1, 1) := by decide +kernel
theorem dX11_ring_55 : decode cX11_ring 55 = .ok (.iadd, 1) := by decide +kernel
theorem dX11_ring_56 : decode cX11_ring 56 = .ok (.istore 5, 2) := by decide +kernel
theorem dX11_ring_58 : decode cX11_ring 58 = .ok (.aload_n 0, 1) := by decide +kernel
theorem dX11_ring_59 : decode cX11_ring 59 = .ok (.iload 4, 2) := by decide +kernel
theorem dX11_ring_61 : decode cX11_ring 61 = .ok (.iload_n 1, 1) := by decide +kernel
theorem dX11_ring_62 : decode cX11_ring 62 = .ok (.invokevirtual 378, 3) := by decide +kernel
theorem dX11_ring_65 : decode cX11_ring 65 = .ok (.bipush (-2), 2) := by decide +kernel
theorem dX11_ring_67 : decode cX11_ring 67 = .ok (.if_icmp .eq 18, 3) := by decide +kernel
theorem dX11_ring_70 : decode cX11_ring 70 = .ok (.iload_n 2, 1) := by decide +kernel
theorem dX11_ring_71 : decode cX11_ring 71 = .ok (.bipush (-2), 2) := by decide +kernel
theorem dX11_ring_73 : decode cX11_ring 73 = .ok (.if_icmp .eq 9, 3) := by decide +kernel
theorem dX11_ring_76 : decode cX11_ring 76 = .ok (.iload 5, 2) := by decide +kernel
theorem dX11_ring_78 : decode cX11_ring 78 = .ok (.iload_n 2, 1) := by decide +kernel
theorem dX11_ring_79 : decode cX11_ring 79 = .ok (.if_icmp .ge 6, 3) := by decide +kernel
theorem dX11_ring_82 : decode cX11_ring 82 = .ok (.iload 5, 2) := by decide +kernel
theorem dX11_ring_84 : decode cX11_ring 84 = .ok (.istore_n 2, 1) := by decide +kernel
theorem dX11_ring_85 : decode cX11_ring 85 = .ok (.iinc 3 1, 3) := by decide +kernel
theorem dX11_ring_88 : decode cX11_ring 88 = .ok (.goto (-73), 3) := by decide +kernel
theorem dX11_ring_91 : decode cX11_ring 91 = .ok (.iload_n 2, 1) := by decide +kernel
theorem dX11_ring_92 : decode cX11_ring 92 = .ok (.ireturn, 1) := by decide +kernel
theorem dX11_highest_0 : decode cX11_highest 0 = .ok (.iload_n 1, 1) := by decide +kernel
theorem dX11_highest_1 : decode cX11_highest 1 = .ok (.iconst 0, 1) := by decide +kernel
theorem dX11_highest_2 : decode cX11_highest 2 = .ok (.iconst 1, 1) := by decide +kernel
theorem dX11_highest_3 : decode cX11_highest 3 = .ok (.invokestatic 129, 3) := by decide +kernel
theorem dX11_highest_6 : decode cX11_highest 6 = .ok (.ifCond .ne 5, 3) := by decide +kernel
theorem dX11_highest_9 : decode cX11_highest 9 = .ok (.iconst (-1), 1) := by decide +kernel
theorem dX11_highest_10 : decode cX11_highest 10 = .ok (.ireturn, 1) := by decide +kernel
theorem dX11_highest_11 : decode cX11_highest 11 = .ok (.bipush (-2), 2) := by decide +kernel
theorem dX11_highest_13 : decode cX11_highest 13 = .ok (.istore_n 2, 1) := by decide +kernel
theorem dX11_highest_14 : decode cX11_highest 14 = .ok (.iconst 0, 1) := by decide +kernel
theorem dX11_highest_15 : decode cX11_highest 15 = .ok (.istore_n 3, 1) := by decide +kernel
theorem dX11_highest_16 : decode cX11_highest 16 = .ok (.iload_n 3, 1) := by decide +kernel
theorem dX11_highest_17 : decode cX11_highest 17 = .ok (.bipush 16, 2) := by decide +kernel
theorem dX11_highest_19 : decode cX11_highest 19 = .ok (.if_icmp .ge 38, 3) := by decide +kernel
theorem dX11_highest_22 : decode cX11_highest 22 = .ok (.aload_n 0, 1) := by decide +kernel
theorem dX11_highest_23 : decode cX11_highest 23 = .ok (.iload_n 3, 1) := by decide +kernel
theorem dX11_highest_24 : decode cX11_highest 24 = .ok (.invokevirtual 141, 3) := by decide +kernel
theorem dX11_highest_27 : decode cX11_highest 27 = .ok (.ifCond .eq 24, 3) := by decide +kernel
theorem dX11_highest_30 : decode cX11_highest 30 = .ok (.iload_n 2, 1) := by decide +kernel
theorem dX11_highest_31 : decode cX11_highest 31 = .ok (.bipush (-2), 2) := by decide +kernel
theorem dX11_highest_33 : decode cX11_highest 33 = .ok (.if_icmp .eq 16, 3) := by decide +kernel
theorem dX11_highest_36 : decode cX11_highest 36 = .ok (.aload_n 0, 1) := by decide +kernel
theorem dX11_highest_37 : decode cX11_highest 37 = .ok (.iload_n 3, 1) := by decide +kernel
theorem dX11_highest_38 : decode cX11_highest 38 = .ok (.invokevirtual 320, 3) := by decide +kernel
theorem dX11_highest_41 : decode cX11_highest 41 = .ok (.aload_n 0, 1) := by decide +kernel
theorem dX11_highest_42 : decode cX11_highest 42 = .ok (.iload_n 2, 1) := by decide +kernel
theorem dX11_highest_43 : decode cX11_highest 43 = .ok (.invokevirtual 320, 3) := by decide +kernel
theorem dX11_highest_46 : decode cX11_highest 46 = .ok (.if_icmp .le 5, 3) := by decide +kernel
theorem dX11_highest_49 : decode cX11_highest 49 = .ok (.iload_n 3, 1) := by decide +kernel
theorem dX11_highest_50 : decode cX11_highest 50 = .ok (.istore_n 2, 1) := by decide +kernel
theorem dX11_highest_51 : decode cX11_highest 51 = .ok (.iinc 3 1, 3) := by decide +kernel
theorem dX11_highest_54 : decode cX11_highest 54 = .ok (.goto (-38), 3) := by decide +kernel
theorem dX11_highest_57 : decode cX11_highest 57 = .ok (.iload_n 1, 1) := by decide +kernel
theorem dX11_highest_58 : decode cX11_highest 58 = .ok (.ifCond .eq 9, 3) := by decide +kernel
theorem dX11_highest_61 : decode cX11_highest 61 = .ok (.iload_n 2, 1) := by decide +kernel
theorem dX11_highest_62 : decode cX11_highest 62 = .ok (.bipush (-2), 2) := by decide +kernel
theorem dX11_highest_64 : decode cX11_highest 64 = .ok (.if_icmp .ne 7, 3) := by decide +kernel
theorem dX11_highest_67 : decode cX11_highest 67 = .ok (.iload_n 2, 1) := by decide +kernel
theorem dX11_highest_68 : decode cX11_highest 68 = .ok (.goto 8, 3) := by decide +kernel
theorem dX11_highest_71 : decode cX11_highest 71 = .ok (.aload_n 0, 1) := by decide +kernel
theorem dX11_highest_72 : decode cX11_highest 72 = .ok (.iload_n 2, 1) := by decide +kernel
theorem dX11_highest_73 : decode cX11_highest 73 = .ok (.invokevirtual 320, 3) := by decide +kernel
theorem dX11_highest_76 : decode cX11_highest 76 = .ok (.ireturn, 1) := by decide +kernel
theorem dX11_lowestOf_0 : decode cX11_lowestOf 0 = .ok (.iconst 0, 1) := by decide +kernel
theorem dX11_lowestOf_1 : decode cX11_lowestOf 1 = .ok (.istore_n 1, 1) := by decide +kernel
theorem dX11_lowestOf_2 : decode cX11_lowestOf 2 = .ok (.iload_n 0, 1) := by decide +kernel
theorem dX11_lowestOf_3 : decode cX11_lowestOf 3 = .ok (.iload_n 1, 1) := by decide +kernel
theorem dX11_lowestOf_4 : decode cX11_lowestOf 4 = .ok (.invokestatic 137, 3) := by decide +kernel
theorem dX11_lowestOf_7 : decode cX11_lowestOf 7 = .ok (.ifCond .ne 10, 3) := by decide +kernel
theorem dX11_lowestOf_10 : decode cX11_lowestOf 10 = .ok (.iload_n 1, 1) := by decide +kernel
theorem dX11_lowestOf_11 : decode cX11_lowestOf 11 = .ok (.iconst 1, 1) := by decide +kernel
theorem dX11_lowestOf_12 : decode cX11_lowestOf 12 = .ok (.iadd, 1) := by decide +kernel
theorem dX11_lowestOf_13 : decode cX11_lowestOf 13 = .ok (.istore_n 1, 1) := by decide +kernel
theorem dX11_lowestOf_14 : decode cX11_lowestOf 14 = .ok (.goto (-12), 3) := by decide +kernel
theorem dX11_lowestOf_17 : decode cX11_lowestOf 17 = .ok (.iload_n 1, 1) := by decide +kernel
theorem dX11_lowestOf_18 : decode cX11_lowestOf 18 = .ok (.ireturn, 1) := by decide +kernel
theorem dX11_longest_0 : decode cX11_longest 0 = .ok (.aload_n 0, 1) := by decide +kernel
theorem dX11_longest_1 : decode cX11_longest 1 = .ok (.iload_n 1, 1) := by decide +kernel
theorem dX11_longest_2 : decode cX11_longest 2 = .ok (.invokevirtual 141, 3) := by decide +kernel
theorem dX11_longest_5 : decode cX11_longest 5 = .ok (.ifCond .eq 12, 3) := by decide +kernel
theorem dX11_longest_8 : decode cX11_longest 8 = .ok (.iload_n 2, 1) := by decide +kernel
theorem dX11_longest_9 : decode cX11_longest 9 = .ok (.iconst 0, 1) := by decide +kernel
theorem dX11_longest_10 : decode cX11_longest 10 = .ok (.iconst 1, 1) := by decide +kernel
theorem dX11_longest_11 : decode cX11_longest 11 = .ok (.invokestatic 129, 3) := by decide +kernel
theorem dX11_longest_14 : decode cX11_longest 14 = .ok (.ifCond .ne 5, 3) := by decide +kernel
theorem dX11_longest_17 : decode cX11_longest 17 = .ok (.iconst (-1), 1) := by decide +kernel
theorem dX11_longest_18 : decode cX11_longest 18 = .ok (.ireturn, 1) := by decide +kernel
theorem dX11_longest_19 : decode cX11_longest 19 = .ok (.iconst 0, 1) := by decide +kernel
theorem dX11_longest_20 : decode cX11_longest 20 = .ok (.istore_n 3, 1) := by decide +kernel
theorem dX11_longest_21 : decode cX11_longest 21 = .ok (.iload_n 3, 1) := by decide +kernel
theorem dX11_longest_22 : decode cX11_longest 22 = .ok (.ldc 101, 2) := by decide +kernel
theorem dX11_longest_24 : decode cX11_longest 24 = .ok (.if_icmp .ge 16, 3) := by decide +kernel
theorem dX11_longest_27 : decode cX11_longest 27 = .ok (.aload_n 0, 1) := by decide +kernel
theorem dX11_longest_28 : decode cX11_longest 28 = .ok (.getfield 108, 3) := by decide +kernel
theorem dX11_longest_31 : decode cX11_longest 31 = .ok (.iload_n 3, 1) := by decide +kernel
theorem dX11_longest_32 : decode cX11_longest 32 = .ok (.iconst 0, 1) := by decide +kernel
theorem dX11_longest_33 : decode cX11_longest 33 = .ok (.iastore, 1) := by decide +kernel
theorem dX11_longest_34 : decode cX11_longest 34 = .ok (.iinc 3 1, 3) := by decide +kernel
theorem dX11_longest_37 : decode cX11_longest 37 = .ok (.goto (-16), 3) := by decide +kernel
theorem dX11_longest_40 : decode cX11_longest 40 = .ok (.aload_n 0, 1) := by decide +kernel
theorem dX11_longest_41 : decode cX11_longest 41 = .ok (.getfield 108, 3) := by decide +kernel
theorem dX11_longest_44 : decode cX11_longest 44 = .ok (.iconst 1, 1) := by decide +kernel
theorem dX11_longest_45 : decode cX11_longest 45 = .ok (.iload_n 1, 1) := by decide +kernel
theorem dX11_longest_46 : decode cX11_longest 46 = .ok (.ishl, 1) := by decide +kernel
theorem dX11_longest_47 : decode cX11_longest 47 = .ok (.iconst 1, 1) := by decide +kernel
theorem dX11_longest_48 : decode cX11_longest 48 = .ok (.iload_n 1, 1) := by decide +kernel
theorem dX11_longest_49 : decode cX11_longest 49 = .ok (.ishl, 1) := by decide +kernel
theorem dX11_longest_50 : decode cX11_longest 50 = .ok (.iastore, 1) := by decide +kernel
theorem dX11_longest_51 : decode cX11_longest 51 = .ok (.iconst 1, 1) := by decide +kernel
theorem dX11_longest_52 : decode cX11_longest 52 = .ok (.iload_n 1, 1) := by decide +kernel
theorem dX11_longest_53 : decode cX11_longest 53 = .ok (.ishl, 1) := by decide +kernel
theorem dX11_longest_54 : decode cX11_longest 54 = .ok (.istore_n 3, 1) := by decide +kernel
theorem dX11_longest_55 : decode cX11_longest 55 = .ok (.iconst 1, 1) := by decide +kernel
theorem dX11_longest_56 : decode cX11_longest 56 = .ok (.iload_n 1, 1) := by decide +kernel
theorem dX11_longest_57 : decode cX11_longest 57 = .ok (.ishl, 1) := by decide +kernel
theorem dX11_longest_58 : decode cX11_longest 58 = .ok (.istore 4, 2) := by decide +kernel
theorem dX11_longest_60 : decode cX11_longest 60 = .ok (.iconst 1, 1) := by decide +kernel
theorem dX11_longest_61 : decode cX11_longest 61 = .ok (.istore 5, 2) := by decide +kernel
theorem dX11_longest_63 : decode cX11_longest 63 = .ok (.iload 5, 2) := by decide +kernel
theorem dX11_longest_65 : decode cX11_longest 65 = .ok (.ldc 101, 2) := by decide +kernel
theorem dX11_longest_67 : decode cX11_longest 67 = .ok (.if_icmp .ge 172, 3) := by decide +kernel
theorem dX11_longest_70 : decode cX11_longest 70 = .ok (.aload_n 0, 1) := by decide +kernel
theorem dX11_longest_71 : decode cX11_longest 71 = .ok (.getfield 108, 3) := by decide +kernel
theorem dX11_longest_74 : decode cX11_longest 74 = .ok (.iload 5, 2) := by decide +kernel
theorem dX11_longest_76 : decode cX11_longest 76 = .ok (.iaload, 1) := by decide +kernel
theorem dX11_longest_77 : decode cX11_longest 77 = .ok (.ifCond .ne 6, 3) := by decide +kernel
theorem dX11_longest_80 : decode cX11_longest 80 = .ok (.goto 153, 3) := by decide +kernel
theorem dX11_longest_83 : decode cX11_longest 83 = .ok (.iload 5, 2) := by decide +kernel
theorem dX11_longest_85 : decode cX11_longest 85 = .ok (.invokestatic 384, 3) := by decide +kernel
theorem dX11_longest_88 : decode cX11_longest 88 = .ok (.iload_n 3, 1) := by decide +kernel
theorem dX11_longest_89 : decode cX11_longest 89 = .ok (.invokestatic 384, 3) := by decide +kernel
theorem dX11_longest_92 : decode cX11_longest 92 = .ok (.if_icmp .le 9, 3) := by decide +kernel
theorem dX11_longest_95 : decode cX11_longest 95 = .ok (.iload 5, 2) := by decide +kernel
theorem dX11_longest_97 : decode cX11_longest 97 = .ok (.istore_n 3, 1) := by decide +kernel
theorem dX11_longest_98 : decode cX11_longest 98 = .ok (.iconst 0, 1) := by decide +kernel
theorem dX11_longest_99 : decode cX11_longest 99 = .ok (.istore 4, 2) := by decide +kernel
theorem dX11_longest_101 : decode cX11_longest 101 = .ok (.iload 5, 2) := by decide +kernel
theorem dX11_longest_103 : decode cX11_longest 103 = .ok (.invokestatic 384, 3) := by decide +kernel
theorem dX11_longest_106 : decode cX11_longest 106 = .ok (.iload_n 3, 1) := by decide +kernel
theorem dX11_longest_107 : decode cX11_longest 107 = .ok (.invokestatic 384, 3) := by decide +kernel
theorem dX11_longest_110 : decode cX11_longest 110 = .ok (.if_icmp .ne 15, 3) := by decide +kernel
theorem dX11_longest_113 : decode cX11_longest 113 = .ok (.iload 4, 2) := by decide +kernel
theorem dX11_longest_115 : decode cX11_longest 115 = .ok (.aload_n 0, 1) := by decide +kernel
theorem dX11_longest_116 : decode cX11_longest 116 = .ok (.getfield 108, 3) := by decide +kernel
theorem dX11_longest_119 : decode cX11_longest 119 = .ok (.iload 5, 2) := by decide +kernel
theorem dX11_longest_121 : decode cX11_longest 121 = .ok (.iaload, 1) := by decide +kernel
theorem dX11_longest_122 : decode cX11_longest 122 = .ok (.ior, 1) := by decide +kernel
theorem dX11_longest_123 : decode cX11_longest 123 = .ok (.istore 4, 2) := by decide +kernel
theorem dX11_longest_125 : decode cX11_longest 125 = .ok (.iconst 0, 1) := by decide +kernel
theorem dX11_longest_126 : decode cX11_longest 126 = .ok (.istore 6, 2) := by decide +kernel
theorem dX11_longest_128 : decode cX11_longest 128 = .ok (.iload 6, 2) := by decide +kernel
theorem dX11_longest_130 : decode cX11_longest 130 = .ok (.bipush 16, 2) := by decide +kernel
theorem dX11_longest_132 : decode cX11_longest 132 = .ok (.if_icmp .ge 101, 3) := by decide +kernel
theorem dX11_longest_135 : decode cX11_longest 135 = .ok (.aload_n 0, 1) := by decide +kernel
theorem dX11_longest_136 : decode cX11_longest 136 = .ok (.getfield 108, 3) := by decide +kernel
theorem dX11_longest_139 : decode cX11_longest 139 = .ok (.iload 5, 2) := by decide +kernel
theorem dX11_longest_141 : decode cX11_longest 141 = .ok (.iaload, 1) := by decide +kernel
theorem dX11_longest_142 : decode cX11_longest 142 = .ok (.iload 6, 2) := by decide +kernel
theorem dX11_longest_144 : decode cX11_longest 144 = .ok (.invokestatic 137, 3) := by decide +kernel
theorem dX11_longest_147 : decode cX11_longest 147 = .ok (.ifCond .eq 17, 3) := by decide +kernel
theorem dX11_longest_150 : decode cX11_longest 150 = .ok (.aload_n 0, 1) := by decide +kernel
theorem dX11_longest_151 : decode cX11_longest 151 = .ok (.iload 6, 2) := by decide +kernel
theorem dX11_longest_153 : decode cX11_longest 153 = .ok (.invokevirtual 305, 3) := by decide +kernel
theorem dX11_longest_156 : decode cX11_longest 156 = .ok (.iload 5, 2) := by decide +kernel
theorem dX11_longest_158 : decode cX11_longest 158 = .ok (.iconst (-1), 1) := by decide +kernel
theorem dX11_longest_159 : decode cX11_longest 159 = .ok (.ixor, 1) := by decide +kernel
theorem dX11_longest_160 : decode cX11_longest 160 = .ok (.iand, 1) := by decide +kernel
theorem dX11_longest_161 : decode cX11_longest 161 = .ok (.goto 4, 3) := by decide +kernel
theorem dX11_longest_164 : decode cX11_longest 164 = .ok (.iconst 0, 1) := by decide +kernel
theorem dX11_longest_165 : decode cX11_longest 165 = .ok (.istore 7, 2) := by decide +kernel
theorem dX11_longest_167 : decode cX11_longest 167 = .ok (.iconst 0, 1) := by decide +kernel
theorem dX11_longest_168 : decode cX11_longest 168 = .ok (.istore 8, 2) := by decide +kernel
theorem dX11_longest_170 : decode cX11_longest 170 = .ok (.iload 8, 2) := by decide +kernel
theorem dX11_longest_172 : decode cX11_longest 172 = .ok (.bipush 16, 2) := by decide +kernel
theorem dX11_longest_174 : decode cX11_longest 174 = .ok (.if_icmp .ge 53, 3) := by decide +kernel
theorem dX11_longest_177 : decode cX11_longest 177 = .ok (.iload 7, 2) := by decide +kernel
theorem dX11_longest_179 : decode cX11_longest 179 = .ok (.ifCond .eq 48, 3) := by decide +kernel
theorem dX11_longest_182 : decode cX11_longest 182 = .ok (.iload 7, 2) := by decide +kernel
theorem dX11_longest_184 : decode cX11_longest 184 = .ok (.iload 8, 2) := by decide +kernel
theorem dX11_longest_186 : decode cX11_longest 186 = .ok (.invokestatic 137, 3) := by decide +kernel
theorem dX11_longest_189 : decode cX11_longest 189 = .ok (.ifCond .eq 32, 3) := by decide +kernel
theorem dX11_longest_192 : decode cX11_longest 192 = .ok (.aload_n 0, 1) := by decide +kernel
theorem dX11_longest_193 : decode cX11_longest 193 = .ok (.getfield 108, 3) := by decide +kernel
theorem dX11_longest_196 : decode cX11_longest 196 = .ok (.iload 5, 2) := by decide +kernel
theorem dX11_longest_198 : decode cX11_longest 198 = .ok (.iconst 1, 1) := by decide +kernel
theorem dX11_longest_199 : decode cX11_longest 199 = .ok (.iload 8, 2) := by decide +kernel
theorem dX11_longest_201 : decode cX11_longest 201 = .ok (.ishl, 1) := by decide +kernel
theorem dX11_longest_202 : decode cX11_longest 202 = .ok (.ior, 1) := by decide +kernel
theorem dX11_longest_203 : decode cX11_longest 203 = .ok (.aload_n 0, 1) := by decide +kernel
theorem dX11_longest_204 : decode cX11_longest 204 = .ok (.getfield 108, 3) := by decide +kernel
theorem dX11_longest_207 : decode cX11_longest 207 = .ok (.iload 5, 2) := by decide +kernel
theorem dX11_longest_209 : decode cX11_longest 209 = .ok (.iconst 1, 1) := by decide +kernel
theorem dX11_longest_210 : decode cX11_longest 210 = .ok (.iload 8, 2) := by decide +kernel
theorem dX11_longest_212 : decode cX11_longest 212 = .ok (.ishl, 1) := by decide +kernel
theorem dX11_longest_213 : decode cX11_longest 213 = .ok (.ior, 1) := by decide +kernel
theorem dX11_longest_214 : decode cX11_longest 214 = .ok (.iaload, 1) := by decide +kernel
theorem dX11_longest_215 : decode cX11_longest 215 = .ok (.iconst 1, 1) := by decide +kernel
theorem dX11_longest_216 : decode cX11_longest 216 = .ok (.iload 8, 2) := by decide +kernel
theorem dX11_longest_218 : decode cX11_longest 218 = .ok (.ishl, 1) := by decide +kernel
theorem dX11_longest_219 : decode cX11_longest 219 = .ok (.ior, 1) := by decide +kernel
theorem dX11_longest_220 : decode cX11_longest 220 = .ok (.iastore, 1) := by decide +kernel
theorem dX11_longest_221 : decode cX11_longest 221 = .ok (.iinc 8 1, 3) := by decide +kernel
theorem dX11_longest_224 : decode cX11_longest 224 = .ok (.goto (-54), 3) := by decide +kernel
theorem dX11_longest_227 : decode cX11_longest 227 = .ok (.iinc 6 1, 3) := by decide +kernel
theorem dX11_longest_230 : decode cX11_longest 230 = .ok (.goto (-102), 3) := by decide +kernel
theorem dX11_longest_233 : decode cX11_longest 233 = .ok (.iinc 5 1, 3) := by decide +kernel
theorem dX11_longest_236 : decode cX11_longest 236 = .ok (.goto (-173), 3) := by decide +kernel
theorem dX11_longest_239 : decode cX11_longest 239 = .ok (.iload_n 2, 1) := by decide +kernel
theorem dX11_longest_240 : decode cX11_longest 240 = .ok (.ifCond .ne 12, 3) := by decide +kernel
theorem dX11_longest_243 : decode cX11_longest 243 = .ok (.iload_n 3, 1) := by decide +kernel
theorem dX11_longest_244 : decode cX11_longest 244 = .ok (.invokestatic 384, 3) := by decide +kernel
theorem dX11_longest_247 : decode cX11_longest 247 = .ok (.iconst 1, 1) := by decide +kernel
theorem dX11_longest_248 : decode cX11_longest 248 = .ok (.isub, 1) := by decide +kernel
theorem dX11_longest_249 : decode cX11_longest 249 = .ok (.goto 8, 3) := by decide +kernel
theorem dX11_longest_252 : decode cX11_longest 252 = .ok (.iload 4, 2) := by decide +kernel
theorem dX11_longest_254 : decode cX11_longest 254 = .ok (.invokestatic 396, 3) := by decide +kernel
theorem dX11_longest_257 : decode cX11_longest 257 = .ok (.ireturn, 1) := by decide +kernel
theorem dX11_adds_0 : decode cX11_adds 0 = .ok (.iconst 0, 1) := by decide +kernel
theorem dX11_adds_1 : decode cX11_adds 1 = .ok (.istore_n 3, 1) := by decide +kernel
theorem dX11_adds_2 : decode cX11_adds 2 = .ok (.iload_n 3, 1) := by decide +kernel
theorem dX11_adds_3 : decode cX11_adds 3 = .ok (.iload_n 2, 1) := by decide +kernel
theorem dX11_adds_4 : decode cX11_adds 4 = .ok (.if_icmp .gt 102, 3) := by decide +kernel
theorem dX11_adds_7 : decode cX11_adds 7 = .ok (.aload_n 0, 1) := by decide +kernel
theorem dX11_adds_8 : decode cX11_adds 8 = .ok (.getfield 117, 3) := by decide +kernel
theorem dX11_adds_11 : decode cX11_adds 11 = .ok (.iload_n 3, 1) := by decide +kernel
theorem dX11_adds_12 : decode cX11_adds 12 = .ok (.iconst 0, 1) := by decide +kernel
theorem dX11_adds_13 : decode cX11_adds 13 = .ok (.iastore, 1) := by decide +kernel
theorem dX11_adds_14 : decode cX11_adds 14 = .ok (.aload_n 0, 1) := by decide +kernel
theorem dX11_adds_15 : decode cX11_adds 15 = .ok (.getfield 120, 3) := by decide +kernel
theorem dX11_adds_18 : decode cX11_adds 18 = .ok (.iload_n 3, 1) := by decide +kernel
theorem dX11_adds_19 : decode cX11_adds 19 = .ok (.ldc_w 355, 3) := by decide +kernel
theorem dX11_adds_22 : decode cX11_adds 22 = .ok (.iastore, 1) := by decide +kernel
theorem dX11_adds_23 : decode cX11_adds 23 = .ok (.iconst 0, 1) := by decide +kernel
theorem dX11_adds_24 : decode cX11_adds 24 = .ok (.istore 4, 2) := by decide +kernel
theorem dX11_adds_26 : decode cX11_adds 26 = .ok (.iload 4, 2) := by decide +kernel
theorem dX11_adds_28 : decode cX11_adds 28 = .ok (.bipush 9, 2) := by decide +kernel
theorem dX11_adds_30 : decode cX11_adds 30 = .ok (.if_icmp .ge 70, 3) := by decide +kernel
theorem dX11_adds_33 : decode cX11_adds 33 = .ok (.iload 4, 2) := by decide +kernel
theorem dX11_adds_35 : decode cX11_adds 35 = .ok (.iload_n 1, 1) := by decide +kernel
theorem dX11_adds_36 : decode cX11_adds 36 = .ok (.imul, 1) := by decide +kernel
theorem dX11_adds_37 : decode cX11_adds 37 = .ok (.iload_n 3, 1) := by decide +kernel
theorem dX11_adds_38 : decode cX11_adds 38 = .ok (.if_icmp .gt 62, 3) := by decide +kernel
theorem dX11_adds_41 : decode cX11_adds 41 = .ok (.aload_n 0, 1) := by decide +kernel
theorem dX11_adds_42 : decode cX11_adds 42 = .ok (.getfield 117, 3) := by decide +kernel
theorem dX11_adds_45 : decode cX11_adds 45 = .ok (.iload_n 3, 1) := by decide +kernel
theorem dX11_adds_46 : decode cX11_adds 46 = .ok (.aload_n 0, 1) := by decide +kernel
theorem dX11_adds_47 : decode cX11_adds 47 = .ok (.getfield 117, 3) := by decide +kernel
theorem dX11_adds_50 : decode cX11_adds 50 = .ok (.iload_n 3, 1) := by decide +kernel
theorem dX11_adds_51 : decode cX11_adds 51 = .ok (.iaload, 1) := by decide +kernel
theorem dX11_adds_52 : decode cX11_adds 52 = .ok (.aload_n 0, 1) := by decide +kernel
theorem dX11_adds_53 : decode cX11_adds 53 = .ok (.getfield 111, 3) := by decide +kernel
theorem dX11_adds_56 : decode cX11_adds 56 = .ok (.iload_n 3, 1) := by decide +kernel
theorem dX11_adds_57 : decode cX11_adds 57 = .ok (.iload 4, 2) := by decide +kernel
theorem dX11_adds_59 : decode cX11_adds 59 = .ok (.iload_n 1, 1) := by decide +kernel
theorem dX11_adds_60 : decode cX11_adds 60 = .ok (.imul, 1) := by decide +kernel
theorem dX11_adds_61 : decode cX11_adds 61 = .ok (.isub, 1) := by decide +kernel
theorem dX11_adds_62 : decode cX11_adds 62 = .ok (.iaload, 1) := by decide +kernel
theorem dX11_adds_63 : decode cX11_adds 63 = .ok (.iadd, 1) := by decide +kernel
theorem dX11_adds_64 : decode cX11_adds 64 = .ok (.iastore, 1) := by decide +kernel
theorem dX11_adds_65 : decode cX11_adds 65 = .ok (.aload_n 0, 1) := by decide +kernel
theorem dX11_adds_66 : decode cX11_adds 66 = .ok (.getfield 120, 3) := by decide +kernel
theorem dX11_adds_69 : decode cX11_adds 69 = .ok (.iload_n 3, 1) := by decide +kernel
theorem dX11_adds_70 : decode cX11_adds 70 = .ok (.aload_n 0, 1) := by decide +kernel
theorem dX11_adds_71 : decode cX11_adds 71 = .ok (.getfield 120, 3) := by decide +kernel
theorem dX11_adds_74 : decode cX11_adds 74 = .ok (.iload_n 3, 1) := by decide +kernel
theorem dX11_adds_75 : decode cX11_adds 75 = .ok (.iaload, 1) := by decide +kernel
theorem dX11_adds_76 : decode cX11_adds 76 = .ok (.aload_n 0, 1) := by decide +kernel
theorem dX11_adds_77 : decode cX11_adds 77 = .ok (.getfield 114, 3) := by decide +kernel
theorem dX11_adds_80 : decode cX11_adds 80 = .ok (.iload_n 3, 1) := by decide +kernel
theorem dX11_adds_81 : decode cX11_adds 81 = .ok (.iload 4, 2) := by decide +kernel
theorem dX11_adds_83 : decode cX11_adds 83 = .ok (.iload_n 1, 1) := by decide +kernel
theorem dX11_adds_84 : decode cX11_adds 84 = .ok (.imul, 1) := by decide +kernel
theorem dX11_adds_85 : decode cX11_adds 85 = .ok (.isub, 1) := by decide +kernel
theorem dX11_adds_86 : decode cX11_adds 86 = .ok (.iaload, 1) := by decide +kernel
theorem dX11_adds_87 : decode cX11_adds 87 = .ok (.iload 4, 2) := by decide +kernel
theorem dX11_adds_89 : decode cX11_adds 89 = .ok (.iadd, 1) := by decide +kernel
theorem dX11_adds_90 : decode cX11_adds 90 = .ok (.invokestatic 286, 3) := by decide +kernel
theorem dX11_adds_93 : decode cX11_adds 93 = .ok (.iastore, 1) := by decide +kernel
theorem dX11_adds_94 : decode cX11_adds 94 = .ok (.iinc 4 1, 3) := by decide +kernel
theorem dX11_adds_97 : decode cX11_adds 97 = .ok (.goto (-71), 3) := by decide +kernel
theorem dX11_adds_100 : decode cX11_adds 100 = .ok (.iinc 3 1, 3) := by decide +kernel
theorem dX11_adds_103 : decode cX11_adds 103 = .ok (.goto (-101), 3) := by decide +kernel
theorem dX11_adds_106 : decode cX11_adds 106 = .ok (.iconst 0, 1) := by decide +kernel
theorem dX11_adds_107 : decode cX11_adds 107 = .ok (.istore_n 3, 1) := by decide +kernel
theorem dX11_adds_108 : decode cX11_adds 108 = .ok (.iload_n 3, 1) := by decide +kernel
theorem dX11_adds_109 : decode cX11_adds 109 = .ok (.iload_n 2, 1) := by decide +kernel
theorem dX11_adds_110 : decode cX11_adds 110 = .ok (.if_icmp .gt 33, 3) := by decide +kernel
theorem dX11_adds_113 : decode cX11_adds 113 = .ok (.aload_n 0, 1) := by decide +kernel
theorem dX11_adds_114 : decode cX11_adds 114 = .ok (.getfield 111, 3) := by decide +kernel
theorem dX11_adds_117 : decode cX11_adds 117 = .ok (.iload_n 3, 1) := by decide +kernel
theorem dX11_adds_118 : decode cX11_adds 118 = .ok (.aload_n 0, 1) := by decide +kernel
theorem dX11_adds_119 : decode cX11_adds 119 = .ok (.getfield 117, 3) := by decide +kernel
theorem dX11_adds_122 : decode cX11_adds 122 = .ok (.iload_n 3, 1) := by decide +kernel
theorem dX11_adds_123 : decode cX11_adds 123 = .ok (.iaload, 1) := by decide +kernel
theorem dX11_adds_124 : decode cX11_adds 124 = .ok (.iastore, 1) := by decide +kernel
theorem dX11_adds_125 : decode cX11_adds 125 = .ok (.aload_n 0, 1) := by decide +kernel
theorem dX11_adds_126 : decode cX11_adds 126 = .ok (.getfield 114, 3) := by decide +kernel
theorem dX11_adds_129 : decode cX11_adds 129 = .ok (.iload_n 3, 1) := by decide +kernel
theorem dX11_adds_130 : decode cX11_adds 130 = .ok (.aload_n 0, 1) := by decide +kernel
theorem dX11_adds_131 : decode cX11_adds 131 = .ok (.getfield 120, 3) := by decide +kernel
theorem dX11_adds_134 : decode cX11_adds 134 = .ok (.iload_n 3, 1) := by decide +kernel
theorem dX11_adds_135 : decode cX11_adds 135 = .ok (.iaload, 1) := by decide +kernel
theorem dX11_adds_136 : decode cX11_adds 136 = .ok (.iastore, 1) := by decide +kernel
theorem dX11_adds_137 : decode cX11_adds 137 = .ok (.iinc 3 1, 3) := by decide +kernel
theorem dX11_adds_140 : decode cX11_adds 140 = .ok (.goto (-32), 3) := by decide +kernel
theorem dX11_adds_143 : decode cX11_adds 143 = .ok (.return_, 1) := by decide +kernel
theorem dX11_byEighths_0 : decode cX11_byEighths 0 = .ok (.iload_n 1, 1) := by decide +kernel
theorem dX11_byEighths_1 : decode cX11_byEighths 1 = .ok (.iconst 1, 1) := by decide +kernel
theorem dX11_byEighths_2 : decode cX11_byEighths 2 = .ok (.bipush 8, 2) := by decide +kernel
theorem dX11_byEighths_4 : decode cX11_byEighths 4 = .ok (.invokestatic 129, 3) := by decide +kernel
theorem dX11_byEighths_7 : decode cX11_byEighths 7 = .ok (.ifCond .eq 31, 3) := by decide +kernel
theorem dX11_byEighths_10 : decode cX11_byEighths 10 = .ok (.iload_n 2, 1) := by decide +kernel
theorem dX11_byEighths_11 : decode cX11_byEighths 11 = .ok (.iconst 0, 1) := by decide +kernel
theorem dX11_byEighths_12 : decode cX11_byEighths 12 = .ok (.sipush 16320, 3) := by decide +kernel
theorem dX11_byEighths_15 : decode cX11_byEighths 15 = .ok (.invokestatic 129, 3) := by decide +kernel
theorem dX11_byEighths_18 : decode cX11_byEighths 18 = .ok (.ifCond .eq 20, 3) := by decide +kernel
theorem dX11_byEighths_21 : decode cX11_byEighths 21 = .ok (.iload_n 3, 1) := by decide +kernel
theorem dX11_byEighths_22 : decode cX11_byEighths 22 = .ok (.iconst 0, 1) := by decide +kernel
theorem dX11_byEighths_23 : decode cX11_byEighths 23 = .ok (.iconst 1, 1) := by decide +kernel
theorem dX11_byEighths_24 : decode cX11_byEighths 24 = .ok (.invokestatic 129, 3) := by decide +kernel
theorem dX11_byEighths_27 : decode cX11_byEighths 27 = .ok (.ifCond .eq 11, 3) := by decide +kernel
theorem dX11_byEighths_30 : decode cX11_byEighths 30 = .ok (.iload_n 1, 1) := by decide +kernel
theorem dX11_byEighths_31 : decode cX11_byEighths 31 = .ok (.aload_n 0, 1) := by decide +kernel
theorem dX11_byEighths_32 : decode cX11_byEighths 32 = .ok (.getfield 155, 3) := by decide +kernel
theorem dX11_byEighths_35 : decode cX11_byEighths 35 = .ok (.if_icmp .le 5, 3) := by decide +kernel
theorem dX11_byEighths_38 : decode cX11_byEighths 38 = .ok (.iconst (-1), 1) := by decide +kernel
theorem dX11_byEighths_39 : decode cX11_byEighths 39 = .ok (.ireturn, 1) := by decide +kernel
theorem dX11_byEighths_40 : decode cX11_byEighths 40 = .ok (.aload_n 0, 1) := by decide +kernel
theorem dX11_byEighths_41 : decode cX11_byEighths 41 = .ok (.iconst 0, 1) := by decide +kernel
theorem dX11_byEighths_42 : decode cX11_byEighths 42 = .ok (.putfield 155, 3) := by decide +kernel
theorem dX11_byEighths_45 : decode cX11_byEighths 45 = .ok (.iconst 0, 1) := by decide +kernel
theorem dX11_byEighths_46 : decode cX11_byEighths 46 = .ok (.istore 4, 2) := by decide +kernel
theorem dX11_byEighths_48 : decode cX11_byEighths 48 = .ok (.iload 4, 2) := by decide +kernel
theorem dX11_byEighths_50 : decode cX11_byEighths 50 = .ok (.iload_n 2, 1) := by decide +kernel
theorem dX11_byEighths_51 : decode cX11_byEighths 51 = .ok (.if_icmp .gt 45, 3) := by decide +kernel
theorem dX11_byEighths_54 : decode cX11_byEighths 54 = .ok (.aload_n 0, 1) := by decide +kernel
theorem dX11_byEighths_55 : decode cX11_byEighths 55 = .ok (.getfield 111, 3) := by decide +kernel
theorem dX11_byEighths_58 : decode cX11_byEighths 58 = .ok (.iload 4, 2) := by decide +kernel
theorem dX11_byEighths_60 : decode cX11_byEighths 60 = .ok (.iload 4, 2) := by decide +kernel
theorem dX11_byEighths_62 : decode cX11_byEighths 62 = .ok (.ifCond .ne 7, 3) := by decide +kernel
theorem dX11_byEighths_65 : decode cX11_byEighths 65 = .ok (.iconst 1, 1) := by decide +kernel
theorem dX11_byEighths_66 : decode cX11_byEighths 66 = .ok (.goto 4, 3) := by decide +kernel
theorem dX11_byEighths_69 : decode cX11_byEighths 69 = .ok (.iconst 0, 1) := by decide +kernel
theorem dX11_byEighths_70 : decode cX11_byEighths 70 = .ok (.iastore, 1) := by decide +kernel
theorem dX11_byEighths_71 : decode cX11_byEighths 71 = .ok (.aload_n 0, 1) := by decide +kernel
theorem dX11_byEighths_72 : decode cX11_byEighths 72 = .ok (.getfield 114, 3) := by decide +kernel
theorem dX11_byEighths_75 : decode cX11_byEighths 75 = .ok (.iload 4, 2) := by decide +kernel
theorem dX11_byEighths_77 : decode cX11_byEighths 77 = .ok (.iload 4, 2) := by decide +kernel
theorem dX11_byEighths_79 : decode cX11_byEighths 79 = .ok (.ifCond .ne 7, 3) := by decide +kernel
theorem dX11_byEighths_82 : decode cX11_byEighths 82 = .ok (.iconst 0, 1) := by decide +kernel
theorem dX11_byEighths_83 : decode cX11_byEighths 83 = .ok (.goto 6, 3) := by decide +kernel
theorem dX11_byEighths_86 : decode cX11_byEighths 86 = .ok (.ldc_w 355, 3) := by decide +kernel
theorem dX11_byEighths_89 : decode cX11_byEighths 89 = .ok (.iastore, 1) := by decide +kernel
theorem dX11_byEighths_90 : decode cX11_byEighths 90 = .ok (.iinc 4 1, 3) := by decide +kernel
theorem dX11_byEighths_93 : decode cX11_byEighths 93 = .ok (.goto (-45), 3) := by decide +kernel
theorem dX11_byEighths_96 : decode cX11_byEighths 96 = .ok (.iconst 0, 1) := by decide +kernel
theorem dX11_byEighths_97 : decode cX11_byEighths 97 = .ok (.istore 4, 2) := by decide +kernel
theorem dX11_byEighths_99 : decode cX11_byEighths 99 = .ok (.iload 4, 2) := by decide +kernel
theorem dX11_byEighths_101 : decode cX11_byEighths 101 = .ok (.iload_n 1, 1) := by decide +kernel
theorem dX11_byEighths_102 : decode cX11_byEighths 102 = .ok (.if_icmp .ge 20, 3) := by decide +kernel
theorem dX11_byEighths_105 : decode cX11_byEighths 105 = .ok (.aload_n 0, 1) := by decide +kernel
theorem dX11_byEighths_106 : decode cX11_byEighths 106 = .ok (.aload_n 0, 1) := by decide +kernel
theorem dX11_byEighths_107 : decode cX11_byEighths 107 = .ok (.iload 4, 2) := by decide +kernel
theorem dX11_byEighths_109 : decode cX11_byEighths 109 = .ok (.invokevirtual 399, 3) := by decide +kernel
theorem dX11_byEighths_112 : decode cX11_byEighths 112 = .ok (.iload_n 2, 1) := by decide +kernel
theorem dX11_byEighths_113 : decode cX11_byEighths 113 = .ok (.invokevirtual 402, 3) := by decide +kernel
theorem dX11_byEighths_116 : decode cX11_byEighths 116 = .ok (.iinc 4 1, 3) := by decide +kernel
theorem dX11_byEighths_119 : decode cX11_byEighths 119 = .ok (.goto (-20), 3) := by decide +kernel
theorem dX11_byEighths_122 : decode cX11_byEighths 122 = .ok (.iload_n 3, 1) := by decide +kernel
theorem dX11_byEighths_123 : decode cX11_byEighths 123 = .ok (.ifCond .ne 10, 3) := by decide +kernel
theorem dX11_byEighths_126 : decode cX11_byEighths 126 = .ok (.aload_n 0, 1) := by decide +kernel
theorem dX11_byEighths_127 : decode cX11_byEighths 127 = .ok (.getfield 111, 3) := by decide +kernel
theorem dX11_byEighths_130 : decode cX11_byEighths 130 = .ok (.iload_n 2, 1) := by decide +kernel
theorem dX11_byEighths_131 : decode cX11_byEighths 131 = .ok (.iaload, 1) := by decide +kernel
theorem dX11_byEighths_132 : decode cX11_byEighths 132 = .ok (.ireturn, 1) := by decide +kernel
theorem dX11_byEighths_133 : decode cX11_byEighths 133 = .ok (.aload_n 0, 1) := by decide +kernel
theorem dX11_byEighths_134 : decode cX11_byEighths 134 = .ok (.getfield 114, 3) := by decide +kernel
theorem dX11_byEighths_137 : decode cX11_byEighths 137 = .ok (.iload_n 2, 1) := by decide +kernel
theorem dX11_byEighths_138 : decode cX11_byEighths 138 = .ok (.iaload, 1) := by decide +kernel
theorem dX11_byEighths_139 : decode cX11_byEighths 139 = .ok (.ldc_w 355, 3) := by decide +kernel
theorem dX11_byEighths_142 : decode cX11_byEighths 142 = .ok (.if_icmp .lt 8, 3) := by decide +kernel
theorem dX11_byEighths_145 : decode cX11_byEighths 145 = .ok (.bipush (-2), 2) := by decide +kernel
theorem dX11_byEighths_147 : decode cX11_byEighths 147 = .ok (.goto 9, 3) := by decide +kernel
theorem dX11_byEighths_150 : decode cX11_byEighths 150 = .ok (.aload_n 0, 1) := by decide +kernel
theorem dX11_byEighths_151 : decode cX11_byEighths 151 = .ok (.getfield 114, 3) := by decide +kernel
theorem dX11_byEighths_154 : decode cX11_byEighths 154 = .ok (.iload_n 2, 1) := by decide +kernel
theorem dX11_byEighths_155 : decode cX11_byEighths 155 = .ok (.iaload, 1) := by decide +kernel
theorem dX11_byEighths_156 : decode cX11_byEighths 156 = .ok (.ireturn, 1) := by decide +kernel
theorem dX11_readings_0 : decode cX11_readings 0 = .ok (.iload_n 1, 1) := by decide +kernel
theorem dX11_readings_1 : decode cX11_readings 1 = .ok (.iconst 0, 1) := by decide +kernel
theorem dX11_readings_2 : decode cX11_readings 2 = .ok (.iconst 2, 1) := by decide +kernel
theorem dX11_readings_3 : decode cX11_readings 3 = .ok (.invokestatic 129, 3) := by decide +kernel
theorem dX11_readings_6 : decode cX11_readings 6 = .ok (.ifCond .eq 26, 3) := by decide +kernel
theorem dX11_readings_9 : decode cX11_readings 9 = .ok (.aload_n 0, 1) := by decide +kernel
theorem dX11_readings_10 : decode cX11_readings 10 = .ok (.getfield 133, 3) := by decide +kernel
theorem dX11_readings_13 : decode cX11_readings 13 = .ok (.ifCond .eq 19, 3) := by decide +kernel
theorem dX11_readings_16 : decode cX11_readings 16 = .ok (.iconst 2, 1) := by decide +kernel
theorem dX11_readings_17 : decode cX11_readings 17 = .ok (.aload_n 0, 1) := by decide +kernel
theorem dX11_readings_18 : decode cX11_readings 18 = .ok (.getfield 133, 3) := by decide +kernel
theorem dX11_readings_21 : decode cX11_readings 21 = .ok (.invokestatic 384, 3) := by decide +kernel
theorem dX11_readings_24 : decode cX11_readings 24 = .ok (.imul, 1) := by decide +kernel
theorem dX11_readings_25 : decode cX11_readings 25 = .ok (.aload_n 0, 1) := by decide +kernel
theorem dX11_readings_26 : decode cX11_readings 26 = .ok (.getfield 155, 3) := by decide +kernel
theorem dX11_readings_29 : decode cX11_readings 29 = .ok (.if_icmp .le 5, 3) := by decide +kernel
theorem dX11_readings_32 : decode cX11_readings 32 = .ok (.iconst (-1), 1) := by decide +kernel
theorem dX11_readings_33 : decode cX11_readings 33 = .ok (.ireturn, 1) := by decide +kernel
theorem dX11_readings_34 : decode cX11_readings 34 = .ok (.aload_n 0, 1) := by decide +kernel
theorem dX11_readings_35 : decode cX11_readings 35 = .ok (.iconst 0, 1) := by decide +kernel
theorem dX11_readings_36 : decode cX11_readings 36 = .ok (.putfield 155, 3) := by decide +kernel
theorem dX11_readings_39 : decode cX11_readings 39 = .ok (.iconst 0, 1) := by decide +kernel
theorem dX11_readings_40 : decode cX11_readings 40 = .ok (.istore_n 2, 1) := by decide +kernel
theorem dX11_readings_41 : decode cX11_readings 41 = .ok (.bipush (-2), 2) := by decide +kernel
theorem dX11_readings_43 : decode cX11_readings 43 = .ok (.istore_n 3, 1) := by decide +kernel
theorem dX11_readings_44 : decode cX11_readings 44 = .ok (.iconst 0, 1) := by decide +kernel
theorem dX11_readings_45 : decode cX11_readings 45 = .ok (.istore 4, 2) := by decide +kernel
theorem dX11_readings_47 : decode cX11_readings 47 = .ok (.iconst 0, 1) := by decide +kernel
theorem dX11_readings_48 : decode cX11_readings 48 = .ok (.istore 5, 2) := by decide +kernel
theorem dX11_readings_50 : decode cX11_readings 50 = .ok (.iconst 0, 1) := by decide +kernel
theorem dX11_readings_51 : decode cX11_readings 51 = .ok (.istore 6, 2) := by decide +kernel
theorem dX11_readings_53 : decode cX11_readings 53 = .ok (.iconst 0, 1) := by decide +kernel
theorem dX11_readings_54 : decode cX11_readings 54 = .ok (.istore 7, 2) := by decide +kernel
theorem dX11_readings_56 : decode cX11_readings 56 = .ok (.iload 7, 2) := by decide +kernel
theorem dX11_readings_58 : decode cX11_readings 58 = .ok (.bipush 16, 2) := by decide +kernel
theorem dX11_readings_60 : decode cX11_readings 60 = .ok (.if_icmp .ge 83, 3) := by decide +kernel
theorem dX11_readings_63 : decode cX11_readings 63 = .ok (.aload_n 0, 1) := by decide +kernel
theorem dX11_readings_64 : decode cX11_readings 64 = .ok (.iload 7, 2) := by decide +kernel
theorem dX11_readings_66 : decode cX11_readings 66 = .ok (.invokevirtual 141, 3) := by decide +kernel
theorem dX11_readings_69 : decode cX11_readings 69 = .ok (.ifCond .ne 6, 3) := by decide +kernel
theorem dX11_readings_72 : decode cX11_readings 72 = .ok (.goto 65, 3) := by decide +kernel
theorem dX11_readings_75 : decode cX11_readings 75 = .ok (.aload_n 0, 1) := by decide +kernel
theorem dX11_readings_76 : decode cX11_readings 76 = .ok (.iload 6, 2) := by decide +kernel
theorem dX11_readings_78 : decode cX11_readings 78 = .ok (.invokevirtual 399, 3) := by decide +kernel
theorem dX11_readings_81 : decode cX11_readings 81 = .ok (.aload_n 0, 1) := by decide +kernel
theorem dX11_readings_82 : decode cX11_readings 82 = .ok (.iload 6, 2) := by decide +kernel
theorem dX11_readings_84 : decode cX11_readings 84 = .ok (.iconst 1, 1) := by decide +kernel
theorem dX11_readings_85 : decode cX11_readings 85 = .ok (.iadd, 1) := by decide +kernel
theorem dX11_readings_86 : decode cX11_readings 86 = .ok (.invokevirtual 399, 3) := by decide +kernel
theorem dX11_readings_89 : decode cX11_readings 89 = .ok (.isub, 1) := by decide +kernel
theorem dX11_readings_90 : decode cX11_readings 90 = .ok (.istore 8, 2) := by decide +kernel
theorem dX11_readings_92 : decode cX11_readings 92 = .ok (.iload 6, 2) := by decide +kernel
theorem dX11_readings_94 : decode cX11_readings 94 = .ok (.iconst 2, 1) := by decide +kernel
theorem dX11_readings_95 : decode cX11_readings 95 = .ok (.iadd, 1) := by decide +kernel
theorem dX11_readings_96 : decode cX11_readings 96 = .ok (.istore 6, 2) := by decide +kernel
theorem dX11_readings_98 : decode cX11_readings 98 = .ok (.iload 8, 2) := by decide +kernel
theorem dX11_readings_100 : decode cX11_readings 100 = .ok (.ifCond .gt 6, 3) := by decide +kernel
theorem dX11_readings_103 : decode cX11_readings 103 = .ok (.goto 34, 3) := by decide +kernel
theorem dX11_readings_106 : decode cX11_readings 106 = .ok (.iload_n 2, 1) := by decide +kernel
theorem dX11_readings_107 : decode cX11_readings 107 = .ok (.iconst 1, 1) := by decide +kernel
theorem dX11_readings_108 : decode cX11_readings 108 = .ok (.iload 7, 2) := by decide +kernel
theorem dX11_readings_110 : decode cX11_readings 110 = .ok (.ishl, 1) := by decide +kernel
theorem dX11_readings_111 : decode cX11_readings 111 = .ok (.ior, 1) := by decide +kernel
theorem dX11_readings_112 : decode cX11_readings 112 = .ok (.istore_n 2, 1) := by decide +kernel
theorem dX11_readings_113 : decode cX11_readings 113 = .ok (.iload 5, 2) := by decide +kernel
theorem dX11_readings_115 : decode cX11_readings 115 = .ok (.iload 8, 2) := by decide +kernel
theorem dX11_readings_117 : decode cX11_readings 117 = .ok (.iadd, 1) := by decide +kernel
theorem dX11_readings_118 : decode cX11_readings 118 = .ok (.istore 5, 2) := by decide +kernel
theorem dX11_readings_120 : decode cX11_readings 120 = .ok (.iload 8, 2) := by decide +kernel
theorem dX11_readings_122 : decode cX11_readings 122 = .ok (.iload 4, 2) := by decide +kernel
theorem dX11_readings_124 : decode cX11_readings 124 = .ok (.if_icmp .gt 6, 3) := by decide +kernel
theorem dX11_readings_127 : decode cX11_readings 127 = .ok (.goto 10, 3) := by decide +kernel
theorem dX11_readings_130 : decode cX11_readings 130 = .ok (.iload 8, 2) := by decide +kernel
theorem dX11_readings_132 : decode cX11_readings 132 = .ok (.istore 4, 2) := by decide +kernel
theorem dX11_readings_134 : decode cX11_readings 134 = .ok (.iload 7, 2) := by decide +kernel
theorem dX11_readings_136 : decode cX11_readings 136 = .ok (.istore_n 3, 1) := by decide +kernel
theorem dX11_readings_137 : decode cX11_readings 137 = .ok (.iinc 7 1, 3) := by decide +kernel
theorem dX11_readings_140 : decode cX11_readings 140 = .ok (.goto (-84), 3) := by decide +kernel
theorem dX11_readings_143 : decode cX11_readings 143 = .ok (.iload_n 1, 1) := by decide +kernel
theorem dX11_readings_144 : decode cX11_readings 144 = .ok (.ifCond .ne 7, 3) := by decide +kernel
theorem dX11_readings_147 : decode cX11_readings 147 = .ok (.iload_n 2, 1) := by decide +kernel
theorem dX11_readings_148 : decode cX11_readings 148 = .ok (.goto 14, 3) := by decide +kernel
theorem dX11_readings_151 : decode cX11_readings 151 = .ok (.iload_n 1, 1) := by decide +kernel
theorem dX11_readings_152 : decode cX11_readings 152 = .ok (.iconst 1, 1) := by decide +kernel
theorem dX11_readings_153 : decode cX11_readings 153 = .ok (.if_icmp .ne 7, 3) := by decide +kernel
theorem dX11_readings_156 : decode cX11_readings 156 = .ok (.iload_n 3, 1) := by decide +kernel
theorem dX11_readings_157 : decode cX11_readings 157 = .ok (.goto 5, 3) := by decide +kernel
theorem dX11_readings_160 : decode cX11_readings 160 = .ok (.iload 5, 2) := by decide +kernel
theorem dX11_readings_162 : decode cX11_readings 162 = .ok (.ireturn, 1) := by decide +kernel
theorem dX11_hose_0 : decode cX11_hose 0 = .ok (.iload_n 1, 1) := by decide +kernel
theorem dX11_hose_1 : decode cX11_hose 1 = .ok (.iconst 1, 1) := by decide +kernel
theorem dX11_hose_2 : decode cX11_hose 2 = .ok (.bipush 12, 2) := by decide +kernel
theorem dX11_hose_4 : decode cX11_hose 4 = .ok (.invokestatic 129, 3) := by decide +kernel
theorem dX11_hose_7 : decode cX11_hose 7 = .ok (.ifCond .eq 40, 3) := by decide +kernel
theorem dX11_hose_10 : decode cX11_hose 10 = .ok (.iload_n 2, 1) := by decide +kernel
theorem dX11_hose_11 : decode cX11_hose 11 = .ok (.iconst 1, 1) := by decide +kernel
theorem dX11_hose_12 : decode cX11_hose 12 = .ok (.bipush 6, 2) := by decide +kernel
theorem dX11_hose_14 : decode cX11_hose 14 = .ok (.invokestatic 129, 3) := by decide +kernel
theorem dX11_hose_17 : decode cX11_hose 17 = .ok (.ifCond .eq 30, 3) := by decide +kernel
theorem dX11_hose_20 : decode cX11_hose 20 = .ok (.iload_n 3, 1) := by decide +kernel
theorem dX11_hose_21 : decode cX11_hose 21 = .ok (.iconst 0, 1) := by decide +kernel
theorem dX11_hose_22 : decode cX11_hose 22 = .ok (.iload_n 1, 1) := by decide +kernel
theorem dX11_hose_23 : decode cX11_hose 23 = .ok (.iconst 1, 1) := by decide +kernel
theorem dX11_hose_24 : decode cX11_hose 24 = .ok (.isub, 1) := by decide +kernel
theorem dX11_hose_25 : decode cX11_hose 25 = .ok (.invokestatic 129, 3) := by decide +kernel
theorem dX11_hose_28 : decode cX11_hose 28 = .ok (.ifCond .ne 9, 3) := by decide +kernel
theorem dX11_hose_31 : decode cX11_hose 31 = .ok (.iload_n 3, 1) := by decide +kernel
theorem dX11_hose_32 : decode cX11_hose 32 = .ok (.bipush 100, 2) := by decide +kernel
theorem dX11_hose_34 : decode cX11_hose 34 = .ok (.if_icmp .ne 13, 3) := by decide +kernel
theorem dX11_hose_37 : decode cX11_hose 37 = .ok (.iload_n 1, 1) := by decide +kernel
theorem dX11_hose_38 : decode cX11_hose 38 = .ok (.iload_n 2, 1) := by decide +kernel
theorem dX11_hose_39 : decode cX11_hose 39 = .ok (.imul, 1) := by decide +kernel
theorem dX11_hose_40 : decode cX11_hose 40 = .ok (.aload_n 0, 1) := by decide +kernel
theorem dX11_hose_41 : decode cX11_hose 41 = .ok (.getfield 155, 3) := by decide +kernel
theorem dX11_hose_44 : decode cX11_hose 44 = .ok (.if_icmp .le 5, 3) := by decide +kernel
theorem dX11_hose_47 : decode cX11_hose 47 = .ok (.iconst (-1), 1) := by decide +kernel
theorem dX11_hose_48 : decode cX11_hose 48 = .ok (.ireturn, 1) := by decide +kernel
theorem dX11_hose_49 : decode cX11_hose 49 = .ok (.aload_n 0, 1) := by decide +kernel
theorem dX11_hose_50 : decode cX11_hose 50 = .ok (.iconst 0, 1) := by decide +kernel
theorem dX11_hose_51 : decode cX11_hose 51 = .ok (.putfield 155, 3) := by decide +kernel
theorem dX11_hose_54 : decode cX11_hose 54 = .ok (.iconst 0, 1) := by decide +kernel
theorem dX11_hose_55 : decode cX11_hose 55 = .ok (.istore 4, 2) := by decide +kernel
theorem dX11_hose_57 : decode cX11_hose 57 = .ok (.iconst 0, 1) := by decide +kernel
theorem dX11_hose_58 : decode cX11_hose 58 = .ok (.istore 5, 2) := by decide +kernel
theorem dX11_hose_60 : decode cX11_hose 60 = .ok (.iload 5, 2) := by decide +kernel
theorem dX11_hose_62 : decode cX11_hose 62 = .ok (.iload_n 2, 1) := by decide +kernel
theorem dX11_hose_63 : decode cX11_hose 63 = .ok (.if_icmp .ge 17, 3) := by decide +kernel
theorem dX11_hose_66 : decode cX11_hose 66 = .ok (.aload_n 0, 1) := by decide +kernel
theorem dX11_hose_67 : decode cX11_hose 67 = .ok (.getfield 123, 3) := by decide +kernel
theorem dX11_hose_70 : decode cX11_hose 70 = .ok (.iload 5, 2) := by decide +kernel
theorem dX11_hose_72 : decode cX11_hose 72 = .ok (.iconst 0, 1) := by decide +kernel
theorem dX11_hose_73 : decode cX11_hose 73 = .ok (.iastore, 1) := by decide +kernel
theorem dX11_hose_74 : decode cX11_hose 74 = .ok (.iinc 5 1, 3) := by decide +kernel
theorem dX11_hose_77 : decode cX11_hose 77 = .ok (.goto (-17), 3) := by decide +kernel
theorem dX11_hose_80 : decode cX11_hose 80 = .ok (.iconst 0, 1) := by decide +kernel
theorem dX11_hose_81 : decode cX11_hose 81 = .ok (.istore 5, 2) := by decide +kernel
theorem dX11_hose_83 : decode cX11_hose 83 = .ok (.iload 5, 2) := by decide +kernel
theorem dX11_hose_85 : decode cX11_hose 85 = .ok (.iload_n 1, 1) := by decide +kernel
theorem dX11_hose_86 : decode cX11_hose 86 = .ok (.if_icmp .ge 127, 3) := by decide +kernel
theorem dX11_hose_89 : decode cX11_hose 89 = .ok (.iconst 0, 1) := by decide +kernel
theorem dX11_hose_90 : decode cX11_hose 90 = .ok (.istore 6, 2) := by decide +kernel
theorem dX11_hose_92 : decode cX11_hose 92 = .ok (.iconst 1, 1) := by decide +kernel
theorem dX11_hose_93 : decode cX11_hose 93 = .ok (.istore 7, 2) := by decide +kernel
theorem dX11_hose_95 : decode cX11_hose 95 = .ok (.iload 7, 2) := by decide +kernel
theorem dX11_hose_97 : decode cX11_hose 97 = .ok (.iload_n 2, 1) := by decide +kernel
theorem dX11_hose_98 : decode cX11_hose 98 = .ok (.if_icmp .ge 58, 3) := by decide +kernel
theorem dX11_hose_101 : decode cX11_hose 101 = .ok (.aload_n 0, 1) := by decide +kernel
theorem dX11_hose_102 : decode cX11_hose 102 = .ok (.getfield 123, 3) := by decide +kernel
theorem dX11_hose_105 : decode cX11_hose 105 = .ok (.iload 7, 2) := by decide +kernel
theorem dX11_hose_107 : decode cX11_hose 107 = .ok (.iaload, 1) := by decide +kernel
theorem dX11_hose_108 : decode cX11_hose 108 = .ok (.iconst 2, 1) := by decide +kernel
theorem dX11_hose_109 : decode cX11_hose 109 = .ok (.aload_n 0, 1) := by decide +kernel
theorem dX11_hose_110 : decode cX11_hose 110 = .ok (.iload_n 2, 1) := by decide +kernel
theorem dX11_hose_111 : decode cX11_hose 111 = .ok (.iload 5, 2) := by decide +kernel
theorem dX11_hose_113 : decode cX11_hose 113 = .ok (.imul, 1) := by decide +kernel
theorem dX11_hose_114 : decode cX11_hose 114 = .ok (.iload 7, 2) := by decide +kernel
theorem dX11_hose_116 : decode cX11_hose 116 = .ok (.iadd, 1) := by decide +kernel
theorem dX11_hose_117 : decode cX11_hose 117 = .ok (.invokevirtual 399, 3) := by decide +kernel
theorem dX11_hose_120 : decode cX11_hose 120 = .ok (.imul, 1) := by decide +kernel
theorem dX11_hose_121 : decode cX11_hose 121 = .ok (.iadd, 1) := by decide +kernel
theorem dX11_hose_122 : decode cX11_hose 122 = .ok (.aload_n 0, 1) := by decide +kernel
theorem dX11_hose_123 : decode cX11_hose 123 = .ok (.getfield 123, 3) := by decide +kernel
theorem dX11_hose_126 : decode cX11_hose 126 = .ok (.iload 6, 2) := by decide +kernel
theorem dX11_hose_128 : decode cX11_hose 128 = .ok (.iaload, 1) := by decide +kernel
theorem dX11_hose_129 : decode cX11_hose 129 = .ok (.iconst 2, 1) := by decide +kernel
theorem dX11_hose_130 : decode cX11_hose 130 = .ok (.aload_n 0, 1) := by decide +kernel
theorem dX11_hose_131 : decode cX11_hose 131 = .ok (.iload_n 2, 1) := by decide +kernel
theorem dX11_hose_132 : decode cX11_hose 132 = .ok (.iload 5, 2) := by decide +kernel
theorem dX11_hose_134 : decode cX11_hose 134 = .ok (.imul, 1) := by decide +kernel
theorem dX11_hose_135 : decode cX11_hose 135 = .ok (.iload 6, 2) := by decide +kernel
theorem dX11_hose_137 : decode cX11_hose 137 = .ok (.iadd, 1) := by decide +kernel
theorem dX11_hose_138 : decode cX11_hose 138 = .ok (.invokevirtual 399, 3) := by decide +kernel
theorem dX11_hose_141 : decode cX11_hose 141 = .ok (.imul, 1) := by decide +kernel
theorem dX11_hose_142 : decode cX11_hose 142 = .ok (.iadd, 1) := by decide +kernel
theorem dX11_hose_143 : decode cX11_hose 143 = .ok (.if_icmp .ge 7, 3) := by decide +kernel
theorem dX11_hose_146 : decode cX11_hose 146 = .ok (.iload 7, 2) := by decide +kernel
theorem dX11_hose_148 : decode cX11_hose 148 = .ok (.istore 6, 2) := by decide +kernel
theorem dX11_hose_150 : decode cX11_hose 150 = .ok (.iinc 7 1, 3) := by decide +kernel
theorem dX11_hose_153 : decode cX11_hose 153 = .ok (.goto (-58), 3) := by decide +kernel
theorem dX11_hose_156 : decode cX11_hose 156 = .ok (.aload_n 0, 1) := by decide +kernel
theorem dX11_hose_157 : decode cX11_hose 157 = .ok (.getfield 123, 3) := by decide +kernel
theorem dX11_hose_160 : decode cX11_hose 160 = .ok (.iload 6, 2) := by decide +kernel
theorem dX11_hose_162 : decode cX11_hose 162 = .ok (.aload_n 0, 1) := by decide +kernel
theorem dX11_hose_163 : decode cX11_hose 163 = .ok (.getfield 123, 3) := by decide +kernel
theorem dX11_hose_166 : decode cX11_hose 166 = .ok (.iload 6, 2) := by decide +kernel
theorem dX11_hose_168 : decode cX11_hose 168 = .ok (.iaload, 1) := by decide +kernel
theorem dX11_hose_169 : decode cX11_hose 169 = .ok (.iconst 2, 1) := by decide +kernel
theorem dX11_hose_170 : decode cX11_hose 170 = .ok (.aload_n 0, 1) := by decide +kernel
theorem dX11_hose_171 : decode cX11_hose 171 = .ok (.iload_n 2, 1) := by decide +kernel
theorem dX11_hose_172 : decode cX11_hose 172 = .ok (.iload 5, 2) := by decide +kernel
theorem dX11_hose_174 : decode cX11_hose 174 = .ok (.imul, 1) := by decide +kernel
theorem dX11_hose_175 : decode cX11_hose 175 = .ok (.iload 6, 2) := by decide +kernel
theorem dX11_hose_177 : decode cX11_hose 177 = .ok (.iadd, 1) := by decide +kernel
theorem dX11_hose_178 : decode cX11_hose 178 = .ok (.invokevirtual 399, 3) := by decide +kernel
theorem dX11_hose_181 : decode cX11_hose 181 = .ok (.imul, 1) := by decide +kernel
theorem dX11_hose_182 : decode cX11_hose 182 = .ok (.iadd, 1) := by decide +kernel
theorem dX11_hose_183 : decode cX11_hose 183 = .ok (.iastore, 1) := by decide +kernel
theorem dX11_hose_184 : decode cX11_hose 184 = .ok (.aload_n 0, 1) := by decide +kernel
theorem dX11_hose_185 : decode cX11_hose 185 = .ok (.getfield 126, 3) := by decide +kernel
theorem dX11_hose_188 : decode cX11_hose 188 = .ok (.iload 5, 2) := by decide +kernel
theorem dX11_hose_190 : decode cX11_hose 190 = .ok (.iload 6, 2) := by decide +kernel
theorem dX11_hose_192 : decode cX11_hose 192 = .ok (.iastore, 1) := by decide +kernel
theorem dX11_hose_193 : decode cX11_hose 193 = .ok (.iload 4, 2) := by decide +kernel
theorem dX11_hose_195 : decode cX11_hose 195 = .ok (.aload_n 0, 1) := by decide +kernel
theorem dX11_hose_196 : decode cX11_hose 196 = .ok (.getfield 123, 3) := by decide +kernel
theorem dX11_hose_199 : decode cX11_hose 199 = .ok (.iload 6, 2) := by decide +kernel
theorem dX11_hose_201 : decode cX11_hose 201 = .ok (.iaload, 1) := by decide +kernel
theorem dX11_hose_202 : decode cX11_hose 202 = .ok (.invokestatic 289, 3) := by decide +kernel
theorem dX11_hose_205 : decode cX11_hose 205 = .ok (.istore 4, 2) := by decide +kernel
theorem dX11_hose_207 : decode cX11_hose 207 = .ok (.iinc 5 1, 3) := by decide +kernel
theorem dX11_hose_210 : decode cX11_hose 210 = .ok (.goto (-127), 3) := by decide +kernel
theorem dX11_hose_213 : decode cX11_hose 213 = .ok (.iload_n 3, 1) := by decide +kernel
theorem dX11_hose_214 : decode cX11_hose 214 = .ok (.bipush 100, 2) := by decide +kernel
theorem dX11_hose_216 : decode cX11_hose 216 = .ok (.if_icmp .ne 8, 3) := by decide +kernel
theorem dX11_hose_219 : decode cX11_hose 219 = .ok (.iload 4, 2) := by decide +kernel
theorem dX11_hose_221 : decode cX11_hose 221 = .ok (.goto 9, 3) := by decide +kernel
theorem dX11_hose_224 : decode cX11_hose 224 = .ok (.aload_n 0, 1) := by decide +kernel
theorem dX11_hose_225 : decode cX11_hose 225 = .ok (.getfield 126, 3) := by decide +kernel
theorem dX11_hose_228 : decode cX11_hose 228 = .ok (.iload_n 3, 1) := by decide +kernel
theorem dX11_hose_229 : decode cX11_hose 229 = .ok (.iaload, 1) := by decide +kernel
theorem dX11_hose_230 : decode cX11_hose 230 = .ok (.ireturn, 1) := by decide +kernel
theorem dX11_seed_0 : decode cX11_seed 0 = .ok (.iload_n 1, 1) := by decide +kernel
theorem dX11_seed_1 : decode cX11_seed 1 = .ok (.iconst 0, 1) := by decide +kernel
theorem dX11_seed_2 : decode cX11_seed 2 = .ok (.ldc_w 405, 3) := by decide +kernel
theorem dX11_seed_5 : decode cX11_seed 5 = .ok (.invokestatic 129, 3) := by decide +kernel
theorem dX11_seed_8 : decode cX11_seed 8 = .ok (.ifCond .ne 5, 3) := by decide +kernel
theorem dX11_seed_11 : decode cX11_seed 11 = .ok (.iconst 0, 1) := by decide +kernel
theorem dX11_seed_12 : decode cX11_seed 12 = .ok (.ireturn, 1) := by decide +kernel
theorem dX11_seed_13 : decode cX11_seed 13 = .ok (.aload_n 0, 1) := by decide +kernel
theorem dX11_seed_14 : decode cX11_seed 14 = .ok (.getfield 7, 3) := by decide +kernel
theorem dX11_seed_17 : decode cX11_seed 17 = .ok (.bipush 74, 2) := by decide +kernel
theorem dX11_seed_19 : decode cX11_seed 19 = .ok (.iload_n 1, 1) := by decide +kernel
theorem dX11_seed_20 : decode cX11_seed 20 = .ok (.iastore, 1) := by decide +kernel
theorem dX11_seed_21 : decode cX11_seed 21 = .ok (.iconst 1, 1) := by decide +kernel
theorem dX11_seed_22 : decode cX11_seed 22 = .ok (.ireturn, 1) := by decide +kernel
theorem dX11_keep_0 : decode cX11_keep 0 = .ok (.aload_n 0, 1) := by decide +kernel
theorem dX11_keep_1 : decode cX11_keep 1 = .ok (.iconst 1, 1) := by decide +kernel
theorem dX11_keep_2 : decode cX11_keep 2 = .ok (.putfield 406, 3) := by decide +kernel
theorem dX11_keep_5 : decode cX11_keep 5 = .ok (.aload_n 0, 1) := by decide +kernel
theorem dX11_keep_6 : decode cX11_keep 6 = .ok (.aload_n 0, 1) := by decide +kernel
theorem dX11_keep_7 : decode cX11_keep 7 = .ok (.getfield 133, 3) := by decide +kernel
theorem dX11_keep_10 : decode cX11_keep 10 = .ok (.putfield 410, 3) := by decide +kernel
theorem dX11_keep_13 : decode cX11_keep 13 = .ok (.aload_n 0, 1) := by decide +kernel
theorem dX11_keep_14 : decode cX11_keep 14 = .ok (.aload_n 0, 1) := by decide +kernel
theorem dX11_keep_15 : decode cX11_keep 15 = .ok (.getfield 145, 3) := by decide +kernel
theorem dX11_keep_18 : decode cX11_keep 18 = .ok (.putfield 413, 3) := by decide +kernel
theorem dX11_keep_21 : decode cX11_keep 21 = .ok (.aload_n 0, 1) := by decide +kernel
theorem dX11_keep_22 : decode cX11_keep 22 = .ok (.getfield 7, 3) := by decide +kernel
theorem dX11_keep_25 : decode cX11_keep 25 = .ok (.aload_n 0, 1) := by decide +kernel
theorem dX11_keep_26 : decode cX11_keep 26 = .ok (.getfield 16, 3) := by decide +kernel
theorem dX11_keep_29 : decode cX11_keep 29 = .ok (.invokestatic 298, 3) := by decide +kernel
theorem dX11_keep_32 : decode cX11_keep 32 = .ok (.aload_n 0, 1) := by decide +kernel
theorem dX11_keep_33 : decode cX11_keep 33 = .ok (.getfield 7, 3) := by decide +kernel
theorem dX11_keep_36 : decode cX11_keep 36 = .ok (.bipush 73, 2) := by decide +kernel
theorem dX11_keep_38 : decode cX11_keep 38 = .ok (.iaload, 1) := by decide +kernel
theorem dX11_keep_39 : decode cX11_keep 39 = .ok (.ireturn, 1) := by decide +kernel
theorem dX11_undo_0 : decode cX11_undo 0 = .ok (.aload_n 0, 1) := by decide +kernel
theorem dX11_undo_1 : decode cX11_undo 1 = .ok (.getfield 406, 3) := by decide +kernel
theorem dX11_undo_4 : decode cX11_undo 4 = .ok (.ifCond .ne 5, 3) := by decide +kernel
theorem dX11_undo_7 : decode cX11_undo 7 = .ok (.iconst 0, 1) := by decide +kernel
theorem dX11_undo_8 : decode cX11_undo 8 = .ok (.ireturn, 1) := by decide +kernel
theorem dX11_undo_9 : decode cX11_undo 9 = .ok (.iconst 0, 1) := by decide +kernel
theorem dX11_undo_10 : decode cX11_undo 10 = .ok (.istore_n 1, 1) := by decide +kernel
theorem dX11_undo_11 : decode cX11_undo 11 = .ok (.iload_n 1, 1) := by decide +kernel
theorem dX11_undo_12 : decode cX11_undo 12 = .ok (.bipush 16, 2) := by decide +kernel
theorem dX11_undo_14 : decode cX11_undo 14 = .ok (.if_icmp .ge 64, 3) := by decide +kernel
theorem dX11_undo_17 : decode cX11_undo 17 = .ok (.iconst 0, 1) := by decide +kernel
theorem dX11_undo_18 : decode cX11_undo 18 = .ok (.istore_n 2, 1) := by decide +kernel
theorem dX11_undo_19 : decode cX11_undo 19 = .ok (.iload_n 2, 1) := by decide +kernel
theorem dX11_undo_20 : decode cX11_undo 20 = .ok (.bipush 48, 2) := by decide +kernel
theorem dX11_undo_22 : decode cX11_undo 22 = .ok (.if_icmp .ge 50, 3) := by decide +kernel
theorem dX11_undo_25 : decode cX11_undo 25 = .ok (.aload_n 0, 1) := by decide +kernel
theorem dX11_undo_26 : decode cX11_undo 26 = .ok (.getfield 7, 3) := by decide +kernel
theorem dX11_undo_29 : decode cX11_undo 29 = .ok (.iload_n 2, 1) := by decide +kernel
theorem dX11_undo_30 : decode cX11_undo 30 = .ok (.iload_n 1, 1) := by decide +kernel
theorem dX11_undo_31 : decode cX11_undo 31 = .ok (.iadd, 1) := by decide +kernel
theorem dX11_undo_32 : decode cX11_undo 32 = .ok (.aload_n 0, 1) := by decide +kernel
theorem dX11_undo_33 : decode cX11_undo 33 = .ok (.iload_n 1, 1) := by decide +kernel
theorem dX11_undo_34 : decode cX11_undo 34 = .ok (.invokevirtual 141, 3) := by decide +kernel
theorem dX11_undo_37 : decode cX11_undo 37 = .ok (.ifCond .eq 25, 3) := by decide +kernel
theorem dX11_undo_40 : decode cX11_undo 40 = .ok (.aload_n 0, 1) := by decide +kernel
theorem dX11_undo_41 : decode cX11_undo 41 = .ok (.getfield 410, 3) := by decide +kernel
theorem dX11_undo_44 : decode cX11_undo 44 = .ok (.iload_n 1, 1) := by decide +kernel
theorem dX11_undo_45 : decode cX11_undo 45 = .ok (.invokestatic 137, 3) := by decide +kernel
theorem dX11_undo_48 : decode cX11_undo 48 = .ok (.ifCond .eq 14, 3) := by decide +kernel
theorem dX11_undo_51 : decode cX11_undo 51 = .ok (.aload_n 0, 1) := by decide +kernel
theorem dX11_undo_52 : decode cX11_undo 52 = .ok (.getfield 16, 3) := by decide +kernel
theorem dX11_undo_55 : decode cX11_undo 55 = .ok (.iload_n 2, 1) := by decide +kernel
theorem dX11_undo_56 : decode cX11_undo 56 = .ok (.iload_n 1, 1) := by decide +kernel
theorem dX11_undo_57 : decode cX11_undo 57 = .ok (.iadd, 1) := by decide +kernel
theorem dX11_undo_58 : decode cX11_undo 58 = .ok (.iaload, 1) := by decide +kernel
theorem dX11_undo_59 : decode cX11_undo 59 = .ok (.goto 4, 3) := by decide +kernel
theorem dX11_undo_62 : decode cX11_undo 62 = .ok (.iconst 0, 1) := by decide +kernel
theorem dX11_undo_63 : decode cX11_undo 63 = .ok (.iastore, 1) := by decide +kernel
theorem dX11_undo_64 : decode cX11_undo 64 = .ok (.iload_n 2, 1) := by decide +kernel
theorem dX11_undo_65 : decode cX11_undo 65 = .ok (.bipush 16, 2) := by decide +kernel
theorem dX11_undo_67 : decode cX11_undo 67 = .ok (.iadd, 1) := by decide +kernel
theorem dX11_undo_68 : decode cX11_undo 68 = .ok (.istore_n 2, 1) := by decide +kernel
theorem dX11_undo_69 : decode cX11_undo 69 = .ok (.goto (-50), 3) := by decide +kernel
theorem dX11_undo_72 : decode cX11_undo 72 = .ok (.iinc 1 1, 3) := by decide +kernel
theorem dX11_undo_75 : decode cX11_undo 75 = .ok (.goto (-64), 3) := by decide +kernel
theorem dX11_undo_78 : decode cX11_undo 78 = .ok (.iconst 0, 1) := by decide +kernel
theorem dX11_undo_79 : decode cX11_undo 79 = .ok (.istore_n 1, 1) := by decide +kernel
theorem dX11_undo_80 : decode cX11_undo 80 = .ok (.iload_n 1, 1) := by decide +kernel
theorem dX11_undo_81 : decode cX11_undo 81 = .ok (.aload_n 0, 1) := by decide +kernel
theorem dX11_undo_82 : decode cX11_undo 82 = .ok (.getfield 145, 3) := by decide +kernel
theorem dX11_undo_85 : decode cX11_undo 85 = .ok (.if_icmp .ge 39, 3) := by decide +kernel
theorem dX11_undo_88 : decode cX11_undo 88 = .ok (.aload_n 0, 1) := by decide +kernel
theorem dX11_undo_89 : decode cX11_undo 89 = .ok (.getfield 7, 3) := by decide +kernel
theorem dX11_undo_92 : decode cX11_undo 92 = .ok (.bipush 48, 2) := by decide +kernel
theorem dX11_undo_94 : decode cX11_undo 94 = .ok (.iload_n 1, 1) := by decide +kernel
theorem dX11_undo_95 : decode cX11_undo 95 = .ok (.iadd, 1) := by decide +kernel
theorem dX11_undo_96 : decode cX11_undo 96 = .ok (.iload_n 1, 1) := by decide +kernel
theorem dX11_undo_97 : decode cX11_undo 97 = .ok (.aload_n 0, 1) := by decide +kernel
theorem dX11_undo_98 : decode cX11_undo 98 = .ok (.getfield 413, 3) := by decide +kernel
theorem dX11_undo_101 : decode cX11_undo 101 = .ok (.if_icmp .ge 15, 3) := by decide +kernel
theorem dX11_undo_104 : decode cX11_undo 104 = .ok (.aload_n 0, 1) := by decide +kernel
theorem dX11_undo_105 : decode cX11_undo 105 = .ok (.getfield 16, 3) := by decide +kernel
theorem dX11_undo_108 : decode cX11_undo 108 = .ok (.bipush 48, 2) := by decide +kernel
theorem dX11_undo_110 : decode cX11_undo 110 = .ok (.iload_n 1, 1) := by decide +kernel
theorem dX11_undo_111 : decode cX11_undo 111 = .ok (.iadd, 1) := by decide +kernel
theorem dX11_undo_112 : decode cX11_undo 112 = .ok (.iaload, 1) := by decide +kernel
theorem dX11_undo_113 : decode cX11_undo 113 = .ok (.goto 4, 3) := by decide +kernel
theorem dX11_undo_116 : decode cX11_undo 116 = .ok (.iconst 1, 1) := by decide +kernel
theorem dX11_undo_117 : decode cX11_undo 117 = .ok (.iastore, 1) := by decide +kernel
theorem dX11_undo_118 : decode cX11_undo 118 = .ok (.iinc 1 1, 3) := by decide +kernel
theorem dX11_undo_121 : decode cX11_undo 121 = .ok (.goto (-41), 3) := by decide +kernel
theorem dX11_undo_124 : decode cX11_undo 124 = .ok (.aload_n 0, 1) := by decide +kernel
theorem dX11_undo_125 : decode cX11_undo 125 = .ok (.getfield 7, 3) := by decide +kernel
theorem dX11_undo_128 : decode cX11_undo 128 = .ok (.bipush 72, 2) := by decide +kernel
theorem dX11_undo_130 : decode cX11_undo 130 = .ok (.aload_n 0, 1) := by decide +kernel
theorem dX11_undo_131 : decode cX11_undo 131 = .ok (.getfield 16, 3) := by decide +kernel
theorem dX11_undo_134 : decode cX11_undo 134 = .ok (.bipush 72, 2) := by decide +kernel
theorem dX11_undo_136 : decode cX11_undo 136 = .ok (.iaload, 1) := by decide +kernel
theorem dX11_undo_137 : decode cX11_undo 137 = .ok (.iastore, 1) := by decide +kernel
theorem dX11_undo_138 : decode cX11_undo 138 = .ok (.aload_n 0, 1) := by decide +kernel
theorem dX11_undo_139 : decode cX11_undo 139 = .ok (.getfield 7, 3) := by decide +kernel
theorem dX11_undo_142 : decode cX11_undo 142 = .ok (.bipush 73, 2) := by decide +kernel
theorem dX11_undo_144 : decode cX11_undo 144 = .ok (.aload_n 0, 1) := by decide +kernel
theorem dX11_undo_145 : decode cX11_undo 145 = .ok (.getfield 16, 3) := by decide +kernel
theorem dX11_undo_148 : decode cX11_undo 148 = .ok (.bipush 73, 2) := by decide +kernel
theorem dX11_undo_150 : decode cX11_undo 150 = .ok (.iaload, 1) := by decide +kernel
theorem dX11_undo_151 : decode cX11_undo 151 = .ok (.iastore, 1) := by decide +kernel
theorem dX11_undo_152 : decode cX11_undo 152 = .ok (.aload_n 0, 1) := by decide +kernel
theorem dX11_undo_153 : decode cX11_undo 153 = .ok (.getfield 7, 3) := by decide +kernel
theorem dX11_undo_156 : decode cX11_undo 156 = .ok (.bipush 74, 2) := by decide +kernel
theorem dX11_undo_158 : decode cX11_undo 158 = .ok (.aload_n 0, 1) := by decide +kernel
theorem dX11_undo_159 : decode cX11_undo 159 = .ok (.getfield 16, 3) := by decide +kernel
theorem dX11_undo_162 : decode cX11_undo 162 = .ok (.bipush 74, 2) := by decide +kernel
theorem dX11_undo_164 : decode cX11_undo 164 = .ok (.iaload, 1) := by decide +kernel
theorem dX11_undo_165 : decode cX11_undo 165 = .ok (.iastore, 1) := by decide +kernel
theorem dX11_undo_166 : decode cX11_undo 166 = .ok (.iconst 1, 1) := by decide +kernel
theorem dX11_undo_167 : decode cX11_undo 167 = .ok (.ireturn, 1) := by decide +kernel
theorem dX11_check_0 : decode cX11_check 0 = .ok (.iload_n 1, 1) := by decide +kernel
theorem dX11_check_1 : decode cX11_check 1 = .ok (.iconst 0, 1) := by decide +kernel
theorem dX11_check_2 : decode cX11_check 2 = .ok (.bipush 16, 2) := by decide +kernel
theorem dX11_check_4 : decode cX11_check 4 = .ok (.invokestatic 129, 3) := by decide +kernel
theorem dX11_check_7 : decode cX11_check 7 = .ok (.ifCond .eq 11, 3) := by decide +kernel
theorem dX11_check_10 : decode cX11_check 10 = .ok (.iload_n 1, 1) := by decide +kernel
theorem dX11_check_11 : decode cX11_check 11 = .ok (.aload_n 0, 1) := by decide +kernel
theorem dX11_check_12 : decode cX11_check 12 = .ok (.getfield 155, 3) := by decide +kernel
theorem dX11_check_15 : decode cX11_check 15 = .ok (.if_icmp .le 6, 3) := by decide +kernel
theorem dX11_check_18 : decode cX11_check 18 = .ok (.bipush (-2), 2) := by decide +kernel
theorem dX11_check_20 : decode cX11_check 20 = .ok (.ireturn, 1) := by decide +kernel
theorem dX11_check_21 : decode cX11_check 21 = .ok (.aload_n 0, 1) := by decide +kernel
theorem dX11_check_22 : decode cX11_check 22 = .ok (.iconst 0, 1) := by decide +kernel
theorem dX11_check_23 : decode cX11_check 23 = .ok (.putfield 155, 3) := by decide +kernel
theorem dX11_check_26 : decode cX11_check 26 = .ok (.iconst 0, 1) := by decide +kernel
theorem dX11_check_27 : decode cX11_check 27 = .ok (.istore_n 2, 1) := by decide +kernel
theorem dX11_check_28 : decode cX11_check 28 = .ok (.iload_n 2, 1) := by decide +kernel
theorem dX11_check_29 : decode cX11_check 29 = .ok (.iload_n 1, 1) := by decide +kernel
theorem dX11_check_30 : decode cX11_check 30 = .ok (.if_icmp .ge 42, 3) := by decide +kernel
theorem dX11_check_33 : decode cX11_check 33 = .ok (.aload_n 0, 1) := by decide +kernel
theorem dX11_check_34 : decode cX11_check 34 = .ok (.iload_n 2, 1) := by decide +kernel
theorem dX11_check_35 : decode cX11_check 35 = .ok (.invokevirtual 399, 3) := by decide +kernel
theorem dX11_check_38 : decode cX11_check 38 = .ok (.aload_n 0, 1) := by decide +kernel
theorem dX11_check_39 : decode cX11_check 39 = .ok (.iload_n 2, 1) := by decide +kernel
theorem dX11_check_40 : decode cX11_check 40 = .ok (.invokevirtual 141, 3) := by decide +kernel
theorem dX11_check_43 : decode cX11_check 43 = .ok (.ifCond .eq 15, 3) := by decide +kernel
theorem dX11_check_46 : decode cX11_check 46 = .ok (.aload_n 0, 1) := by decide +kernel
theorem dX11_check_47 : decode cX11_check 47 = .ok (.getfield 7, 3) := by decide +kernel
theorem dX11_check_50 : decode cX11_check 50 = .ok (.bipush 16, 2) := by decide +kernel
theorem dX11_check_52 : decode cX11_check 52 = .ok (.iload_n 2, 1) := by decide +kernel
theorem dX11_check_53 : decode cX11_check 53 = .ok (.iadd, 1) := by decide +kernel
theorem dX11_check_54 : decode cX11_check 54 = .ok (.iaload, 1) := by decide +kernel
theorem dX11_check_55 : decode cX11_check 55 = .ok (.goto 6, 3) := by decide +kernel
theorem dX11_check_58 : decode cX11_check 58 = .ok (.sipush 255, 3) := by decide +kernel
theorem dX11_check_61 : decode cX11_check 61 = .ok (.if_icmp .eq 5, 3) := by decide +kernel
theorem dX11_check_64 : decode cX11_check 64 = .ok (.iload_n 2, 1) := by decide +kernel
theorem dX11_check_65 : decode cX11_check 65 = .ok (.ireturn, 1) := by decide +kernel
theorem dX11_check_66 : decode cX11_check 66 = .ok (.iinc 2 1, 3) := by decide +kernel
theorem dX11_check_69 : decode cX11_check 69 = .ok (.goto (-41), 3) := by decide +kernel
theorem dX11_check_72 : decode cX11_check 72 = .ok (.iconst (-1), 1) := by decide +kernel
theorem dX11_check_73 : decode cX11_check 73 = .ok (.ireturn, 1) := by decide +kernel
theorem dX11_openPipes_0 : decode cX11_openPipes 0 = .ok (.iconst 0, 1) := by decide +kernel
theorem dX11_openPipes_1 : decode cX11_openPipes 1 = .ok (.istore_n 1, 1) := by decide +kernel
theorem dX11_openPipes_2 : decode cX11_openPipes 2 = .ok (.iconst 0, 1) := by decide +kernel
theorem dX11_openPipes_3 : decode cX11_openPipes 3 = .ok (.istore_n 2, 1) := by decide +kernel
theorem dX11_openPipes_4 : decode cX11_openPipes 4 = .ok (.iload_n 2, 1) := by decide +kernel
theorem dX11_openPipes_5 : decode cX11_openPipes 5 = .ok (.aload_n 0, 1) := by decide +kernel
theorem dX11_openPipes_6 : decode cX11_openPipes 6 = .ok (.getfield 145, 3) := by decide +kernel
theorem dX11_openPipes_9 : decode cX11_openPipes 9 = .ok (.if_icmp .ge 21, 3) := by decide +kernel
theorem dX11_openPipes_12 : decode cX11_openPipes 12 = .ok (.aload_n 0, 1) := by decide +kernel
theorem dX11_openPipes_13 : decode cX11_openPipes 13 = .ok (.iload_n 2, 1) := by decide +kernel
theorem dX11_openPipes_14 : decode cX11_openPipes 14 = .ok (.invokevirtual 148, 3) := by decide +kernel
theorem dX11_openPipes_17 : decode cX11_openPipes 17 = .ok (.ifCond .eq 7, 3) := by decide +kernel
theorem dX11_openPipes_20 : decode cX11_openPipes 20 = .ok (.iload_n 1, 1) := by decide +kernel
theorem dX11_openPipes_21 : decode cX11_openPipes 21 = .ok (.iconst 1, 1) := by decide +kernel
theorem dX11_openPipes_22 : decode cX11_openPipes 22 = .ok (.iadd, 1) := by decide +kernel
theorem dX11_openPipes_23 : decode cX11_openPipes 23 = .ok (.istore_n 1, 1) := by decide +kernel
theorem dX11_openPipes_24 : decode cX11_openPipes 24 = .ok (.iinc 2 1, 3) := by decide +kernel
theorem dX11_openPipes_27 : decode cX11_openPipes 27 = .ok (.goto (-23), 3) := by decide +kernel
theorem dX11_openPipes_30 : decode cX11_openPipes 30 = .ok (.iload_n 1, 1) := by decide +kernel
theorem dX11_openPipes_31 : decode cX11_openPipes 31 = .ok (.ireturn, 1) := by decide +kernel
theorem dX11_count_0 : decode cX11_count 0 = .ok (.iload_n 1, 1) := by decide +kernel
theorem dX11_count_1 : decode cX11_count 1 = .ok (.tableswitch 126 0 10 #[59, 67, 72, 77, 82, 90, 95, 100, 108, 114, 121], 59) := by decide +kernel
theorem dX11_count_60 : decode cX11_count 60 = .ok (.aload_n 0, 1) := by decide +kernel
theorem dX11_count_61 : decode cX11_count 61 = .ok (.getfield 7, 3) := by decide +kernel
theorem dX11_count_64 : decode cX11_count 64 = .ok (.bipush 73, 2) := by decide +kernel
theorem dX11_count_66 : decode cX11_count 66 = .ok (.iaload, 1) := by decide +kernel
theorem dX11_count_67 : decode cX11_count 67 = .ok (.ireturn, 1) := by decide +kernel
theorem dX11_count_68 : decode cX11_count 68 = .ok (.aload_n 0, 1) := by decide +kernel
theorem dX11_count_69 : decode cX11_count 69 = .ok (.getfield 133, 3) := by decide +kernel
theorem dX11_count_72 : decode cX11_count 72 = .ok (.ireturn, 1) := by decide +kernel
theorem dX11_count_73 : decode cX11_count 73 = .ok (.aload_n 0, 1) := by decide +kernel
theorem dX11_count_74 : decode cX11_count 74 = .ok (.getfield 145, 3) := by decide +kernel
theorem dX11_count_77 : decode cX11_count 77 = .ok (.ireturn, 1) := by decide +kernel
theorem dX11_count_78 : decode cX11_count 78 = .ok (.aload_n 0, 1) := by decide +kernel
theorem dX11_count_79 : decode cX11_count 79 = .ok (.invokevirtual 416, 3) := by decide +kernel
theorem dX11_count_82 : decode cX11_count 82 = .ok (.ireturn, 1) := by decide +kernel
theorem dX11_count_83 : decode cX11_count 83 = .ok (.aload_n 0, 1) := by decide +kernel
theorem dX11_count_84 : decode cX11_count 84 = .ok (.getfield 7, 3) := by decide +kernel
theorem dX11_count_87 : decode cX11_count 87 = .ok (.bipush 72, 2) := by decide +kernel
theorem dX11_count_89 : decode cX11_count 89 = .ok (.iaload, 1) := by decide +kernel
theorem dX11_count_90 : decode cX11_count 90 = .ok (.ireturn, 1) := by decide +kernel
theorem dX11_count_91 : decode cX11_count 91 = .ok (.aload_n 0, 1) := by decide +kernel
theorem dX11_count_92 : decode cX11_count 92 = .ok (.getfield 255, 3) := by decide +kernel
theorem dX11_count_95 : decode cX11_count 95 = .ok (.ireturn, 1) := by decide +kernel
theorem dX11_count_96 : decode cX11_count 96 = .ok (.aload_n 0, 1) := by decide +kernel
theorem dX11_count_97 : decode cX11_count 97 = .ok (.getfield 155, 3) := by decide +kernel
theorem dX11_count_100 : decode cX11_count 100 = .ok (.ireturn, 1) := by decide +kernel
theorem dX11_count_101 : decode cX11_count 101 = .ok (.aload_n 0, 1) := by decide +kernel
theorem dX11_count_102 : decode cX11_count 102 = .ok (.getfield 7, 3) := by decide +kernel
theorem dX11_count_105 : decode cX11_count 105 = .ok (.bipush 74, 2) := by decide +kernel
theorem dX11_count_107 : decode cX11_count 107 = .ok (.iaload, 1) := by decide +kernel
theorem dX11_count_108 : decode cX11_count 108 = .ok (.ireturn, 1) := by decide +kernel
theorem dX11_count_109 : decode cX11_count 109 = .ok (.aload_n 0, 1) := by decide +kernel
theorem dX11_count_110 : decode cX11_count 110 = .ok (.iconst 0, 1) := by decide +kernel
theorem dX11_count_111 : decode cX11_count 111 = .ok (.invokevirtual 345, 3) := by decide +kernel
theorem dX11_count_114 : decode cX11_count 114 = .ok (.ireturn, 1) := by decide +kernel
theorem dX11_count_115 : decode cX11_count 115 = .ok (.aload_n 0, 1) := by decide +kernel
theorem dX11_count_116 : decode cX11_count 116 = .ok (.bipush 32, 2) := by decide +kernel
theorem dX11_count_118 : decode cX11_count 118 = .ok (.invokevirtual 345, 3) := by decide +kernel
theorem dX11_count_121 : decode cX11_count 121 = .ok (.ireturn, 1) := by decide +kernel
theorem dX11_count_122 : decode cX11_count 122 = .ok (.aload_n 0, 1) := by decide +kernel
theorem dX11_count_123 : decode cX11_count 123 = .ok (.invokevirtual 419, 3) := by decide +kernel
theorem dX11_count_126 : decode cX11_count 126 = .ok (.ireturn, 1) := by decide +kernel
theorem dX11_count_127 : decode cX11_count 127 = .ok (.iconst (-1), 1) := by decide +kernel
theorem dX11_count_128 : decode cX11_count 128 = .ok (.ireturn, 1) := by decide +kernel
theorem dJ11_isValidCodePoint_9a6ad_0 : decode cJ11_isValidCodePoint_9a6ad 0 = .ok (.iload_n 0, 1) := by decide +kernel
theorem dJ11_isValidCodePoint_9a6ad_1 : decode cJ11_isValidCodePoint_9a6ad 1 = .ok (.bipush 16, 2) := by decide +kernel
theorem dJ11_isValidCodePoint_9a6ad_3 : decode cJ11_isValidCodePoint_9a6ad 3 = .ok (.iushr, 1) := by decide +kernel
theorem dJ11_isValidCodePoint_9a6ad_4 : decode cJ11_isValidCodePoint_9a6ad 4 = .ok (.istore_n 1, 1) := by decide +kernel
theorem dJ11_isValidCodePoint_9a6ad_5 : decode cJ11_isValidCodePoint_9a6ad 5 = .ok (.iload_n 1, 1) := by decide +kernel
theorem dJ11_isValidCodePoint_9a6ad_6 : decode cJ11_isValidCodePoint_9a6ad 6 = .ok (.bipush 17, 2) := by decide +kernel
theorem dJ11_isValidCodePoint_9a6ad_8 : decode cJ11_isValidCodePoint_9a6ad 8 = .ok (.if_icmp .ge 7, 3) := by decide +kernel
theorem dJ11_isValidCodePoint_9a6ad_11 : decode cJ11_isValidCodePoint_9a6ad 11 = .ok (.iconst 1, 1) := by decide +kernel
theorem dJ11_isValidCodePoint_9a6ad_12 : decode cJ11_isValidCodePoint_9a6ad 12 = .ok (.goto 4, 3) := by decide +kernel
theorem dJ11_isValidCodePoint_9a6ad_15 : decode cJ11_isValidCodePoint_9a6ad 15 = .ok (.iconst 0, 1) := by decide +kernel
theorem dJ11_isValidCodePoint_9a6ad_16 : decode cJ11_isValidCodePoint_9a6ad 16 = .ok (.ireturn, 1) := by decide +kernel
theorem dJ11_highSurrogate_5068e_0 : decode cJ11_highSurrogate_5068e 0 = .ok (.iload_n 0, 1) := by decide +kernel
theorem dJ11_highSurrogate_5068e_1 : decode cJ11_highSurrogate_5068e 1 = .ok (.bipush 10, 2) := by decide +kernel
theorem dJ11_highSurrogate_5068e_3 : decode cJ11_highSurrogate_5068e 3 = .ok (.iushr, 1) := by decide +kernel
theorem dJ11_highSurrogate_5068e_4 : decode cJ11_highSurrogate_5068e 4 = .ok (.ldc 110, 2) := by decide +kernel
theorem dJ11_highSurrogate_5068e_6 : decode cJ11_highSurrogate_5068e 6 = .ok (.iadd, 1) := by decide +kernel
theorem dJ11_highSurrogate_5068e_7 : decode cJ11_highSurrogate_5068e 7 = .ok (.i2c, 1) := by decide +kernel
theorem dJ11_highSurrogate_5068e_8 : decode cJ11_highSurrogate_5068e 8 = .ok (.ireturn, 1) := by decide +kernel
theorem dJ11_lowSurrogate_5068e_0 : decode cJ11_lowSurrogate_5068e 0 = .ok (.iload_n 0, 1) := by decide +kernel
theorem dJ11_lowSurrogate_5068e_1 : decode cJ11_lowSurrogate_5068e 1 = .ok (.sipush 1023, 3) := by decide +kernel
theorem dJ11_lowSurrogate_5068e_4 : decode cJ11_lowSurrogate_5068e 4 = .ok (.iand, 1) := by decide +kernel
theorem dJ11_lowSurrogate_5068e_5 : decode cJ11_lowSurrogate_5068e 5 = .ok (.ldc 76, 2) := by decide +kernel
theorem dJ11_lowSurrogate_5068e_7 : decode cJ11_lowSurrogate_5068e 7 = .ok (.iadd, 1) := by decide +kernel
theorem dJ11_lowSurrogate_5068e_8 : decode cJ11_lowSurrogate_5068e 8 = .ok (.i2c, 1) := by decide +kernel
theorem dJ11_lowSurrogate_5068e_9 : decode cJ11_lowSurrogate_5068e 9 = .ok (.ireturn, 1) := by decide +kernel
theorem dJ6_bitCount_0f7a4_0 : decode cJ6_bitCount_0f7a4 0 = .ok (.iload_n 0, 1) := by decide +kernel
theorem dJ6_bitCount_0f7a4_1 : decode cJ6_bitCount_0f7a4 1 = .ok (.iload_n 0, 1) := by decide +kernel
theorem dJ6_bitCount_0f7a4_2 : decode cJ6_bitCount_0f7a4 2 = .ok (.iconst 1, 1) := by decide +kernel
theorem dJ6_bitCount_0f7a4_3 : decode cJ6_bitCount_0f7a4 3 = .ok (.iushr, 1) := by decide +kernel
theorem dJ6_bitCount_0f7a4_4 : decode cJ6_bitCount_0f7a4 4 = .ok (.ldc_w 265, 3) := by decide +kernel
theorem dJ6_bitCount_0f7a4_7 : decode cJ6_bitCount_0f7a4 7 = .ok (.iand, 1) := by decide +kernel
theorem dJ6_bitCount_0f7a4_8 : decode cJ6_bitCount_0f7a4 8 = .ok (.isub, 1) := by decide +kernel
theorem dJ6_bitCount_0f7a4_9 : decode cJ6_bitCount_0f7a4 9 = .ok (.istore_n 0, 1) := by decide +kernel
theorem dJ6_bitCount_0f7a4_10 : decode cJ6_bitCount_0f7a4 10 = .ok (.iload_n 0, 1) := by decide +kernel
theorem dJ6_bitCount_0f7a4_11 : decode cJ6_bitCount_0f7a4 11 = .ok (.ldc_w 266, 3) := by decide +kernel
theorem dJ6_bitCount_0f7a4_14 : decode cJ6_bitCount_0f7a4 14 = .ok (.iand, 1) := by decide +kernel
theorem dJ6_bitCount_0f7a4_15 : decode cJ6_bitCount_0f7a4 15 = .ok (.iload_n 0, 1) := by decide +kernel
theorem dJ6_bitCount_0f7a4_16 : decode cJ6_bitCount_0f7a4 16 = .ok (.iconst 2, 1) := by decide +kernel
theorem dJ6_bitCount_0f7a4_17 : decode cJ6_bitCount_0f7a4 17 = .ok (.iushr, 1) := by decide +kernel
theorem dJ6_bitCount_0f7a4_18 : decode cJ6_bitCount_0f7a4 18 = .ok (.ldc_w 266, 3) := by decide +kernel
theorem dJ6_bitCount_0f7a4_21 : decode cJ6_bitCount_0f7a4 21 = .ok (.iand, 1) := by decide +kernel
theorem dJ6_bitCount_0f7a4_22 : decode cJ6_bitCount_0f7a4 22 = .ok (.iadd, 1) := by decide +kernel
theorem dJ6_bitCount_0f7a4_23 : decode cJ6_bitCount_0f7a4 23 = .ok (.istore_n 0, 1) := by decide +kernel
theorem dJ6_bitCount_0f7a4_24 : decode cJ6_bitCount_0f7a4 24 = .ok (.iload_n 0, 1) := by decide +kernel
theorem dJ6_bitCount_0f7a4_25 : decode cJ6_bitCount_0f7a4 25 = .ok (.iload_n 0, 1) := by decide +kernel
theorem dJ6_bitCount_0f7a4_26 : decode cJ6_bitCount_0f7a4 26 = .ok (.iconst 4, 1) := by decide +kernel
theorem dJ6_bitCount_0f7a4_27 : decode cJ6_bitCount_0f7a4 27 = .ok (.iushr, 1) := by decide +kernel
theorem dJ6_bitCount_0f7a4_28 : decode cJ6_bitCount_0f7a4 28 = .ok (.iadd, 1) := by decide +kernel
theorem dJ6_bitCount_0f7a4_29 : decode cJ6_bitCount_0f7a4 29 = .ok (.ldc_w 267, 3) := by decide +kernel
theorem dJ6_bitCount_0f7a4_32 : decode cJ6_bitCount_0f7a4 32 = .ok (.iand, 1) := by decide +kernel
theorem dJ6_bitCount_0f7a4_33 : decode cJ6_bitCount_0f7a4 33 = .ok (.istore_n 0, 1) := by decide +kernel
theorem dJ6_bitCount_0f7a4_34 : decode cJ6_bitCount_0f7a4 34 = .ok (.iload_n 0, 1) := by decide +kernel
theorem dJ6_bitCount_0f7a4_35 : decode cJ6_bitCount_0f7a4 35 = .ok (.iload_n 0, 1) := by decide +kernel
theorem dJ6_bitCount_0f7a4_36 : decode cJ6_bitCount_0f7a4 36 = .ok (.bipush 8, 2) := by decide +kernel
theorem dJ6_bitCount_0f7a4_38 : decode cJ6_bitCount_0f7a4 38 = .ok (.iushr, 1) := by decide +kernel
theorem dJ6_bitCount_0f7a4_39 : decode cJ6_bitCount_0f7a4 39 = .ok (.iadd, 1) := by decide +kernel
theorem dJ6_bitCount_0f7a4_40 : decode cJ6_bitCount_0f7a4 40 = .ok (.istore_n 0, 1) := by decide +kernel
theorem dJ6_bitCount_0f7a4_41 : decode cJ6_bitCount_0f7a4 41 = .ok (.iload_n 0, 1) := by decide +kernel
theorem dJ6_bitCount_0f7a4_42 : decode cJ6_bitCount_0f7a4 42 = .ok (.iload_n 0, 1) := by decide +kernel
theorem dJ6_bitCount_0f7a4_43 : decode cJ6_bitCount_0f7a4 43 = .ok (.bipush 16, 2) := by decide +kernel
theorem dJ6_bitCount_0f7a4_45 : decode cJ6_bitCount_0f7a4 45 = .ok (.iushr, 1) := by decide +kernel
theorem dJ6_bitCount_0f7a4_46 : decode cJ6_bitCount_0f7a4 46 = .ok (.iadd, 1) := by decide +kernel
theorem dJ6_bitCount_0f7a4_47 : decode cJ6_bitCount_0f7a4 47 = .ok (.istore_n 0, 1) := by decide +kernel
theorem dJ6_bitCount_0f7a4_48 : decode cJ6_bitCount_0f7a4 48 = .ok (.iload_n 0, 1) := by decide +kernel
theorem dJ6_bitCount_0f7a4_49 : decode cJ6_bitCount_0f7a4 49 = .ok (.bipush 63, 2) := by decide +kernel
theorem dJ6_bitCount_0f7a4_51 : decode cJ6_bitCount_0f7a4 51 = .ok (.iand, 1) := by decide +kernel
theorem dJ6_bitCount_0f7a4_52 : decode cJ6_bitCount_0f7a4 52 = .ok (.ireturn, 1) := by decide +kernel
theorem dJ9_max_7cf53_0 : decode cJ9_max_7cf53 0 = .ok (.iload_n 0, 1) := by decide +kernel
theorem dJ9_max_7cf53_1 : decode cJ9_max_7cf53 1 = .ok (.iload_n 1, 1) := by decide +kernel
theorem dJ9_max_7cf53_2 : decode cJ9_max_7cf53 2 = .ok (.if_icmp .lt 7, 3) := by decide +kernel
theorem dJ9_max_7cf53_5 : decode cJ9_max_7cf53 5 = .ok (.iload_n 0, 1) := by decide +kernel
theorem dJ9_max_7cf53_6 : decode cJ9_max_7cf53 6 = .ok (.goto 4, 3) := by decide +kernel
theorem dJ9_max_7cf53_9 : decode cJ9_max_7cf53 9 = .ok (.iload_n 1, 1) := by decide +kernel
theorem dJ9_max_7cf53_10 : decode cJ9_max_7cf53 10 = .ok (.ireturn, 1) := by decide +kernel
theorem dJ9_min_7cf53_0 : decode cJ9_min_7cf53 0 = .ok (.iload_n 0, 1) := by decide +kernel
theorem dJ9_min_7cf53_1 : decode cJ9_min_7cf53 1 = .ok (.iload_n 1, 1) := by decide +kernel
theorem dJ9_min_7cf53_2 : decode cJ9_min_7cf53 2 = .ok (.if_icmp .gt 7, 3) := by decide +kernel
theorem dJ9_min_7cf53_5 : decode cJ9_min_7cf53 5 = .ok (.iload_n 0, 1) := by decide +kernel
theorem dJ9_min_7cf53_6 : decode cJ9_min_7cf53 6 = .ok (.goto 4, 3) := by decide +kernel
theorem dJ9_min_7cf53_9 : decode cJ9_min_7cf53 9 = .ok (.iload_n 1, 1) := by decide +kernel
theorem dJ9_min_7cf53_10 : decode cJ9_min_7cf53 10 = .ok (.ireturn, 1) := by decide +kernel
theorem dJ0_length_8abf5_0 : decode cJ0_length_8abf5 0 = .ok (.aload_n 0, 1) := by decide +kernel
theorem dJ0_length_8abf5_1 : decode cJ0_length_8abf5 1 = .ok (.getfield 9, 3) := by decide +kernel
theorem dJ0_length_8abf5_4 : decode cJ0_length_8abf5 4 = .ok (.arraylength, 1) := by decide +kernel
theorem dJ0_length_8abf5_5 : decode cJ0_length_8abf5 5 = .ok (.aload_n 0, 1) := by decide +kernel
theorem dJ0_length_8abf5_6 : decode cJ0_length_8abf5 6 = .ok (.invokevirtual 335, 3) := by decide +kernel
theorem dJ0_length_8abf5_9 : decode cJ0_length_8abf5 9 = .ok (.ishr, 1) := by decide +kernel
theorem dJ0_length_8abf5_10 : decode cJ0_length_8abf5 10 = .ok (.ireturn, 1) := by decide +kernel
theorem dJ0_indexOf_0f7a4_0 : decode cJ0_indexOf_0f7a4 0 = .ok (.aload_n 0, 1) := by decide +kernel
theorem dJ0_indexOf_0f7a4_1 : decode cJ0_indexOf_0f7a4 1 = .ok (.iload_n 1, 1) := by decide +kernel
theorem dJ0_indexOf_0f7a4_2 : decode cJ0_indexOf_0f7a4 2 = .ok (.iconst 0, 1) := by decide +kernel
theorem dJ0_indexOf_0f7a4_3 : decode cJ0_indexOf_0f7a4 3 = .ok (.invokevirtual 633, 3) := by decide +kernel
theorem dJ0_indexOf_0f7a4_6 : decode cJ0_indexOf_0f7a4 6 = .ok (.ireturn, 1) := by decide +kernel
theorem dJ0_indexOf_7cf53_0 : decode cJ0_indexOf_7cf53 0 = .ok (.aload_n 0, 1) := by decide +kernel
theorem dJ0_indexOf_7cf53_1 : decode cJ0_indexOf_7cf53 1 = .ok (.invokevirtual 492, 3) := by decide +kernel
theorem dJ0_indexOf_7cf53_4 : decode cJ0_indexOf_7cf53 4 = .ok (.ifCond .eq 19, 3) := by decide +kernel
theorem dJ0_indexOf_7cf53_7 : decode cJ0_indexOf_7cf53 7 = .ok (.aload_n 0, 1) := by decide +kernel
theorem dJ0_indexOf_7cf53_8 : decode cJ0_indexOf_7cf53 8 = .ok (.getfield 9, 3) := by decide +kernel
theorem dJ0_indexOf_7cf53_11 : decode cJ0_indexOf_7cf53 11 = .ok (.iload_n 1, 1) := by decide +kernel
theorem dJ0_indexOf_7cf53_12 : decode cJ0_indexOf_7cf53 12 = .ok (.iload_n 2, 1) := by decide +kernel
theorem dJ0_indexOf_7cf53_13 : decode cJ0_indexOf_7cf53 13 = .ok (.aload_n 0, 1) := by decide +kernel
theorem dJ0_indexOf_7cf53_14 : decode cJ0_indexOf_7cf53 14 = .ok (.invokevirtual 505, 3) := by decide +kernel
theorem dJ0_indexOf_7cf53_17 : decode cJ0_indexOf_7cf53 17 = .ok (.invokestatic 637, 3) := by decide +kernel
theorem dJ0_indexOf_7cf53_20 : decode cJ0_indexOf_7cf53 20 = .ok (.goto 16, 3) := by decide +kernel
theorem dJ0_indexOf_7cf53_23 : decode cJ0_indexOf_7cf53 23 = .ok (.aload_n 0, 1) := by decide +kernel
theorem dJ0_indexOf_7cf53_24 : decode cJ0_indexOf_7cf53 24 = .ok (.getfield 9, 3) := by decide +kernel
theorem dJ0_indexOf_7cf53_27 : decode cJ0_indexOf_7cf53 27 = .ok (.iload_n 1, 1) := by decide +kernel
theorem dJ0_indexOf_7cf53_28 : decode cJ0_indexOf_7cf53 28 = .ok (.iload_n 2, 1) := by decide +kernel
theorem dJ0_indexOf_7cf53_29 : decode cJ0_indexOf_7cf53 29 = .ok (.aload_n 0, 1) := by decide +kernel
theorem dJ0_indexOf_7cf53_30 : decode cJ0_indexOf_7cf53 30 = .ok (.invokevirtual 505, 3) := by decide +kernel
theorem dJ0_indexOf_7cf53_33 : decode cJ0_indexOf_7cf53 33 = .ok (.invokestatic 640, 3) := by decide +kernel
theorem dJ0_indexOf_7cf53_36 : decode cJ0_indexOf_7cf53 36 = .ok (.ireturn, 1) := by decide +kernel
theorem dJ0_coder_7d493_0 : decode cJ0_coder_7d493 0 = .ok (.getstatic 38, 3) := by decide +kernel
theorem dJ0_coder_7d493_3 : decode cJ0_coder_7d493 3 = .ok (.ifCond .eq 10, 3) := by decide +kernel
theorem dJ0_coder_7d493_6 : decode cJ0_coder_7d493 6 = .ok (.aload_n 0, 1) := by decide +kernel
theorem dJ0_coder_7d493_7 : decode cJ0_coder_7d493 7 = .ok (.getfield 15, 3) := by decide +kernel
theorem dJ0_coder_7d493_10 : decode cJ0_coder_7d493 10 = .ok (.goto 4, 3) := by decide +kernel
theorem dJ0_coder_7d493_13 : decode cJ0_coder_7d493 13 = .ok (.iconst 1, 1) := by decide +kernel
theorem dJ0_coder_7d493_14 : decode cJ0_coder_7d493 14 = .ok (.ireturn, 1) := by decide +kernel
theorem dJ0_isLatin1_aae02_0 : decode cJ0_isLatin1_aae02 0 = .ok (.getstatic 38, 3) := by decide +kernel
theorem dJ0_isLatin1_aae02_3 : decode cJ0_isLatin1_aae02 3 = .ok (.ifCond .eq 14, 3) := by decide +kernel
theorem dJ0_isLatin1_aae02_6 : decode cJ0_isLatin1_aae02 6 = .ok (.aload_n 0, 1) := by decide +kernel
theorem dJ0_isLatin1_aae02_7 : decode cJ0_isLatin1_aae02 7 = .ok (.getfield 15, 3) := by decide +kernel
theorem dJ0_isLatin1_aae02_10 : decode cJ0_isLatin1_aae02 10 = .ok (.ifCond .ne 7, 3) := by decide +kernel
theorem dJ0_isLatin1_aae02_13 : decode cJ0_isLatin1_aae02 13 = .ok (.iconst 1, 1) := by decide +kernel
theorem dJ0_isLatin1_aae02_14 : decode cJ0_isLatin1_aae02 14 = .ok (.goto 4, 3) := by decide +kernel
theorem dJ0_isLatin1_aae02_17 : decode cJ0_isLatin1_aae02 17 = .ok (.iconst 0, 1) := by decide +kernel
theorem dJ0_isLatin1_aae02_18 : decode cJ0_isLatin1_aae02 18 = .ok (.ireturn, 1) := by decide +kernel
theorem dJ0_checkBoundsBeginEnd_23922_0 : decode cJ0_checkBoundsBeginEnd_23922 0 = .ok (.iload_n 0, 1) := by decide +kernel
theorem dJ0_checkBoundsBeginEnd_23922_1 : decode cJ0_checkBoundsBeginEnd_23922 1 = .ok (.iload_n 1, 1) := by decide +kernel
theorem dJ0_checkBoundsBeginEnd_23922_2 : decode cJ0_checkBoundsBeginEnd_23922 2 = .ok (.iload_n 2, 1) := by decide +kernel
theorem dJ0_checkBoundsBeginEnd_23922_3 : decode cJ0_checkBoundsBeginEnd_23922 3 = .ok (.getstatic 1053, 3) := by decide +kernel
theorem dJ0_checkBoundsBeginEnd_23922_6 : decode cJ0_checkBoundsBeginEnd_23922 6 = .ok (.invokestatic 1062, 3) := by decide +kernel
theorem dJ0_checkBoundsBeginEnd_23922_9 : decode cJ0_checkBoundsBeginEnd_23922 9 = .ok (.pop, 1) := by decide +kernel
theorem dJ0_checkBoundsBeginEnd_23922_10 : decode cJ0_checkBoundsBeginEnd_23922 10 = .ok (.return_, 1) := by decide +kernel
theorem dJ1_canEncode_9a6ad_0 : decode cJ1_canEncode_9a6ad 0 = .ok (.iload_n 0, 1) := by decide +kernel
theorem dJ1_canEncode_9a6ad_1 : decode cJ1_canEncode_9a6ad 1 = .ok (.ifCond .lt 14, 3) := by decide +kernel
theorem dJ1_canEncode_9a6ad_4 : decode cJ1_canEncode_9a6ad 4 = .ok (.iload_n 0, 1) := by decide +kernel
theorem dJ1_canEncode_9a6ad_5 : decode cJ1_canEncode_9a6ad 5 = .ok (.sipush 255, 3) := by decide +kernel
theorem dJ1_canEncode_9a6ad_8 : decode cJ1_canEncode_9a6ad 8 = .ok (.if_icmp .gt 7, 3) := by decide +kernel
theorem dJ1_canEncode_9a6ad_11 : decode cJ1_canEncode_9a6ad 11 = .ok (.iconst 1, 1) := by decide +kernel
theorem dJ1_canEncode_9a6ad_12 : decode cJ1_canEncode_9a6ad 12 = .ok (.goto 4, 3) := by decide +kernel
theorem dJ1_canEncode_9a6ad_15 : decode cJ1_canEncode_9a6ad 15 = .ok (.iconst 0, 1) := by decide +kernel
theorem dJ1_canEncode_9a6ad_16 : decode cJ1_canEncode_9a6ad 16 = .ok (.ireturn, 1) := by decide +kernel
theorem dJ1_indexOf_4cfef_0 : decode cJ1_indexOf_4cfef 0 = .ok (.iload_n 1, 1) := by decide +kernel
theorem dJ1_indexOf_4cfef_1 : decode cJ1_indexOf_4cfef 1 = .ok (.invokestatic 88, 3) := by decide +kernel
theorem dJ1_indexOf_4cfef_4 : decode cJ1_indexOf_4cfef 4 = .ok (.ifCond .ne 5, 3) := by decide +kernel
theorem dJ1_indexOf_4cfef_7 : decode cJ1_indexOf_4cfef 7 = .ok (.iconst (-1), 1) := by decide +kernel
theorem dJ1_indexOf_4cfef_8 : decode cJ1_indexOf_4cfef 8 = .ok (.ireturn, 1) := by decide +kernel
theorem dJ1_indexOf_4cfef_9 : decode cJ1_indexOf_4cfef 9 = .ok (.iload_n 2, 1) := by decide +kernel
theorem dJ1_indexOf_4cfef_10 : decode cJ1_indexOf_4cfef 10 = .ok (.iconst 0, 1) := by decide +kernel
theorem dJ1_indexOf_4cfef_11 : decode cJ1_indexOf_4cfef 11 = .ok (.invokestatic 92, 3) := by decide +kernel
theorem dJ1_indexOf_4cfef_14 : decode cJ1_indexOf_4cfef 14 = .ok (.istore_n 2, 1) := by decide +kernel
theorem dJ1_indexOf_4cfef_15 : decode cJ1_indexOf_4cfef 15 = .ok (.iload_n 3, 1) := by decide +kernel
theorem dJ1_indexOf_4cfef_16 : decode cJ1_indexOf_4cfef 16 = .ok (.aload_n 0, 1) := by decide +kernel
theorem dJ1_indexOf_4cfef_17 : decode cJ1_indexOf_4cfef 17 = .ok (.arraylength, 1) := by decide +kernel
theorem dJ1_indexOf_4cfef_18 : decode cJ1_indexOf_4cfef 18 = .ok (.invokestatic 38, 3) := by decide +kernel
theorem dJ1_indexOf_4cfef_21 : decode cJ1_indexOf_4cfef 21 = .ok (.istore_n 3, 1) := by decide +kernel
theorem dJ1_indexOf_4cfef_22 : decode cJ1_indexOf_4cfef 22 = .ok (.iload_n 2, 1) := by decide +kernel
theorem dJ1_indexOf_4cfef_23 : decode cJ1_indexOf_4cfef 23 = .ok (.iload_n 3, 1) := by decide +kernel
theorem dJ1_indexOf_4cfef_24 : decode cJ1_indexOf_4cfef 24 = .ok (.if_icmp .lt 5, 3) := by decide +kernel
theorem dJ1_indexOf_4cfef_27 : decode cJ1_indexOf_4cfef 27 = .ok (.iconst (-1), 1) := by decide +kernel
theorem dJ1_indexOf_4cfef_28 : decode cJ1_indexOf_4cfef 28 = .ok (.ireturn, 1) := by decide +kernel
theorem dJ1_indexOf_4cfef_29 : decode cJ1_indexOf_4cfef 29 = .ok (.aload_n 0, 1) := by decide +kernel
theorem dJ1_indexOf_4cfef_30 : decode cJ1_indexOf_4cfef 30 = .ok (.iload_n 1, 1) := by decide +kernel
theorem dJ1_indexOf_4cfef_31 : decode cJ1_indexOf_4cfef 31 = .ok (.iload_n 2, 1) := by decide +kernel
theorem dJ1_indexOf_4cfef_32 : decode cJ1_indexOf_4cfef 32 = .ok (.iload_n 3, 1) := by decide +kernel
theorem dJ1_indexOf_4cfef_33 : decode cJ1_indexOf_4cfef 33 = .ok (.invokestatic 95, 3) := by decide +kernel
theorem dJ1_indexOf_4cfef_36 : decode cJ1_indexOf_4cfef 36 = .ok (.ireturn, 1) := by decide +kernel
theorem dJ1_indexOfChar_4cfef_0 : decode cJ1_indexOfChar_4cfef 0 = .ok (.iload_n 1, 1) := by decide +kernel
theorem dJ1_indexOfChar_4cfef_1 : decode cJ1_indexOfChar_4cfef 1 = .ok (.i2b, 1) := by decide +kernel
theorem dJ1_indexOfChar_4cfef_2 : decode cJ1_indexOfChar_4cfef 2 = .ok (.istore 4, 2) := by decide +kernel
theorem dJ1_indexOfChar_4cfef_4 : decode cJ1_indexOfChar_4cfef 4 = .ok (.iload_n 2, 1) := by decide +kernel
theorem dJ1_indexOfChar_4cfef_5 : decode cJ1_indexOfChar_4cfef 5 = .ok (.istore 5, 2) := by decide +kernel
theorem dJ1_indexOfChar_4cfef_7 : decode cJ1_indexOfChar_4cfef 7 = .ok (.iload 5, 2) := by decide +kernel
theorem dJ1_indexOfChar_4cfef_9 : decode cJ1_indexOfChar_4cfef 9 = .ok (.iload_n 3, 1) := by decide +kernel
theorem dJ1_indexOfChar_4cfef_10 : decode cJ1_indexOfChar_4cfef 10 = .ok (.if_icmp .ge 21, 3) := by decide +kernel
theorem dJ1_indexOfChar_4cfef_13 : decode cJ1_indexOfChar_4cfef 13 = .ok (.aload_n 0, 1) := by decide +kernel
theorem dJ1_indexOfChar_4cfef_14 : decode cJ1_indexOfChar_4cfef 14 = .ok (.iload 5, 2) := by decide +kernel
theorem dJ1_indexOfChar_4cfef_16 : decode cJ1_indexOfChar_4cfef 16 = .ok (.baload, 1) := by decide +kernel
theorem dJ1_indexOfChar_4cfef_17 : decode cJ1_indexOfChar_4cfef 17 = .ok (.iload 4, 2) := by decide +kernel
theorem dJ1_indexOfChar_4cfef_19 : decode cJ1_indexOfChar_4cfef 19 = .ok (.if_icmp .ne 6, 3) := by decide +kernel
theorem dJ1_indexOfChar_4cfef_22 : decode cJ1_indexOfChar_4cfef 22 = .ok (.iload 5, 2) := by decide +kernel
theorem dJ1_indexOfChar_4cfef_24 : decode cJ1_indexOfChar_4cfef 24 = .ok (.ireturn, 1) := by decide +kernel
theorem dJ1_indexOfChar_4cfef_25 : decode cJ1_indexOfChar_4cfef 25 = .ok (.iinc 5 1, 3) := by decide +kernel
theorem dJ1_indexOfChar_4cfef_28 : decode cJ1_indexOfChar_4cfef 28 = .ok (.goto (-21), 3) := by decide +kernel
theorem dJ1_indexOfChar_4cfef_31 : decode cJ1_indexOfChar_4cfef 31 = .ok (.iconst (-1), 1) := by decide +kernel
theorem dJ1_indexOfChar_4cfef_32 : decode cJ1_indexOfChar_4cfef 32 = .ok (.ireturn, 1) := by decide +kernel
theorem dJ2_getChar_3b067_0 : decode cJ2_getChar_3b067 0 = .ok (.getstatic 44, 3) := by decide +kernel
theorem dJ2_getChar_3b067_3 : decode cJ2_getChar_3b067 3 = .ok (.ifCond .ne 25, 3) := by decide +kernel
theorem dJ2_getChar_3b067_6 : decode cJ2_getChar_3b067 6 = .ok (.iload_n 1, 1) := by decide +kernel
theorem dJ2_getChar_3b067_7 : decode cJ2_getChar_3b067 7 = .ok (.ifCond .lt 11, 3) := by decide +kernel
theorem dJ2_getChar_3b067_10 : decode cJ2_getChar_3b067 10 = .ok (.iload_n 1, 1) := by decide +kernel
theorem dJ2_getChar_3b067_11 : decode cJ2_getChar_3b067 11 = .ok (.aload_n 0, 1) := by decide +kernel
theorem dJ2_getChar_3b067_12 : decode cJ2_getChar_3b067 12 = .ok (.invokestatic 48, 3) := by decide +kernel
theorem dJ2_getChar_3b067_15 : decode cJ2_getChar_3b067 15 = .ok (.if_icmp .lt 13, 3) := by decide +kernel
theorem dJ2_getChar_3b067_18 : decode cJ2_getChar_3b067 18 = .ok (.new 52, 3) := by decide +kernel
theorem dJ2_getChar_3b067_21 : decode cJ2_getChar_3b067 21 = .ok (.dup, 1) := by decide +kernel
theorem dJ2_getChar_3b067_22 : decode cJ2_getChar_3b067 22 = .ok (.ldc 54, 2) := by decide +kernel
theorem dJ2_getChar_3b067_24 : decode cJ2_getChar_3b067 24 = .ok (.invokespecial 56, 3) := by decide +kernel
theorem dJ2_getChar_3b067_27 : decode cJ2_getChar_3b067 27 = .ok (.athrow, 1) := by decide +kernel
theorem dJ2_getChar_3b067_28 : decode cJ2_getChar_3b067 28 = .ok (.iload_n 1, 1) := by decide +kernel
theorem dJ2_getChar_3b067_29 : decode cJ2_getChar_3b067 29 = .ok (.iconst 1, 1) := by decide +kernel
theorem dJ2_getChar_3b067_30 : decode cJ2_getChar_3b067 30 = .ok (.ishl, 1) := by decide +kernel
theorem dJ2_getChar_3b067_31 : decode cJ2_getChar_3b067 31 = .ok (.istore_n 1, 1) := by decide +kernel
theorem dJ2_getChar_3b067_32 : decode cJ2_getChar_3b067 32 = .ok (.aload_n 0, 1) := by decide +kernel
theorem dJ2_getChar_3b067_33 : decode cJ2_getChar_3b067 33 = .ok (.iload_n 1, 1) := by decide +kernel
theorem dJ2_getChar_3b067_34 : decode cJ2_getChar_3b067 34 = .ok (.iinc 1 1, 3) := by decide +kernel
theorem dJ2_getChar_3b067_37 : decode cJ2_getChar_3b067 37 = .ok (.baload, 1) := by decide +kernel
theorem dJ2_getChar_3b067_38 : decode cJ2_getChar_3b067 38 = .ok (.sipush 255, 3) := by decide +kernel
theorem dJ2_getChar_3b067_41 : decode cJ2_getChar_3b067 41 = .ok (.iand, 1) := by decide +kernel
theorem dJ2_getChar_3b067_42 : decode cJ2_getChar_3b067 42 = .ok (.getstatic 59, 3) := by decide +kernel
theorem dJ2_getChar_3b067_45 : decode cJ2_getChar_3b067 45 = .ok (.ishl, 1) := by decide +kernel
theorem dJ2_getChar_3b067_46 : decode cJ2_getChar_3b067 46 = .ok (.aload_n 0, 1) := by decide +kernel
theorem dJ2_getChar_3b067_47 : decode cJ2_getChar_3b067 47 = .ok (.iload_n 1, 1) := by decide +kernel
theorem dJ2_getChar_3b067_48 : decode cJ2_getChar_3b067 48 = .ok (.baload, 1) := by decide +kernel
theorem dJ2_getChar_3b067_49 : decode cJ2_getChar_3b067 49 = .ok (.sipush 255, 3) := by decide +kernel
theorem dJ2_getChar_3b067_52 : decode cJ2_getChar_3b067 52 = .ok (.iand, 1) := by decide +kernel
theorem dJ2_getChar_3b067_53 : decode cJ2_getChar_3b067 53 = .ok (.getstatic 63, 3) := by decide +kernel
theorem dJ2_getChar_3b067_56 : decode cJ2_getChar_3b067 56 = .ok (.ishl, 1) := by decide +kernel
theorem dJ2_getChar_3b067_57 : decode cJ2_getChar_3b067 57 = .ok (.ior, 1) := by decide +kernel
theorem dJ2_getChar_3b067_58 : decode cJ2_getChar_3b067 58 = .ok (.i2c, 1) := by decide +kernel
theorem dJ2_getChar_3b067_59 : decode cJ2_getChar_3b067 59 = .ok (.ireturn, 1) := by decide +kernel
theorem dJ2_length_9d52b_0 : decode cJ2_length_9d52b 0 = .ok (.aload_n 0, 1) := by decide +kernel
theorem dJ2_length_9d52b_1 : decode cJ2_length_9d52b 1 = .ok (.arraylength, 1) := by decide +kernel
theorem dJ2_length_9d52b_2 : decode cJ2_length_9d52b 2 = .ok (.iconst 1, 1) := by decide +kernel
theorem dJ2_length_9d52b_3 : decode cJ2_length_9d52b 3 = .ok (.ishr, 1) := by decide +kernel
theorem dJ2_length_9d52b_4 : decode cJ2_length_9d52b 4 = .ok (.ireturn, 1) := by decide +kernel
theorem dJ2_indexOf_4cfef_0 : decode cJ2_indexOf_4cfef 0 = .ok (.iload_n 2, 1) := by decide +kernel
theorem dJ2_indexOf_4cfef_1 : decode cJ2_indexOf_4cfef 1 = .ok (.iconst 0, 1) := by decide +kernel
theorem dJ2_indexOf_4cfef_2 : decode cJ2_indexOf_4cfef 2 = .ok (.invokestatic 224, 3) := by decide +kernel
theorem dJ2_indexOf_4cfef_5 : decode cJ2_indexOf_4cfef 5 = .ok (.istore_n 2, 1) := by decide +kernel
theorem dJ2_indexOf_4cfef_6 : decode cJ2_indexOf_4cfef 6 = .ok (.iload_n 3, 1) := by decide +kernel
theorem dJ2_indexOf_4cfef_7 : decode cJ2_indexOf_4cfef 7 = .ok (.aload_n 0, 1) := by decide +kernel
theorem dJ2_indexOf_4cfef_8 : decode cJ2_indexOf_4cfef 8 = .ok (.arraylength, 1) := by decide +kernel
theorem dJ2_indexOf_4cfef_9 : decode cJ2_indexOf_4cfef 9 = .ok (.iconst 1, 1) := by decide +kernel
theorem dJ2_indexOf_4cfef_10 : decode cJ2_indexOf_4cfef 10 = .ok (.ishr, 1) := by decide +kernel
theorem dJ2_indexOf_4cfef_11 : decode cJ2_indexOf_4cfef 11 = .ok (.invokestatic 183, 3) := by decide +kernel
theorem dJ2_indexOf_4cfef_14 : decode cJ2_indexOf_4cfef 14 = .ok (.istore_n 3, 1) := by decide +kernel
theorem dJ2_indexOf_4cfef_15 : decode cJ2_indexOf_4cfef 15 = .ok (.iload_n 2, 1) := by decide +kernel
theorem dJ2_indexOf_4cfef_16 : decode cJ2_indexOf_4cfef 16 = .ok (.iload_n 3, 1) := by decide +kernel
theorem dJ2_indexOf_4cfef_17 : decode cJ2_indexOf_4cfef 17 = .ok (.if_icmp .lt 5, 3) := by decide +kernel
theorem dJ2_indexOf_4cfef_20 : decode cJ2_indexOf_4cfef 20 = .ok (.iconst (-1), 1) := by decide +kernel
theorem dJ2_indexOf_4cfef_21 : decode cJ2_indexOf_4cfef 21 = .ok (.ireturn, 1) := by decide +kernel
theorem dJ2_indexOf_4cfef_22 : decode cJ2_indexOf_4cfef 22 = .ok (.iload_n 1, 1) := by decide +kernel
theorem dJ2_indexOf_4cfef_23 : decode cJ2_indexOf_4cfef 23 = .ok (.ldc 227, 2) := by decide +kernel
theorem dJ2_indexOf_4cfef_25 : decode cJ2_indexOf_4cfef 25 = .ok (.if_icmp .ge 11, 3) := by decide +kernel
theorem dJ2_indexOf_4cfef_28 : decode cJ2_indexOf_4cfef 28 = .ok (.aload_n 0, 1) := by decide +kernel
theorem dJ2_indexOf_4cfef_29 : decode cJ2_indexOf_4cfef 29 = .ok (.iload_n 1, 1) := by decide +kernel
theorem dJ2_indexOf_4cfef_30 : decode cJ2_indexOf_4cfef 30 = .ok (.iload_n 2, 1) := by decide +kernel
theorem dJ2_indexOf_4cfef_31 : decode cJ2_indexOf_4cfef 31 = .ok (.iload_n 3, 1) := by decide +kernel
theorem dJ2_indexOf_4cfef_32 : decode cJ2_indexOf_4cfef 32 = .ok (.invokestatic 228, 3) := by decide +kernel
theorem dJ2_indexOf_4cfef_35 : decode cJ2_indexOf_4cfef 35 = .ok (.ireturn, 1) := by decide +kernel
theorem dJ2_indexOf_4cfef_36 : decode cJ2_indexOf_4cfef 36 = .ok (.aload_n 0, 1) := by decide +kernel
theorem dJ2_indexOf_4cfef_37 : decode cJ2_indexOf_4cfef 37 = .ok (.iload_n 1, 1) := by decide +kernel
theorem dJ2_indexOf_4cfef_38 : decode cJ2_indexOf_4cfef 38 = .ok (.iload_n 2, 1) := by decide +kernel
theorem dJ2_indexOf_4cfef_39 : decode cJ2_indexOf_4cfef 39 = .ok (.iload_n 3, 1) := by decide +kernel
theorem dJ2_indexOf_4cfef_40 : decode cJ2_indexOf_4cfef 40 = .ok (.invokestatic 232, 3) := by decide +kernel
theorem dJ2_indexOf_4cfef_43 : decode cJ2_indexOf_4cfef 43 = .ok (.ireturn, 1) := by decide +kernel
theorem dJ2_indexOfChar_4cfef_0 : decode cJ2_indexOfChar_4cfef 0 = .ok (.iload_n 2, 1) := by decide +kernel
theorem dJ2_indexOfChar_4cfef_1 : decode cJ2_indexOfChar_4cfef 1 = .ok (.iload_n 3, 1) := by decide +kernel
theorem dJ2_indexOfChar_4cfef_2 : decode cJ2_indexOfChar_4cfef 2 = .ok (.aload_n 0, 1) := by decide +kernel
theorem dJ2_indexOfChar_4cfef_3 : decode cJ2_indexOfChar_4cfef 3 = .ok (.invokestatic 96, 3) := by decide +kernel
theorem dJ2_indexOfChar_4cfef_6 : decode cJ2_indexOfChar_4cfef 6 = .ok (.aload_n 0, 1) := by decide +kernel
theorem dJ2_indexOfChar_4cfef_7 : decode cJ2_indexOfChar_4cfef 7 = .ok (.iload_n 1, 1) := by decide +kernel
theorem dJ2_indexOfChar_4cfef_8 : decode cJ2_indexOfChar_4cfef 8 = .ok (.iload_n 2, 1) := by decide +kernel
theorem dJ2_indexOfChar_4cfef_9 : decode cJ2_indexOfChar_4cfef 9 = .ok (.iload_n 3, 1) := by decide +kernel
theorem dJ2_indexOfChar_4cfef_10 : decode cJ2_indexOfChar_4cfef 10 = .ok (.invokestatic 244, 3) := by decide +kernel
theorem dJ2_indexOfChar_4cfef_13 : decode cJ2_indexOfChar_4cfef 13 = .ok (.ireturn, 1) := by decide +kernel
theorem dJ2_indexOfCharUnsafe_4cfef_0 : decode cJ2_indexOfCharUnsafe_4cfef 0 = .ok (.iload_n 2, 1) := by decide +kernel
theorem dJ2_indexOfCharUnsafe_4cfef_1 : decode cJ2_indexOfCharUnsafe_4cfef 1 = .ok (.istore 4, 2) := by decide +kernel
theorem dJ2_indexOfCharUnsafe_4cfef_3 : decode cJ2_indexOfCharUnsafe_4cfef 3 = .ok (.iload 4, 2) := by decide +kernel
theorem dJ2_indexOfCharUnsafe_4cfef_5 : decode cJ2_indexOfCharUnsafe_4cfef 5 = .ok (.iload_n 3, 1) := by decide +kernel
theorem dJ2_indexOfCharUnsafe_4cfef_6 : decode cJ2_indexOfCharUnsafe_4cfef 6 = .ok (.if_icmp .ge 22, 3) := by decide +kernel
theorem dJ2_indexOfCharUnsafe_4cfef_9 : decode cJ2_indexOfCharUnsafe_4cfef 9 = .ok (.aload_n 0, 1) := by decide +kernel
theorem dJ2_indexOfCharUnsafe_4cfef_10 : decode cJ2_indexOfCharUnsafe_4cfef 10 = .ok (.iload 4, 2) := by decide +kernel
theorem dJ2_indexOfCharUnsafe_4cfef_12 : decode cJ2_indexOfCharUnsafe_4cfef 12 = .ok (.invokestatic 71, 3) := by decide +kernel
theorem dJ2_indexOfCharUnsafe_4cfef_15 : decode cJ2_indexOfCharUnsafe_4cfef 15 = .ok (.iload_n 1, 1) := by decide +kernel
theorem dJ2_indexOfCharUnsafe_4cfef_16 : decode cJ2_indexOfCharUnsafe_4cfef 16 = .ok (.if_icmp .ne 6, 3) := by decide +kernel
theorem dJ2_indexOfCharUnsafe_4cfef_19 : decode cJ2_indexOfCharUnsafe_4cfef 19 = .ok (.iload 4, 2) := by decide +kernel
theorem dJ2_indexOfCharUnsafe_4cfef_21 : decode cJ2_indexOfCharUnsafe_4cfef 21 = .ok (.ireturn, 1) := by decide +kernel
theorem dJ2_indexOfCharUnsafe_4cfef_22 : decode cJ2_indexOfCharUnsafe_4cfef 22 = .ok (.iinc 4 1, 3) := by decide +kernel
theorem dJ2_indexOfCharUnsafe_4cfef_25 : decode cJ2_indexOfCharUnsafe_4cfef 25 = .ok (.goto (-22), 3) := by decide +kernel
theorem dJ2_indexOfCharUnsafe_4cfef_28 : decode cJ2_indexOfCharUnsafe_4cfef 28 = .ok (.iconst (-1), 1) := by decide +kernel
theorem dJ2_indexOfCharUnsafe_4cfef_29 : decode cJ2_indexOfCharUnsafe_4cfef 29 = .ok (.ireturn, 1) := by decide +kernel
theorem dJ2_indexOfSupplementary_4cfef_0 : decode cJ2_indexOfSupplementary_4cfef 0 = .ok (.iload_n 1, 1) := by decide +kernel
theorem dJ2_indexOfSupplementary_4cfef_1 : decode cJ2_indexOfSupplementary_4cfef 1 = .ok (.invokestatic 164, 3) := by decide +kernel
theorem dJ2_indexOfSupplementary_4cfef_4 : decode cJ2_indexOfSupplementary_4cfef 4 = .ok (.ifCond .eq 65, 3) := by decide +kernel
theorem dJ2_indexOfSupplementary_4cfef_7 : decode cJ2_indexOfSupplementary_4cfef 7 = .ok (.iload_n 1, 1) := by decide +kernel
theorem dJ2_indexOfSupplementary_4cfef_8 : decode cJ2_indexOfSupplementary_4cfef 8 = .ok (.invokestatic 157, 3) := by decide +kernel
theorem dJ2_indexOfSupplementary_4cfef_11 : decode cJ2_indexOfSupplementary_4cfef 11 = .ok (.istore 4, 2) := by decide +kernel
theorem dJ2_indexOfSupplementary_4cfef_13 : decode cJ2_indexOfSupplementary_4cfef 13 = .ok (.iload_n 1, 1) := by decide +kernel
theorem dJ2_indexOfSupplementary_4cfef_14 : decode cJ2_indexOfSupplementary_4cfef 14 = .ok (.invokestatic 161, 3) := by decide +kernel
theorem dJ2_indexOfSupplementary_4cfef_17 : decode cJ2_indexOfSupplementary_4cfef 17 = .ok (.istore 5, 2) := by decide +kernel
theorem dJ2_indexOfSupplementary_4cfef_19 : decode cJ2_indexOfSupplementary_4cfef 19 = .ok (.iload_n 2, 1) := by decide +kernel
theorem dJ2_indexOfSupplementary_4cfef_20 : decode cJ2_indexOfSupplementary_4cfef 20 = .ok (.iload_n 3, 1) := by decide +kernel
theorem dJ2_indexOfSupplementary_4cfef_21 : decode cJ2_indexOfSupplementary_4cfef 21 = .ok (.aload_n 0, 1) := by decide +kernel
theorem dJ2_indexOfSupplementary_4cfef_22 : decode cJ2_indexOfSupplementary_4cfef 22 = .ok (.invokestatic 96, 3) := by decide +kernel
theorem dJ2_indexOfSupplementary_4cfef_25 : decode cJ2_indexOfSupplementary_4cfef 25 = .ok (.iload_n 2, 1) := by decide +kernel
theorem dJ2_indexOfSupplementary_4cfef_26 : decode cJ2_indexOfSupplementary_4cfef 26 = .ok (.istore 6, 2) := by decide +kernel
theorem dJ2_indexOfSupplementary_4cfef_28 : decode cJ2_indexOfSupplementary_4cfef 28 = .ok (.iload 6, 2) := by decide +kernel
theorem dJ2_indexOfSupplementary_4cfef_30 : decode cJ2_indexOfSupplementary_4cfef 30 = .ok (.iload_n 3, 1) := by decide +kernel
theorem dJ2_indexOfSupplementary_4cfef_31 : decode cJ2_indexOfSupplementary_4cfef 31 = .ok (.iconst 1, 1) := by decide +kernel
theorem dJ2_indexOfSupplementary_4cfef_32 : decode cJ2_indexOfSupplementary_4cfef 32 = .ok (.isub, 1) := by decide +kernel
theorem dJ2_indexOfSupplementary_4cfef_33 : decode cJ2_indexOfSupplementary_4cfef 33 = .ok (.if_icmp .ge 36, 3) := by decide +kernel
theorem dJ2_indexOfSupplementary_4cfef_36 : decode cJ2_indexOfSupplementary_4cfef 36 = .ok (.aload_n 0, 1) := by decide +kernel
theorem dJ2_indexOfSupplementary_4cfef_37 : decode cJ2_indexOfSupplementary_4cfef 37 = .ok (.iload 6, 2) := by decide +kernel
theorem dJ2_indexOfSupplementary_4cfef_39 : decode cJ2_indexOfSupplementary_4cfef 39 = .ok (.invokestatic 71, 3) := by decide +kernel
theorem dJ2_indexOfSupplementary_4cfef_42 : decode cJ2_indexOfSupplementary_4cfef 42 = .ok (.iload 4, 2) := by decide +kernel
theorem dJ2_indexOfSupplementary_4cfef_44 : decode cJ2_indexOfSupplementary_4cfef 44 = .ok (.if_icmp .ne 19, 3) := by decide +kernel
theorem dJ2_indexOfSupplementary_4cfef_47 : decode cJ2_indexOfSupplementary_4cfef 47 = .ok (.aload_n 0, 1) := by decide +kernel
theorem dJ2_indexOfSupplementary_4cfef_48 : decode cJ2_indexOfSupplementary_4cfef 48 = .ok (.iload 6, 2) := by decide +kernel
theorem dJ2_indexOfSupplementary_4cfef_50 : decode cJ2_indexOfSupplementary_4cfef 50 = .ok (.iconst 1, 1) := by decide +kernel
theorem dJ2_indexOfSupplementary_4cfef_51 : decode cJ2_indexOfSupplementary_4cfef 51 = .ok (.iadd, 1) := by decide +kernel
theorem dJ2_indexOfSupplementary_4cfef_52 : decode cJ2_indexOfSupplementary_4cfef 52 = .ok (.invokestatic 71, 3) := by decide +kernel
theorem dJ2_indexOfSupplementary_4cfef_55 : decode cJ2_indexOfSupplementary_4cfef 55 = .ok (.iload 5, 2) := by decide +kernel
theorem dJ2_indexOfSupplementary_4cfef_57 : decode cJ2_indexOfSupplementary_4cfef 57 = .ok (.if_icmp .ne 6, 3) := by decide +kernel
theorem dJ2_indexOfSupplementary_4cfef_60 : decode cJ2_indexOfSupplementary_4cfef 60 = .ok (.iload 6, 2) := by decide +kernel
theorem dJ2_indexOfSupplementary_4cfef_62 : decode cJ2_indexOfSupplementary_4cfef 62 = .ok (.ireturn, 1) := by decide +kernel
theorem dJ2_indexOfSupplementary_4cfef_63 : decode cJ2_indexOfSupplementary_4cfef 63 = .ok (.iinc 6 1, 3) := by decide +kernel
theorem dJ2_indexOfSupplementary_4cfef_66 : decode cJ2_indexOfSupplementary_4cfef 66 = .ok (.goto (-38), 3) := by decide +kernel
theorem dJ2_indexOfSupplementary_4cfef_69 : decode cJ2_indexOfSupplementary_4cfef 69 = .ok (.iconst (-1), 1) := by decide +kernel
theorem dJ2_indexOfSupplementary_4cfef_70 : decode cJ2_indexOfSupplementary_4cfef 70 = .ok (.ireturn, 1) := by decide +kernel
theorem dJ2_checkBoundsBeginEnd_d044e_0 : decode cJ2_checkBoundsBeginEnd_d044e 0 = .ok (.iload_n 0, 1) := by decide +kernel
theorem dJ2_checkBoundsBeginEnd_d044e_1 : decode cJ2_checkBoundsBeginEnd_d044e 1 = .ok (.iload_n 1, 1) := by decide +kernel
theorem dJ2_checkBoundsBeginEnd_d044e_2 : decode cJ2_checkBoundsBeginEnd_d044e 2 = .ok (.aload_n 2, 1) := by decide +kernel
theorem dJ2_checkBoundsBeginEnd_d044e_3 : decode cJ2_checkBoundsBeginEnd_d044e 3 = .ok (.invokestatic 48, 3) := by decide +kernel
theorem dJ2_checkBoundsBeginEnd_d044e_6 : decode cJ2_checkBoundsBeginEnd_d044e 6 = .ok (.invokestatic 241, 3) := by decide +kernel
theorem dJ2_checkBoundsBeginEnd_d044e_9 : decode cJ2_checkBoundsBeginEnd_d044e 9 = .ok (.return_, 1) := by decide +kernel
theorem dJ7_fill_53178_0 : decode cJ7_fill_53178 0 = .ok (.iconst 0, 1) := by decide +kernel
theorem dJ7_fill_53178_1 : decode cJ7_fill_53178 1 = .ok (.istore_n 2, 1) := by decide +kernel
theorem dJ7_fill_53178_2 : decode cJ7_fill_53178 2 = .ok (.aload_n 0, 1) := by decide +kernel
theorem dJ7_fill_53178_3 : decode cJ7_fill_53178 3 = .ok (.arraylength, 1) := by decide +kernel
theorem dJ7_fill_53178_4 : decode cJ7_fill_53178 4 = .ok (.istore_n 3, 1) := by decide +kernel
theorem dJ7_fill_53178_5 : decode cJ7_fill_53178 5 = .ok (.iload_n 2, 1) := by decide +kernel
theorem dJ7_fill_53178_6 : decode cJ7_fill_53178 6 = .ok (.iload_n 3, 1) := by decide +kernel
theorem dJ7_fill_53178_7 : decode cJ7_fill_53178 7 = .ok (.if_icmp .ge 13, 3) := by decide +kernel
theorem dJ7_fill_53178_10 : decode cJ7_fill_53178 10 = .ok (.aload_n 0, 1) := by decide +kernel
theorem dJ7_fill_53178_11 : decode cJ7_fill_53178 11 = .ok (.iload_n 2, 1) := by decide +kernel
theorem dJ7_fill_53178_12 : decode cJ7_fill_53178 12 = .ok (.iload_n 1, 1) := by decide +kernel
theorem dJ7_fill_53178_13 : decode cJ7_fill_53178 13 = .ok (.iastore, 1) := by decide +kernel
theorem dJ7_fill_53178_14 : decode cJ7_fill_53178 14 = .ok (.iinc 2 1, 3) := by decide +kernel
theorem dJ7_fill_53178_17 : decode cJ7_fill_53178 17 = .ok (.goto (-12), 3) := by decide +kernel
theorem dJ7_fill_53178_20 : decode cJ7_fill_53178 20 = .ok (.return_, 1) := by decide +kernel
theorem dJ3_checkFromToIndex_8c36e_0 : decode cJ3_checkFromToIndex_8c36e 0 = .ok (.iload_n 0, 1) := by decide +kernel
theorem dJ3_checkFromToIndex_8c36e_1 : decode cJ3_checkFromToIndex_8c36e 1 = .ok (.ifCond .lt 13, 3) := by decide +kernel
theorem dJ3_checkFromToIndex_8c36e_4 : decode cJ3_checkFromToIndex_8c36e 4 = .ok (.iload_n 0, 1) := by decide +kernel
theorem dJ3_checkFromToIndex_8c36e_5 : decode cJ3_checkFromToIndex_8c36e 5 = .ok (.iload_n 1, 1) := by decide +kernel
theorem dJ3_checkFromToIndex_8c36e_6 : decode cJ3_checkFromToIndex_8c36e 6 = .ok (.if_icmp .gt 8, 3) := by decide +kernel
theorem dJ3_checkFromToIndex_8c36e_9 : decode cJ3_checkFromToIndex_8c36e 9 = .ok (.iload_n 1, 1) := by decide +kernel
theorem dJ3_checkFromToIndex_8c36e_10 : decode cJ3_checkFromToIndex_8c36e 10 = .ok (.iload_n 2, 1) := by decide +kernel
theorem dJ3_checkFromToIndex_8c36e_11 : decode cJ3_checkFromToIndex_8c36e 11 = .ok (.if_icmp .le 11, 3) := by decide +kernel
theorem dJ3_checkFromToIndex_8c36e_14 : decode cJ3_checkFromToIndex_8c36e 14 = .ok (.aload_n 3, 1) := by decide +kernel
theorem dJ3_checkFromToIndex_8c36e_15 : decode cJ3_checkFromToIndex_8c36e 15 = .ok (.iload_n 0, 1) := by decide +kernel
theorem dJ3_checkFromToIndex_8c36e_16 : decode cJ3_checkFromToIndex_8c36e 16 = .ok (.iload_n 1, 1) := by decide +kernel
theorem dJ3_checkFromToIndex_8c36e_17 : decode cJ3_checkFromToIndex_8c36e 17 = .ok (.iload_n 2, 1) := by decide +kernel
theorem dJ3_checkFromToIndex_8c36e_18 : decode cJ3_checkFromToIndex_8c36e 18 = .ok (.invokestatic 99, 3) := by decide +kernel
theorem dJ3_checkFromToIndex_8c36e_21 : decode cJ3_checkFromToIndex_8c36e 21 = .ok (.athrow, 1) := by decide +kernel
theorem dJ3_checkFromToIndex_8c36e_22 : decode cJ3_checkFromToIndex_8c36e 22 = .ok (.iload_n 0, 1) := by decide +kernel
theorem dJ3_checkFromToIndex_8c36e_23 : decode cJ3_checkFromToIndex_8c36e 23 = .ok (.ireturn, 1) := by decide +kernel
theorem dL_law_0 : decode cL_law 0 = .ok (.new 7, 3) := by decide +kernel
theorem dL_law_3 : decode cL_law 3 = .ok (.dup, 1) := by decide +kernel
theorem dL_law_4 : decode cL_law 4 = .ok (.invokespecial 9, 3) := by decide +kernel
theorem dL_law_7 : decode cL_law 7 = .ok (.astore_n 1, 1) := by decide +kernel
theorem dL_law_8 : decode cL_law 8 = .ok (.new 10, 3) := by decide +kernel
theorem dL_law_11 : decode cL_law 11 = .ok (.dup, 1) := by decide +kernel
theorem dL_law_12 : decode cL_law 12 = .ok (.invokespecial 12, 3) := by decide +kernel
theorem dL_law_15 : decode cL_law 15 = .ok (.astore_n 2, 1) := by decide +kernel
theorem dL_law_16 : decode cL_law 16 = .ok (.iconst 0, 1) := by decide +kernel
theorem dL_law_17 : decode cL_law 17 = .ok (.istore_n 3, 1) := by decide +kernel
theorem dL_law_18 : decode cL_law 18 = .ok (.iload_n 3, 1) := by decide +kernel
theorem dL_law_19 : decode cL_law 19 = .ok (.aload_n 0, 1) := by decide +kernel
theorem dL_law_20 : decode cL_law 20 = .ok (.arraylength, 1) := by decide +kernel
theorem dL_law_21 : decode cL_law 21 = .ok (.bipush 6, 2) := by decide +kernel
theorem dL_law_23 : decode cL_law 23 = .ok (.isub, 1) := by decide +kernel
theorem dL_law_24 : decode cL_law 24 = .ok (.if_icmp .gt 973, 3) := by decide +kernel
theorem dL_law_27 : decode cL_law 27 = .ok (.aload_n 0, 1) := by decide +kernel
theorem dL_law_28 : decode cL_law 28 = .ok (.iload_n 3, 1) := by decide +kernel
theorem dL_law_29 : decode cL_law 29 = .ok (.iaload, 1) := by decide +kernel
theorem dL_law_30 : decode cL_law 30 = .ok (.bipush 31, 2) := by decide +kernel
theorem dL_law_32 : decode cL_law 32 = .ok (.iand, 1) := by decide +kernel
theorem dL_law_33 : decode cL_law 33 = .ok (.tableswitch 958 0 28 #[131, 194, 217, 240, 263, 286, 319, 352, 385, 418, 461, 494, 527, 560, 583, 616, 639, 652, 675, 698, 721, 754, 797, 820, 863, 886, 899, 912, 935], 131) := by decide +kernel
theorem dL_law_164 : decode cL_law 164 = .ok (.aload_n 1, 1) := by decide +kernel
theorem dL_law_165 : decode cL_law 165 = .ok (.aload_n 0, 1) := by decide +kernel
theorem dL_law_166 : decode cL_law 166 = .ok (.iload_n 3, 1) := by decide +kernel
theorem dL_law_167 : decode cL_law 167 = .ok (.iconst 1, 1) := by decide +kernel
theorem dL_law_168 : decode cL_law 168 = .ok (.iadd, 1) := by decide +kernel
theorem dL_law_169 : decode cL_law 169 = .ok (.iaload, 1) := by decide +kernel
theorem dL_law_170 : decode cL_law 170 = .ok (.aload_n 0, 1) := by decide +kernel
theorem dL_law_171 : decode cL_law 171 = .ok (.iload_n 3, 1) := by decide +kernel
theorem dL_law_172 : decode cL_law 172 = .ok (.iconst 2, 1) := by decide +kernel
theorem dL_law_173 : decode cL_law 173 = .ok (.iadd, 1) := by decide +kernel
theorem dL_law_174 : decode cL_law 174 = .ok (.iaload, 1) := by decide +kernel
theorem dL_law_175 : decode cL_law 175 = .ok (.aload_n 0, 1) := by decide +kernel
theorem dL_law_176 : decode cL_law 176 = .ok (.iload_n 3, 1) := by decide +kernel
theorem dL_law_177 : decode cL_law 177 = .ok (.iconst 3, 1) := by decide +kernel
theorem dL_law_178 : decode cL_law 178 = .ok (.iadd, 1) := by decide +kernel
theorem dL_law_179 : decode cL_law 179 = .ok (.iaload, 1) := by decide +kernel
theorem dL_law_180 : decode cL_law 180 = .ok (.aload_n 0, 1) := by decide +kernel
theorem dL_law_181 : decode cL_law 181 = .ok (.iload_n 3, 1) := by decide +kernel
theorem dL_law_182 : decode cL_law 182 = .ok (.iconst 4, 1) := by decide +kernel
theorem dL_law_183 : decode cL_law 183 = .ok (.iadd, 1) := by decide +kernel
theorem dL_law_184 : decode cL_law 184 = .ok (.iaload, 1) := by decide +kernel
theorem dL_law_185 : decode cL_law 185 = .ok (.aload_n 0, 1) := by decide +kernel
theorem dL_law_186 : decode cL_law 186 = .ok (.iload_n 3, 1) := by decide +kernel
theorem dL_law_187 : decode cL_law 187 = .ok (.iconst 5, 1) := by decide +kernel
theorem dL_law_188 : decode cL_law 188 = .ok (.iadd, 1) := by decide +kernel
theorem dL_law_189 : decode cL_law 189 = .ok (.iaload, 1) := by decide +kernel
theorem dL_law_190 : decode cL_law 190 = .ok (.invokevirtual 13, 3) := by decide +kernel
theorem dL_law_193 : decode cL_law 193 = .ok (.aload_n 2, 1) := by decide +kernel
theorem dL_law_194 : decode cL_law 194 = .ok (.aload_n 0, 1) := by decide +kernel
theorem dL_law_195 : decode cL_law 195 = .ok (.iload_n 3, 1) := by decide +kernel
theorem dL_law_196 : decode cL_law 196 = .ok (.iconst 1, 1) := by decide +kernel
theorem dL_law_197 : decode cL_law 197 = .ok (.iadd, 1) := by decide +kernel
theorem dL_law_198 : decode cL_law 198 = .ok (.iaload, 1) := by decide +kernel
theorem dL_law_199 : decode cL_law 199 = .ok (.aload_n 0, 1) := by decide +kernel
theorem dL_law_200 : decode cL_law 200 = .ok (.iload_n 3, 1) := by decide +kernel
theorem dL_law_201 : decode cL_law 201 = .ok (.iconst 2, 1) := by decide +kernel
theorem dL_law_202 : decode cL_law 202 = .ok (.iadd, 1) := by decide +kernel
theorem dL_law_203 : decode cL_law 203 = .ok (.iaload, 1) := by decide +kernel
theorem dL_law_204 : decode cL_law 204 = .ok (.aload_n 0, 1) := by decide +kernel
theorem dL_law_205 : decode cL_law 205 = .ok (.iload_n 3, 1) := by decide +kernel
theorem dL_law_206 : decode cL_law 206 = .ok (.iconst 3, 1) := by decide +kernel
theorem dL_law_207 : decode cL_law 207 = .ok (.iadd, 1) := by decide +kernel
theorem dL_law_208 : decode cL_law 208 = .ok (.iaload, 1) := by decide +kernel
theorem dL_law_209 : decode cL_law 209 = .ok (.aload_n 0, 1) := by decide +kernel
theorem dL_law_210 : decode cL_law 210 = .ok (.iload_n 3, 1) := by decide +kernel
theorem dL_law_211 : decode cL_law 211 = .ok (.iconst 4, 1) := by decide +kernel
theorem dL_law_212 : decode cL_law 212 = .ok (.iadd, 1) := by decide +kernel
theorem dL_law_213 : decode cL_law 213 = .ok (.iaload, 1) := by decide +kernel
theorem dL_law_214 : decode cL_law 214 = .ok (.aload_n 0, 1) := by decide +kernel
theorem dL_law_215 : decode cL_law 215 = .ok (.iload_n 3, 1) := by decide +kernel
theorem dL_law_216 : decode cL_law 216 = .ok (.iconst 5, 1) := by decide +kernel
theorem dL_law_217 : decode cL_law 217 = .ok (.iadd, 1) := by decide +kernel
theorem dL_law_218 : decode cL_law 218 = .ok (.iaload, 1) := by decide +kernel
theorem dL_law_219 : decode cL_law 219 = .ok (.invokevirtual 17, 3) := by decide +kernel
theorem dL_law_222 : decode cL_law 222 = .ok (.if_icmp .eq 769, 3) := by decide +kernel
theorem dL_law_225 : decode cL_law 225 = .ok (.iconst 0, 1) := by decide +kernel
theorem dL_law_226 : decode cL_law 226 = .ok (.ireturn, 1) := by decide +kernel
theorem dL_law_227 : decode cL_law 227 = .ok (.aload_n 1, 1) := by decide +kernel
theorem dL_law_228 : decode cL_law 228 = .ok (.aload_n 0, 1) := by decide +kernel
theorem dL_law_229 : decode cL_law 229 = .ok (.iload_n 3, 1) := by decide +kernel
theorem dL_law_230 : decode cL_law 230 = .ok (.iconst 1, 1) := by decide +kernel
theorem dL_law_231 : decode cL_law 231 = .ok (.iadd, 1) := by decide +kernel
theorem dL_law_232 : decode cL_law 232 = .ok (.iaload, 1) := by decide +kernel
theorem dL_law_233 : decode cL_law 233 = .ok (.invokevirtual 18, 3) := by decide +kernel
theorem dL_law_236 : decode cL_law 236 = .ok (.aload_n 2, 1) := by decide +kernel
theorem dL_law_237 : decode cL_law 237 = .ok (.aload_n 0, 1) := by decide +kernel
theorem dL_law_238 : decode cL_law 238 = .ok (.iload_n 3, 1) := by decide +kernel
theorem dL_law_239 : decode cL_law 239 = .ok (.iconst 1, 1) := by decide +kernel
theorem dL_law_240 : decode cL_law 240 = .ok (.iadd, 1) := by decide +kernel
theorem dL_law_241 : decode cL_law 241 = .ok (.iaload, 1) := by decide +kernel
theorem dL_law_242 : decode cL_law 242 = .ok (.invokevirtual 22, 3) := by decide +kernel
theorem dL_law_245 : decode cL_law 245 = .ok (.if_icmp .eq 746, 3) := by decide +kernel
theorem dL_law_248 : decode cL_law 248 = .ok (.iconst 0, 1) := by decide +kernel
theorem dL_law_249 : decode cL_law 249 = .ok (.ireturn, 1) := by decide +kernel
theorem dL_law_250 : decode cL_law 250 = .ok (.aload_n 1, 1) := by decide +kernel
theorem dL_law_251 : decode cL_law 251 = .ok (.aload_n 0, 1) := by decide +kernel
theorem dL_law_252 : decode cL_law 252 = .ok (.iload_n 3, 1) := by decide +kernel
theorem dL_law_253 : decode cL_law 253 = .ok (.iconst 1, 1) := by decide +kernel
theorem dL_law_254 : decode cL_law 254 = .ok (.iadd, 1) := by decide +kernel
theorem dL_law_255 : decode cL_law 255 = .ok (.iaload, 1) := by decide +kernel
theorem dL_law_256 : decode cL_law 256 = .ok (.invokevirtual 23, 3) := by decide +kernel
theorem dL_law_259 : decode cL_law 259 = .ok (.aload_n 2, 1) := by decide +kernel
theorem dL_law_260 : decode cL_law 260 = .ok (.aload_n 0, 1) := by decide +kernel
theorem dL_law_261 : decode cL_law 261 = .ok (.iload_n 3, 1) := by decide +kernel
theorem dL_law_262 : decode cL_law 262 = .ok (.iconst 1, 1) := by decide +kernel
theorem dL_law_263 : decode cL_law 263 = .ok (.iadd, 1) := by decide +kernel
theorem dL_law_264 : decode cL_law 264 = .ok (.iaload, 1) := by decide +kernel
theorem dL_law_265 : decode cL_law 265 = .ok (.invokevirtual 26, 3) := by decide +kernel
theorem dL_law_268 : decode cL_law 268 = .ok (.if_icmp .eq 723, 3) := by decide +kernel
theorem dL_law_271 : decode cL_law 271 = .ok (.iconst 0, 1) := by decide +kernel
theorem dL_law_272 : decode cL_law 272 = .ok (.ireturn, 1) := by decide +kernel
theorem dL_law_273 : decode cL_law 273 = .ok (.aload_n 1, 1) := by decide +kernel
theorem dL_law_274 : decode cL_law 274 = .ok (.aload_n 0, 1) := by decide +kernel
theorem dL_law_275 : decode cL_law 275 = .ok (.iload_n 3, 1) := by decide +kernel
theorem dL_law_276 : decode cL_law 276 = .ok (.iconst 1, 1) := by decide +kernel
theorem dL_law_277 : decode cL_law 277 = .ok (.iadd, 1) := by decide +kernel
theorem dL_law_278 : decode cL_law 278 = .ok (.iaload, 1) := by decide +kernel
theorem dL_law_279 : decode cL_law 279 = .ok (.invokevirtual 27, 3) := by decide +kernel
theorem dL_law_282 : decode cL_law 282 = .ok (.aload_n 2, 1) := by decide +kernel
theorem dL_law_283 : decode cL_law 283 = .ok (.aload_n 0, 1) := by decide +kernel
theorem dL_law_284 : decode cL_law 284 = .ok (.iload_n 3, 1) := by decide +kernel
theorem dL_law_285 : decode cL_law 285 = .ok (.iconst 1, 1) := by decide +kernel
theorem dL_law_286 : decode cL_law 286 = .ok (.iadd, 1) := by decide +kernel
theorem dL_law_287 : decode cL_law 287 = .ok (.iaload, 1) := by decide +kernel
theorem dL_law_288 : decode cL_law 288 = .ok (.invokevirtual 30, 3) := by decide +kernel
theorem dL_law_291 : decode cL_law 291 = .ok (.if_icmp .eq 700, 3) := by decide +kernel
theorem dL_law_294 : decode cL_law 294 = .ok (.iconst 0, 1) := by decide +kernel
theorem dL_law_295 : decode cL_law 295 = .ok (.ireturn, 1) := by decide +kernel
theorem dL_law_296 : decode cL_law 296 = .ok (.aload_n 1, 1) := by decide +kernel
theorem dL_law_297 : decode cL_law 297 = .ok (.aload_n 0, 1) := by decide +kernel
theorem dL_law_298 : decode cL_law 298 = .ok (.iload_n 3, 1) := by decide +kernel
theorem dL_law_299 : decode cL_law 299 = .ok (.iconst 1, 1) := by decide +kernel
theorem dL_law_300 : decode cL_law 300 = .ok (.iadd, 1) := by decide +kernel
theorem dL_law_301 : decode cL_law 301 = .ok (.iaload, 1) := by decide +kernel
theorem dL_law_302 : decode cL_law 302 = .ok (.invokevirtual 31, 3) := by decide +kernel
theorem dL_law_305 : decode cL_law 305 = .ok (.aload_n 2, 1) := by decide +kernel
theorem dL_law_306 : decode cL_law 306 = .ok (.aload_n 0, 1) := by decide +kernel
theorem dL_law_307 : decode cL_law 307 = .ok (.iload_n 3, 1) := by decide +kernel
theorem dL_law_308 : decode cL_law 308 = .ok (.iconst 1, 1) := by decide +kernel
theorem dL_law_309 : decode cL_law 309 = .ok (.iadd, 1) := by decide +kernel
theorem dL_law_310 : decode cL_law 310 = .ok (.iaload, 1) := by decide +kernel
theorem dL_law_311 : decode cL_law 311 = .ok (.invokevirtual 34, 3) := by decide +kernel
theorem dL_law_314 : decode cL_law 314 = .ok (.if_icmp .eq 677, 3) := by decide +kernel
theorem dL_law_317 : decode cL_law 317 = .ok (.iconst 0, 1) := by decide +kernel
theorem dL_law_318 : decode cL_law 318 = .ok (.ireturn, 1) := by decide +kernel
theorem dL_law_319 : decode cL_law 319 = .ok (.aload_n 1, 1) := by decide +kernel
theorem dL_law_320 : decode cL_law 320 = .ok (.aload_n 0, 1) := by decide +kernel
theorem dL_law_321 : decode cL_law 321 = .ok (.iload_n 3, 1) := by decide +kernel
theorem dL_law_322 : decode cL_law 322 = .ok (.iconst 1, 1) := by decide +kernel
theorem dL_law_323 : decode cL_law 323 = .ok (.iadd, 1) := by decide +kernel
theorem dL_law_324 : decode cL_law 324 = .ok (.iaload, 1) := by decide +kernel
theorem dL_law_325 : decode cL_law 325 = .ok (.aload_n 0, 1) := by decide +kernel
theorem dL_law_326 : decode cL_law 326 = .ok (.iload_n 3, 1) := by decide +kernel
theorem dL_law_327 : decode cL_law 327 = .ok (.iconst 2, 1) := by decide +kernel
theorem dL_law_328 : decode cL_law 328 = .ok (.iadd, 1) := by decide +kernel
theorem dL_law_329 : decode cL_law 329 = .ok (.iaload, 1) := by decide +kernel
theorem dL_law_330 : decode cL_law 330 = .ok (.invokevirtual 35, 3) := by decide +kernel
theorem dL_law_333 : decode cL_law 333 = .ok (.aload_n 2, 1) := by decide +kernel
theorem dL_law_334 : decode cL_law 334 = .ok (.aload_n 0, 1) := by decide +kernel
theorem dL_law_335 : decode cL_law 335 = .ok (.iload_n 3, 1) := by decide +kernel
theorem dL_law_336 : decode cL_law 336 = .ok (.iconst 1, 1) := by decide +kernel
theorem dL_law_337 : decode cL_law 337 = .ok (.iadd, 1) := by decide +kernel
theorem dL_law_338 : decode cL_law 338 = .ok (.iaload, 1) := by decide +kernel
theorem dL_law_339 : decode cL_law 339 = .ok (.aload_n 0, 1) := by decide +kernel
theorem dL_law_340 : decode cL_law 340 = .ok (.iload_n 3, 1) := by decide +kernel
theorem dL_law_341 : decode cL_law 341 = .ok (.iconst 2, 1) := by decide +kernel
theorem dL_law_342 : decode cL_law 342 = .ok (.iadd, 1) := by decide +kernel
theorem dL_law_343 : decode cL_law 343 = .ok (.iaload, 1) := by decide +kernel
theorem dL_law_344 : decode cL_law 344 = .ok (.invokevirtual 39, 3) := by decide +kernel
theorem dL_law_347 : decode cL_law 347 = .ok (.if_icmp .eq 644, 3) := by decide +kernel
theorem dL_law_350 : decode cL_law 350 = .ok (.iconst 0, 1) := by decide +kernel
theorem dL_law_351 : decode cL_law 351 = .ok (.ireturn, 1) := by decide +kernel
theorem dL_law_352 : decode cL_law 352 = .ok (.aload_n 1, 1) := by decide +kernel
theorem dL_law_353 : decode cL_law 353 = .ok (.aload_n 0, 1) := by decide +kernel
theorem dL_law_354 : decode cL_law 354 = .ok (.iload_n 3, 1) := by decide +kernel
theorem dL_law_355 : decode cL_law 355 = .ok (.iconst 1, 1) := by decide +kernel
theorem dL_law_356 : decode cL_law 356 = .ok (.iadd, 1) := by decide +kernel
theorem dL_law_357 : decode cL_law 357 = .ok (.iaload, 1) := by decide +kernel
theorem dL_law_358 : decode cL_law 358 = .ok (.aload_n 0, 1) := by decide +kernel
theorem dL_law_359 : decode cL_law 359 = .ok (.iload_n 3, 1) := by decide +kernel
theorem dL_law_360 : decode cL_law 360 = .ok (.iconst 2, 1) := by decide +kernel
theorem dL_law_361 : decode cL_law 361 = .ok (.iadd, 1) := by decide +kernel
theorem dL_law_362 : decode cL_law 362 = .ok (.iaload, 1) := by decide +kernel
theorem dL_law_363 : decode cL_law 363 = .ok (.invokevirtual 40, 3) := by decide +kernel
theorem dL_law_366 : decode cL_law 366 = .ok (.aload_n 2, 1) := by decide +kernel
theorem dL_law_367 : decode cL_law 367 = .ok (.aload_n 0, 1) := by decide +kernel
theorem dL_law_368 : decode cL_law 368 = .ok (.iload_n 3, 1) := by decide +kernel
theorem dL_law_369 : decode cL_law 369 = .ok (.iconst 1, 1) := by decide +kernel
theorem dL_law_370 : decode cL_law 370 = .ok (.iadd, 1) := by decide +kernel
theorem dL_law_371 : decode cL_law 371 = .ok (.iaload, 1) := by decide +kernel
theorem dL_law_372 : decode cL_law 372 = .ok (.aload_n 0, 1) := by decide +kernel
theorem dL_law_373 : decode cL_law 373 = .ok (.iload_n 3, 1) := by decide +kernel
theorem dL_law_374 : decode cL_law 374 = .ok (.iconst 2, 1) := by decide +kernel
theorem dL_law_375 : decode cL_law 375 = .ok (.iadd, 1) := by decide +kernel
theorem dL_law_376 : decode cL_law 376 = .ok (.iaload, 1) := by decide +kernel
theorem dL_law_377 : decode cL_law 377 = .ok (.invokevirtual 43, 3) := by decide +kernel
theorem dL_law_380 : decode cL_law 380 = .ok (.if_icmp .eq 611, 3) := by decide +kernel
theorem dL_law_383 : decode cL_law 383 = .ok (.iconst 0, 1) := by decide +kernel
theorem dL_law_384 : decode cL_law 384 = .ok (.ireturn, 1) := by decide +kernel
theorem dL_law_385 : decode cL_law 385 = .ok (.aload_n 1, 1) := by decide +kernel
theorem dL_law_386 : decode cL_law 386 = .ok (.aload_n 0, 1) := by decide +kernel
theorem dL_law_387 : decode cL_law 387 = .ok (.iload_n 3, 1) := by decide +kernel
theorem dL_law_388 : decode cL_law 388 = .ok (.iconst 1, 1) := by decide +kernel
theorem dL_law_389 : decode cL_law 389 = .ok (.iadd, 1) := by decide +kernel
theorem dL_law_390 : decode cL_law 390 = .ok (.iaload, 1) := by decide +kernel
theorem dL_law_391 : decode cL_law 391 = .ok (.aload_n 0, 1) := by decide +kernel
theorem dL_law_392 : decode cL_law 392 = .ok (.iload_n 3, 1) := by decide +kernel
theorem dL_law_393 : decode cL_law 393 = .ok (.iconst 2, 1) := by decide +kernel
theorem dL_law_394 : decode cL_law 394 = .ok (.iadd, 1) := by decide +kernel
theorem dL_law_395 : decode cL_law 395 = .ok (.iaload, 1) := by decide +kernel
theorem dL_law_396 : decode cL_law 396 = .ok (.invokevirtual 44, 3) := by decide +kernel
theorem dL_law_399 : decode cL_law 399 = .ok (.aload_n 2, 1) := by decide +kernel
theorem dL_law_400 : decode cL_law 400 = .ok (.aload_n 0, 1) := by decide +kernel
theorem dL_law_401 : decode cL_law 401 = .ok (.iload_n 3, 1) := by decide +kernel
theorem dL_law_402 : decode cL_law 402 = .ok (.iconst 1, 1) := by decide +kernel
theorem dL_law_403 : decode cL_law 403 = .ok (.iadd, 1) := by decide +kernel
theorem dL_law_404 : decode cL_law 404 = .ok (.iaload, 1) := by decide +kernel
theorem dL_law_405 : decode cL_law 405 = .ok (.aload_n 0, 1) := by decide +kernel
theorem dL_law_406 : decode cL_law 406 = .ok (.iload_n 3, 1) := by decide +kernel
theorem dL_law_407 : decode cL_law 407 = .ok (.iconst 2, 1) := by decide +kernel
theorem dL_law_408 : decode cL_law 408 = .ok (.iadd, 1) := by decide +kernel
theorem dL_law_409 : decode cL_law 409 = .ok (.iaload, 1) := by decide +kernel
theorem dL_law_410 : decode cL_law 410 = .ok (.invokevirtual 47, 3) := by decide +kernel
theorem dL_law_413 : decode cL_law 413 = .ok (.if_icmp .eq 578, 3) := by decide +kernel
theorem dL_law_416 : decode cL_law 416 = .ok (.iconst 0, 1) := by decide +kernel
theorem dL_law_417 : decode cL_law 417 = .ok (.ireturn, 1) := by decide +kernel
theorem dL_law_418 : decode cL_law 418 = .ok (.aload_n 1, 1) := by decide +kernel
theorem dL_law_419 : decode cL_law 419 = .ok (.aload_n 0, 1) := by decide +kernel
theorem dL_law_420 : decode cL_law 420 = .ok (.iload_n 3, 1) := by decide +kernel
theorem dL_law_421 : decode cL_law 421 = .ok (.iconst 1, 1) := by decide +kernel
theorem dL_law_422 : decode cL_law 422 = .ok (.iadd, 1) := by decide +kernel
theorem dL_law_423 : decode cL_law 423 = .ok (.iaload, 1) := by decide +kernel
theorem dL_law_424 : decode cL_law 424 = .ok (.aload_n 0, 1) := by decide +kernel
theorem dL_law_425 : decode cL_law 425 = .ok (.iload_n 3, 1) := by decide +kernel
theorem dL_law_426 : decode cL_law 426 = .ok (.iconst 2, 1) := by decide +kernel
theorem dL_law_427 : decode cL_law 427 = .ok (.iadd, 1) := by decide +kernel
theorem dL_law_428 : decode cL_law 428 = .ok (.iaload, 1) := by decide +kernel
theorem dL_law_429 : decode cL_law 429 = .ok (.invokevirtual 48, 3) := by decide +kernel
theorem dL_law_432 : decode cL_law 432 = .ok (.aload_n 2, 1) := by decide +kernel
theorem dL_law_433 : decode cL_law 433 = .ok (.aload_n 0, 1) := by decide +kernel
theorem dL_law_434 : decode cL_law 434 = .ok (.iload_n 3, 1) := by decide +kernel
theorem dL_law_435 : decode cL_law 435 = .ok (.iconst 1, 1) := by decide +kernel
theorem dL_law_436 : decode cL_law 436 = .ok (.iadd, 1) := by decide +kernel
theorem dL_law_437 : decode cL_law 437 = .ok (.iaload, 1) := by decide +kernel
theorem dL_law_438 : decode cL_law 438 = .ok (.aload_n 0, 1) := by decide +kernel
theorem dL_law_439 : decode cL_law 439 = .ok (.iload_n 3, 1) := by decide +kernel
theorem dL_law_440 : decode cL_law 440 = .ok (.iconst 2, 1) := by decide +kernel
theorem dL_law_441 : decode cL_law 441 = .ok (.iadd, 1) := by decide +kernel
theorem dL_law_442 : decode cL_law 442 = .ok (.iaload, 1) := by decide +kernel
theorem dL_law_443 : decode cL_law 443 = .ok (.invokevirtual 51, 3) := by decide +kernel
theorem dL_law_446 : decode cL_law 446 = .ok (.if_icmp .eq 545, 3) := by decide +kernel
theorem dL_law_449 : decode cL_law 449 = .ok (.iconst 0, 1) := by decide +kernel
theorem dL_law_450 : decode cL_law 450 = .ok (.ireturn, 1) := by decide +kernel
theorem dL_law_451 : decode cL_law 451 = .ok (.aload_n 1, 1) := by decide +kernel
theorem dL_law_452 : decode cL_law 452 = .ok (.aload_n 0, 1) := by decide +kernel
theorem dL_law_453 : decode cL_law 453 = .ok (.iload_n 3, 1) := by decide +kernel
theorem dL_law_454 : decode cL_law 454 = .ok (.iconst 1, 1) := by decide +kernel
theorem dL_law_455 : decode cL_law 455 = .ok (.iadd, 1) := by decide +kernel
theorem dL_law_456 : decode cL_law 456 = .ok (.iaload, 1) := by decide +kernel
theorem dL_law_457 : decode cL_law 457 = .ok (.aload_n 0, 1) := by decide +kernel
theorem dL_law_458 : decode cL_law 458 = .ok (.iload_n 3, 1) := by decide +kernel
theorem dL_law_459 : decode cL_law 459 = .ok (.iconst 2, 1) := by decide +kernel
theorem dL_law_460 : decode cL_law 460 = .ok (.iadd, 1) := by decide +kernel
theorem dL_law_461 : decode cL_law 461 = .ok (.iaload, 1) := by decide +kernel
theorem dL_law_462 : decode cL_law 462 = .ok (.aload_n 0, 1) := by decide +kernel
theorem dL_law_463 : decode cL_law 463 = .ok (.iload_n 3, 1) := by decide +kernel
theorem dL_law_464 : decode cL_law 464 = .ok (.iconst 3, 1) := by decide +kernel
theorem dL_law_465 : decode cL_law 465 = .ok (.iadd, 1) := by decide +kernel
theorem dL_law_466 : decode cL_law 466 = .ok (.iaload, 1) := by decide +kernel
theorem dL_law_467 : decode cL_law 467 = .ok (.invokevirtual 52, 3) := by decide +kernel
theorem dL_law_470 : decode cL_law 470 = .ok (.aload_n 2, 1) := by decide +kernel
theorem dL_law_471 : decode cL_law 471 = .ok (.aload_n 0, 1) := by decide +kernel
theorem dL_law_472 : decode cL_law 472 = .ok (.iload_n 3, 1) := by decide +kernel
theorem dL_law_473 : decode cL_law 473 = .ok (.iconst 1, 1) := by decide +kernel
theorem dL_law_474 : decode cL_law 474 = .ok (.iadd, 1) := by decide +kernel
theorem dL_law_475 : decode cL_law 475 = .ok (.iaload, 1) := by decide +kernel
theorem dL_law_476 : decode cL_law 476 = .ok (.aload_n 0, 1) := by decide +kernel
theorem dL_law_477 : decode cL_law 477 = .ok (.iload_n 3, 1) := by decide +kernel
theorem dL_law_478 : decode cL_law 478 = .ok (.iconst 2, 1) := by decide +kernel
theorem dL_law_479 : decode cL_law 479 = .ok (.iadd, 1) := by decide +kernel
theorem dL_law_480 : decode cL_law 480 = .ok (.iaload, 1) := by decide +kernel
theorem dL_law_481 : decode cL_law 481 = .ok (.aload_n 0, 1) := by decide +kernel
theorem dL_law_482 : decode cL_law 482 = .ok (.iload_n 3, 1) := by decide +kernel
theorem dL_law_483 : decode cL_law 483 = .ok (.iconst 3, 1) := by decide +kernel
theorem dL_law_484 : decode cL_law 484 = .ok (.iadd, 1) := by decide +kernel
theorem dL_law_485 : decode cL_law 485 = .ok (.iaload, 1) := by decide +kernel
theorem dL_law_486 : decode cL_law 486 = .ok (.invokevirtual 56, 3) := by decide +kernel
theorem dL_law_489 : decode cL_law 489 = .ok (.if_icmp .eq 502, 3) := by decide +kernel
theorem dL_law_492 : decode cL_law 492 = .ok (.iconst 0, 1) := by decide +kernel
theorem dL_law_493 : decode cL_law 493 = .ok (.ireturn, 1) := by decide +kernel
theorem dL_law_494 : decode cL_law 494 = .ok (.aload_n 1, 1) := by decide +kernel
theorem dL_law_495 : decode cL_law 495 = .ok (.aload_n 0, 1) := by decide +kernel
theorem dL_law_496 : decode cL_law 496 = .ok (.iload_n 3, 1) := by decide +kernel
theorem dL_law_497 : decode cL_law 497 = .ok (.iconst 1, 1) := by decide +kernel
theorem dL_law_498 : decode cL_law 498 = .ok (.iadd, 1) := by decide +kernel
theorem dL_law_499 : decode cL_law 499 = .ok (.iaload, 1) := by decide +kernel
theorem dL_law_500 : decode cL_law 500 = .ok (.aload_n 0, 1) := by decide +kernel
theorem dL_law_501 : decode cL_law 501 = .ok (.iload_n 3, 1) := by decide +kernel
theorem dL_law_502 : decode cL_law 502 = .ok (.iconst 2, 1) := by decide +kernel
theorem dL_law_503 : decode cL_law 503 = .ok (.iadd, 1) := by decide +kernel
theorem dL_law_504 : decode cL_law 504 = .ok (.iaload, 1) := by decide +kernel
theorem dL_law_505 : decode cL_law 505 = .ok (.invokevirtual 57, 3) := by decide +kernel
theorem dL_law_508 : decode cL_law 508 = .ok (.aload_n 2, 1) := by decide +kernel
theorem dL_law_509 : decode cL_law 509 = .ok (.aload_n 0, 1) := by decide +kernel
theorem dL_law_510 : decode cL_law 510 = .ok (.iload_n 3, 1) := by decide +kernel
theorem dL_law_511 : decode cL_law 511 = .ok (.iconst 1, 1) := by decide +kernel
theorem dL_law_512 : decode cL_law 512 = .ok (.iadd, 1) := by decide +kernel
theorem dL_law_513 : decode cL_law 513 = .ok (.iaload, 1) := by decide +kernel
theorem dL_law_514 : decode cL_law 514 = .ok (.aload_n 0, 1) := by decide +kernel
theorem dL_law_515 : decode cL_law 515 = .ok (.iload_n 3, 1) := by decide +kernel
theorem dL_law_516 : decode cL_law 516 = .ok (.iconst 2, 1) := by decide +kernel
theorem dL_law_517 : decode cL_law 517 = .ok (.iadd, 1) := by decide +kernel
theorem dL_law_518 : decode cL_law 518 = .ok (.iaload, 1) := by decide +kernel
theorem dL_law_519 : decode cL_law 519 = .ok (.invokevirtual 60, 3) := by decide +kernel
theorem dL_law_522 : decode cL_law 522 = .ok (.if_icmp .eq 469, 3) := by decide +kernel
theorem dL_law_525 : decode cL_law 525 = .ok (.iconst 0, 1) := by decide +kernel
theorem dL_law_526 : decode cL_law 526 = .ok (.ireturn, 1) := by decide +kernel
theorem dL_law_527 : decode cL_law 527 = .ok (.aload_n 1, 1) := by decide +kernel
theorem dL_law_528 : decode cL_law 528 = .ok (.aload_n 0, 1) := by decide +kernel
theorem dL_law_529 : decode cL_law 529 = .ok (.iload_n 3, 1) := by decide +kernel
theorem dL_law_530 : decode cL_law 530 = .ok (.iconst 1, 1) := by decide +kernel
theorem dL_law_531 : decode cL_law 531 = .ok (.iadd, 1) := by decide +kernel
theorem dL_law_532 : decode cL_law 532 = .ok (.iaload, 1) := by decide +kernel
theorem dL_law_533 : decode cL_law 533 = .ok (.aload_n 0, 1) := by decide +kernel
theorem dL_law_534 : decode cL_law 534 = .ok (.iload_n 3, 1) := by decide +kernel
theorem dL_law_535 : decode cL_law 535 = .ok (.iconst 2, 1) := by decide +kernel
theorem dL_law_536 : decode cL_law 536 = .ok (.iadd, 1) := by decide +kernel
theorem dL_law_537 : decode cL_law 537 = .ok (.iaload, 1) := by decide +kernel
theorem dL_law_538 : decode cL_law 538 = .ok (.invokevirtual 61, 3) := by decide +kernel
theorem dL_law_541 : decode cL_law 541 = .ok (.aload_n 2, 1) := by decide +kernel
theorem dL_law_542 : decode cL_law 542 = .ok (.aload_n 0, 1) := by decide +kernel
theorem dL_law_543 : decode cL_law 543 = .ok (.iload_n 3, 1) := by decide +kernel
theorem dL_law_544 : decode cL_law 544 = .ok (.iconst 1, 1) := by decide +kernel
theorem dL_law_545 : decode cL_law 545 = .ok (.iadd, 1) := by decide +kernel
theorem dL_law_546 : decode cL_law 546 = .ok (.iaload, 1) := by decide +kernel
theorem dL_law_547 : decode cL_law 547 = .ok (.aload_n 0, 1) := by decide +kernel
theorem dL_law_548 : decode cL_law 548 = .ok (.iload_n 3, 1) := by decide +kernel
theorem dL_law_549 : decode cL_law 549 = .ok (.iconst 2, 1) := by decide +kernel
theorem dL_law_550 : decode cL_law 550 = .ok (.iadd, 1) := by decide +kernel
theorem dL_law_551 : decode cL_law 551 = .ok (.iaload, 1) := by decide +kernel
theorem dL_law_552 : decode cL_law 552 = .ok (.invokevirtual 64, 3) := by decide +kernel
theorem dL_law_555 : decode cL_law 555 = .ok (.if_icmp .eq 436, 3) := by decide +kernel
theorem dL_law_558 : decode cL_law 558 = .ok (.iconst 0, 1) := by decide +kernel
theorem dL_law_559 : decode cL_law 559 = .ok (.ireturn, 1) := by decide +kernel
theorem dL_law_560 : decode cL_law 560 = .ok (.aload_n 1, 1) := by decide +kernel
theorem dL_law_561 : decode cL_law 561 = .ok (.aload_n 0, 1) := by decide +kernel
theorem dL_law_562 : decode cL_law 562 = .ok (.iload_n 3, 1) := by decide +kernel
theorem dL_law_563 : decode cL_law 563 = .ok (.iconst 1, 1) := by decide +kernel
theorem dL_law_564 : decode cL_law 564 = .ok (.iadd, 1) := by decide +kernel
theorem dL_law_565 : decode cL_law 565 = .ok (.iaload, 1) := by decide +kernel
theorem dL_law_566 : decode cL_law 566 = .ok (.aload_n 0, 1) := by decide +kernel
theorem dL_law_567 : decode cL_law 567 = .ok (.iload_n 3, 1) := by decide +kernel
theorem dL_law_568 : decode cL_law 568 = .ok (.iconst 2, 1) := by decide +kernel
theorem dL_law_569 : decode cL_law 569 = .ok (.iadd, 1) := by decide +kernel
theorem dL_law_570 : decode cL_law 570 = .ok (.iaload, 1) := by decide +kernel
theorem dL_law_571 : decode cL_law 571 = .ok (.invokevirtual 65, 3) := by decide +kernel
theorem dL_law_574 : decode cL_law 574 = .ok (.aload_n 2, 1) := by decide +kernel
theorem dL_law_575 : decode cL_law 575 = .ok (.aload_n 0, 1) := by decide +kernel
theorem dL_law_576 : decode cL_law 576 = .ok (.iload_n 3, 1) := by decide +kernel
theorem dL_law_577 : decode cL_law 577 = .ok (.iconst 1, 1) := by decide +kernel
theorem dL_law_578 : decode cL_law 578 = .ok (.iadd, 1) := by decide +kernel
theorem dL_law_579 : decode cL_law 579 = .ok (.iaload, 1) := by decide +kernel
theorem dL_law_580 : decode cL_law 580 = .ok (.aload_n 0, 1) := by decide +kernel
theorem dL_law_581 : decode cL_law 581 = .ok (.iload_n 3, 1) := by decide +kernel
theorem dL_law_582 : decode cL_law 582 = .ok (.iconst 2, 1) := by decide +kernel
theorem dL_law_583 : decode cL_law 583 = .ok (.iadd, 1) := by decide +kernel
theorem dL_law_584 : decode cL_law 584 = .ok (.iaload, 1) := by decide +kernel
theorem dL_law_585 : decode cL_law 585 = .ok (.invokevirtual 68, 3) := by decide +kernel
theorem dL_law_588 : decode cL_law 588 = .ok (.if_icmp .eq 403, 3) := by decide +kernel
theorem dL_law_591 : decode cL_law 591 = .ok (.iconst 0, 1) := by decide +kernel
theorem dL_law_592 : decode cL_law 592 = .ok (.ireturn, 1) := by decide +kernel
theorem dL_law_593 : decode cL_law 593 = .ok (.aload_n 1, 1) := by decide +kernel
theorem dL_law_594 : decode cL_law 594 = .ok (.aload_n 0, 1) := by decide +kernel
theorem dL_law_595 : decode cL_law 595 = .ok (.iload_n 3, 1) := by decide +kernel
theorem dL_law_596 : decode cL_law 596 = .ok (.iconst 1, 1) := by decide +kernel
theorem dL_law_597 : decode cL_law 597 = .ok (.iadd, 1) := by decide +kernel
theorem dL_law_598 : decode cL_law 598 = .ok (.iaload, 1) := by decide +kernel
theorem dL_law_599 : decode cL_law 599 = .ok (.invokevirtual 69, 3) := by decide +kernel
theorem dL_law_602 : decode cL_law 602 = .ok (.aload_n 2, 1) := by decide +kernel
theorem dL_law_603 : decode cL_law 603 = .ok (.aload_n 0, 1) := by decide +kernel
theorem dL_law_604 : decode cL_law 604 = .ok (.iload_n 3, 1) := by decide +kernel
theorem dL_law_605 : decode cL_law 605 = .ok (.iconst 1, 1) := by decide +kernel
theorem dL_law_606 : decode cL_law 606 = .ok (.iadd, 1) := by decide +kernel
theorem dL_law_607 : decode cL_law 607 = .ok (.iaload, 1) := by decide +kernel
theorem dL_law_608 : decode cL_law 608 = .ok (.invokevirtual 72, 3) := by decide +kernel
theorem dL_law_611 : decode cL_law 611 = .ok (.if_icmp .eq 380, 3) := by decide +kernel
theorem dL_law_614 : decode cL_law 614 = .ok (.iconst 0, 1) := by decide +kernel
theorem dL_law_615 : decode cL_law 615 = .ok (.ireturn, 1) := by decide +kernel
theorem dL_law_616 : decode cL_law 616 = .ok (.aload_n 1, 1) := by decide +kernel
theorem dL_law_617 : decode cL_law 617 = .ok (.aload_n 0, 1) := by decide +kernel
theorem dL_law_618 : decode cL_law 618 = .ok (.iload_n 3, 1) := by decide +kernel
theorem dL_law_619 : decode cL_law 619 = .ok (.iconst 1, 1) := by decide +kernel
theorem dL_law_620 : decode cL_law 620 = .ok (.iadd, 1) := by decide +kernel
theorem dL_law_621 : decode cL_law 621 = .ok (.iaload, 1) := by decide +kernel
theorem dL_law_622 : decode cL_law 622 = .ok (.aload_n 0, 1) := by decide +kernel
theorem dL_law_623 : decode cL_law 623 = .ok (.iload_n 3, 1) := by decide +kernel
theorem dL_law_624 : decode cL_law 624 = .ok (.iconst 2, 1) := by decide +kernel
theorem dL_law_625 : decode cL_law 625 = .ok (.iadd, 1) := by decide +kernel
theorem dL_law_626 : decode cL_law 626 = .ok (.iaload, 1) := by decide +kernel
theorem dL_law_627 : decode cL_law 627 = .ok (.invokevirtual 73, 3) := by decide +kernel
theorem dL_law_630 : decode cL_law 630 = .ok (.aload_n 2, 1) := by decide +kernel
theorem dL_law_631 : decode cL_law 631 = .ok (.aload_n 0, 1) := by decide +kernel
theorem dL_law_632 : decode cL_law 632 = .ok (.iload_n 3, 1) := by decide +kernel
theorem dL_law_633 : decode cL_law 633 = .ok (.iconst 1, 1) := by decide +kernel
theorem dL_law_634 : decode cL_law 634 = .ok (.iadd, 1) := by decide +kernel
theorem dL_law_635 : decode cL_law 635 = .ok (.iaload, 1) := by decide +kernel
theorem dL_law_636 : decode cL_law 636 = .ok (.aload_n 0, 1) := by decide +kernel
theorem dL_law_637 : decode cL_law 637 = .ok (.iload_n 3, 1) := by decide +kernel
theorem dL_law_638 : decode cL_law 638 = .ok (.iconst 2, 1) := by decide +kernel
theorem dL_law_639 : decode cL_law 639 = .ok (.iadd, 1) := by decide +kernel
theorem dL_law_640 : decode cL_law 640 = .ok (.iaload, 1) := by decide +kernel
theorem dL_law_641 : decode cL_law 641 = .ok (.invokevirtual 76, 3) := by decide +kernel
theorem dL_law_644 : decode cL_law 644 = .ok (.if_icmp .eq 347, 3) := by decide +kernel
theorem dL_law_647 : decode cL_law 647 = .ok (.iconst 0, 1) := by decide +kernel
theorem dL_law_648 : decode cL_law 648 = .ok (.ireturn, 1) := by decide +kernel
theorem dL_law_649 : decode cL_law 649 = .ok (.aload_n 1, 1) := by decide +kernel
theorem dL_law_650 : decode cL_law 650 = .ok (.aload_n 0, 1) := by decide +kernel
theorem dL_law_651 : decode cL_law 651 = .ok (.iload_n 3, 1) := by decide +kernel
theorem dL_law_652 : decode cL_law 652 = .ok (.iconst 1, 1) := by decide +kernel
theorem dL_law_653 : decode cL_law 653 = .ok (.iadd, 1) := by decide +kernel
theorem dL_law_654 : decode cL_law 654 = .ok (.iaload, 1) := by decide +kernel
theorem dL_law_655 : decode cL_law 655 = .ok (.invokevirtual 77, 3) := by decide +kernel
theorem dL_law_658 : decode cL_law 658 = .ok (.aload_n 2, 1) := by decide +kernel
theorem dL_law_659 : decode cL_law 659 = .ok (.aload_n 0, 1) := by decide +kernel
theorem dL_law_660 : decode cL_law 660 = .ok (.iload_n 3, 1) := by decide +kernel
theorem dL_law_661 : decode cL_law 661 = .ok (.iconst 1, 1) := by decide +kernel
theorem dL_law_662 : decode cL_law 662 = .ok (.iadd, 1) := by decide +kernel
theorem dL_law_663 : decode cL_law 663 = .ok (.iaload, 1) := by decide +kernel
theorem dL_law_664 : decode cL_law 664 = .ok (.invokevirtual 80, 3) := by decide +kernel
theorem dL_law_667 : decode cL_law 667 = .ok (.if_icmp .eq 324, 3) := by decide +kernel
theorem dL_law_670 : decode cL_law 670 = .ok (.iconst 0, 1) := by decide +kernel
theorem dL_law_671 : decode cL_law 671 = .ok (.ireturn, 1) := by decide +kernel
theorem dL_law_672 : decode cL_law 672 = .ok (.aload_n 1, 1) := by decide +kernel
theorem dL_law_673 : decode cL_law 673 = .ok (.invokevirtual 81, 3) := by decide +kernel
theorem dL_law_676 : decode cL_law 676 = .ok (.aload_n 2, 1) := by decide +kernel
theorem dL_law_677 : decode cL_law 677 = .ok (.invokevirtual 85, 3) := by decide +kernel
theorem dL_law_680 : decode cL_law 680 = .ok (.if_icmp .eq 311, 3) := by decide +kernel
theorem dL_law_683 : decode cL_law 683 = .ok (.iconst 0, 1) := by decide +kernel
theorem dL_law_684 : decode cL_law 684 = .ok (.ireturn, 1) := by decide +kernel
theorem dL_law_685 : decode cL_law 685 = .ok (.aload_n 1, 1) := by decide +kernel
theorem dL_law_686 : decode cL_law 686 = .ok (.aload_n 0, 1) := by decide +kernel
theorem dL_law_687 : decode cL_law 687 = .ok (.iload_n 3, 1) := by decide +kernel
theorem dL_law_688 : decode cL_law 688 = .ok (.iconst 1, 1) := by decide +kernel
theorem dL_law_689 : decode cL_law 689 = .ok (.iadd, 1) := by decide +kernel
theorem dL_law_690 : decode cL_law 690 = .ok (.iaload, 1) := by decide +kernel
theorem dL_law_691 : decode cL_law 691 = .ok (.invokevirtual 86, 3) := by decide +kernel
theorem dL_law_694 : decode cL_law 694 = .ok (.aload_n 2, 1) := by decide +kernel
theorem dL_law_695 : decode cL_law 695 = .ok (.aload_n 0, 1) := by decide +kernel
theorem dL_law_696 : decode cL_law 696 = .ok (.iload_n 3, 1) := by decide +kernel
theorem dL_law_697 : decode cL_law 697 = .ok (.iconst 1, 1) := by decide +kernel
theorem dL_law_698 : decode cL_law 698 = .ok (.iadd, 1) := by decide +kernel
theorem dL_law_699 : decode cL_law 699 = .ok (.iaload, 1) := by decide +kernel
theorem dL_law_700 : decode cL_law 700 = .ok (.invokevirtual 89, 3) := by decide +kernel
theorem dL_law_703 : decode cL_law 703 = .ok (.if_icmp .eq 288, 3) := by decide +kernel
theorem dL_law_706 : decode cL_law 706 = .ok (.iconst 0, 1) := by decide +kernel
theorem dL_law_707 : decode cL_law 707 = .ok (.ireturn, 1) := by decide +kernel
theorem dL_law_708 : decode cL_law 708 = .ok (.aload_n 1, 1) := by decide +kernel
theorem dL_law_709 : decode cL_law 709 = .ok (.aload_n 0, 1) := by decide +kernel
theorem dL_law_710 : decode cL_law 710 = .ok (.iload_n 3, 1) := by decide +kernel
theorem dL_law_711 : decode cL_law 711 = .ok (.iconst 1, 1) := by decide +kernel
theorem dL_law_712 : decode cL_law 712 = .ok (.iadd, 1) := by decide +kernel
theorem dL_law_713 : decode cL_law 713 = .ok (.iaload, 1) := by decide +kernel
theorem dL_law_714 : decode cL_law 714 = .ok (.invokevirtual 90, 3) := by decide +kernel
theorem dL_law_717 : decode cL_law 717 = .ok (.aload_n 2, 1) := by decide +kernel
theorem dL_law_718 : decode cL_law 718 = .ok (.aload_n 0, 1) := by decide +kernel
theorem dL_law_719 : decode cL_law 719 = .ok (.iload_n 3, 1) := by decide +kernel
theorem dL_law_720 : decode cL_law 720 = .ok (.iconst 1, 1) := by decide +kernel
theorem dL_law_721 : decode cL_law 721 = .ok (.iadd, 1) := by decide +kernel
theorem dL_law_722 : decode cL_law 722 = .ok (.iaload, 1) := by decide +kernel
theorem dL_law_723 : decode cL_law 723 = .ok (.invokevirtual 93, 3) := by decide +kernel
theorem dL_law_726 : decode cL_law 726 = .ok (.if_icmp .eq 265, 3) := by decide +kernel
theorem dL_law_729 : decode cL_law 729 = .ok (.iconst 0, 1) := by decide +kernel
theorem dL_law_730 : decode cL_law 730 = .ok (.ireturn, 1) := by decide +kernel
theorem dL_law_731 : decode cL_law 731 = .ok (.aload_n 1, 1) := by decide +kernel
theorem dL_law_732 : decode cL_law 732 = .ok (.aload_n 0, 1) := by decide +kernel
theorem dL_law_733 : decode cL_law 733 = .ok (.iload_n 3, 1) := by decide +kernel
theorem dL_law_734 : decode cL_law 734 = .ok (.iconst 1, 1) := by decide +kernel
theorem dL_law_735 : decode cL_law 735 = .ok (.iadd, 1) := by decide +kernel
theorem dL_law_736 : decode cL_law 736 = .ok (.iaload, 1) := by decide +kernel
theorem dL_law_737 : decode cL_law 737 = .ok (.invokevirtual 94, 3) := by decide +kernel
theorem dL_law_740 : decode cL_law 740 = .ok (.aload_n 2, 1) := by decide +kernel
theorem dL_law_741 : decode cL_law 741 = .ok (.aload_n 0, 1) := by decide +kernel
theorem dL_law_742 : decode cL_law 742 = .ok (.iload_n 3, 1) := by decide +kernel
theorem dL_law_743 : decode cL_law 743 = .ok (.iconst 1, 1) := by decide +kernel
theorem dL_law_744 : decode cL_law 744 = .ok (.iadd, 1) := by decide +kernel
theorem dL_law_745 : decode cL_law 745 = .ok (.iaload, 1) := by decide +kernel
theorem dL_law_746 : decode cL_law 746 = .ok (.invokevirtual 97, 3) := by decide +kernel
theorem dL_law_749 : decode cL_law 749 = .ok (.if_icmp .eq 242, 3) := by decide +kernel
theorem dL_law_752 : decode cL_law 752 = .ok (.iconst 0, 1) := by decide +kernel
theorem dL_law_753 : decode cL_law 753 = .ok (.ireturn, 1) := by decide +kernel
theorem dL_law_754 : decode cL_law 754 = .ok (.aload_n 1, 1) := by decide +kernel
theorem dL_law_755 : decode cL_law 755 = .ok (.aload_n 0, 1) := by decide +kernel
theorem dL_law_756 : decode cL_law 756 = .ok (.iload_n 3, 1) := by decide +kernel
theorem dL_law_757 : decode cL_law 757 = .ok (.iconst 1, 1) := by decide +kernel
theorem dL_law_758 : decode cL_law 758 = .ok (.iadd, 1) := by decide +kernel
theorem dL_law_759 : decode cL_law 759 = .ok (.iaload, 1) := by decide +kernel
theorem dL_law_760 : decode cL_law 760 = .ok (.aload_n 0, 1) := by decide +kernel
theorem dL_law_761 : decode cL_law 761 = .ok (.iload_n 3, 1) := by decide +kernel
theorem dL_law_762 : decode cL_law 762 = .ok (.iconst 2, 1) := by decide +kernel
theorem dL_law_763 : decode cL_law 763 = .ok (.iadd, 1) := by decide +kernel
theorem dL_law_764 : decode cL_law 764 = .ok (.iaload, 1) := by decide +kernel
theorem dL_law_765 : decode cL_law 765 = .ok (.invokevirtual 98, 3) := by decide +kernel
theorem dL_law_768 : decode cL_law 768 = .ok (.aload_n 2, 1) := by decide +kernel
theorem dL_law_769 : decode cL_law 769 = .ok (.aload_n 0, 1) := by decide +kernel
theorem dL_law_770 : decode cL_law 770 = .ok (.iload_n 3, 1) := by decide +kernel
theorem dL_law_771 : decode cL_law 771 = .ok (.iconst 1, 1) := by decide +kernel
theorem dL_law_772 : decode cL_law 772 = .ok (.iadd, 1) := by decide +kernel
theorem dL_law_773 : decode cL_law 773 = .ok (.iaload, 1) := by decide +kernel
theorem dL_law_774 : decode cL_law 774 = .ok (.aload_n 0, 1) := by decide +kernel
theorem dL_law_775 : decode cL_law 775 = .ok (.iload_n 3, 1) := by decide +kernel
theorem dL_law_776 : decode cL_law 776 = .ok (.iconst 2, 1) := by decide +kernel
theorem dL_law_777 : decode cL_law 777 = .ok (.iadd, 1) := by decide +kernel
theorem dL_law_778 : decode cL_law 778 = .ok (.iaload, 1) := by decide +kernel
theorem dL_law_779 : decode cL_law 779 = .ok (.invokevirtual 101, 3) := by decide +kernel
theorem dL_law_782 : decode cL_law 782 = .ok (.if_icmp .eq 209, 3) := by decide +kernel
theorem dL_law_785 : decode cL_law 785 = .ok (.iconst 0, 1) := by decide +kernel
theorem dL_law_786 : decode cL_law 786 = .ok (.ireturn, 1) := by decide +kernel
theorem dL_law_787 : decode cL_law 787 = .ok (.aload_n 1, 1) := by decide +kernel
theorem dL_law_788 : decode cL_law 788 = .ok (.aload_n 0, 1) := by decide +kernel
theorem dL_law_789 : decode cL_law 789 = .ok (.iload_n 3, 1) := by decide +kernel
theorem dL_law_790 : decode cL_law 790 = .ok (.iconst 1, 1) := by decide +kernel
theorem dL_law_791 : decode cL_law 791 = .ok (.iadd, 1) := by decide +kernel
theorem dL_law_792 : decode cL_law 792 = .ok (.iaload, 1) := by decide +kernel
theorem dL_law_793 : decode cL_law 793 = .ok (.aload_n 0, 1) := by decide +kernel
theorem dL_law_794 : decode cL_law 794 = .ok (.iload_n 3, 1) := by decide +kernel
theorem dL_law_795 : decode cL_law 795 = .ok (.iconst 2, 1) := by decide +kernel
theorem dL_law_796 : decode cL_law 796 = .ok (.iadd, 1) := by decide +kernel
theorem dL_law_797 : decode cL_law 797 = .ok (.iaload, 1) := by decide +kernel
theorem dL_law_798 : decode cL_law 798 = .ok (.aload_n 0, 1) := by decide +kernel
theorem dL_law_799 : decode cL_law 799 = .ok (.iload_n 3, 1) := by decide +kernel
theorem dL_law_800 : decode cL_law 800 = .ok (.iconst 3, 1) := by decide +kernel
theorem dL_law_801 : decode cL_law 801 = .ok (.iadd, 1) := by decide +kernel
theorem dL_law_802 : decode cL_law 802 = .ok (.iaload, 1) := by decide +kernel
theorem dL_law_803 : decode cL_law 803 = .ok (.invokevirtual 102, 3) := by decide +kernel
theorem dL_law_806 : decode cL_law 806 = .ok (.aload_n 2, 1) := by decide +kernel
theorem dL_law_807 : decode cL_law 807 = .ok (.aload_n 0, 1) := by decide +kernel
theorem dL_law_808 : decode cL_law 808 = .ok (.iload_n 3, 1) := by decide +kernel
theorem dL_law_809 : decode cL_law 809 = .ok (.iconst 1, 1) := by decide +kernel
theorem dL_law_810 : decode cL_law 810 = .ok (.iadd, 1) := by decide +kernel
theorem dL_law_811 : decode cL_law 811 = .ok (.iaload, 1) := by decide +kernel
theorem dL_law_812 : decode cL_law 812 = .ok (.aload_n 0, 1) := by decide +kernel
theorem dL_law_813 : decode cL_law 813 = .ok (.iload_n 3, 1) := by decide +kernel
theorem dL_law_814 : decode cL_law 814 = .ok (.iconst 2, 1) := by decide +kernel
theorem dL_law_815 : decode cL_law 815 = .ok (.iadd, 1) := by decide +kernel
theorem dL_law_816 : decode cL_law 816 = .ok (.iaload, 1) := by decide +kernel
theorem dL_law_817 : decode cL_law 817 = .ok (.aload_n 0, 1) := by decide +kernel
theorem dL_law_818 : decode cL_law 818 = .ok (.iload_n 3, 1) := by decide +kernel
theorem dL_law_819 : decode cL_law 819 = .ok (.iconst 3, 1) := by decide +kernel
theorem dL_law_820 : decode cL_law 820 = .ok (.iadd, 1) := by decide +kernel
theorem dL_law_821 : decode cL_law 821 = .ok (.iaload, 1) := by decide +kernel
theorem dL_law_822 : decode cL_law 822 = .ok (.invokevirtual 105, 3) := by decide +kernel
theorem dL_law_825 : decode cL_law 825 = .ok (.if_icmp .eq 166, 3) := by decide +kernel
theorem dL_law_828 : decode cL_law 828 = .ok (.iconst 0, 1) := by decide +kernel
theorem dL_law_829 : decode cL_law 829 = .ok (.ireturn, 1) := by decide +kernel
theorem dL_law_830 : decode cL_law 830 = .ok (.aload_n 1, 1) := by decide +kernel
theorem dL_law_831 : decode cL_law 831 = .ok (.aload_n 0, 1) := by decide +kernel
theorem dL_law_832 : decode cL_law 832 = .ok (.iload_n 3, 1) := by decide +kernel
theorem dL_law_833 : decode cL_law 833 = .ok (.iconst 1, 1) := by decide +kernel
theorem dL_law_834 : decode cL_law 834 = .ok (.iadd, 1) := by decide +kernel
theorem dL_law_835 : decode cL_law 835 = .ok (.iaload, 1) := by decide +kernel
theorem dL_law_836 : decode cL_law 836 = .ok (.invokevirtual 106, 3) := by decide +kernel
theorem dL_law_839 : decode cL_law 839 = .ok (.aload_n 2, 1) := by decide +kernel
theorem dL_law_840 : decode cL_law 840 = .ok (.aload_n 0, 1) := by decide +kernel
theorem dL_law_841 : decode cL_law 841 = .ok (.iload_n 3, 1) := by decide +kernel
theorem dL_law_842 : decode cL_law 842 = .ok (.iconst 1, 1) := by decide +kernel
theorem dL_law_843 : decode cL_law 843 = .ok (.iadd, 1) := by decide +kernel
theorem dL_law_844 : decode cL_law 844 = .ok (.iaload, 1) := by decide +kernel
theorem dL_law_845 : decode cL_law 845 = .ok (.invokevirtual 109, 3) := by decide +kernel
theorem dL_law_848 : decode cL_law 848 = .ok (.if_icmp .eq 143, 3) := by decide +kernel
theorem dL_law_851 : decode cL_law 851 = .ok (.iconst 0, 1) := by decide +kernel
theorem dL_law_852 : decode cL_law 852 = .ok (.ireturn, 1) := by decide +kernel
theorem dL_law_853 : decode cL_law 853 = .ok (.aload_n 1, 1) := by decide +kernel
theorem dL_law_854 : decode cL_law 854 = .ok (.aload_n 0, 1) := by decide +kernel
theorem dL_law_855 : decode cL_law 855 = .ok (.iload_n 3, 1) := by decide +kernel
theorem dL_law_856 : decode cL_law 856 = .ok (.iconst 1, 1) := by decide +kernel
theorem dL_law_857 : decode cL_law 857 = .ok (.iadd, 1) := by decide +kernel
theorem dL_law_858 : decode cL_law 858 = .ok (.iaload, 1) := by decide +kernel
theorem dL_law_859 : decode cL_law 859 = .ok (.aload_n 0, 1) := by decide +kernel
theorem dL_law_860 : decode cL_law 860 = .ok (.iload_n 3, 1) := by decide +kernel
theorem dL_law_861 : decode cL_law 861 = .ok (.iconst 2, 1) := by decide +kernel
theorem dL_law_862 : decode cL_law 862 = .ok (.iadd, 1) := by decide +kernel
theorem dL_law_863 : decode cL_law 863 = .ok (.iaload, 1) := by decide +kernel
theorem dL_law_864 : decode cL_law 864 = .ok (.aload_n 0, 1) := by decide +kernel
theorem dL_law_865 : decode cL_law 865 = .ok (.iload_n 3, 1) := by decide +kernel
theorem dL_law_866 : decode cL_law 866 = .ok (.iconst 3, 1) := by decide +kernel
theorem dL_law_867 : decode cL_law 867 = .ok (.iadd, 1) := by decide +kernel
theorem dL_law_868 : decode cL_law 868 = .ok (.iaload, 1) := by decide +kernel
theorem dL_law_869 : decode cL_law 869 = .ok (.invokevirtual 110, 3) := by decide +kernel
theorem dL_law_872 : decode cL_law 872 = .ok (.aload_n 2, 1) := by decide +kernel
theorem dL_law_873 : decode cL_law 873 = .ok (.aload_n 0, 1) := by decide +kernel
theorem dL_law_874 : decode cL_law 874 = .ok (.iload_n 3, 1) := by decide +kernel
theorem dL_law_875 : decode cL_law 875 = .ok (.iconst 1, 1) := by decide +kernel
theorem dL_law_876 : decode cL_law 876 = .ok (.iadd, 1) := by decide +kernel
theorem dL_law_877 : decode cL_law 877 = .ok (.iaload, 1) := by decide +kernel
theorem dL_law_878 : decode cL_law 878 = .ok (.aload_n 0, 1) := by decide +kernel
theorem dL_law_879 : decode cL_law 879 = .ok (.iload_n 3, 1) := by decide +kernel
theorem dL_law_880 : decode cL_law 880 = .ok (.iconst 2, 1) := by decide +kernel
theorem dL_law_881 : decode cL_law 881 = .ok (.iadd, 1) := by decide +kernel
theorem dL_law_882 : decode cL_law 882 = .ok (.iaload, 1) := by decide +kernel
theorem dL_law_883 : decode cL_law 883 = .ok (.aload_n 0, 1) := by decide +kernel
theorem dL_law_884 : decode cL_law 884 = .ok (.iload_n 3, 1) := by decide +kernel
theorem dL_law_885 : decode cL_law 885 = .ok (.iconst 3, 1) := by decide +kernel
theorem dL_law_886 : decode cL_law 886 = .ok (.iadd, 1) := by decide +kernel
theorem dL_law_887 : decode cL_law 887 = .ok (.iaload, 1) := by decide +kernel
theorem dL_law_888 : decode cL_law 888 = .ok (.invokevirtual 113, 3) := by decide +kernel
theorem dL_law_891 : decode cL_law 891 = .ok (.if_icmp .eq 100, 3) := by decide +kernel
theorem dL_law_894 : decode cL_law 894 = .ok (.iconst 0, 1) := by decide +kernel
theorem dL_law_895 : decode cL_law 895 = .ok (.ireturn, 1) := by decide +kernel
theorem dL_law_896 : decode cL_law 896 = .ok (.aload_n 1, 1) := by decide +kernel
theorem dL_law_897 : decode cL_law 897 = .ok (.aload_n 0, 1) := by decide +kernel
theorem dL_law_898 : decode cL_law 898 = .ok (.iload_n 3, 1) := by decide +kernel
theorem dL_law_899 : decode cL_law 899 = .ok (.iconst 1, 1) := by decide +kernel
theorem dL_law_900 : decode cL_law 900 = .ok (.iadd, 1) := by decide +kernel
theorem dL_law_901 : decode cL_law 901 = .ok (.iaload, 1) := by decide +kernel
theorem dL_law_902 : decode cL_law 902 = .ok (.invokevirtual 114, 3) := by decide +kernel
theorem dL_law_905 : decode cL_law 905 = .ok (.aload_n 2, 1) := by decide +kernel
theorem dL_law_906 : decode cL_law 906 = .ok (.aload_n 0, 1) := by decide +kernel
theorem dL_law_907 : decode cL_law 907 = .ok (.iload_n 3, 1) := by decide +kernel
theorem dL_law_908 : decode cL_law 908 = .ok (.iconst 1, 1) := by decide +kernel
theorem dL_law_909 : decode cL_law 909 = .ok (.iadd, 1) := by decide +kernel
theorem dL_law_910 : decode cL_law 910 = .ok (.iaload, 1) := by decide +kernel
theorem dL_law_911 : decode cL_law 911 = .ok (.invokevirtual 118, 3) := by decide +kernel
theorem dL_law_914 : decode cL_law 914 = .ok (.if_icmp .eq 77, 3) := by decide +kernel
theorem dL_law_917 : decode cL_law 917 = .ok (.iconst 0, 1) := by decide +kernel
theorem dL_law_918 : decode cL_law 918 = .ok (.ireturn, 1) := by decide +kernel
theorem dL_law_919 : decode cL_law 919 = .ok (.aload_n 1, 1) := by decide +kernel
theorem dL_law_920 : decode cL_law 920 = .ok (.invokevirtual 119, 3) := by decide +kernel
theorem dL_law_923 : decode cL_law 923 = .ok (.aload_n 2, 1) := by decide +kernel
theorem dL_law_924 : decode cL_law 924 = .ok (.invokevirtual 122, 3) := by decide +kernel
theorem dL_law_927 : decode cL_law 927 = .ok (.if_icmp .eq 64, 3) := by decide +kernel
theorem dL_law_930 : decode cL_law 930 = .ok (.iconst 0, 1) := by decide +kernel
theorem dL_law_931 : decode cL_law 931 = .ok (.ireturn, 1) := by decide +kernel
theorem dL_law_932 : decode cL_law 932 = .ok (.aload_n 1, 1) := by decide +kernel
theorem dL_law_933 : decode cL_law 933 = .ok (.invokevirtual 123, 3) := by decide +kernel
theorem dL_law_936 : decode cL_law 936 = .ok (.aload_n 2, 1) := by decide +kernel
theorem dL_law_937 : decode cL_law 937 = .ok (.invokevirtual 127, 3) := by decide +kernel
theorem dL_law_940 : decode cL_law 940 = .ok (.if_icmp .eq 51, 3) := by decide +kernel
theorem dL_law_943 : decode cL_law 943 = .ok (.iconst 0, 1) := by decide +kernel
theorem dL_law_944 : decode cL_law 944 = .ok (.ireturn, 1) := by decide +kernel
theorem dL_law_945 : decode cL_law 945 = .ok (.aload_n 1, 1) := by decide +kernel
theorem dL_law_946 : decode cL_law 946 = .ok (.aload_n 0, 1) := by decide +kernel
theorem dL_law_947 : decode cL_law 947 = .ok (.iload_n 3, 1) := by decide +kernel
theorem dL_law_948 : decode cL_law 948 = .ok (.iconst 1, 1) := by decide +kernel
theorem dL_law_949 : decode cL_law 949 = .ok (.iadd, 1) := by decide +kernel
theorem dL_law_950 : decode cL_law 950 = .ok (.iaload, 1) := by decide +kernel
theorem dL_law_951 : decode cL_law 951 = .ok (.invokevirtual 128, 3) := by decide +kernel
theorem dL_law_954 : decode cL_law 954 = .ok (.aload_n 2, 1) := by decide +kernel
theorem dL_law_955 : decode cL_law 955 = .ok (.aload_n 0, 1) := by decide +kernel
theorem dL_law_956 : decode cL_law 956 = .ok (.iload_n 3, 1) := by decide +kernel
theorem dL_law_957 : decode cL_law 957 = .ok (.iconst 1, 1) := by decide +kernel
theorem dL_law_958 : decode cL_law 958 = .ok (.iadd, 1) := by decide +kernel
theorem dL_law_959 : decode cL_law 959 = .ok (.iaload, 1) := by decide +kernel
theorem dL_law_960 : decode cL_law 960 = .ok (.invokevirtual 131, 3) := by decide +kernel
theorem dL_law_963 : decode cL_law 963 = .ok (.if_icmp .eq 28, 3) := by decide +kernel
theorem dL_law_966 : decode cL_law 966 = .ok (.iconst 0, 1) := by decide +kernel
theorem dL_law_967 : decode cL_law 967 = .ok (.ireturn, 1) := by decide +kernel
theorem dL_law_968 : decode cL_law 968 = .ok (.aload_n 1, 1) := by decide +kernel
theorem dL_law_969 : decode cL_law 969 = .ok (.aload_n 0, 1) := by decide +kernel
theorem dL_law_970 : decode cL_law 970 = .ok (.iload_n 3, 1) := by decide +kernel
theorem dL_law_971 : decode cL_law 971 = .ok (.iconst 1, 1) := by decide +kernel
theorem dL_law_972 : decode cL_law 972 = .ok (.iadd, 1) := by decide +kernel
theorem dL_law_973 : decode cL_law 973 = .ok (.iaload, 1) := by decide +kernel
theorem dL_law_974 : decode cL_law 974 = .ok (.invokevirtual 132, 3) := by decide +kernel
theorem dL_law_977 : decode cL_law 977 = .ok (.aload_n 2, 1) := by decide +kernel
theorem dL_law_978 : decode cL_law 978 = .ok (.aload_n 0, 1) := by decide +kernel
theorem dL_law_979 : decode cL_law 979 = .ok (.iload_n 3, 1) := by decide +kernel
theorem dL_law_980 : decode cL_law 980 = .ok (.iconst 1, 1) := by decide +kernel
theorem dL_law_981 : decode cL_law 981 = .ok (.iadd, 1) := by decide +kernel
theorem dL_law_982 : decode cL_law 982 = .ok (.iaload, 1) := by decide +kernel
theorem dL_law_983 : decode cL_law 983 = .ok (.invokevirtual 135, 3) := by decide +kernel
theorem dL_law_986 : decode cL_law 986 = .ok (.if_icmp .eq 5, 3) := by decide +kernel
theorem dL_law_989 : decode cL_law 989 = .ok (.iconst 0, 1) := by decide +kernel
theorem dL_law_990 : decode cL_law 990 = .ok (.ireturn, 1) := by decide +kernel
theorem dL_law_991 : decode cL_law 991 = .ok (.iinc 3 6, 3) := by decide +kernel
theorem dL_law_994 : decode cL_law 994 = .ok (.goto (-976), 3) := by decide +kernel
theorem dL_law_997 : decode cL_law 997 = .ok (.iconst 1, 1) := by decide +kernel
theorem dL_law_998 : decode cL_law 998 = .ok (.ireturn, 1) := by decide +kernel
