theorem dX7_gives_5 : decode cX7_gives 5 = .ok (.iload_n 1, 1) := by decide +kernel
theorem dX7_gives_6 : decode cX7_gives 6 = .ok (.iload_n 3, 1) := by decide +kernel
theorem dX7_gives_7 : decode cX7_gives 7 = .ok (.if_icmp .gt 11, 3) := by decide +kernel
theorem dX7_gives_10 : decode cX7_gives 10 = .ok (.iload_n 1, 1) := by decide +kernel
theorem dX7_gives_11 : decode cX7_gives 11 = .ok (.aload_n 0, 1) := by decide +kernel
theorem dX7_gives_12 : decode cX7_gives 12 = .ok (.getfield 15, 3) := by decide +kernel
theorem dX7_gives_15 : decode cX7_gives 15 = .ok (.if_icmp .le 5, 3) := by decide +kernel
theorem dX7_gives_18 : decode cX7_gives 18 = .ok (.iconst 0, 1) := by decide +kernel
theorem dX7_gives_19 : decode cX7_gives 19 = .ok (.ireturn, 1) := by decide +kernel
theorem dX7_gives_20 : decode cX7_gives 20 = .ok (.aload_n 0, 1) := by decide +kernel
theorem dX7_gives_21 : decode cX7_gives 21 = .ok (.iconst 0, 1) := by decide +kernel
theorem dX7_gives_22 : decode cX7_gives 22 = .ok (.putfield 15, 3) := by decide +kernel
theorem dX7_gives_25 : decode cX7_gives 25 = .ok (.aload_n 0, 1) := by decide +kernel
theorem dX7_gives_26 : decode cX7_gives 26 = .ok (.iconst 0, 1) := by decide +kernel
theorem dX7_gives_27 : decode cX7_gives 27 = .ok (.putfield 19, 3) := by decide +kernel
theorem dX7_gives_30 : decode cX7_gives 30 = .ok (.aload_n 0, 1) := by decide +kernel
theorem dX7_gives_31 : decode cX7_gives 31 = .ok (.iload_n 1, 1) := by decide +kernel
theorem dX7_gives_32 : decode cX7_gives 32 = .ok (.putfield 22, 3) := by decide +kernel
theorem dX7_gives_35 : decode cX7_gives 35 = .ok (.aload_n 0, 1) := by decide +kernel
theorem dX7_gives_36 : decode cX7_gives 36 = .ok (.iconst 0, 1) := by decide +kernel
theorem dX7_gives_37 : decode cX7_gives 37 = .ok (.putfield 25, 3) := by decide +kernel
theorem dX7_gives_40 : decode cX7_gives 40 = .ok (.iconst 1, 1) := by decide +kernel
theorem dX7_gives_41 : decode cX7_gives 41 = .ok (.ireturn, 1) := by decide +kernel
theorem dX7_byteAt_0 : decode cX7_byteAt 0 = .ok (.iload_n 1, 1) := by decide +kernel
theorem dX7_byteAt_1 : decode cX7_byteAt 1 = .ok (.ifCond .lt 20, 3) := by decide +kernel
theorem dX7_byteAt_4 : decode cX7_byteAt 4 = .ok (.iload_n 1, 1) := by decide +kernel
theorem dX7_byteAt_5 : decode cX7_byteAt 5 = .ok (.aload_n 0, 1) := by decide +kernel
theorem dX7_byteAt_6 : decode cX7_byteAt 6 = .ok (.getfield 22, 3) := by decide +kernel
theorem dX7_byteAt_9 : decode cX7_byteAt 9 = .ok (.if_icmp .ge 12, 3) := by decide +kernel
theorem dX7_byteAt_12 : decode cX7_byteAt 12 = .ok (.aload_n 0, 1) := by decide +kernel
theorem dX7_byteAt_13 : decode cX7_byteAt 13 = .ok (.getfield 9, 3) := by decide +kernel
theorem dX7_byteAt_16 : decode cX7_byteAt 16 = .ok (.iload_n 1, 1) := by decide +kernel
theorem dX7_byteAt_17 : decode cX7_byteAt 17 = .ok (.iaload, 1) := by decide +kernel
theorem dX7_byteAt_18 : decode cX7_byteAt 18 = .ok (.goto 4, 3) := by decide +kernel
theorem dX7_byteAt_21 : decode cX7_byteAt 21 = .ok (.iconst 0, 1) := by decide +kernel
theorem dX7_byteAt_22 : decode cX7_byteAt 22 = .ok (.ireturn, 1) := by decide +kernel
theorem dX7_isAtEnd_0 : decode cX7_isAtEnd 0 = .ok (.aload_n 0, 1) := by decide +kernel
theorem dX7_isAtEnd_1 : decode cX7_isAtEnd 1 = .ok (.getfield 19, 3) := by decide +kernel
theorem dX7_isAtEnd_4 : decode cX7_isAtEnd 4 = .ok (.aload_n 0, 1) := by decide +kernel
theorem dX7_isAtEnd_5 : decode cX7_isAtEnd 5 = .ok (.getfield 22, 3) := by decide +kernel
theorem dX7_isAtEnd_8 : decode cX7_isAtEnd 8 = .ok (.if_icmp .lt 7, 3) := by decide +kernel
theorem dX7_isAtEnd_11 : decode cX7_isAtEnd 11 = .ok (.iconst 1, 1) := by decide +kernel
theorem dX7_isAtEnd_12 : decode cX7_isAtEnd 12 = .ok (.goto 4, 3) := by decide +kernel
theorem dX7_isAtEnd_15 : decode cX7_isAtEnd 15 = .ok (.iconst 0, 1) := by decide +kernel
theorem dX7_isAtEnd_16 : decode cX7_isAtEnd 16 = .ok (.ireturn, 1) := by decide +kernel
theorem dX7_peek_0 : decode cX7_peek 0 = .ok (.aload_n 0, 1) := by decide +kernel
theorem dX7_peek_1 : decode cX7_peek 1 = .ok (.getfield 19, 3) := by decide +kernel
theorem dX7_peek_4 : decode cX7_peek 4 = .ok (.aload_n 0, 1) := by decide +kernel
theorem dX7_peek_5 : decode cX7_peek 5 = .ok (.getfield 22, 3) := by decide +kernel
theorem dX7_peek_8 : decode cX7_peek 8 = .ok (.if_icmp .ge 15, 3) := by decide +kernel
theorem dX7_peek_11 : decode cX7_peek 11 = .ok (.aload_n 0, 1) := by decide +kernel
theorem dX7_peek_12 : decode cX7_peek 12 = .ok (.getfield 9, 3) := by decide +kernel
theorem dX7_peek_15 : decode cX7_peek 15 = .ok (.aload_n 0, 1) := by decide +kernel
theorem dX7_peek_16 : decode cX7_peek 16 = .ok (.getfield 19, 3) := by decide +kernel
theorem dX7_peek_19 : decode cX7_peek 19 = .ok (.iaload, 1) := by decide +kernel
theorem dX7_peek_20 : decode cX7_peek 20 = .ok (.goto 4, 3) := by decide +kernel
theorem dX7_peek_23 : decode cX7_peek 23 = .ok (.iconst (-1), 1) := by decide +kernel
theorem dX7_peek_24 : decode cX7_peek 24 = .ok (.ireturn, 1) := by decide +kernel
theorem dX7_isAtCorner_0 : decode cX7_isAtCorner 0 = .ok (.aload_n 0, 1) := by decide +kernel
theorem dX7_isAtCorner_1 : decode cX7_isAtCorner 1 = .ok (.invokevirtual 28, 3) := by decide +kernel
theorem dX7_isAtCorner_4 : decode cX7_isAtCorner 4 = .ok (.istore_n 1, 1) := by decide +kernel
theorem dX7_isAtCorner_5 : decode cX7_isAtCorner 5 = .ok (.iload_n 1, 1) := by decide +kernel
theorem dX7_isAtCorner_6 : decode cX7_isAtCorner 6 = .ok (.bipush 97, 2) := by decide +kernel
theorem dX7_isAtCorner_8 : decode cX7_isAtCorner 8 = .ok (.if_icmp .lt 13, 3) := by decide +kernel
theorem dX7_isAtCorner_11 : decode cX7_isAtCorner 11 = .ok (.iload_n 1, 1) := by decide +kernel
theorem dX7_isAtCorner_12 : decode cX7_isAtCorner 12 = .ok (.bipush 113, 2) := by decide +kernel
theorem dX7_isAtCorner_14 : decode cX7_isAtCorner 14 = .ok (.if_icmp .ge 7, 3) := by decide +kernel
theorem dX7_isAtCorner_17 : decode cX7_isAtCorner 17 = .ok (.iconst 1, 1) := by decide +kernel
theorem dX7_isAtCorner_18 : decode cX7_isAtCorner 18 = .ok (.goto 4, 3) := by decide +kernel
theorem dX7_isAtCorner_21 : decode cX7_isAtCorner 21 = .ok (.iconst 0, 1) := by decide +kernel
theorem dX7_isAtCorner_22 : decode cX7_isAtCorner 22 = .ok (.ireturn, 1) := by decide +kernel
theorem dX7_refuse_0 : decode cX7_refuse 0 = .ok (.aload_n 0, 1) := by decide +kernel
theorem dX7_refuse_1 : decode cX7_refuse 1 = .ok (.sipush (-1000), 3) := by decide +kernel
theorem dX7_refuse_4 : decode cX7_refuse 4 = .ok (.iload_n 1, 1) := by decide +kernel
theorem dX7_refuse_5 : decode cX7_refuse 5 = .ok (.imul, 1) := by decide +kernel
theorem dX7_refuse_6 : decode cX7_refuse 6 = .ok (.iload_n 2, 1) := by decide +kernel
theorem dX7_refuse_7 : decode cX7_refuse 7 = .ok (.isub, 1) := by decide +kernel
theorem dX7_refuse_8 : decode cX7_refuse 8 = .ok (.putfield 25, 3) := by decide +kernel
theorem dX7_refuse_11 : decode cX7_refuse 11 = .ok (.iconst 0, 1) := by decide +kernel
theorem dX7_refuse_12 : decode cX7_refuse 12 = .ok (.ireturn, 1) := by decide +kernel
theorem dX7_takes_0 : decode cX7_takes 0 = .ok (.aload_n 0, 1) := by decide +kernel
theorem dX7_takes_1 : decode cX7_takes 1 = .ok (.invokevirtual 28, 3) := by decide +kernel
theorem dX7_takes_4 : decode cX7_takes 4 = .ok (.iload_n 1, 1) := by decide +kernel
theorem dX7_takes_5 : decode cX7_takes 5 = .ok (.if_icmp .eq 5, 3) := by decide +kernel
theorem dX7_takes_8 : decode cX7_takes 8 = .ok (.iconst 0, 1) := by decide +kernel
theorem dX7_takes_9 : decode cX7_takes 9 = .ok (.ireturn, 1) := by decide +kernel
theorem dX7_takes_10 : decode cX7_takes 10 = .ok (.aload_n 0, 1) := by decide +kernel
theorem dX7_takes_11 : decode cX7_takes 11 = .ok (.dup, 1) := by decide +kernel
theorem dX7_takes_12 : decode cX7_takes 12 = .ok (.getfield 19, 3) := by decide +kernel
theorem dX7_takes_15 : decode cX7_takes 15 = .ok (.iconst 1, 1) := by decide +kernel
theorem dX7_takes_16 : decode cX7_takes 16 = .ok (.iadd, 1) := by decide +kernel
theorem dX7_takes_17 : decode cX7_takes 17 = .ok (.putfield 19, 3) := by decide +kernel
theorem dX7_takes_20 : decode cX7_takes 20 = .ok (.iconst 1, 1) := by decide +kernel
theorem dX7_takes_21 : decode cX7_takes 21 = .ok (.ireturn, 1) := by decide +kernel
theorem dX7_demands_0 : decode cX7_demands 0 = .ok (.aload_n 0, 1) := by decide +kernel
theorem dX7_demands_1 : decode cX7_demands 1 = .ok (.invokevirtual 28, 3) := by decide +kernel
theorem dX7_demands_4 : decode cX7_demands 4 = .ok (.iload_n 1, 1) := by decide +kernel
theorem dX7_demands_5 : decode cX7_demands 5 = .ok (.if_icmp .eq 13, 3) := by decide +kernel
theorem dX7_demands_8 : decode cX7_demands 8 = .ok (.aload_n 0, 1) := by decide +kernel
theorem dX7_demands_9 : decode cX7_demands 9 = .ok (.iconst 1, 1) := by decide +kernel
theorem dX7_demands_10 : decode cX7_demands 10 = .ok (.aload_n 0, 1) := by decide +kernel
theorem dX7_demands_11 : decode cX7_demands 11 = .ok (.getfield 19, 3) := by decide +kernel
theorem dX7_demands_14 : decode cX7_demands 14 = .ok (.invokevirtual 32, 3) := by decide +kernel
theorem dX7_demands_17 : decode cX7_demands 17 = .ok (.ireturn, 1) := by decide +kernel
theorem dX7_demands_18 : decode cX7_demands 18 = .ok (.aload_n 0, 1) := by decide +kernel
theorem dX7_demands_19 : decode cX7_demands 19 = .ok (.dup, 1) := by decide +kernel
theorem dX7_demands_20 : decode cX7_demands 20 = .ok (.getfield 19, 3) := by decide +kernel
theorem dX7_demands_23 : decode cX7_demands 23 = .ok (.iconst 1, 1) := by decide +kernel
theorem dX7_demands_24 : decode cX7_demands 24 = .ok (.iadd, 1) := by decide +kernel
theorem dX7_demands_25 : decode cX7_demands 25 = .ok (.putfield 19, 3) := by decide +kernel
theorem dX7_demands_28 : decode cX7_demands 28 = .ok (.iconst 1, 1) := by decide +kernel
theorem dX7_demands_29 : decode cX7_demands 29 = .ok (.ireturn, 1) := by decide +kernel
theorem dX7_readNumber_0 : decode cX7_readNumber 0 = .ok (.iconst 0, 1) := by decide +kernel
theorem dX7_readNumber_1 : decode cX7_readNumber 1 = .ok (.istore_n 2, 1) := by decide +kernel
theorem dX7_readNumber_2 : decode cX7_readNumber 2 = .ok (.iconst 0, 1) := by decide +kernel
theorem dX7_readNumber_3 : decode cX7_readNumber 3 = .ok (.istore_n 3, 1) := by decide +kernel
theorem dX7_readNumber_4 : decode cX7_readNumber 4 = .ok (.iload_n 3, 1) := by decide +kernel
theorem dX7_readNumber_5 : decode cX7_readNumber 5 = .ok (.iload_n 1, 1) := by decide +kernel
theorem dX7_readNumber_6 : decode cX7_readNumber 6 = .ok (.if_icmp .gt 97, 3) := by decide +kernel
theorem dX7_readNumber_9 : decode cX7_readNumber 9 = .ok (.aload_n 0, 1) := by decide +kernel
theorem dX7_readNumber_10 : decode cX7_readNumber 10 = .ok (.invokevirtual 28, 3) := by decide +kernel
theorem dX7_readNumber_13 : decode cX7_readNumber 13 = .ok (.bipush 48, 2) := by decide +kernel
theorem dX7_readNumber_15 : decode cX7_readNumber 15 = .ok (.isub, 1) := by decide +kernel
theorem dX7_readNumber_16 : decode cX7_readNumber 16 = .ok (.istore 4, 2) := by decide +kernel
theorem dX7_readNumber_18 : decode cX7_readNumber 18 = .ok (.iload 4, 2) := by decide +kernel
theorem dX7_readNumber_20 : decode cX7_readNumber 20 = .ok (.ifCond .lt 14, 3) := by decide +kernel
theorem dX7_readNumber_23 : decode cX7_readNumber 23 = .ok (.iload 4, 2) := by decide +kernel
theorem dX7_readNumber_25 : decode cX7_readNumber 25 = .ok (.bipush 9, 2) := by decide +kernel
theorem dX7_readNumber_27 : decode cX7_readNumber 27 = .ok (.if_icmp .gt 7, 3) := by decide +kernel
theorem dX7_readNumber_30 : decode cX7_readNumber 30 = .ok (.iconst 1, 1) := by decide +kernel
theorem dX7_readNumber_31 : decode cX7_readNumber 31 = .ok (.goto 4, 3) := by decide +kernel
theorem dX7_readNumber_34 : decode cX7_readNumber 34 = .ok (.iconst 0, 1) := by decide +kernel
theorem dX7_readNumber_35 : decode cX7_readNumber 35 = .ok (.istore 5, 2) := by decide +kernel
theorem dX7_readNumber_37 : decode cX7_readNumber 37 = .ok (.iload 5, 2) := by decide +kernel
theorem dX7_readNumber_39 : decode cX7_readNumber 39 = .ok (.ifCond .ne 9, 3) := by decide +kernel
theorem dX7_readNumber_42 : decode cX7_readNumber 42 = .ok (.iload_n 3, 1) := by decide +kernel
theorem dX7_readNumber_43 : decode cX7_readNumber 43 = .ok (.ifCond .le 5, 3) := by decide +kernel
theorem dX7_readNumber_46 : decode cX7_readNumber 46 = .ok (.iload_n 2, 1) := by decide +kernel
theorem dX7_readNumber_47 : decode cX7_readNumber 47 = .ok (.ireturn, 1) := by decide +kernel
theorem dX7_readNumber_48 : decode cX7_readNumber 48 = .ok (.iload 5, 2) := by decide +kernel
theorem dX7_readNumber_50 : decode cX7_readNumber 50 = .ok (.ifCond .eq 8, 3) := by decide +kernel
theorem dX7_readNumber_53 : decode cX7_readNumber 53 = .ok (.iload_n 3, 1) := by decide +kernel
theorem dX7_readNumber_54 : decode cX7_readNumber 54 = .ok (.iload_n 1, 1) := by decide +kernel
theorem dX7_readNumber_55 : decode cX7_readNumber 55 = .ok (.if_icmp .ne 24, 3) := by decide +kernel
theorem dX7_readNumber_58 : decode cX7_readNumber 58 = .ok (.aload_n 0, 1) := by decide +kernel
theorem dX7_readNumber_59 : decode cX7_readNumber 59 = .ok (.iload 5, 2) := by decide +kernel
theorem dX7_readNumber_61 : decode cX7_readNumber 61 = .ok (.ifCond .eq 7, 3) := by decide +kernel
theorem dX7_readNumber_64 : decode cX7_readNumber 64 = .ok (.iconst 2, 1) := by decide +kernel
theorem dX7_readNumber_65 : decode cX7_readNumber 65 = .ok (.goto 4, 3) := by decide +kernel
theorem dX7_readNumber_68 : decode cX7_readNumber 68 = .ok (.iconst 1, 1) := by decide +kernel
theorem dX7_readNumber_69 : decode cX7_readNumber 69 = .ok (.aload_n 0, 1) := by decide +kernel
theorem dX7_readNumber_70 : decode cX7_readNumber 70 = .ok (.getfield 19, 3) := by decide +kernel
theorem dX7_readNumber_73 : decode cX7_readNumber 73 = .ok (.invokevirtual 32, 3) := by decide +kernel
theorem dX7_readNumber_76 : decode cX7_readNumber 76 = .ok (.pop, 1) := by decide +kernel
theorem dX7_readNumber_77 : decode cX7_readNumber 77 = .ok (.iconst (-1), 1) := by decide +kernel
theorem dX7_readNumber_78 : decode cX7_readNumber 78 = .ok (.ireturn, 1) := by decide +kernel
theorem dX7_readNumber_79 : decode cX7_readNumber 79 = .ok (.iload_n 2, 1) := by decide +kernel
theorem dX7_readNumber_80 : decode cX7_readNumber 80 = .ok (.bipush 10, 2) := by decide +kernel
theorem dX7_readNumber_82 : decode cX7_readNumber 82 = .ok (.imul, 1) := by decide +kernel
theorem dX7_readNumber_83 : decode cX7_readNumber 83 = .ok (.iload 4, 2) := by decide +kernel
theorem dX7_readNumber_85 : decode cX7_readNumber 85 = .ok (.iadd, 1) := by decide +kernel
theorem dX7_readNumber_86 : decode cX7_readNumber 86 = .ok (.istore_n 2, 1) := by decide +kernel
theorem dX7_readNumber_87 : decode cX7_readNumber 87 = .ok (.aload_n 0, 1) := by decide +kernel
theorem dX7_readNumber_88 : decode cX7_readNumber 88 = .ok (.dup, 1) := by decide +kernel
theorem dX7_readNumber_89 : decode cX7_readNumber 89 = .ok (.getfield 19, 3) := by decide +kernel
theorem dX7_readNumber_92 : decode cX7_readNumber 92 = .ok (.iconst 1, 1) := by decide +kernel
theorem dX7_readNumber_93 : decode cX7_readNumber 93 = .ok (.iadd, 1) := by decide +kernel
theorem dX7_readNumber_94 : decode cX7_readNumber 94 = .ok (.putfield 19, 3) := by decide +kernel
theorem dX7_readNumber_97 : decode cX7_readNumber 97 = .ok (.iinc 3 1, 3) := by decide +kernel
theorem dX7_readNumber_100 : decode cX7_readNumber 100 = .ok (.goto (-96), 3) := by decide +kernel
theorem dX7_readNumber_103 : decode cX7_readNumber 103 = .ok (.iconst (-1), 1) := by decide +kernel
theorem dX7_readNumber_104 : decode cX7_readNumber 104 = .ok (.ireturn, 1) := by decide +kernel
theorem dX8_init_0 : decode cX8_init 0 = .ok (.aload_n 0, 1) := by decide +kernel
theorem dX8_init_1 : decode cX8_init 1 = .ok (.invokespecial 3, 3) := by decide +kernel
theorem dX8_init_4 : decode cX8_init 4 = .ok (.aload_n 0, 1) := by decide +kernel
theorem dX8_init_5 : decode cX8_init 5 = .ok (.sipush 240, 3) := by decide +kernel
theorem dX8_init_8 : decode cX8_init 8 = .ok (.newarray .int, 2) := by decide +kernel
theorem dX8_init_10 : decode cX8_init 10 = .ok (.putfield 9, 3) := by decide +kernel
theorem dX8_init_13 : decode cX8_init 13 = .ok (.aload_n 0, 1) := by decide +kernel
theorem dX8_init_14 : decode cX8_init 14 = .ok (.aload_n 1, 1) := by decide +kernel
theorem dX8_init_15 : decode cX8_init 15 = .ok (.putfield 15, 3) := by decide +kernel
theorem dX8_init_18 : decode cX8_init 18 = .ok (.aload_n 0, 1) := by decide +kernel
theorem dX8_init_19 : decode cX8_init 19 = .ok (.aload_n 2, 1) := by decide +kernel
theorem dX8_init_20 : decode cX8_init 20 = .ok (.putfield 19, 3) := by decide +kernel
theorem dX8_init_23 : decode cX8_init 23 = .ok (.aload_n 0, 1) := by decide +kernel
theorem dX8_init_24 : decode cX8_init 24 = .ok (.aload_n 3, 1) := by decide +kernel
theorem dX8_init_25 : decode cX8_init 25 = .ok (.putfield 23, 3) := by decide +kernel
theorem dX8_init_28 : decode cX8_init 28 = .ok (.return_, 1) := by decide +kernel
theorem dX8_pass_0 : decode cX8_pass 0 = .ok (.aload_n 0, 1) := by decide +kernel
theorem dX8_pass_1 : decode cX8_pass 1 = .ok (.aload_n 2, 1) := by decide +kernel
theorem dX8_pass_2 : decode cX8_pass 2 = .ok (.putfield 23, 3) := by decide +kernel
theorem dX8_pass_5 : decode cX8_pass 5 = .ok (.iconst 0, 1) := by decide +kernel
theorem dX8_pass_6 : decode cX8_pass 6 = .ok (.istore_n 3, 1) := by decide +kernel
theorem dX8_pass_7 : decode cX8_pass 7 = .ok (.iconst 0, 1) := by decide +kernel
theorem dX8_pass_8 : decode cX8_pass 8 = .ok (.istore 4, 2) := by decide +kernel
theorem dX8_pass_10 : decode cX8_pass 10 = .ok (.iload 4, 2) := by decide +kernel
theorem dX8_pass_12 : decode cX8_pass 12 = .ok (.iload_n 1, 1) := by decide +kernel
theorem dX8_pass_13 : decode cX8_pass 13 = .ok (.if_icmp .ge 50, 3) := by decide +kernel
theorem dX8_pass_16 : decode cX8_pass 16 = .ok (.aload_n 0, 1) := by decide +kernel
theorem dX8_pass_17 : decode cX8_pass 17 = .ok (.getfield 23, 3) := by decide +kernel
theorem dX8_pass_20 : decode cX8_pass 20 = .ok (.getfield 27, 3) := by decide +kernel
theorem dX8_pass_23 : decode cX8_pass 23 = .ok (.sipush 9999, 3) := by decide +kernel
theorem dX8_pass_26 : decode cX8_pass 26 = .ok (.if_icmp .ge 37, 3) := by decide +kernel
theorem dX8_pass_29 : decode cX8_pass 29 = .ok (.aload_n 0, 1) := by decide +kernel
theorem dX8_pass_30 : decode cX8_pass 30 = .ok (.invokevirtual 33, 3) := by decide +kernel
theorem dX8_pass_33 : decode cX8_pass 33 = .ok (.aload_n 0, 1) := by decide +kernel
theorem dX8_pass_34 : decode cX8_pass 34 = .ok (.invokevirtual 36, 3) := by decide +kernel
theorem dX8_pass_37 : decode cX8_pass 37 = .ok (.iload_n 3, 1) := by decide +kernel
theorem dX8_pass_38 : decode cX8_pass 38 = .ok (.aload_n 0, 1) := by decide +kernel
theorem dX8_pass_39 : decode cX8_pass 39 = .ok (.invokevirtual 39, 3) := by decide +kernel
theorem dX8_pass_42 : decode cX8_pass 42 = .ok (.iadd, 1) := by decide +kernel
theorem dX8_pass_43 : decode cX8_pass 43 = .ok (.istore_n 3, 1) := by decide +kernel
theorem dX8_pass_44 : decode cX8_pass 44 = .ok (.aload_n 0, 1) := by decide +kernel
theorem dX8_pass_45 : decode cX8_pass 45 = .ok (.getfield 23, 3) := by decide +kernel
theorem dX8_pass_48 : decode cX8_pass 48 = .ok (.dup, 1) := by decide +kernel
theorem dX8_pass_49 : decode cX8_pass 49 = .ok (.getfield 27, 3) := by decide +kernel
theorem dX8_pass_52 : decode cX8_pass 52 = .ok (.iconst 1, 1) := by decide +kernel
theorem dX8_pass_53 : decode cX8_pass 53 = .ok (.iadd, 1) := by decide +kernel
theorem dX8_pass_54 : decode cX8_pass 54 = .ok (.putfield 27, 3) := by decide +kernel
theorem dX8_pass_57 : decode cX8_pass 57 = .ok (.iinc 4 1, 3) := by decide +kernel
theorem dX8_pass_60 : decode cX8_pass 60 = .ok (.goto (-50), 3) := by decide +kernel
theorem dX8_pass_63 : decode cX8_pass 63 = .ok (.iload_n 3, 1) := by decide +kernel
theorem dX8_pass_64 : decode cX8_pass 64 = .ok (.ireturn, 1) := by decide +kernel
theorem dX8_rise_0 : decode cX8_rise 0 = .ok (.iconst 0, 1) := by decide +kernel
theorem dX8_rise_1 : decode cX8_rise 1 = .ok (.istore_n 1, 1) := by decide +kernel
theorem dX8_rise_2 : decode cX8_rise 2 = .ok (.iload_n 1, 1) := by decide +kernel
theorem dX8_rise_3 : decode cX8_rise 3 = .ok (.bipush 16, 2) := by decide +kernel
theorem dX8_rise_5 : decode cX8_rise 5 = .ok (.if_icmp .ge 100, 3) := by decide +kernel
theorem dX8_rise_8 : decode cX8_rise 8 = .ok (.aload_n 0, 1) := by decide +kernel
theorem dX8_rise_9 : decode cX8_rise 9 = .ok (.getfield 15, 3) := by decide +kernel
theorem dX8_rise_12 : decode cX8_rise 12 = .ok (.iload_n 1, 1) := by decide +kernel
theorem dX8_rise_13 : decode cX8_rise 13 = .ok (.invokevirtual 43, 3) := by decide +kernel
theorem dX8_rise_16 : decode cX8_rise 16 = .ok (.ifCond .ne 6, 3) := by decide +kernel
theorem dX8_rise_19 : decode cX8_rise 19 = .ok (.goto 80, 3) := by decide +kernel
theorem dX8_rise_22 : decode cX8_rise 22 = .ok (.aload_n 0, 1) := by decide +kernel
theorem dX8_rise_23 : decode cX8_rise 23 = .ok (.iload_n 1, 1) := by decide +kernel
theorem dX8_rise_24 : decode cX8_rise 24 = .ok (.putfield 49, 3) := by decide +kernel
theorem dX8_rise_27 : decode cX8_rise 27 = .ok (.aload_n 0, 1) := by decide +kernel
theorem dX8_rise_28 : decode cX8_rise 28 = .ok (.aload_n 0, 1) := by decide +kernel
theorem dX8_rise_29 : decode cX8_rise 29 = .ok (.getfield 23, 3) := by decide +kernel
theorem dX8_rise_32 : decode cX8_rise 32 = .ok (.invokevirtual 52, 3) := by decide +kernel
theorem dX8_rise_35 : decode cX8_rise 35 = .ok (.putfield 55, 3) := by decide +kernel
theorem dX8_rise_38 : decode cX8_rise 38 = .ok (.aload_n 0, 1) := by decide +kernel
theorem dX8_rise_39 : decode cX8_rise 39 = .ok (.getfield 23, 3) := by decide +kernel
theorem dX8_rise_42 : decode cX8_rise 42 = .ok (.getfield 58, 3) := by decide +kernel
theorem dX8_rise_45 : decode cX8_rise 45 = .ok (.sipush 9999, 3) := by decide +kernel
theorem dX8_rise_48 : decode cX8_rise 48 = .ok (.aload_n 0, 1) := by decide +kernel
theorem dX8_rise_49 : decode cX8_rise 49 = .ok (.getfield 23, 3) := by decide +kernel
theorem dX8_rise_52 : decode cX8_rise 52 = .ok (.getfield 61, 3) := by decide +kernel
theorem dX8_rise_55 : decode cX8_rise 55 = .ok (.iload_n 1, 1) := by decide +kernel
theorem dX8_rise_56 : decode cX8_rise 56 = .ok (.iaload, 1) := by decide +kernel
theorem dX8_rise_57 : decode cX8_rise 57 = .ok (.isub, 1) := by decide +kernel
theorem dX8_rise_58 : decode cX8_rise 58 = .ok (.invokestatic 64, 3) := by decide +kernel
theorem dX8_rise_61 : decode cX8_rise 61 = .ok (.istore_n 2, 1) := by decide +kernel
theorem dX8_rise_62 : decode cX8_rise 62 = .ok (.aload_n 0, 1) := by decide +kernel
theorem dX8_rise_63 : decode cX8_rise 63 = .ok (.bipush 114, 2) := by decide +kernel
theorem dX8_rise_65 : decode cX8_rise 65 = .ok (.invokevirtual 70, 3) := by decide +kernel
theorem dX8_rise_68 : decode cX8_rise 68 = .ok (.iload_n 2, 1) := by decide +kernel
theorem dX8_rise_69 : decode cX8_rise 69 = .ok (.invokestatic 64, 3) := by decide +kernel
theorem dX8_rise_72 : decode cX8_rise 72 = .ok (.istore_n 3, 1) := by decide +kernel
theorem dX8_rise_73 : decode cX8_rise 73 = .ok (.aload_n 0, 1) := by decide +kernel
theorem dX8_rise_74 : decode cX8_rise 74 = .ok (.getfield 23, 3) := by decide +kernel
theorem dX8_rise_77 : decode cX8_rise 77 = .ok (.getfield 61, 3) := by decide +kernel
theorem dX8_rise_80 : decode cX8_rise 80 = .ok (.iload_n 1, 1) := by decide +kernel
theorem dX8_rise_81 : decode cX8_rise 81 = .ok (.dup2, 1) := by decide +kernel
theorem dX8_rise_82 : decode cX8_rise 82 = .ok (.iaload, 1) := by decide +kernel
theorem dX8_rise_83 : decode cX8_rise 83 = .ok (.iload_n 3, 1) := by decide +kernel
theorem dX8_rise_84 : decode cX8_rise 84 = .ok (.iadd, 1) := by decide +kernel
theorem dX8_rise_85 : decode cX8_rise 85 = .ok (.iastore, 1) := by decide +kernel
theorem dX8_rise_86 : decode cX8_rise 86 = .ok (.aload_n 0, 1) := by decide +kernel
theorem dX8_rise_87 : decode cX8_rise 87 = .ok (.getfield 23, 3) := by decide +kernel
theorem dX8_rise_90 : decode cX8_rise 90 = .ok (.dup, 1) := by decide +kernel
theorem dX8_rise_91 : decode cX8_rise 91 = .ok (.getfield 58, 3) := by decide +kernel
theorem dX8_rise_94 : decode cX8_rise 94 = .ok (.iload_n 3, 1) := by decide +kernel
theorem dX8_rise_95 : decode cX8_rise 95 = .ok (.isub, 1) := by decide +kernel
theorem dX8_rise_96 : decode cX8_rise 96 = .ok (.putfield 58, 3) := by decide +kernel
theorem dX8_rise_99 : decode cX8_rise 99 = .ok (.iinc 1 1, 3) := by decide +kernel
theorem dX8_rise_102 : decode cX8_rise 102 = .ok (.goto (-100), 3) := by decide +kernel
theorem dX8_rise_105 : decode cX8_rise 105 = .ok (.return_, 1) := by decide +kernel
theorem dX8_level_0 : decode cX8_level 0 = .ok (.iconst 0, 1) := by decide +kernel
theorem dX8_level_1 : decode cX8_level 1 = .ok (.istore_n 1, 1) := by decide +kernel
theorem dX8_level_2 : decode cX8_level 2 = .ok (.iload_n 1, 1) := by decide +kernel
theorem dX8_level_3 : decode cX8_level 3 = .ok (.aload_n 0, 1) := by decide +kernel
theorem dX8_level_4 : decode cX8_level 4 = .ok (.getfield 15, 3) := by decide +kernel
theorem dX8_level_7 : decode cX8_level 7 = .ok (.getfield 74, 3) := by decide +kernel
theorem dX8_level_10 : decode cX8_level 10 = .ok (.if_icmp .ge 140, 3) := by decide +kernel
theorem dX8_level_13 : decode cX8_level 13 = .ok (.aload_n 0, 1) := by decide +kernel
theorem dX8_level_14 : decode cX8_level 14 = .ok (.getfield 23, 3) := by decide +kernel
theorem dX8_level_17 : decode cX8_level 17 = .ok (.getfield 77, 3) := by decide +kernel
theorem dX8_level_20 : decode cX8_level 20 = .ok (.iload_n 1, 1) := by decide +kernel
theorem dX8_level_21 : decode cX8_level 21 = .ok (.invokestatic 80, 3) := by decide +kernel
theorem dX8_level_24 : decode cX8_level 24 = .ok (.ifCond .ne 6, 3) := by decide +kernel
theorem dX8_level_27 : decode cX8_level 27 = .ok (.goto 117, 3) := by decide +kernel
theorem dX8_level_30 : decode cX8_level 30 = .ok (.aload_n 0, 1) := by decide +kernel
theorem dX8_level_31 : decode cX8_level 31 = .ok (.getfield 15, 3) := by decide +kernel
theorem dX8_level_34 : decode cX8_level 34 = .ok (.getfield 84, 3) := by decide +kernel
theorem dX8_level_37 : decode cX8_level 37 = .ok (.iload_n 1, 1) := by decide +kernel
theorem dX8_level_38 : decode cX8_level 38 = .ok (.iaload, 1) := by decide +kernel
theorem dX8_level_39 : decode cX8_level 39 = .ok (.istore_n 2, 1) := by decide +kernel
theorem dX8_level_40 : decode cX8_level 40 = .ok (.aload_n 0, 1) := by decide +kernel
theorem dX8_level_41 : decode cX8_level 41 = .ok (.getfield 15, 3) := by decide +kernel
theorem dX8_level_44 : decode cX8_level 44 = .ok (.getfield 87, 3) := by decide +kernel
theorem dX8_level_47 : decode cX8_level 47 = .ok (.iload_n 1, 1) := by decide +kernel
theorem dX8_level_48 : decode cX8_level 48 = .ok (.iaload, 1) := by decide +kernel
theorem dX8_level_49 : decode cX8_level 49 = .ok (.istore_n 3, 1) := by decide +kernel
theorem dX8_level_50 : decode cX8_level 50 = .ok (.aload_n 0, 1) := by decide +kernel
theorem dX8_level_51 : decode cX8_level 51 = .ok (.getfield 15, 3) := by decide +kernel
theorem dX8_level_54 : decode cX8_level 54 = .ok (.getfield 90, 3) := by decide +kernel
theorem dX8_level_57 : decode cX8_level 57 = .ok (.iload_n 2, 1) := by decide +kernel
theorem dX8_level_58 : decode cX8_level 58 = .ok (.iaload, 1) := by decide +kernel
theorem dX8_level_59 : decode cX8_level 59 = .ok (.aload_n 0, 1) := by decide +kernel
theorem dX8_level_60 : decode cX8_level 60 = .ok (.getfield 23, 3) := by decide +kernel
theorem dX8_level_63 : decode cX8_level 63 = .ok (.getfield 61, 3) := by decide +kernel
theorem dX8_level_66 : decode cX8_level 66 = .ok (.iload_n 2, 1) := by decide +kernel
theorem dX8_level_67 : decode cX8_level 67 = .ok (.iaload, 1) := by decide +kernel
theorem dX8_level_68 : decode cX8_level 68 = .ok (.iadd, 1) := by decide +kernel
theorem dX8_level_69 : decode cX8_level 69 = .ok (.aload_n 0, 1) := by decide +kernel
theorem dX8_level_70 : decode cX8_level 70 = .ok (.getfield 15, 3) := by decide +kernel
theorem dX8_level_73 : decode cX8_level 73 = .ok (.getfield 90, 3) := by decide +kernel
theorem dX8_level_76 : decode cX8_level 76 = .ok (.iload_n 3, 1) := by decide +kernel
theorem dX8_level_77 : decode cX8_level 77 = .ok (.iaload, 1) := by decide +kernel
theorem dX8_level_78 : decode cX8_level 78 = .ok (.isub, 1) := by decide +kernel
theorem dX8_level_79 : decode cX8_level 79 = .ok (.aload_n 0, 1) := by decide +kernel
theorem dX8_level_80 : decode cX8_level 80 = .ok (.getfield 23, 3) := by decide +kernel
theorem dX8_level_83 : decode cX8_level 83 = .ok (.getfield 61, 3) := by decide +kernel
theorem dX8_level_86 : decode cX8_level 86 = .ok (.iload_n 3, 1) := by decide +kernel
theorem dX8_level_87 : decode cX8_level 87 = .ok (.iaload, 1) := by decide +kernel
theorem dX8_level_88 : decode cX8_level 88 = .ok (.isub, 1) := by decide +kernel
theorem dX8_level_89 : decode cX8_level 89 = .ok (.istore 4, 2) := by decide +kernel
theorem dX8_level_91 : decode cX8_level 91 = .ok (.iload 4, 2) := by decide +kernel
theorem dX8_level_93 : decode cX8_level 93 = .ok (.ifCond .lt 28, 3) := by decide +kernel
theorem dX8_level_96 : decode cX8_level 96 = .ok (.aload_n 0, 1) := by decide +kernel
theorem dX8_level_97 : decode cX8_level 97 = .ok (.iload_n 2, 1) := by decide +kernel
theorem dX8_level_98 : decode cX8_level 98 = .ok (.iload_n 3, 1) := by decide +kernel
theorem dX8_level_99 : decode cX8_level 99 = .ok (.aload_n 0, 1) := by decide +kernel
theorem dX8_level_100 : decode cX8_level 100 = .ok (.getfield 15, 3) := by decide +kernel
theorem dX8_level_103 : decode cX8_level 103 = .ok (.getfield 93, 3) := by decide +kernel
theorem dX8_level_106 : decode cX8_level 106 = .ok (.iload_n 1, 1) := by decide +kernel
theorem dX8_level_107 : decode cX8_level 107 = .ok (.iaload, 1) := by decide +kernel
theorem dX8_level_108 : decode cX8_level 108 = .ok (.iload 4, 2) := by decide +kernel
theorem dX8_level_110 : decode cX8_level 110 = .ok (.iconst 2, 1) := by decide +kernel
theorem dX8_level_111 : decode cX8_level 111 = .ok (.idiv, 1) := by decide +kernel
theorem dX8_level_112 : decode cX8_level 112 = .ok (.invokestatic 64, 3) := by decide +kernel
theorem dX8_level_115 : decode cX8_level 115 = .ok (.invokevirtual 96, 3) := by decide +kernel
theorem dX8_level_118 : decode cX8_level 118 = .ok (.goto 26, 3) := by decide +kernel
theorem dX8_level_121 : decode cX8_level 121 = .ok (.aload_n 0, 1) := by decide +kernel
theorem dX8_level_122 : decode cX8_level 122 = .ok (.iload_n 3, 1) := by decide +kernel
theorem dX8_level_123 : decode cX8_level 123 = .ok (.iload_n 2, 1) := by decide +kernel
theorem dX8_level_124 : decode cX8_level 124 = .ok (.aload_n 0, 1) := by decide +kernel
theorem dX8_level_125 : decode cX8_level 125 = .ok (.getfield 15, 3) := by decide +kernel
theorem dX8_level_128 : decode cX8_level 128 = .ok (.getfield 93, 3) := by decide +kernel
theorem dX8_level_131 : decode cX8_level 131 = .ok (.iload_n 1, 1) := by decide +kernel
theorem dX8_level_132 : decode cX8_level 132 = .ok (.iaload, 1) := by decide +kernel
theorem dX8_level_133 : decode cX8_level 133 = .ok (.iload 4, 2) := by decide +kernel
theorem dX8_level_135 : decode cX8_level 135 = .ok (.ineg, 1) := by decide +kernel
theorem dX8_level_136 : decode cX8_level 136 = .ok (.iconst 2, 1) := by decide +kernel
theorem dX8_level_137 : decode cX8_level 137 = .ok (.idiv, 1) := by decide +kernel
theorem dX8_level_138 : decode cX8_level 138 = .ok (.invokestatic 64, 3) := by decide +kernel
theorem dX8_level_141 : decode cX8_level 141 = .ok (.invokevirtual 96, 3) := by decide +kernel
theorem dX8_level_144 : decode cX8_level 144 = .ok (.iinc 1 1, 3) := by decide +kernel
theorem dX8_level_147 : decode cX8_level 147 = .ok (.goto (-145), 3) := by decide +kernel
theorem dX8_level_150 : decode cX8_level 150 = .ok (.return_, 1) := by decide +kernel
theorem dX8_give_0 : decode cX8_give 0 = .ok (.aload_n 0, 1) := by decide +kernel
theorem dX8_give_1 : decode cX8_give 1 = .ok (.getfield 23, 3) := by decide +kernel
theorem dX8_give_4 : decode cX8_give 4 = .ok (.getfield 61, 3) := by decide +kernel
theorem dX8_give_7 : decode cX8_give 7 = .ok (.iload_n 1, 1) := by decide +kernel
theorem dX8_give_8 : decode cX8_give 8 = .ok (.iaload, 1) := by decide +kernel
theorem dX8_give_9 : decode cX8_give 9 = .ok (.sipush 9999, 3) := by decide +kernel
theorem dX8_give_12 : decode cX8_give 12 = .ok (.aload_n 0, 1) := by decide +kernel
theorem dX8_give_13 : decode cX8_give 13 = .ok (.getfield 23, 3) := by decide +kernel
theorem dX8_give_16 : decode cX8_give 16 = .ok (.getfield 61, 3) := by decide +kernel
theorem dX8_give_19 : decode cX8_give 19 = .ok (.iload_n 2, 1) := by decide +kernel
theorem dX8_give_20 : decode cX8_give 20 = .ok (.iaload, 1) := by decide +kernel
theorem dX8_give_21 : decode cX8_give 21 = .ok (.isub, 1) := by decide +kernel
theorem dX8_give_22 : decode cX8_give 22 = .ok (.invokestatic 64, 3) := by decide +kernel
theorem dX8_give_25 : decode cX8_give 25 = .ok (.istore 4, 2) := by decide +kernel
theorem dX8_give_27 : decode cX8_give 27 = .ok (.iload_n 3, 1) := by decide +kernel
theorem dX8_give_28 : decode cX8_give 28 = .ok (.iload 4, 2) := by decide +kernel
theorem dX8_give_30 : decode cX8_give 30 = .ok (.invokestatic 64, 3) := by decide +kernel
theorem dX8_give_33 : decode cX8_give 33 = .ok (.istore 5, 2) := by decide +kernel
theorem dX8_give_35 : decode cX8_give 35 = .ok (.aload_n 0, 1) := by decide +kernel
theorem dX8_give_36 : decode cX8_give 36 = .ok (.getfield 23, 3) := by decide +kernel
theorem dX8_give_39 : decode cX8_give 39 = .ok (.getfield 61, 3) := by decide +kernel
theorem dX8_give_42 : decode cX8_give 42 = .ok (.iload_n 1, 1) := by decide +kernel
theorem dX8_give_43 : decode cX8_give 43 = .ok (.dup2, 1) := by decide +kernel
theorem dX8_give_44 : decode cX8_give 44 = .ok (.iaload, 1) := by decide +kernel
theorem dX8_give_45 : decode cX8_give 45 = .ok (.iload 5, 2) := by decide +kernel
theorem dX8_give_47 : decode cX8_give 47 = .ok (.isub, 1) := by decide +kernel
theorem dX8_give_48 : decode cX8_give 48 = .ok (.iastore, 1) := by decide +kernel
theorem dX8_give_49 : decode cX8_give 49 = .ok (.aload_n 0, 1) := by decide +kernel
theorem dX8_give_50 : decode cX8_give 50 = .ok (.getfield 23, 3) := by decide +kernel
theorem dX8_give_53 : decode cX8_give 53 = .ok (.getfield 61, 3) := by decide +kernel
theorem dX8_give_56 : decode cX8_give 56 = .ok (.iload_n 2, 1) := by decide +kernel
theorem dX8_give_57 : decode cX8_give 57 = .ok (.dup2, 1) := by decide +kernel
theorem dX8_give_58 : decode cX8_give 58 = .ok (.iaload, 1) := by decide +kernel
theorem dX8_give_59 : decode cX8_give 59 = .ok (.iload 5, 2) := by decide +kernel
theorem dX8_give_61 : decode cX8_give 61 = .ok (.iadd, 1) := by decide +kernel
theorem dX8_give_62 : decode cX8_give 62 = .ok (.iastore, 1) := by decide +kernel
theorem dX8_give_63 : decode cX8_give 63 = .ok (.return_, 1) := by decide +kernel
theorem dX8_weep_0 : decode cX8_weep 0 = .ok (.iconst 0, 1) := by decide +kernel
theorem dX8_weep_1 : decode cX8_weep 1 = .ok (.istore_n 1, 1) := by decide +kernel
theorem dX8_weep_2 : decode cX8_weep 2 = .ok (.iconst 0, 1) := by decide +kernel
theorem dX8_weep_3 : decode cX8_weep 3 = .ok (.istore_n 2, 1) := by decide +kernel
theorem dX8_weep_4 : decode cX8_weep 4 = .ok (.iload_n 2, 1) := by decide +kernel
theorem dX8_weep_5 : decode cX8_weep 5 = .ok (.bipush 16, 2) := by decide +kernel
theorem dX8_weep_7 : decode cX8_weep 7 = .ok (.if_icmp .ge 132, 3) := by decide +kernel
theorem dX8_weep_10 : decode cX8_weep 10 = .ok (.aload_n 0, 1) := by decide +kernel
theorem dX8_weep_11 : decode cX8_weep 11 = .ok (.getfield 15, 3) := by decide +kernel
theorem dX8_weep_14 : decode cX8_weep 14 = .ok (.iload_n 2, 1) := by decide +kernel
theorem dX8_weep_15 : decode cX8_weep 15 = .ok (.invokevirtual 43, 3) := by decide +kernel
theorem dX8_weep_18 : decode cX8_weep 18 = .ok (.ifCond .eq 115, 3) := by decide +kernel
theorem dX8_weep_21 : decode cX8_weep 21 = .ok (.aload_n 0, 1) := by decide +kernel
theorem dX8_weep_22 : decode cX8_weep 22 = .ok (.getfield 23, 3) := by decide +kernel
theorem dX8_weep_25 : decode cX8_weep 25 = .ok (.getfield 100, 3) := by decide +kernel
theorem dX8_weep_28 : decode cX8_weep 28 = .ok (.iload_n 2, 1) := by decide +kernel
theorem dX8_weep_29 : decode cX8_weep 29 = .ok (.iaload, 1) := by decide +kernel
theorem dX8_weep_30 : decode cX8_weep 30 = .ok (.ifCond .ne 6, 3) := by decide +kernel
theorem dX8_weep_33 : decode cX8_weep 33 = .ok (.goto 100, 3) := by decide +kernel
theorem dX8_weep_36 : decode cX8_weep 36 = .ok (.aload_n 0, 1) := by decide +kernel
theorem dX8_weep_37 : decode cX8_weep 37 = .ok (.iload_n 2, 1) := by decide +kernel
theorem dX8_weep_38 : decode cX8_weep 38 = .ok (.putfield 49, 3) := by decide +kernel
theorem dX8_weep_41 : decode cX8_weep 41 = .ok (.aload_n 0, 1) := by decide +kernel
theorem dX8_weep_42 : decode cX8_weep 42 = .ok (.aload_n 0, 1) := by decide +kernel
theorem dX8_weep_43 : decode cX8_weep 43 = .ok (.getfield 23, 3) := by decide +kernel
theorem dX8_weep_46 : decode cX8_weep 46 = .ok (.invokevirtual 52, 3) := by decide +kernel
theorem dX8_weep_49 : decode cX8_weep 49 = .ok (.putfield 55, 3) := by decide +kernel
theorem dX8_weep_52 : decode cX8_weep 52 = .ok (.aload_n 0, 1) := by decide +kernel
theorem dX8_weep_53 : decode cX8_weep 53 = .ok (.invokevirtual 103, 3) := by decide +kernel
theorem dX8_weep_56 : decode cX8_weep 56 = .ok (.ifCond .eq 6, 3) := by decide +kernel
theorem dX8_weep_59 : decode cX8_weep 59 = .ok (.goto 74, 3) := by decide +kernel
theorem dX8_weep_62 : decode cX8_weep 62 = .ok (.aload_n 0, 1) := by decide +kernel
theorem dX8_weep_63 : decode cX8_weep 63 = .ok (.getfield 23, 3) := by decide +kernel
theorem dX8_weep_66 : decode cX8_weep 66 = .ok (.getfield 100, 3) := by decide +kernel
theorem dX8_weep_69 : decode cX8_weep 69 = .ok (.iload_n 2, 1) := by decide +kernel
theorem dX8_weep_70 : decode cX8_weep 70 = .ok (.iaload, 1) := by decide +kernel
theorem dX8_weep_71 : decode cX8_weep 71 = .ok (.aload_n 0, 1) := by decide +kernel
theorem dX8_weep_72 : decode cX8_weep 72 = .ok (.bipush 111, 2) := by decide +kernel
theorem dX8_weep_74 : decode cX8_weep 74 = .ok (.invokevirtual 70, 3) := by decide +kernel
theorem dX8_weep_77 : decode cX8_weep 77 = .ok (.imul, 1) := by decide +kernel
theorem dX8_weep_78 : decode cX8_weep 78 = .ok (.aload_n 0, 1) := by decide +kernel
theorem dX8_weep_79 : decode cX8_weep 79 = .ok (.getfield 23, 3) := by decide +kernel
theorem dX8_weep_82 : decode cX8_weep 82 = .ok (.getfield 61, 3) := by decide +kernel
theorem dX8_weep_85 : decode cX8_weep 85 = .ok (.iload_n 2, 1) := by decide +kernel
theorem dX8_weep_86 : decode cX8_weep 86 = .ok (.iaload, 1) := by decide +kernel
theorem dX8_weep_87 : decode cX8_weep 87 = .ok (.invokestatic 64, 3) := by decide +kernel
theorem dX8_weep_90 : decode cX8_weep 90 = .ok (.istore_n 3, 1) := by decide +kernel
theorem dX8_weep_91 : decode cX8_weep 91 = .ok (.aload_n 0, 1) := by decide +kernel
theorem dX8_weep_92 : decode cX8_weep 92 = .ok (.getfield 23, 3) := by decide +kernel
theorem dX8_weep_95 : decode cX8_weep 95 = .ok (.getfield 61, 3) := by decide +kernel
theorem dX8_weep_98 : decode cX8_weep 98 = .ok (.iload_n 2, 1) := by decide +kernel
theorem dX8_weep_99 : decode cX8_weep 99 = .ok (.dup2, 1) := by decide +kernel
theorem dX8_weep_100 : decode cX8_weep 100 = .ok (.iaload, 1) := by decide +kernel
theorem dX8_weep_101 : decode cX8_weep 101 = .ok (.iload_n 3, 1) := by decide +kernel
theorem dX8_weep_102 : decode cX8_weep 102 = .ok (.isub, 1) := by decide +kernel
theorem dX8_weep_103 : decode cX8_weep 103 = .ok (.iastore, 1) := by decide +kernel
theorem dX8_weep_104 : decode cX8_weep 104 = .ok (.aload_n 0, 1) := by decide +kernel
theorem dX8_weep_105 : decode cX8_weep 105 = .ok (.getfield 23, 3) := by decide +kernel
theorem dX8_weep_108 : decode cX8_weep 108 = .ok (.getfield 107, 3) := by decide +kernel
theorem dX8_weep_111 : decode cX8_weep 111 = .ok (.iload_n 2, 1) := by decide +kernel
theorem dX8_weep_112 : decode cX8_weep 112 = .ok (.ldc 110, 2) := by decide +kernel
theorem dX8_weep_114 : decode cX8_weep 114 = .ok (.aload_n 0, 1) := by decide +kernel
theorem dX8_weep_115 : decode cX8_weep 115 = .ok (.getfield 23, 3) := by decide +kernel
theorem dX8_weep_118 : decode cX8_weep 118 = .ok (.getfield 107, 3) := by decide +kernel
theorem dX8_weep_121 : decode cX8_weep 121 = .ok (.iload_n 2, 1) := by decide +kernel
theorem dX8_weep_122 : decode cX8_weep 122 = .ok (.iaload, 1) := by decide +kernel
theorem dX8_weep_123 : decode cX8_weep 123 = .ok (.iload_n 3, 1) := by decide +kernel
theorem dX8_weep_124 : decode cX8_weep 124 = .ok (.iadd, 1) := by decide +kernel
theorem dX8_weep_125 : decode cX8_weep 125 = .ok (.invokestatic 64, 3) := by decide +kernel
theorem dX8_weep_128 : decode cX8_weep 128 = .ok (.iastore, 1) := by decide +kernel
theorem dX8_weep_129 : decode cX8_weep 129 = .ok (.iload_n 1, 1) := by decide +kernel
theorem dX8_weep_130 : decode cX8_weep 130 = .ok (.iload_n 3, 1) := by decide +kernel
theorem dX8_weep_131 : decode cX8_weep 131 = .ok (.iadd, 1) := by decide +kernel
theorem dX8_weep_132 : decode cX8_weep 132 = .ok (.istore_n 1, 1) := by decide +kernel
theorem dX8_weep_133 : decode cX8_weep 133 = .ok (.iinc 2 1, 3) := by decide +kernel
theorem dX8_weep_136 : decode cX8_weep 136 = .ok (.goto (-132), 3) := by decide +kernel
theorem dX8_weep_139 : decode cX8_weep 139 = .ok (.iload_n 1, 1) := by decide +kernel
theorem dX8_weep_140 : decode cX8_weep 140 = .ok (.ireturn, 1) := by decide +kernel
theorem dX8_isFrozen_0 : decode cX8_isFrozen 0 = .ok (.iconst 0, 1) := by decide +kernel
theorem dX8_isFrozen_1 : decode cX8_isFrozen 1 = .ok (.istore_n 1, 1) := by decide +kernel
theorem dX8_isFrozen_2 : decode cX8_isFrozen 2 = .ok (.iload_n 1, 1) := by decide +kernel
theorem dX8_isFrozen_3 : decode cX8_isFrozen 3 = .ok (.aload_n 0, 1) := by decide +kernel
theorem dX8_isFrozen_4 : decode cX8_isFrozen 4 = .ok (.getfield 19, 3) := by decide +kernel
theorem dX8_isFrozen_7 : decode cX8_isFrozen 7 = .ok (.getfield 111, 3) := by decide +kernel
theorem dX8_isFrozen_10 : decode cX8_isFrozen 10 = .ok (.if_icmp .ge 67, 3) := by decide +kernel
theorem dX8_isFrozen_13 : decode cX8_isFrozen 13 = .ok (.aload_n 0, 1) := by decide +kernel
theorem dX8_isFrozen_14 : decode cX8_isFrozen 14 = .ok (.getfield 19, 3) := by decide +kernel
theorem dX8_isFrozen_17 : decode cX8_isFrozen 17 = .ok (.getfield 116, 3) := by decide +kernel
theorem dX8_isFrozen_20 : decode cX8_isFrozen 20 = .ok (.iload_n 1, 1) := by decide +kernel
theorem dX8_isFrozen_21 : decode cX8_isFrozen 21 = .ok (.iaload, 1) := by decide +kernel
theorem dX8_isFrozen_22 : decode cX8_isFrozen 22 = .ok (.bipush 120, 2) := by decide +kernel
theorem dX8_isFrozen_24 : decode cX8_isFrozen 24 = .ok (.if_icmp .ne 7, 3) := by decide +kernel
theorem dX8_isFrozen_27 : decode cX8_isFrozen 27 = .ok (.iconst 1, 1) := by decide +kernel
theorem dX8_isFrozen_28 : decode cX8_isFrozen 28 = .ok (.goto 4, 3) := by decide +kernel
theorem dX8_isFrozen_31 : decode cX8_isFrozen 31 = .ok (.iconst 0, 1) := by decide +kernel
theorem dX8_isFrozen_32 : decode cX8_isFrozen 32 = .ok (.istore_n 2, 1) := by decide +kernel
theorem dX8_isFrozen_33 : decode cX8_isFrozen 33 = .ok (.iload_n 2, 1) := by decide +kernel
theorem dX8_isFrozen_34 : decode cX8_isFrozen 34 = .ok (.ifCond .eq 37, 3) := by decide +kernel
theorem dX8_isFrozen_37 : decode cX8_isFrozen 37 = .ok (.aload_n 0, 1) := by decide +kernel
theorem dX8_isFrozen_38 : decode cX8_isFrozen 38 = .ok (.aload_n 0, 1) := by decide +kernel
theorem dX8_isFrozen_39 : decode cX8_isFrozen 39 = .ok (.getfield 19, 3) := by decide +kernel
theorem dX8_isFrozen_42 : decode cX8_isFrozen 42 = .ok (.getfield 119, 3) := by decide +kernel
theorem dX8_isFrozen_45 : decode cX8_isFrozen 45 = .ok (.iload_n 1, 1) := by decide +kernel
theorem dX8_isFrozen_46 : decode cX8_isFrozen 46 = .ok (.iaload, 1) := by decide +kernel
theorem dX8_isFrozen_47 : decode cX8_isFrozen 47 = .ok (.aload_n 0, 1) := by decide +kernel
theorem dX8_isFrozen_48 : decode cX8_isFrozen 48 = .ok (.getfield 19, 3) := by decide +kernel
theorem dX8_isFrozen_51 : decode cX8_isFrozen 51 = .ok (.getfield 122, 3) := by decide +kernel
theorem dX8_isFrozen_54 : decode cX8_isFrozen 54 = .ok (.iload_n 1, 1) := by decide +kernel
theorem dX8_isFrozen_55 : decode cX8_isFrozen 55 = .ok (.iaload, 1) := by decide +kernel
theorem dX8_isFrozen_56 : decode cX8_isFrozen 56 = .ok (.invokevirtual 125, 3) := by decide +kernel
theorem dX8_isFrozen_59 : decode cX8_isFrozen 59 = .ok (.ifCond .eq 12, 3) := by decide +kernel
theorem dX8_isFrozen_62 : decode cX8_isFrozen 62 = .ok (.aload_n 0, 1) := by decide +kernel
theorem dX8_isFrozen_63 : decode cX8_isFrozen 63 = .ok (.getfield 128, 3) := by decide +kernel
theorem dX8_isFrozen_66 : decode cX8_isFrozen 66 = .ok (.ifCond .eq 5, 3) := by decide +kernel
theorem dX8_isFrozen_69 : decode cX8_isFrozen 69 = .ok (.iconst 1, 1) := by decide +kernel
theorem dX8_isFrozen_70 : decode cX8_isFrozen 70 = .ok (.ireturn, 1) := by decide +kernel
theorem dX8_isFrozen_71 : decode cX8_isFrozen 71 = .ok (.iinc 1 1, 3) := by decide +kernel
theorem dX8_isFrozen_74 : decode cX8_isFrozen 74 = .ok (.goto (-72), 3) := by decide +kernel
theorem dX8_isFrozen_77 : decode cX8_isFrozen 77 = .ok (.iconst 0, 1) := by decide +kernel
theorem dX8_isFrozen_78 : decode cX8_isFrozen 78 = .ok (.ireturn, 1) := by decide +kernel
theorem dX8_amountOf_0 : decode cX8_amountOf 0 = .ok (.iconst 0, 1) := by decide +kernel
theorem dX8_amountOf_1 : decode cX8_amountOf 1 = .ok (.istore_n 2, 1) := by decide +kernel
theorem dX8_amountOf_2 : decode cX8_amountOf 2 = .ok (.iload_n 2, 1) := by decide +kernel
theorem dX8_amountOf_3 : decode cX8_amountOf 3 = .ok (.aload_n 0, 1) := by decide +kernel
theorem dX8_amountOf_4 : decode cX8_amountOf 4 = .ok (.getfield 19, 3) := by decide +kernel
theorem dX8_amountOf_7 : decode cX8_amountOf 7 = .ok (.getfield 111, 3) := by decide +kernel
theorem dX8_amountOf_10 : decode cX8_amountOf 10 = .ok (.if_icmp .ge 111, 3) := by decide +kernel
theorem dX8_amountOf_13 : decode cX8_amountOf 13 = .ok (.aload_n 0, 1) := by decide +kernel
theorem dX8_amountOf_14 : decode cX8_amountOf 14 = .ok (.getfield 19, 3) := by decide +kernel
theorem dX8_amountOf_17 : decode cX8_amountOf 17 = .ok (.getfield 116, 3) := by decide +kernel
theorem dX8_amountOf_20 : decode cX8_amountOf 20 = .ok (.iload_n 2, 1) := by decide +kernel
theorem dX8_amountOf_21 : decode cX8_amountOf 21 = .ok (.iaload, 1) := by decide +kernel
theorem dX8_amountOf_22 : decode cX8_amountOf 22 = .ok (.iload_n 1, 1) := by decide +kernel
theorem dX8_amountOf_23 : decode cX8_amountOf 23 = .ok (.if_icmp .ne 7, 3) := by decide +kernel
theorem dX8_amountOf_26 : decode cX8_amountOf 26 = .ok (.iconst 1, 1) := by decide +kernel
theorem dX8_amountOf_27 : decode cX8_amountOf 27 = .ok (.goto 4, 3) := by decide +kernel
theorem dX8_amountOf_30 : decode cX8_amountOf 30 = .ok (.iconst 0, 1) := by decide +kernel
theorem dX8_amountOf_31 : decode cX8_amountOf 31 = .ok (.istore_n 3, 1) := by decide +kernel
theorem dX8_amountOf_32 : decode cX8_amountOf 32 = .ok (.iload_n 3, 1) := by decide +kernel
theorem dX8_amountOf_33 : decode cX8_amountOf 33 = .ok (.ifCond .eq 82, 3) := by decide +kernel
theorem dX8_amountOf_36 : decode cX8_amountOf 36 = .ok (.aload_n 0, 1) := by decide +kernel
theorem dX8_amountOf_37 : decode cX8_amountOf 37 = .ok (.aload_n 0, 1) := by decide +kernel
theorem dX8_amountOf_38 : decode cX8_amountOf 38 = .ok (.getfield 19, 3) := by decide +kernel
theorem dX8_amountOf_41 : decode cX8_amountOf 41 = .ok (.getfield 119, 3) := by decide +kernel
theorem dX8_amountOf_44 : decode cX8_amountOf 44 = .ok (.iload_n 2, 1) := by decide +kernel
theorem dX8_amountOf_45 : decode cX8_amountOf 45 = .ok (.iaload, 1) := by decide +kernel
theorem dX8_amountOf_46 : decode cX8_amountOf 46 = .ok (.aload_n 0, 1) := by decide +kernel
theorem dX8_amountOf_47 : decode cX8_amountOf 47 = .ok (.getfield 19, 3) := by decide +kernel
theorem dX8_amountOf_50 : decode cX8_amountOf 50 = .ok (.getfield 122, 3) := by decide +kernel
theorem dX8_amountOf_53 : decode cX8_amountOf 53 = .ok (.iload_n 2, 1) := by decide +kernel
theorem dX8_amountOf_54 : decode cX8_amountOf 54 = .ok (.iaload, 1) := by decide +kernel
theorem dX8_amountOf_55 : decode cX8_amountOf 55 = .ok (.invokevirtual 125, 3) := by decide +kernel
theorem dX8_amountOf_58 : decode cX8_amountOf 58 = .ok (.ifCond .eq 57, 3) := by decide +kernel
theorem dX8_amountOf_61 : decode cX8_amountOf 61 = .ok (.aload_n 0, 1) := by decide +kernel
theorem dX8_amountOf_62 : decode cX8_amountOf 62 = .ok (.getfield 128, 3) := by decide +kernel
theorem dX8_amountOf_65 : decode cX8_amountOf 65 = .ok (.ifCond .eq 50, 3) := by decide +kernel
theorem dX8_amountOf_68 : decode cX8_amountOf 68 = .ok (.aload_n 0, 1) := by decide +kernel
theorem dX8_amountOf_69 : decode cX8_amountOf 69 = .ok (.aload_n 0, 1) := by decide +kernel
theorem dX8_amountOf_70 : decode cX8_amountOf 70 = .ok (.getfield 19, 3) := by decide +kernel
theorem dX8_amountOf_73 : decode cX8_amountOf 73 = .ok (.getfield 131, 3) := by decide +kernel
theorem dX8_amountOf_76 : decode cX8_amountOf 76 = .ok (.iload_n 2, 1) := by decide +kernel
theorem dX8_amountOf_77 : decode cX8_amountOf 77 = .ok (.iaload, 1) := by decide +kernel
theorem dX8_amountOf_78 : decode cX8_amountOf 78 = .ok (.aload_n 0, 1) := by decide +kernel
theorem dX8_amountOf_79 : decode cX8_amountOf 79 = .ok (.getfield 19, 3) := by decide +kernel
theorem dX8_amountOf_82 : decode cX8_amountOf 82 = .ok (.getfield 119, 3) := by decide +kernel
theorem dX8_amountOf_85 : decode cX8_amountOf 85 = .ok (.iload_n 2, 1) := by decide +kernel
theorem dX8_amountOf_86 : decode cX8_amountOf 86 = .ok (.iaload, 1) := by decide +kernel
theorem dX8_amountOf_87 : decode cX8_amountOf 87 = .ok (.invokevirtual 125, 3) := by decide +kernel
theorem dX8_amountOf_90 : decode cX8_amountOf 90 = .ok (.istore 4, 2) := by decide +kernel
theorem dX8_amountOf_92 : decode cX8_amountOf 92 = .ok (.iload 4, 2) := by decide +kernel
theorem dX8_amountOf_94 : decode cX8_amountOf 94 = .ok (.ifCond .eq 19, 3) := by decide +kernel
theorem dX8_amountOf_97 : decode cX8_amountOf 97 = .ok (.iconst 0, 1) := by decide +kernel
theorem dX8_amountOf_98 : decode cX8_amountOf 98 = .ok (.bipush 99, 2) := by decide +kernel
theorem dX8_amountOf_100 : decode cX8_amountOf 100 = .ok (.aload_n 0, 1) := by decide +kernel
theorem dX8_amountOf_101 : decode cX8_amountOf 101 = .ok (.getfield 128, 3) := by decide +kernel
theorem dX8_amountOf_104 : decode cX8_amountOf 104 = .ok (.invokestatic 64, 3) := by decide +kernel
theorem dX8_amountOf_107 : decode cX8_amountOf 107 = .ok (.invokestatic 134, 3) := by decide +kernel
theorem dX8_amountOf_110 : decode cX8_amountOf 110 = .ok (.goto 4, 3) := by decide +kernel
theorem dX8_amountOf_113 : decode cX8_amountOf 113 = .ok (.iconst 0, 1) := by decide +kernel
theorem dX8_amountOf_114 : decode cX8_amountOf 114 = .ok (.ireturn, 1) := by decide +kernel
theorem dX8_amountOf_115 : decode cX8_amountOf 115 = .ok (.iinc 2 1, 3) := by decide +kernel
theorem dX8_amountOf_118 : decode cX8_amountOf 118 = .ok (.goto (-116), 3) := by decide +kernel
theorem dX8_amountOf_121 : decode cX8_amountOf 121 = .ok (.iconst 1, 1) := by decide +kernel
theorem dX8_amountOf_122 : decode cX8_amountOf 122 = .ok (.ireturn, 1) := by decide +kernel
theorem dX8_work_0 : decode cX8_work 0 = .ok (.iconst 0, 1) := by decide +kernel
theorem dX8_work_1 : decode cX8_work 1 = .ok (.istore_n 3, 1) := by decide +kernel
theorem dX8_work_2 : decode cX8_work 2 = .ok (.iload_n 1, 1) := by decide +kernel
theorem dX8_work_3 : decode cX8_work 3 = .ok (.istore 4, 2) := by decide +kernel
theorem dX8_work_5 : decode cX8_work 5 = .ok (.iconst 0, 1) := by decide +kernel
theorem dX8_work_6 : decode cX8_work 6 = .ok (.istore 5, 2) := by decide +kernel
theorem dX8_work_8 : decode cX8_work 8 = .ok (.iload 5, 2) := by decide +kernel
theorem dX8_work_10 : decode cX8_work 10 = .ok (.sipush 240, 3) := by decide +kernel
theorem dX8_work_13 : decode cX8_work 13 = .ok (.if_icmp .ge 263, 3) := by decide +kernel
theorem dX8_work_16 : decode cX8_work 16 = .ok (.iload 4, 2) := by decide +kernel
theorem dX8_work_18 : decode cX8_work 18 = .ok (.iload_n 2, 1) := by decide +kernel
theorem dX8_work_19 : decode cX8_work 19 = .ok (.if_icmp .ge 257, 3) := by decide +kernel
theorem dX8_work_22 : decode cX8_work 22 = .ok (.aload_n 0, 1) := by decide +kernel
theorem dX8_work_23 : decode cX8_work 23 = .ok (.getfield 19, 3) := by decide +kernel
theorem dX8_work_26 : decode cX8_work 26 = .ok (.getfield 137, 3) := by decide +kernel
theorem dX8_work_29 : decode cX8_work 29 = .ok (.iload 4, 2) := by decide +kernel
theorem dX8_work_31 : decode cX8_work 31 = .ok (.iaload, 1) := by decide +kernel
theorem dX8_work_32 : decode cX8_work 32 = .ok (.istore 6, 2) := by decide +kernel
theorem dX8_work_34 : decode cX8_work 34 = .ok (.aload_n 0, 1) := by decide +kernel
theorem dX8_work_35 : decode cX8_work 35 = .ok (.getfield 19, 3) := by decide +kernel
theorem dX8_work_38 : decode cX8_work 38 = .ok (.getfield 140, 3) := by decide +kernel
theorem dX8_work_41 : decode cX8_work 41 = .ok (.iload 4, 2) := by decide +kernel
theorem dX8_work_43 : decode cX8_work 43 = .ok (.iaload, 1) := by decide +kernel
theorem dX8_work_44 : decode cX8_work 44 = .ok (.istore 7, 2) := by decide +kernel
theorem dX8_work_46 : decode cX8_work 46 = .ok (.iinc 4 1, 3) := by decide +kernel
theorem dX8_work_49 : decode cX8_work 49 = .ok (.iload_n 3, 1) := by decide +kernel
theorem dX8_work_50 : decode cX8_work 50 = .ok (.iload 6, 2) := by decide +kernel
theorem dX8_work_52 : decode cX8_work 52 = .ok (.invokestatic 143, 3) := by decide +kernel
theorem dX8_work_55 : decode cX8_work 55 = .ok (.if_icmp .lt 12, 3) := by decide +kernel
theorem dX8_work_58 : decode cX8_work 58 = .ok (.iload_n 3, 1) := by decide +kernel
theorem dX8_work_59 : decode cX8_work 59 = .ok (.aload_n 0, 1) := by decide +kernel
theorem dX8_work_60 : decode cX8_work 60 = .ok (.getfield 9, 3) := by decide +kernel
theorem dX8_work_63 : decode cX8_work 63 = .ok (.arraylength, 1) := by decide +kernel
theorem dX8_work_64 : decode cX8_work 64 = .ok (.if_icmp .lt 5, 3) := by decide +kernel
theorem dX8_work_67 : decode cX8_work 67 = .ok (.iconst 0, 1) := by decide +kernel
theorem dX8_work_68 : decode cX8_work 68 = .ok (.ireturn, 1) := by decide +kernel
theorem dX8_work_69 : decode cX8_work 69 = .ok (.iload 6, 2) := by decide +kernel
theorem dX8_work_71 : decode cX8_work 71 = .ok (.bipush 48, 2) := by decide +kernel
theorem dX8_work_73 : decode cX8_work 73 = .ok (.if_icmp .eq 10, 3) := by decide +kernel
theorem dX8_work_76 : decode cX8_work 76 = .ok (.iload 6, 2) := by decide +kernel
theorem dX8_work_78 : decode cX8_work 78 = .ok (.bipush 97, 2) := by decide +kernel
theorem dX8_work_80 : decode cX8_work 80 = .ok (.if_icmp .ne 33, 3) := by decide +kernel
theorem dX8_work_83 : decode cX8_work 83 = .ok (.aload_n 0, 1) := by decide +kernel
theorem dX8_work_84 : decode cX8_work 84 = .ok (.getfield 9, 3) := by decide +kernel
theorem dX8_work_87 : decode cX8_work 87 = .ok (.iload_n 3, 1) := by decide +kernel
theorem dX8_work_88 : decode cX8_work 88 = .ok (.iload 6, 2) := by decide +kernel
theorem dX8_work_90 : decode cX8_work 90 = .ok (.bipush 48, 2) := by decide +kernel
theorem dX8_work_92 : decode cX8_work 92 = .ok (.if_icmp .ne 8, 3) := by decide +kernel
theorem dX8_work_95 : decode cX8_work 95 = .ok (.iload 7, 2) := by decide +kernel
theorem dX8_work_97 : decode cX8_work 97 = .ok (.goto 9, 3) := by decide +kernel
theorem dX8_work_100 : decode cX8_work 100 = .ok (.aload_n 0, 1) := by decide +kernel
theorem dX8_work_101 : decode cX8_work 101 = .ok (.iload 7, 2) := by decide +kernel
theorem dX8_work_103 : decode cX8_work 103 = .ok (.invokevirtual 146, 3) := by decide +kernel
theorem dX8_work_106 : decode cX8_work 106 = .ok (.iastore, 1) := by decide +kernel
theorem dX8_work_107 : decode cX8_work 107 = .ok (.iinc 3 1, 3) := by decide +kernel
theorem dX8_work_110 : decode cX8_work 110 = .ok (.goto 160, 3) := by decide +kernel
theorem dX8_work_113 : decode cX8_work 113 = .ok (.iload 6, 2) := by decide +kernel
theorem dX8_work_115 : decode cX8_work 115 = .ok (.bipush 33, 2) := by decide +kernel
theorem dX8_work_117 : decode cX8_work 117 = .ok (.if_icmp .ne 24, 3) := by decide +kernel
theorem dX8_work_120 : decode cX8_work 120 = .ok (.aload_n 0, 1) := by decide +kernel
theorem dX8_work_121 : decode cX8_work 121 = .ok (.getfield 9, 3) := by decide +kernel
theorem dX8_work_124 : decode cX8_work 124 = .ok (.iload_n 3, 1) := by decide +kernel
theorem dX8_work_125 : decode cX8_work 125 = .ok (.iconst 1, 1) := by decide +kernel
theorem dX8_work_126 : decode cX8_work 126 = .ok (.isub, 1) := by decide +kernel
theorem dX8_work_127 : decode cX8_work 127 = .ok (.iconst 1, 1) := by decide +kernel
theorem dX8_work_128 : decode cX8_work 128 = .ok (.aload_n 0, 1) := by decide +kernel
theorem dX8_work_129 : decode cX8_work 129 = .ok (.getfield 9, 3) := by decide +kernel
theorem dX8_work_132 : decode cX8_work 132 = .ok (.iload_n 3, 1) := by decide +kernel
theorem dX8_work_133 : decode cX8_work 133 = .ok (.iconst 1, 1) := by decide +kernel
theorem dX8_work_134 : decode cX8_work 134 = .ok (.isub, 1) := by decide +kernel
theorem dX8_work_135 : decode cX8_work 135 = .ok (.iaload, 1) := by decide +kernel
theorem dX8_work_136 : decode cX8_work 136 = .ok (.isub, 1) := by decide +kernel
theorem dX8_work_137 : decode cX8_work 137 = .ok (.iastore, 1) := by decide +kernel
theorem dX8_work_138 : decode cX8_work 138 = .ok (.goto 132, 3) := by decide +kernel
theorem dX8_work_141 : decode cX8_work 141 = .ok (.iload 6, 2) := by decide +kernel
theorem dX8_work_143 : decode cX8_work 143 = .ok (.bipush 38, 2) := by decide +kernel
theorem dX8_work_145 : decode cX8_work 145 = .ok (.if_icmp .eq 10, 3) := by decide +kernel
theorem dX8_work_148 : decode cX8_work 148 = .ok (.iload 6, 2) := by decide +kernel
theorem dX8_work_150 : decode cX8_work 150 = .ok (.bipush 124, 2) := by decide +kernel
theorem dX8_work_152 : decode cX8_work 152 = .ok (.if_icmp .ne 63, 3) := by decide +kernel
theorem dX8_work_155 : decode cX8_work 155 = .ok (.aload_n 0, 1) := by decide +kernel
theorem dX8_work_156 : decode cX8_work 156 = .ok (.getfield 9, 3) := by decide +kernel
theorem dX8_work_159 : decode cX8_work 159 = .ok (.iload_n 3, 1) := by decide +kernel
theorem dX8_work_160 : decode cX8_work 160 = .ok (.iconst 1, 1) := by decide +kernel
theorem dX8_work_161 : decode cX8_work 161 = .ok (.isub, 1) := by decide +kernel
theorem dX8_work_162 : decode cX8_work 162 = .ok (.iaload, 1) := by decide +kernel
theorem dX8_work_163 : decode cX8_work 163 = .ok (.iload 6, 2) := by decide +kernel
theorem dX8_work_165 : decode cX8_work 165 = .ok (.bipush 38, 2) := by decide +kernel
theorem dX8_work_167 : decode cX8_work 167 = .ok (.if_icmp .ne 7, 3) := by decide +kernel
theorem dX8_work_170 : decode cX8_work 170 = .ok (.iconst 0, 1) := by decide +kernel
theorem dX8_work_171 : decode cX8_work 171 = .ok (.goto 4, 3) := by decide +kernel
theorem dX8_work_174 : decode cX8_work 174 = .ok (.iconst 1, 1) := by decide +kernel
theorem dX8_work_175 : decode cX8_work 175 = .ok (.if_icmp .ne 7, 3) := by decide +kernel
theorem dX8_work_178 : decode cX8_work 178 = .ok (.iconst 1, 1) := by decide +kernel
theorem dX8_work_179 : decode cX8_work 179 = .ok (.goto 4, 3) := by decide +kernel
theorem dX8_work_182 : decode cX8_work 182 = .ok (.iconst 0, 1) := by decide +kernel
theorem dX8_work_183 : decode cX8_work 183 = .ok (.istore 8, 2) := by decide +kernel
theorem dX8_work_185 : decode cX8_work 185 = .ok (.iload 8, 2) := by decide +kernel
theorem dX8_work_187 : decode cX8_work 187 = .ok (.ifCond .eq 8, 3) := by decide +kernel
theorem dX8_work_190 : decode cX8_work 190 = .ok (.iload 7, 2) := by decide +kernel
theorem dX8_work_192 : decode cX8_work 192 = .ok (.goto 5, 3) := by decide +kernel
theorem dX8_work_195 : decode cX8_work 195 = .ok (.iload 4, 2) := by decide +kernel
theorem dX8_work_197 : decode cX8_work 197 = .ok (.istore 4, 2) := by decide +kernel
theorem dX8_work_199 : decode cX8_work 199 = .ok (.iload 8, 2) := by decide +kernel
theorem dX8_work_201 : decode cX8_work 201 = .ok (.ifCond .eq 7, 3) := by decide +kernel
theorem dX8_work_204 : decode cX8_work 204 = .ok (.iload_n 3, 1) := by decide +kernel
theorem dX8_work_205 : decode cX8_work 205 = .ok (.goto 6, 3) := by decide +kernel
theorem dX8_work_208 : decode cX8_work 208 = .ok (.iload_n 3, 1) := by decide +kernel
theorem dX8_work_209 : decode cX8_work 209 = .ok (.iconst 1, 1) := by decide +kernel
theorem dX8_work_210 : decode cX8_work 210 = .ok (.isub, 1) := by decide +kernel
theorem dX8_work_211 : decode cX8_work 211 = .ok (.istore_n 3, 1) := by decide +kernel
theorem dX8_work_212 : decode cX8_work 212 = .ok (.goto 58, 3) := by decide +kernel
theorem dX8_work_215 : decode cX8_work 215 = .ok (.iinc 3 (-1), 3) := by decide +kernel
theorem dX8_work_218 : decode cX8_work 218 = .ok (.aload_n 0, 1) := by decide +kernel
theorem dX8_work_219 : decode cX8_work 219 = .ok (.getfield 9, 3) := by decide +kernel
theorem dX8_work_222 : decode cX8_work 222 = .ok (.iload_n 3, 1) := by decide +kernel
theorem dX8_work_223 : decode cX8_work 223 = .ok (.iaload, 1) := by decide +kernel
theorem dX8_work_224 : decode cX8_work 224 = .ok (.istore 8, 2) := by decide +kernel
theorem dX8_work_226 : decode cX8_work 226 = .ok (.iload 8, 2) := by decide +kernel
theorem dX8_work_228 : decode cX8_work 228 = .ok (.ifCond .ne 19, 3) := by decide +kernel
theorem dX8_work_231 : decode cX8_work 231 = .ok (.iload 6, 2) := by decide +kernel
theorem dX8_work_233 : decode cX8_work 233 = .ok (.bipush 47, 2) := by decide +kernel
theorem dX8_work_235 : decode cX8_work 235 = .ok (.if_icmp .eq 10, 3) := by decide +kernel
theorem dX8_work_238 : decode cX8_work 238 = .ok (.iload 6, 2) := by decide +kernel
theorem dX8_work_240 : decode cX8_work 240 = .ok (.bipush 37, 2) := by decide +kernel
theorem dX8_work_242 : decode cX8_work 242 = .ok (.if_icmp .ne 5, 3) := by decide +kernel
theorem dX8_work_245 : decode cX8_work 245 = .ok (.iconst 0, 1) := by decide +kernel
theorem dX8_work_246 : decode cX8_work 246 = .ok (.ireturn, 1) := by decide +kernel
theorem dX8_work_247 : decode cX8_work 247 = .ok (.aload_n 0, 1) := by decide +kernel
theorem dX8_work_248 : decode cX8_work 248 = .ok (.getfield 9, 3) := by decide +kernel
theorem dX8_work_251 : decode cX8_work 251 = .ok (.iload_n 3, 1) := by decide +kernel
theorem dX8_work_252 : decode cX8_work 252 = .ok (.iconst 1, 1) := by decide +kernel
theorem dX8_work_253 : decode cX8_work 253 = .ok (.isub, 1) := by decide +kernel
theorem dX8_work_254 : decode cX8_work 254 = .ok (.iload 6, 2) := by decide +kernel
theorem dX8_work_256 : decode cX8_work 256 = .ok (.aload_n 0, 1) := by decide +kernel
theorem dX8_work_257 : decode cX8_work 257 = .ok (.getfield 9, 3) := by decide +kernel
theorem dX8_work_260 : decode cX8_work 260 = .ok (.iload_n 3, 1) := by decide +kernel
theorem dX8_work_261 : decode cX8_work 261 = .ok (.iconst 1, 1) := by decide +kernel
theorem dX8_work_262 : decode cX8_work 262 = .ok (.isub, 1) := by decide +kernel
theorem dX8_work_263 : decode cX8_work 263 = .ok (.iaload, 1) := by decide +kernel
theorem dX8_work_264 : decode cX8_work 264 = .ok (.iload 8, 2) := by decide +kernel
theorem dX8_work_266 : decode cX8_work 266 = .ok (.invokestatic 149, 3) := by decide +kernel
theorem dX8_work_269 : decode cX8_work 269 = .ok (.iastore, 1) := by decide +kernel
theorem dX8_work_270 : decode cX8_work 270 = .ok (.iinc 5 1, 3) := by decide +kernel
theorem dX8_work_273 : decode cX8_work 273 = .ok (.goto (-265), 3) := by decide +kernel
theorem dX8_work_276 : decode cX8_work 276 = .ok (.aload_n 0, 1) := by decide +kernel
theorem dX8_work_277 : decode cX8_work 277 = .ok (.aload_n 0, 1) := by decide +kernel
theorem dX8_work_278 : decode cX8_work 278 = .ok (.getfield 9, 3) := by decide +kernel
theorem dX8_work_281 : decode cX8_work 281 = .ok (.iconst 0, 1) := by decide +kernel
theorem dX8_work_282 : decode cX8_work 282 = .ok (.iaload, 1) := by decide +kernel
theorem dX8_work_283 : decode cX8_work 283 = .ok (.putfield 128, 3) := by decide +kernel
theorem dX8_work_286 : decode cX8_work 286 = .ok (.iconst 1, 1) := by decide +kernel
theorem dX8_work_287 : decode cX8_work 287 = .ok (.ireturn, 1) := by decide +kernel
theorem dX8_neededBy_0 : decode cX8_neededBy 0 = .ok (.iload_n 0, 1) := by decide +kernel
theorem dX8_neededBy_1 : decode cX8_neededBy 1 = .ok (.bipush 48, 2) := by decide +kernel
theorem dX8_neededBy_3 : decode cX8_neededBy 3 = .ok (.if_icmp .eq 9, 3) := by decide +kernel
theorem dX8_neededBy_6 : decode cX8_neededBy 6 = .ok (.iload_n 0, 1) := by decide +kernel
theorem dX8_neededBy_7 : decode cX8_neededBy 7 = .ok (.bipush 97, 2) := by decide +kernel
theorem dX8_neededBy_9 : decode cX8_neededBy 9 = .ok (.if_icmp .ne 5, 3) := by decide +kernel
theorem dX8_neededBy_12 : decode cX8_neededBy 12 = .ok (.iconst 0, 1) := by decide +kernel
theorem dX8_neededBy_13 : decode cX8_neededBy 13 = .ok (.ireturn, 1) := by decide +kernel
theorem dX8_neededBy_14 : decode cX8_neededBy 14 = .ok (.iload_n 0, 1) := by decide +kernel
theorem dX8_neededBy_15 : decode cX8_neededBy 15 = .ok (.bipush 33, 2) := by decide +kernel
theorem dX8_neededBy_17 : decode cX8_neededBy 17 = .ok (.if_icmp .eq 15, 3) := by decide +kernel
theorem dX8_neededBy_20 : decode cX8_neededBy 20 = .ok (.iload_n 0, 1) := by decide +kernel
theorem dX8_neededBy_21 : decode cX8_neededBy 21 = .ok (.bipush 38, 2) := by decide +kernel
theorem dX8_neededBy_23 : decode cX8_neededBy 23 = .ok (.if_icmp .eq 9, 3) := by decide +kernel
theorem dX8_neededBy_26 : decode cX8_neededBy 26 = .ok (.iload_n 0, 1) := by decide +kernel
theorem dX8_neededBy_27 : decode cX8_neededBy 27 = .ok (.bipush 124, 2) := by decide +kernel
theorem dX8_neededBy_29 : decode cX8_neededBy 29 = .ok (.if_icmp .ne 7, 3) := by decide +kernel
theorem dX8_neededBy_32 : decode cX8_neededBy 32 = .ok (.iconst 1, 1) := by decide +kernel
theorem dX8_neededBy_33 : decode cX8_neededBy 33 = .ok (.goto 4, 3) := by decide +kernel
theorem dX8_neededBy_36 : decode cX8_neededBy 36 = .ok (.iconst 2, 1) := by decide +kernel
theorem dX8_neededBy_37 : decode cX8_neededBy 37 = .ok (.ireturn, 1) := by decide +kernel
theorem dX8_reckon_0 : decode cX8_reckon 0 = .ok (.iload_n 0, 1) := by decide +kernel
theorem dX8_reckon_1 : decode cX8_reckon 1 = .ok (.lookupswitch 125 #[(37, 91), (42, 75), (43, 67), (45, 71), (47, 79), (60, 103), (62, 114)], 67) := by decide +kernel
theorem dX8_reckon_68 : decode cX8_reckon 68 = .ok (.iload_n 1, 1) := by decide +kernel
theorem dX8_reckon_69 : decode cX8_reckon 69 = .ok (.iload_n 2, 1) := by decide +kernel
theorem dX8_reckon_70 : decode cX8_reckon 70 = .ok (.iadd, 1) := by decide +kernel
theorem dX8_reckon_71 : decode cX8_reckon 71 = .ok (.ireturn, 1) := by decide +kernel
theorem dX8_reckon_72 : decode cX8_reckon 72 = .ok (.iload_n 1, 1) := by decide +kernel
theorem dX8_reckon_73 : decode cX8_reckon 73 = .ok (.iload_n 2, 1) := by decide +kernel
theorem dX8_reckon_74 : decode cX8_reckon 74 = .ok (.isub, 1) := by decide +kernel
theorem dX8_reckon_75 : decode cX8_reckon 75 = .ok (.ireturn, 1) := by decide +kernel
theorem dX8_reckon_76 : decode cX8_reckon 76 = .ok (.iload_n 1, 1) := by decide +kernel
theorem dX8_reckon_77 : decode cX8_reckon 77 = .ok (.iload_n 2, 1) := by decide +kernel
theorem dX8_reckon_78 : decode cX8_reckon 78 = .ok (.imul, 1) := by decide +kernel
theorem dX8_reckon_79 : decode cX8_reckon 79 = .ok (.ireturn, 1) := by decide +kernel
theorem dX8_reckon_80 : decode cX8_reckon 80 = .ok (.iload_n 2, 1) := by decide +kernel
theorem dX8_reckon_81 : decode cX8_reckon 81 = .ok (.ifCond .ne 7, 3) := by decide +kernel
theorem dX8_reckon_84 : decode cX8_reckon 84 = .ok (.iconst 0, 1) := by decide +kernel
theorem dX8_reckon_85 : decode cX8_reckon 85 = .ok (.goto 6, 3) := by decide +kernel
theorem dX8_reckon_88 : decode cX8_reckon 88 = .ok (.iload_n 1, 1) := by decide +kernel
theorem dX8_reckon_89 : decode cX8_reckon 89 = .ok (.iload_n 2, 1) := by decide +kernel
theorem dX8_reckon_90 : decode cX8_reckon 90 = .ok (.idiv, 1) := by decide +kernel
theorem dX8_reckon_91 : decode cX8_reckon 91 = .ok (.ireturn, 1) := by decide +kernel
theorem dX8_reckon_92 : decode cX8_reckon 92 = .ok (.iload_n 2, 1) := by decide +kernel
theorem dX8_reckon_93 : decode cX8_reckon 93 = .ok (.ifCond .ne 7, 3) := by decide +kernel
theorem dX8_reckon_96 : decode cX8_reckon 96 = .ok (.iconst 0, 1) := by decide +kernel
theorem dX8_reckon_97 : decode cX8_reckon 97 = .ok (.goto 6, 3) := by decide +kernel
theorem dX8_reckon_100 : decode cX8_reckon 100 = .ok (.iload_n 1, 1) := by decide +kernel
theorem dX8_reckon_101 : decode cX8_reckon 101 = .ok (.iload_n 2, 1) := by decide +kernel
theorem dX8_reckon_102 : decode cX8_reckon 102 = .ok (.irem, 1) := by decide +kernel
theorem dX8_reckon_103 : decode cX8_reckon 103 = .ok (.ireturn, 1) := by decide +kernel
theorem dX8_reckon_104 : decode cX8_reckon 104 = .ok (.iload_n 1, 1) := by decide +kernel
theorem dX8_reckon_105 : decode cX8_reckon 105 = .ok (.iload_n 2, 1) := by decide +kernel
theorem dX8_reckon_106 : decode cX8_reckon 106 = .ok (.if_icmp .ge 7, 3) := by decide +kernel
theorem dX8_reckon_109 : decode cX8_reckon 109 = .ok (.iconst 1, 1) := by decide +kernel
theorem dX8_reckon_110 : decode cX8_reckon 110 = .ok (.goto 4, 3) := by decide +kernel
theorem dX8_reckon_113 : decode cX8_reckon 113 = .ok (.iconst 0, 1) := by decide +kernel
theorem dX8_reckon_114 : decode cX8_reckon 114 = .ok (.ireturn, 1) := by decide +kernel
theorem dX8_reckon_115 : decode cX8_reckon 115 = .ok (.iload_n 1, 1) := by decide +kernel
theorem dX8_reckon_116 : decode cX8_reckon 116 = .ok (.iload_n 2, 1) := by decide +kernel
theorem dX8_reckon_117 : decode cX8_reckon 117 = .ok (.if_icmp .le 7, 3) := by decide +kernel
theorem dX8_reckon_120 : decode cX8_reckon 120 = .ok (.iconst 1, 1) := by decide +kernel
theorem dX8_reckon_121 : decode cX8_reckon 121 = .ok (.goto 4, 3) := by decide +kernel
theorem dX8_reckon_124 : decode cX8_reckon 124 = .ok (.iconst 0, 1) := by decide +kernel
theorem dX8_reckon_125 : decode cX8_reckon 125 = .ok (.ireturn, 1) := by decide +kernel
theorem dX8_reckon_126 : decode cX8_reckon 126 = .ok (.iload_n 1, 1) := by decide +kernel
theorem dX8_reckon_127 : decode cX8_reckon 127 = .ok (.iload_n 2, 1) := by decide +kernel
theorem dX8_reckon_128 : decode cX8_reckon 128 = .ok (.if_icmp .ne 7, 3) := by decide +kernel
theorem dX8_reckon_131 : decode cX8_reckon 131 = .ok (.iconst 1, 1) := by decide +kernel
theorem dX8_reckon_132 : decode cX8_reckon 132 = .ok (.goto 4, 3) := by decide +kernel
theorem dX8_reckon_135 : decode cX8_reckon 135 = .ok (.iconst 0, 1) := by decide +kernel
theorem dX8_reckon_136 : decode cX8_reckon 136 = .ok (.ireturn, 1) := by decide +kernel
theorem dX8_letter_0 : decode cX8_letter 0 = .ok (.iload_n 1, 1) := by decide +kernel
theorem dX8_letter_1 : decode cX8_letter 1 = .ok (.tableswitch 205 97 117 #[183, 205, 99, 205, 205, 205, 205, 104, 205, 205, 205, 205, 162, 143, 205, 205, 167, 205, 117, 194, 130], 99) := by decide +kernel
theorem dX8_letter_100 : decode cX8_letter 100 = .ok (.aload_n 0, 1) := by decide +kernel
theorem dX8_letter_101 : decode cX8_letter 101 = .ok (.getfield 49, 3) := by decide +kernel
theorem dX8_letter_104 : decode cX8_letter 104 = .ok (.ireturn, 1) := by decide +kernel
theorem dX8_letter_105 : decode cX8_letter 105 = .ok (.aload_n 0, 1) := by decide +kernel
theorem dX8_letter_106 : decode cX8_letter 106 = .ok (.getfield 15, 3) := by decide +kernel
theorem dX8_letter_109 : decode cX8_letter 109 = .ok (.getfield 90, 3) := by decide +kernel
theorem dX8_letter_112 : decode cX8_letter 112 = .ok (.aload_n 0, 1) := by decide +kernel
theorem dX8_letter_113 : decode cX8_letter 113 = .ok (.getfield 49, 3) := by decide +kernel
theorem dX8_letter_116 : decode cX8_letter 116 = .ok (.iaload, 1) := by decide +kernel
theorem dX8_letter_117 : decode cX8_letter 117 = .ok (.ireturn, 1) := by decide +kernel
theorem dX8_letter_118 : decode cX8_letter 118 = .ok (.aload_n 0, 1) := by decide +kernel
theorem dX8_letter_119 : decode cX8_letter 119 = .ok (.getfield 23, 3) := by decide +kernel
theorem dX8_letter_122 : decode cX8_letter 122 = .ok (.getfield 61, 3) := by decide +kernel
theorem dX8_letter_125 : decode cX8_letter 125 = .ok (.aload_n 0, 1) := by decide +kernel
theorem dX8_letter_126 : decode cX8_letter 126 = .ok (.getfield 49, 3) := by decide +kernel
theorem dX8_letter_129 : decode cX8_letter 129 = .ok (.iaload, 1) := by decide +kernel
theorem dX8_letter_130 : decode cX8_letter 130 = .ok (.ireturn, 1) := by decide +kernel
theorem dX8_letter_131 : decode cX8_letter 131 = .ok (.aload_n 0, 1) := by decide +kernel
theorem dX8_letter_132 : decode cX8_letter 132 = .ok (.getfield 23, 3) := by decide +kernel
theorem dX8_letter_135 : decode cX8_letter 135 = .ok (.getfield 100, 3) := by decide +kernel
theorem dX8_letter_138 : decode cX8_letter 138 = .ok (.aload_n 0, 1) := by decide +kernel
theorem dX8_letter_139 : decode cX8_letter 139 = .ok (.getfield 49, 3) := by decide +kernel
theorem dX8_letter_142 : decode cX8_letter 142 = .ok (.iaload, 1) := by decide +kernel
theorem dX8_letter_143 : decode cX8_letter 143 = .ok (.ireturn, 1) := by decide +kernel
theorem dX8_letter_144 : decode cX8_letter 144 = .ok (.aload_n 0, 1) := by decide +kernel
theorem dX8_letter_145 : decode cX8_letter 145 = .ok (.getfield 15, 3) := by decide +kernel
theorem dX8_letter_148 : decode cX8_letter 148 = .ok (.aload_n 0, 1) := by decide +kernel
theorem dX8_letter_149 : decode cX8_letter 149 = .ok (.getfield 49, 3) := by decide +kernel
theorem dX8_letter_152 : decode cX8_letter 152 = .ok (.aload_n 0, 1) := by decide +kernel
theorem dX8_letter_153 : decode cX8_letter 153 = .ok (.getfield 23, 3) := by decide +kernel
theorem dX8_letter_156 : decode cX8_letter 156 = .ok (.getfield 77, 3) := by decide +kernel
theorem dX8_letter_159 : decode cX8_letter 159 = .ok (.invokevirtual 153, 3) := by decide +kernel
theorem dX8_letter_162 : decode cX8_letter 162 = .ok (.ireturn, 1) := by decide +kernel
theorem dX8_letter_163 : decode cX8_letter 163 = .ok (.aload_n 0, 1) := by decide +kernel
theorem dX8_letter_164 : decode cX8_letter 164 = .ok (.invokevirtual 156, 3) := by decide +kernel
theorem dX8_letter_167 : decode cX8_letter 167 = .ok (.ireturn, 1) := by decide +kernel
theorem dX8_letter_168 : decode cX8_letter 168 = .ok (.aload_n 0, 1) := by decide +kernel
theorem dX8_letter_169 : decode cX8_letter 169 = .ok (.getfield 23, 3) := by decide +kernel
theorem dX8_letter_172 : decode cX8_letter 172 = .ok (.getfield 107, 3) := by decide +kernel
theorem dX8_letter_175 : decode cX8_letter 175 = .ok (.aload_n 0, 1) := by decide +kernel
theorem dX8_letter_176 : decode cX8_letter 176 = .ok (.getfield 49, 3) := by decide +kernel
theorem dX8_letter_179 : decode cX8_letter 179 = .ok (.iaload, 1) := by decide +kernel
theorem dX8_letter_180 : decode cX8_letter 180 = .ok (.bipush 100, 2) := by decide +kernel
theorem dX8_letter_182 : decode cX8_letter 182 = .ok (.idiv, 1) := by decide +kernel
theorem dX8_letter_183 : decode cX8_letter 183 = .ok (.ireturn, 1) := by decide +kernel
theorem dX8_letter_184 : decode cX8_letter 184 = .ok (.aload_n 0, 1) := by decide +kernel
theorem dX8_letter_185 : decode cX8_letter 185 = .ok (.getfield 23, 3) := by decide +kernel
theorem dX8_letter_188 : decode cX8_letter 188 = .ok (.getfield 58, 3) := by decide +kernel
theorem dX8_letter_191 : decode cX8_letter 191 = .ok (.bipush 100, 2) := by decide +kernel
theorem dX8_letter_193 : decode cX8_letter 193 = .ok (.idiv, 1) := by decide +kernel
theorem dX8_letter_194 : decode cX8_letter 194 = .ok (.ireturn, 1) := by decide +kernel
theorem dX8_letter_195 : decode cX8_letter 195 = .ok (.aload_n 0, 1) := by decide +kernel
theorem dX8_letter_196 : decode cX8_letter 196 = .ok (.getfield 23, 3) := by decide +kernel
theorem dX8_letter_199 : decode cX8_letter 199 = .ok (.getfield 27, 3) := by decide +kernel
theorem dX8_letter_202 : decode cX8_letter 202 = .ok (.bipush 100, 2) := by decide +kernel
theorem dX8_letter_204 : decode cX8_letter 204 = .ok (.irem, 1) := by decide +kernel
theorem dX8_letter_205 : decode cX8_letter 205 = .ok (.ireturn, 1) := by decide +kernel
theorem dX8_letter_206 : decode cX8_letter 206 = .ok (.aload_n 0, 1) := by decide +kernel
theorem dX8_letter_207 : decode cX8_letter 207 = .ok (.getfield 55, 3) := by decide +kernel
theorem dX8_letter_210 : decode cX8_letter 210 = .ok (.ireturn, 1) := by decide +kernel
theorem dX8_mostBeside_0 : decode cX8_mostBeside 0 = .ok (.iconst 0, 1) := by decide +kernel
theorem dX8_mostBeside_1 : decode cX8_mostBeside 1 = .ok (.istore_n 1, 1) := by decide +kernel
theorem dX8_mostBeside_2 : decode cX8_mostBeside 2 = .ok (.iconst 0, 1) := by decide +kernel
theorem dX8_mostBeside_3 : decode cX8_mostBeside 3 = .ok (.istore_n 2, 1) := by decide +kernel
theorem dX8_mostBeside_4 : decode cX8_mostBeside 4 = .ok (.iload_n 2, 1) := by decide +kernel
theorem dX8_mostBeside_5 : decode cX8_mostBeside 5 = .ok (.aload_n 0, 1) := by decide +kernel
theorem dX8_mostBeside_6 : decode cX8_mostBeside 6 = .ok (.getfield 15, 3) := by decide +kernel
theorem dX8_mostBeside_9 : decode cX8_mostBeside 9 = .ok (.getfield 74, 3) := by decide +kernel
theorem dX8_mostBeside_12 : decode cX8_mostBeside 12 = .ok (.if_icmp .ge 55, 3) := by decide +kernel
theorem dX8_mostBeside_15 : decode cX8_mostBeside 15 = .ok (.aload_n 0, 1) := by decide +kernel
theorem dX8_mostBeside_16 : decode cX8_mostBeside 16 = .ok (.getfield 15, 3) := by decide +kernel
theorem dX8_mostBeside_19 : decode cX8_mostBeside 19 = .ok (.iload_n 2, 1) := by decide +kernel
theorem dX8_mostBeside_20 : decode cX8_mostBeside 20 = .ok (.aload_n 0, 1) := by decide +kernel
theorem dX8_mostBeside_21 : decode cX8_mostBeside 21 = .ok (.getfield 49, 3) := by decide +kernel
theorem dX8_mostBeside_24 : decode cX8_mostBeside 24 = .ok (.invokevirtual 159, 3) := by decide +kernel
theorem dX8_mostBeside_27 : decode cX8_mostBeside 27 = .ok (.istore_n 3, 1) := by decide +kernel
theorem dX8_mostBeside_28 : decode cX8_mostBeside 28 = .ok (.aload_n 0, 1) := by decide +kernel
theorem dX8_mostBeside_29 : decode cX8_mostBeside 29 = .ok (.getfield 23, 3) := by decide +kernel
theorem dX8_mostBeside_32 : decode cX8_mostBeside 32 = .ok (.getfield 77, 3) := by decide +kernel
theorem dX8_mostBeside_35 : decode cX8_mostBeside 35 = .ok (.iload_n 2, 1) := by decide +kernel
theorem dX8_mostBeside_36 : decode cX8_mostBeside 36 = .ok (.invokestatic 80, 3) := by decide +kernel
theorem dX8_mostBeside_39 : decode cX8_mostBeside 39 = .ok (.ifCond .eq 22, 3) := by decide +kernel
theorem dX8_mostBeside_42 : decode cX8_mostBeside 42 = .ok (.iload_n 3, 1) := by decide +kernel
theorem dX8_mostBeside_43 : decode cX8_mostBeside 43 = .ok (.iconst (-1), 1) := by decide +kernel
theorem dX8_mostBeside_44 : decode cX8_mostBeside 44 = .ok (.if_icmp .eq 17, 3) := by decide +kernel
theorem dX8_mostBeside_47 : decode cX8_mostBeside 47 = .ok (.iload_n 1, 1) := by decide +kernel
theorem dX8_mostBeside_48 : decode cX8_mostBeside 48 = .ok (.aload_n 0, 1) := by decide +kernel
theorem dX8_mostBeside_49 : decode cX8_mostBeside 49 = .ok (.getfield 23, 3) := by decide +kernel
theorem dX8_mostBeside_52 : decode cX8_mostBeside 52 = .ok (.getfield 61, 3) := by decide +kernel
theorem dX8_mostBeside_55 : decode cX8_mostBeside 55 = .ok (.iload_n 3, 1) := by decide +kernel
theorem dX8_mostBeside_56 : decode cX8_mostBeside 56 = .ok (.iaload, 1) := by decide +kernel
theorem dX8_mostBeside_57 : decode cX8_mostBeside 57 = .ok (.invokestatic 134, 3) := by decide +kernel
theorem dX8_mostBeside_60 : decode cX8_mostBeside 60 = .ok (.istore_n 1, 1) := by decide +kernel
theorem dX8_mostBeside_61 : decode cX8_mostBeside 61 = .ok (.iinc 2 1, 3) := by decide +kernel
theorem dX8_mostBeside_64 : decode cX8_mostBeside 64 = .ok (.goto (-60), 3) := by decide +kernel
theorem dX8_mostBeside_67 : decode cX8_mostBeside 67 = .ok (.iload_n 1, 1) := by decide +kernel
theorem dX8_mostBeside_68 : decode cX8_mostBeside 68 = .ok (.ireturn, 1) := by decide +kernel
theorem dX9_init_0 : decode cX9_init 0 = .ok (.aload_n 0, 1) := by decide +kernel
theorem dX9_init_1 : decode cX9_init 1 = .ok (.invokespecial 3, 3) := by decide +kernel
theorem dX9_init_4 : decode cX9_init 4 = .ok (.aload_n 0, 1) := by decide +kernel
theorem dX9_init_5 : decode cX9_init 5 = .ok (.bipush 16, 2) := by decide +kernel
theorem dX9_init_7 : decode cX9_init 7 = .ok (.newarray .int, 2) := by decide +kernel
theorem dX9_init_9 : decode cX9_init 9 = .ok (.putfield 9, 3) := by decide +kernel
theorem dX9_init_12 : decode cX9_init 12 = .ok (.aload_n 0, 1) := by decide +kernel
theorem dX9_init_13 : decode cX9_init 13 = .ok (.sipush 256, 3) := by decide +kernel
theorem dX9_init_16 : decode cX9_init 16 = .ok (.newarray .int, 2) := by decide +kernel
theorem dX9_init_18 : decode cX9_init 18 = .ok (.putfield 15, 3) := by decide +kernel
theorem dX9_init_21 : decode cX9_init 21 = .ok (.aload_n 0, 1) := by decide +kernel
theorem dX9_init_22 : decode cX9_init 22 = .ok (.sipush 2048, 3) := by decide +kernel
theorem dX9_init_25 : decode cX9_init 25 = .ok (.newarray .long, 2) := by decide +kernel
theorem dX9_init_27 : decode cX9_init 27 = .ok (.putfield 18, 3) := by decide +kernel
theorem dX9_init_30 : decode cX9_init 30 = .ok (.aload_n 0, 1) := by decide +kernel
theorem dX9_init_31 : decode cX9_init 31 = .ok (.aload_n 1, 1) := by decide +kernel
theorem dX9_init_32 : decode cX9_init 32 = .ok (.putfield 22, 3) := by decide +kernel
theorem dX9_init_35 : decode cX9_init 35 = .ok (.aload_n 0, 1) := by decide +kernel
theorem dX9_init_36 : decode cX9_init 36 = .ok (.aload_n 2, 1) := by decide +kernel
theorem dX9_init_37 : decode cX9_init 37 = .ok (.putfield 26, 3) := by decide +kernel
theorem dX9_init_40 : decode cX9_init 40 = .ok (.return_, 1) := by decide +kernel
theorem dX9_paintAll_0 : decode cX9_paintAll 0 = .ok (.aload_n 0, 1) := by decide +kernel
theorem dX9_paintAll_1 : decode cX9_paintAll 1 = .ok (.getfield 26, 3) := by decide +kernel
theorem dX9_paintAll_4 : decode cX9_paintAll 4 = .ok (.iload_n 1, 1) := by decide +kernel
theorem dX9_paintAll_5 : decode cX9_paintAll 5 = .ok (.invokevirtual 30, 3) := by decide +kernel
theorem dX9_paintAll_8 : decode cX9_paintAll 8 = .ok (.istore_n 3, 1) := by decide +kernel
theorem dX9_paintAll_9 : decode cX9_paintAll 9 = .ok (.iconst 0, 1) := by decide +kernel
theorem dX9_paintAll_10 : decode cX9_paintAll 10 = .ok (.istore 4, 2) := by decide +kernel
theorem dX9_paintAll_12 : decode cX9_paintAll 12 = .ok (.aload_n 0, 1) := by decide +kernel
theorem dX9_paintAll_13 : decode cX9_paintAll 13 = .ok (.iconst 0, 1) := by decide +kernel
theorem dX9_paintAll_14 : decode cX9_paintAll 14 = .ok (.putfield 36, 3) := by decide +kernel
theorem dX9_paintAll_17 : decode cX9_paintAll 17 = .ok (.iconst 0, 1) := by decide +kernel
theorem dX9_paintAll_18 : decode cX9_paintAll 18 = .ok (.istore 5, 2) := by decide +kernel
theorem dX9_paintAll_20 : decode cX9_paintAll 20 = .ok (.iload 5, 2) := by decide +kernel
theorem dX9_paintAll_22 : decode cX9_paintAll 22 = .ok (.bipush 16, 2) := by decide +kernel
theorem dX9_paintAll_24 : decode cX9_paintAll 24 = .ok (.if_icmp .ge 66, 3) := by decide +kernel
theorem dX9_paintAll_27 : decode cX9_paintAll 27 = .ok (.iload_n 3, 1) := by decide +kernel
theorem dX9_paintAll_28 : decode cX9_paintAll 28 = .ok (.iload 5, 2) := by decide +kernel
theorem dX9_paintAll_30 : decode cX9_paintAll 30 = .ok (.invokestatic 40, 3) := by decide +kernel
theorem dX9_paintAll_33 : decode cX9_paintAll 33 = .ok (.ifCond .eq 51, 3) := by decide +kernel
theorem dX9_paintAll_36 : decode cX9_paintAll 36 = .ok (.aload_n 0, 1) := by decide +kernel
theorem dX9_paintAll_37 : decode cX9_paintAll 37 = .ok (.getfield 22, 3) := by decide +kernel
theorem dX9_paintAll_40 : decode cX9_paintAll 40 = .ok (.iload 5, 2) := by decide +kernel
theorem dX9_paintAll_42 : decode cX9_paintAll 42 = .ok (.iload_n 2, 1) := by decide +kernel
theorem dX9_paintAll_43 : decode cX9_paintAll 43 = .ok (.invokevirtual 44, 3) := by decide +kernel
theorem dX9_paintAll_46 : decode cX9_paintAll 46 = .ok (.istore 6, 2) := by decide +kernel
theorem dX9_paintAll_48 : decode cX9_paintAll 48 = .ok (.iload 4, 2) := by decide +kernel
theorem dX9_paintAll_50 : decode cX9_paintAll 50 = .ok (.iload 6, 2) := by decide +kernel
theorem dX9_paintAll_52 : decode cX9_paintAll 52 = .ok (.iadd, 1) := by decide +kernel
theorem dX9_paintAll_53 : decode cX9_paintAll 53 = .ok (.istore 4, 2) := by decide +kernel
theorem dX9_paintAll_55 : decode cX9_paintAll 55 = .ok (.iload 6, 2) := by decide +kernel
theorem dX9_paintAll_57 : decode cX9_paintAll 57 = .ok (.iconst 2, 1) := by decide +kernel
theorem dX9_paintAll_58 : decode cX9_paintAll 58 = .ok (.irem, 1) := by decide +kernel
theorem dX9_paintAll_59 : decode cX9_paintAll 59 = .ok (.iconst 1, 1) := by decide +kernel
theorem dX9_paintAll_60 : decode cX9_paintAll 60 = .ok (.if_icmp .ne 24, 3) := by decide +kernel
theorem dX9_paintAll_63 : decode cX9_paintAll 63 = .ok (.aload_n 0, 1) := by decide +kernel
theorem dX9_paintAll_64 : decode cX9_paintAll 64 = .ok (.getfield 9, 3) := by decide +kernel
theorem dX9_paintAll_67 : decode cX9_paintAll 67 = .ok (.aload_n 0, 1) := by decide +kernel
theorem dX9_paintAll_68 : decode cX9_paintAll 68 = .ok (.getfield 36, 3) := by decide +kernel
theorem dX9_paintAll_71 : decode cX9_paintAll 71 = .ok (.iload 5, 2) := by decide +kernel
theorem dX9_paintAll_73 : decode cX9_paintAll 73 = .ok (.iastore, 1) := by decide +kernel
theorem dX9_paintAll_74 : decode cX9_paintAll 74 = .ok (.aload_n 0, 1) := by decide +kernel
theorem dX9_paintAll_75 : decode cX9_paintAll 75 = .ok (.dup, 1) := by decide +kernel
theorem dX9_paintAll_76 : decode cX9_paintAll 76 = .ok (.getfield 36, 3) := by decide +kernel
theorem dX9_paintAll_79 : decode cX9_paintAll 79 = .ok (.iconst 1, 1) := by decide +kernel
theorem dX9_paintAll_80 : decode cX9_paintAll 80 = .ok (.iadd, 1) := by decide +kernel
theorem dX9_paintAll_81 : decode cX9_paintAll 81 = .ok (.putfield 36, 3) := by decide +kernel
theorem dX9_paintAll_84 : decode cX9_paintAll 84 = .ok (.iinc 5 1, 3) := by decide +kernel
theorem dX9_paintAll_87 : decode cX9_paintAll 87 = .ok (.goto (-67), 3) := by decide +kernel
theorem dX9_paintAll_90 : decode cX9_paintAll 90 = .ok (.iload 4, 2) := by decide +kernel
theorem dX9_paintAll_92 : decode cX9_paintAll 92 = .ok (.iconst 2, 1) := by decide +kernel
theorem dX9_paintAll_93 : decode cX9_paintAll 93 = .ok (.idiv, 1) := by decide +kernel
theorem dX9_paintAll_94 : decode cX9_paintAll 94 = .ok (.aload_n 0, 1) := by decide +kernel
theorem dX9_paintAll_95 : decode cX9_paintAll 95 = .ok (.getfield 36, 3) := by decide +kernel
theorem dX9_paintAll_98 : decode cX9_paintAll 98 = .ok (.ifCond .ne 7, 3) := by decide +kernel
theorem dX9_paintAll_101 : decode cX9_paintAll 101 = .ok (.iconst 0, 1) := by decide +kernel
theorem dX9_paintAll_102 : decode cX9_paintAll 102 = .ok (.goto 7, 3) := by decide +kernel
theorem dX9_paintAll_105 : decode cX9_paintAll 105 = .ok (.aload_n 0, 1) := by decide +kernel
theorem dX9_paintAll_106 : decode cX9_paintAll 106 = .ok (.invokevirtual 50, 3) := by decide +kernel
theorem dX9_paintAll_109 : decode cX9_paintAll 109 = .ok (.iadd, 1) := by decide +kernel
theorem dX9_paintAll_110 : decode cX9_paintAll 110 = .ok (.ireturn, 1) := by decide +kernel
theorem dX9_pairUp_0 : decode cX9_pairUp 0 = .ok (.aload_n 0, 1) := by decide +kernel
theorem dX9_pairUp_1 : decode cX9_pairUp 1 = .ok (.invokevirtual 54, 3) := by decide +kernel
theorem dX9_pairUp_4 : decode cX9_pairUp 4 = .ok (.iconst 1, 1) := by decide +kernel
theorem dX9_pairUp_5 : decode cX9_pairUp 5 = .ok (.aload_n 0, 1) := by decide +kernel
theorem dX9_pairUp_6 : decode cX9_pairUp 6 = .ok (.getfield 36, 3) := by decide +kernel
theorem dX9_pairUp_9 : decode cX9_pairUp 9 = .ok (.iconst 1, 1) := by decide +kernel
theorem dX9_pairUp_10 : decode cX9_pairUp 10 = .ok (.isub, 1) := by decide +kernel
theorem dX9_pairUp_11 : decode cX9_pairUp 11 = .ok (.ishl, 1) := by decide +kernel
theorem dX9_pairUp_12 : decode cX9_pairUp 12 = .ok (.istore_n 1, 1) := by decide +kernel
theorem dX9_pairUp_13 : decode cX9_pairUp 13 = .ok (.iconst 0, 1) := by decide +kernel
theorem dX9_pairUp_14 : decode cX9_pairUp 14 = .ok (.istore_n 2, 1) := by decide +kernel
theorem dX9_pairUp_15 : decode cX9_pairUp 15 = .ok (.iload_n 2, 1) := by decide +kernel
theorem dX9_pairUp_16 : decode cX9_pairUp 16 = .ok (.iload_n 1, 1) := by decide +kernel
theorem dX9_pairUp_17 : decode cX9_pairUp 17 = .ok (.if_icmp .ge 70, 3) := by decide +kernel
theorem dX9_pairUp_20 : decode cX9_pairUp 20 = .ok (.iload_n 2, 1) := by decide +kernel
theorem dX9_pairUp_21 : decode cX9_pairUp 21 = .ok (.iconst 1, 1) := by decide +kernel
theorem dX9_pairUp_22 : decode cX9_pairUp 22 = .ok (.ishl, 1) := by decide +kernel
theorem dX9_pairUp_23 : decode cX9_pairUp 23 = .ok (.iload_n 2, 1) := by decide +kernel
theorem dX9_pairUp_24 : decode cX9_pairUp 24 = .ok (.invokestatic 57, 3) := by decide +kernel
theorem dX9_pairUp_27 : decode cX9_pairUp 27 = .ok (.iconst 1, 1) := by decide +kernel
theorem dX9_pairUp_28 : decode cX9_pairUp 28 = .ok (.iand, 1) := by decide +kernel
theorem dX9_pairUp_29 : decode cX9_pairUp 29 = .ok (.ior, 1) := by decide +kernel
theorem dX9_pairUp_30 : decode cX9_pairUp 30 = .ok (.istore_n 3, 1) := by decide +kernel
theorem dX9_pairUp_31 : decode cX9_pairUp 31 = .ok (.aload_n 0, 1) := by decide +kernel
theorem dX9_pairUp_32 : decode cX9_pairUp 32 = .ok (.getfield 36, 3) := by decide +kernel
theorem dX9_pairUp_35 : decode cX9_pairUp 35 = .ok (.iload_n 3, 1) := by decide +kernel
theorem dX9_pairUp_36 : decode cX9_pairUp 36 = .ok (.invokestatic 57, 3) := by decide +kernel
theorem dX9_pairUp_39 : decode cX9_pairUp 39 = .ok (.isub, 1) := by decide +kernel
theorem dX9_pairUp_40 : decode cX9_pairUp 40 = .ok (.istore 4, 2) := by decide +kernel
theorem dX9_pairUp_42 : decode cX9_pairUp 42 = .ok (.iload_n 3, 1) := by decide +kernel
theorem dX9_pairUp_43 : decode cX9_pairUp 43 = .ok (.ifCond .eq 16, 3) := by decide +kernel
theorem dX9_pairUp_46 : decode cX9_pairUp 46 = .ok (.iload_n 3, 1) := by decide +kernel
theorem dX9_pairUp_47 : decode cX9_pairUp 47 = .ok (.iload_n 3, 1) := by decide +kernel
theorem dX9_pairUp_48 : decode cX9_pairUp 48 = .ok (.ineg, 1) := by decide +kernel
theorem dX9_pairUp_49 : decode cX9_pairUp 49 = .ok (.iand, 1) := by decide +kernel
theorem dX9_pairUp_50 : decode cX9_pairUp 50 = .ok (.iconst 1, 1) := by decide +kernel
theorem dX9_pairUp_51 : decode cX9_pairUp 51 = .ok (.iload 4, 2) := by decide +kernel
theorem dX9_pairUp_53 : decode cX9_pairUp 53 = .ok (.iconst 2, 1) := by decide +kernel
theorem dX9_pairUp_54 : decode cX9_pairUp 54 = .ok (.idiv, 1) := by decide +kernel
theorem dX9_pairUp_55 : decode cX9_pairUp 55 = .ok (.ishl, 1) := by decide +kernel
theorem dX9_pairUp_56 : decode cX9_pairUp 56 = .ok (.if_icmp .lt 7, 3) := by decide +kernel
theorem dX9_pairUp_59 : decode cX9_pairUp 59 = .ok (.iconst 1, 1) := by decide +kernel
theorem dX9_pairUp_60 : decode cX9_pairUp 60 = .ok (.goto 4, 3) := by decide +kernel
theorem dX9_pairUp_63 : decode cX9_pairUp 63 = .ok (.iconst 0, 1) := by decide +kernel
theorem dX9_pairUp_64 : decode cX9_pairUp 64 = .ok (.istore 5, 2) := by decide +kernel
theorem dX9_pairUp_66 : decode cX9_pairUp 66 = .ok (.iload 5, 2) := by decide +kernel
theorem dX9_pairUp_68 : decode cX9_pairUp 68 = .ok (.ifCond .eq 13, 3) := by decide +kernel
theorem dX9_pairUp_71 : decode cX9_pairUp 71 = .ok (.aload_n 0, 1) := by decide +kernel
theorem dX9_pairUp_72 : decode cX9_pairUp 72 = .ok (.iload_n 2, 1) := by decide +kernel
theorem dX9_pairUp_73 : decode cX9_pairUp 73 = .ok (.aload_n 0, 1) := by decide +kernel
theorem dX9_pairUp_74 : decode cX9_pairUp 74 = .ok (.iload_n 3, 1) := by decide +kernel
theorem dX9_pairUp_75 : decode cX9_pairUp 75 = .ok (.invokevirtual 62, 3) := by decide +kernel
theorem dX9_pairUp_78 : decode cX9_pairUp 78 = .ok (.invokevirtual 65, 3) := by decide +kernel
theorem dX9_pairUp_81 : decode cX9_pairUp 81 = .ok (.iinc 2 1, 3) := by decide +kernel
theorem dX9_pairUp_84 : decode cX9_pairUp 84 = .ok (.goto (-69), 3) := by decide +kernel
theorem dX9_pairUp_87 : decode cX9_pairUp 87 = .ok (.aload_n 0, 1) := by decide +kernel
theorem dX9_pairUp_88 : decode cX9_pairUp 88 = .ok (.iload_n 1, 1) := by decide +kernel
theorem dX9_pairUp_89 : decode cX9_pairUp 89 = .ok (.iconst 1, 1) := by decide +kernel
theorem dX9_pairUp_90 : decode cX9_pairUp 90 = .ok (.isub, 1) := by decide +kernel
theorem dX9_pairUp_91 : decode cX9_pairUp 91 = .ok (.invokevirtual 69, 3) := by decide +kernel
theorem dX9_pairUp_94 : decode cX9_pairUp 94 = .ok (.ireturn, 1) := by decide +kernel
theorem dX9_measureOdds_0 : decode cX9_measureOdds 0 = .ok (.iconst 0, 1) := by decide +kernel
theorem dX9_measureOdds_1 : decode cX9_measureOdds 1 = .ok (.istore_n 1, 1) := by decide +kernel
theorem dX9_measureOdds_2 : decode cX9_measureOdds 2 = .ok (.iload_n 1, 1) := by decide +kernel
theorem dX9_measureOdds_3 : decode cX9_measureOdds 3 = .ok (.aload_n 0, 1) := by decide +kernel
theorem dX9_measureOdds_4 : decode cX9_measureOdds 4 = .ok (.getfield 36, 3) := by decide +kernel
theorem dX9_measureOdds_7 : decode cX9_measureOdds 7 = .ok (.if_icmp .ge 64, 3) := by decide +kernel
theorem dX9_measureOdds_10 : decode cX9_measureOdds 10 = .ok (.aload_n 0, 1) := by decide +kernel
theorem dX9_measureOdds_11 : decode cX9_measureOdds 11 = .ok (.getfield 26, 3) := by decide +kernel
theorem dX9_measureOdds_14 : decode cX9_measureOdds 14 = .ok (.aload_n 0, 1) := by decide +kernel
theorem dX9_measureOdds_15 : decode cX9_measureOdds 15 = .ok (.getfield 9, 3) := by decide +kernel
theorem dX9_measureOdds_18 : decode cX9_measureOdds 18 = .ok (.iload_n 1, 1) := by decide +kernel
theorem dX9_measureOdds_19 : decode cX9_measureOdds 19 = .ok (.iaload, 1) := by decide +kernel
theorem dX9_measureOdds_20 : decode cX9_measureOdds 20 = .ok (.invokevirtual 30, 3) := by decide +kernel
theorem dX9_measureOdds_23 : decode cX9_measureOdds 23 = .ok (.pop, 1) := by decide +kernel
theorem dX9_measureOdds_24 : decode cX9_measureOdds 24 = .ok (.iconst 0, 1) := by decide +kernel
theorem dX9_measureOdds_25 : decode cX9_measureOdds 25 = .ok (.istore_n 2, 1) := by decide +kernel
theorem dX9_measureOdds_26 : decode cX9_measureOdds 26 = .ok (.iload_n 2, 1) := by decide +kernel
theorem dX9_measureOdds_27 : decode cX9_measureOdds 27 = .ok (.aload_n 0, 1) := by decide +kernel
theorem dX9_measureOdds_28 : decode cX9_measureOdds 28 = .ok (.getfield 36, 3) := by decide +kernel
theorem dX9_measureOdds_31 : decode cX9_measureOdds 31 = .ok (.if_icmp .ge 34, 3) := by decide +kernel
theorem dX9_measureOdds_34 : decode cX9_measureOdds 34 = .ok (.aload_n 0, 1) := by decide +kernel
theorem dX9_measureOdds_35 : decode cX9_measureOdds 35 = .ok (.getfield 15, 3) := by decide +kernel
theorem dX9_measureOdds_38 : decode cX9_measureOdds 38 = .ok (.iload_n 1, 1) := by decide +kernel
theorem dX9_measureOdds_39 : decode cX9_measureOdds 39 = .ok (.bipush 16, 2) := by decide +kernel
theorem dX9_measureOdds_41 : decode cX9_measureOdds 41 = .ok (.imul, 1) := by decide +kernel
theorem dX9_measureOdds_42 : decode cX9_measureOdds 42 = .ok (.iload_n 2, 1) := by decide +kernel
theorem dX9_measureOdds_43 : decode cX9_measureOdds 43 = .ok (.iadd, 1) := by decide +kernel
theorem dX9_measureOdds_44 : decode cX9_measureOdds 44 = .ok (.aload_n 0, 1) := by decide +kernel
theorem dX9_measureOdds_45 : decode cX9_measureOdds 45 = .ok (.getfield 26, 3) := by decide +kernel
theorem dX9_measureOdds_48 : decode cX9_measureOdds 48 = .ok (.getfield 72, 3) := by decide +kernel
theorem dX9_measureOdds_51 : decode cX9_measureOdds 51 = .ok (.aload_n 0, 1) := by decide +kernel
theorem dX9_measureOdds_52 : decode cX9_measureOdds 52 = .ok (.getfield 9, 3) := by decide +kernel
theorem dX9_measureOdds_55 : decode cX9_measureOdds 55 = .ok (.iload_n 2, 1) := by decide +kernel
theorem dX9_measureOdds_56 : decode cX9_measureOdds 56 = .ok (.iaload, 1) := by decide +kernel
theorem dX9_measureOdds_57 : decode cX9_measureOdds 57 = .ok (.iaload, 1) := by decide +kernel
theorem dX9_measureOdds_58 : decode cX9_measureOdds 58 = .ok (.iastore, 1) := by decide +kernel
theorem dX9_measureOdds_59 : decode cX9_measureOdds 59 = .ok (.iinc 2 1, 3) := by decide +kernel
theorem dX9_measureOdds_62 : decode cX9_measureOdds 62 = .ok (.goto (-36), 3) := by decide +kernel
theorem dX9_measureOdds_65 : decode cX9_measureOdds 65 = .ok (.iinc 1 1, 3) := by decide +kernel
theorem dX9_measureOdds_68 : decode cX9_measureOdds 68 = .ok (.goto (-66), 3) := by decide +kernel
theorem dX9_measureOdds_71 : decode cX9_measureOdds 71 = .ok (.return_, 1) := by decide +kernel
theorem dX9_leastFor_0 : decode cX9_leastFor 0 = .ok (.iload_n 1, 1) := by decide +kernel
theorem dX9_leastFor_1 : decode cX9_leastFor 1 = .ok (.ifCond .ne 5, 3) := by decide +kernel
theorem dX9_leastFor_4 : decode cX9_leastFor 4 = .ok (.iconst 0, 1) := by decide +kernel
theorem dX9_leastFor_5 : decode cX9_leastFor 5 = .ok (.ireturn, 1) := by decide +kernel
theorem dX9_leastFor_6 : decode cX9_leastFor 6 = .ok (.iload_n 1, 1) := by decide +kernel
theorem dX9_leastFor_7 : decode cX9_leastFor 7 = .ok (.invokestatic 75, 3) := by decide +kernel
theorem dX9_leastFor_10 : decode cX9_leastFor 10 = .ok (.istore_n 2, 1) := by decide +kernel
theorem dX9_leastFor_11 : decode cX9_leastFor 11 = .ok (.iload_n 1, 1) := by decide +kernel
theorem dX9_leastFor_12 : decode cX9_leastFor 12 = .ok (.iload_n 1, 1) := by decide +kernel
theorem dX9_leastFor_13 : decode cX9_leastFor 13 = .ok (.iconst 1, 1) := by decide +kernel
theorem dX9_leastFor_14 : decode cX9_leastFor 14 = .ok (.isub, 1) := by decide +kernel
theorem dX9_leastFor_15 : decode cX9_leastFor 15 = .ok (.iand, 1) := by decide +kernel
theorem dX9_leastFor_16 : decode cX9_leastFor 16 = .ok (.istore_n 3, 1) := by decide +kernel
theorem dX9_leastFor_17 : decode cX9_leastFor 17 = .ok (.bipush 15, 2) := by decide +kernel
theorem dX9_leastFor_19 : decode cX9_leastFor 19 = .ok (.istore 4, 2) := by decide +kernel
theorem dX9_leastFor_21 : decode cX9_leastFor 21 = .ok (.iload_n 2, 1) := by decide +kernel
theorem dX9_leastFor_22 : decode cX9_leastFor 22 = .ok (.iconst 1, 1) := by decide +kernel
theorem dX9_leastFor_23 : decode cX9_leastFor 23 = .ok (.iadd, 1) := by decide +kernel
theorem dX9_leastFor_24 : decode cX9_leastFor 24 = .ok (.istore 5, 2) := by decide +kernel
theorem dX9_leastFor_26 : decode cX9_leastFor 26 = .ok (.iload 5, 2) := by decide +kernel
theorem dX9_leastFor_28 : decode cX9_leastFor 28 = .ok (.aload_n 0, 1) := by decide +kernel
theorem dX9_leastFor_29 : decode cX9_leastFor 29 = .ok (.getfield 36, 3) := by decide +kernel
theorem dX9_leastFor_32 : decode cX9_leastFor 32 = .ok (.if_icmp .ge 56, 3) := by decide +kernel
theorem dX9_leastFor_35 : decode cX9_leastFor 35 = .ok (.iload_n 3, 1) := by decide +kernel
theorem dX9_leastFor_36 : decode cX9_leastFor 36 = .ok (.iload 5, 2) := by decide +kernel
theorem dX9_leastFor_38 : decode cX9_leastFor 38 = .ok (.invokestatic 40, 3) := by decide +kernel
theorem dX9_leastFor_41 : decode cX9_leastFor 41 = .ok (.ifCond .eq 41, 3) := by decide +kernel
theorem dX9_leastFor_44 : decode cX9_leastFor 44 = .ok (.iload_n 3, 1) := by decide +kernel
theorem dX9_leastFor_45 : decode cX9_leastFor 45 = .ok (.iconst 1, 1) := by decide +kernel
theorem dX9_leastFor_46 : decode cX9_leastFor 46 = .ok (.iload 5, 2) := by decide +kernel
theorem dX9_leastFor_48 : decode cX9_leastFor 48 = .ok (.ishl, 1) := by decide +kernel
theorem dX9_leastFor_49 : decode cX9_leastFor 49 = .ok (.iconst (-1), 1) := by decide +kernel
theorem dX9_leastFor_50 : decode cX9_leastFor 50 = .ok (.ixor, 1) := by decide +kernel
theorem dX9_leastFor_51 : decode cX9_leastFor 51 = .ok (.iand, 1) := by decide +kernel
theorem dX9_leastFor_52 : decode cX9_leastFor 52 = .ok (.istore 6, 2) := by decide +kernel
theorem dX9_leastFor_54 : decode cX9_leastFor 54 = .ok (.iload 4, 2) := by decide +kernel
theorem dX9_leastFor_56 : decode cX9_leastFor 56 = .ok (.aload_n 0, 1) := by decide +kernel
theorem dX9_leastFor_57 : decode cX9_leastFor 57 = .ok (.getfield 15, 3) := by decide +kernel
theorem dX9_leastFor_60 : decode cX9_leastFor 60 = .ok (.iload_n 2, 1) := by decide +kernel
theorem dX9_leastFor_61 : decode cX9_leastFor 61 = .ok (.bipush 16, 2) := by decide +kernel
theorem dX9_leastFor_63 : decode cX9_leastFor 63 = .ok (.imul, 1) := by decide +kernel
theorem dX9_leastFor_64 : decode cX9_leastFor 64 = .ok (.iload 5, 2) := by decide +kernel
theorem dX9_leastFor_66 : decode cX9_leastFor 66 = .ok (.iadd, 1) := by decide +kernel
theorem dX9_leastFor_67 : decode cX9_leastFor 67 = .ok (.iaload, 1) := by decide +kernel
theorem dX9_leastFor_68 : decode cX9_leastFor 68 = .ok (.aload_n 0, 1) := by decide +kernel
theorem dX9_leastFor_69 : decode cX9_leastFor 69 = .ok (.iload 6, 2) := by decide +kernel
theorem dX9_leastFor_71 : decode cX9_leastFor 71 = .ok (.iconst 1, 1) := by decide +kernel
theorem dX9_leastFor_72 : decode cX9_leastFor 72 = .ok (.ishr, 1) := by decide +kernel
theorem dX9_leastFor_73 : decode cX9_leastFor 73 = .ok (.invokevirtual 69, 3) := by decide +kernel
theorem dX9_leastFor_76 : decode cX9_leastFor 76 = .ok (.iadd, 1) := by decide +kernel
theorem dX9_leastFor_77 : decode cX9_leastFor 77 = .ok (.invokestatic 78, 3) := by decide +kernel
theorem dX9_leastFor_80 : decode cX9_leastFor 80 = .ok (.istore 4, 2) := by decide +kernel
theorem dX9_leastFor_82 : decode cX9_leastFor 82 = .ok (.iinc 5 1, 3) := by decide +kernel
theorem dX9_leastFor_85 : decode cX9_leastFor 85 = .ok (.goto (-59), 3) := by decide +kernel
theorem dX9_leastFor_88 : decode cX9_leastFor 88 = .ok (.iload 4, 2) := by decide +kernel
theorem dX9_leastFor_90 : decode cX9_leastFor 90 = .ok (.ireturn, 1) := by decide +kernel
theorem dX9_costOf_0 : decode cX9_costOf 0 = .ok (.aload_n 0, 1) := by decide +kernel
theorem dX9_costOf_1 : decode cX9_costOf 1 = .ok (.getfield 18, 3) := by decide +kernel
theorem dX9_costOf_4 : decode cX9_costOf 4 = .ok (.iload_n 1, 1) := by decide +kernel
theorem dX9_costOf_5 : decode cX9_costOf 5 = .ok (.iconst 4, 1) := by decide +kernel
theorem dX9_costOf_6 : decode cX9_costOf 6 = .ok (.ishr, 1) := by decide +kernel
theorem dX9_costOf_7 : decode cX9_costOf 7 = .ok (.laload, 1) := by decide +kernel
theorem dX9_costOf_8 : decode cX9_costOf 8 = .ok (.iload_n 1, 1) := by decide +kernel
theorem dX9_costOf_9 : decode cX9_costOf 9 = .ok (.bipush 15, 2) := by decide +kernel
theorem dX9_costOf_11 : decode cX9_costOf 11 = .ok (.iand, 1) := by decide +kernel
theorem dX9_costOf_12 : decode cX9_costOf 12 = .ok (.iconst 2, 1) := by decide +kernel
theorem dX9_costOf_13 : decode cX9_costOf 13 = .ok (.ishl, 1) := by decide +kernel
theorem dX9_costOf_14 : decode cX9_costOf 14 = .ok (.lushr, 1) := by decide +kernel
theorem dX9_costOf_15 : decode cX9_costOf 15 = .ok (.ldc2_w 83, 3) := by decide +kernel
theorem dX9_costOf_18 : decode cX9_costOf 18 = .ok (.land, 1) := by decide +kernel
theorem dX9_costOf_19 : decode cX9_costOf 19 = .ok (.l2i, 1) := by decide +kernel
theorem dX9_costOf_20 : decode cX9_costOf 20 = .ok (.ireturn, 1) := by decide +kernel
theorem dX9_setCost_0 : decode cX9_setCost 0 = .ok (.iload_n 1, 1) := by decide +kernel
theorem dX9_setCost_1 : decode cX9_setCost 1 = .ok (.bipush 15, 2) := by decide +kernel
theorem dX9_setCost_3 : decode cX9_setCost 3 = .ok (.iand, 1) := by decide +kernel
theorem dX9_setCost_4 : decode cX9_setCost 4 = .ok (.iconst 2, 1) := by decide +kernel
theorem dX9_setCost_5 : decode cX9_setCost 5 = .ok (.ishl, 1) := by decide +kernel
theorem dX9_setCost_6 : decode cX9_setCost 6 = .ok (.istore_n 3, 1) := by decide +kernel
theorem dX9_setCost_7 : decode cX9_setCost 7 = .ok (.aload_n 0, 1) := by decide +kernel
theorem dX9_setCost_8 : decode cX9_setCost 8 = .ok (.getfield 18, 3) := by decide +kernel
theorem dX9_setCost_11 : decode cX9_setCost 11 = .ok (.iload_n 1, 1) := by decide +kernel
theorem dX9_setCost_12 : decode cX9_setCost 12 = .ok (.iconst 4, 1) := by decide +kernel
theorem dX9_setCost_13 : decode cX9_setCost 13 = .ok (.ishr, 1) := by decide +kernel
theorem dX9_setCost_14 : decode cX9_setCost 14 = .ok (.aload_n 0, 1) := by decide +kernel
theorem dX9_setCost_15 : decode cX9_setCost 15 = .ok (.getfield 18, 3) := by decide +kernel
theorem dX9_setCost_18 : decode cX9_setCost 18 = .ok (.iload_n 1, 1) := by decide +kernel
theorem dX9_setCost_19 : decode cX9_setCost 19 = .ok (.iconst 4, 1) := by decide +kernel
theorem dX9_setCost_20 : decode cX9_setCost 20 = .ok (.ishr, 1) := by decide +kernel
theorem dX9_setCost_21 : decode cX9_setCost 21 = .ok (.laload, 1) := by decide +kernel
theorem dX9_setCost_22 : decode cX9_setCost 22 = .ok (.ldc2_w 83, 3) := by decide +kernel
theorem dX9_setCost_25 : decode cX9_setCost 25 = .ok (.iload_n 3, 1) := by decide +kernel
theorem dX9_setCost_26 : decode cX9_setCost 26 = .ok (.lshl, 1) := by decide +kernel
theorem dX9_setCost_27 : decode cX9_setCost 27 = .ok (.ldc2_w 85, 3) := by decide +kernel
theorem dX9_setCost_30 : decode cX9_setCost 30 = .ok (.lxor, 1) := by decide +kernel
theorem dX9_setCost_31 : decode cX9_setCost 31 = .ok (.land, 1) := by decide +kernel
theorem dX9_setCost_32 : decode cX9_setCost 32 = .ok (.iload_n 2, 1) := by decide +kernel
theorem dX9_setCost_33 : decode cX9_setCost 33 = .ok (.i2l, 1) := by decide +kernel
theorem dX9_setCost_34 : decode cX9_setCost 34 = .ok (.iload_n 3, 1) := by decide +kernel
theorem dX9_setCost_35 : decode cX9_setCost 35 = .ok (.lshl, 1) := by decide +kernel
theorem dX9_setCost_36 : decode cX9_setCost 36 = .ok (.lor, 1) := by decide +kernel
theorem dX9_setCost_37 : decode cX9_setCost 37 = .ok (.lastore, 1) := by decide +kernel
theorem dX9_setCost_38 : decode cX9_setCost 38 = .ok (.return_, 1) := by decide +kernel
theorem dX9_goFar_0 : decode cX9_goFar 0 = .ok (.aload_n 0, 1) := by decide +kernel
theorem dX9_goFar_1 : decode cX9_goFar 1 = .ok (.iconst 0, 1) := by decide +kernel
theorem dX9_goFar_2 : decode cX9_goFar 2 = .ok (.putfield 87, 3) := by decide +kernel
theorem dX9_goFar_5 : decode cX9_goFar 5 = .ok (.aload_n 0, 1) := by decide +kernel
theorem dX9_goFar_6 : decode cX9_goFar 6 = .ok (.iload_n 1, 1) := by decide +kernel
theorem dX9_goFar_7 : decode cX9_goFar 7 = .ok (.putfield 90, 3) := by decide +kernel
theorem dX9_goFar_10 : decode cX9_goFar 10 = .ok (.aload_n 0, 1) := by decide +kernel
theorem dX9_goFar_11 : decode cX9_goFar 11 = .ok (.iload_n 1, 1) := by decide +kernel
theorem dX9_goFar_12 : decode cX9_goFar 12 = .ok (.aload_n 0, 1) := by decide +kernel
theorem dX9_goFar_13 : decode cX9_goFar 13 = .ok (.getfield 26, 3) := by decide +kernel
theorem dX9_goFar_16 : decode cX9_goFar 16 = .ok (.iload_n 1, 1) := by decide +kernel
theorem dX9_goFar_17 : decode cX9_goFar 17 = .ok (.invokevirtual 30, 3) := by decide +kernel
theorem dX9_goFar_20 : decode cX9_goFar 20 = .ok (.iconst 1, 1) := by decide +kernel
theorem dX9_goFar_21 : decode cX9_goFar 21 = .ok (.iload_n 1, 1) := by decide +kernel
theorem dX9_goFar_22 : decode cX9_goFar 22 = .ok (.ishl, 1) := by decide +kernel
theorem dX9_goFar_23 : decode cX9_goFar 23 = .ok (.iconst (-1), 1) := by decide +kernel
theorem dX9_goFar_24 : decode cX9_goFar 24 = .ok (.ixor, 1) := by decide +kernel
theorem dX9_goFar_25 : decode cX9_goFar 25 = .ok (.iand, 1) := by decide +kernel
theorem dX9_goFar_26 : decode cX9_goFar 26 = .ok (.iconst 0, 1) := by decide +kernel
theorem dX9_goFar_27 : decode cX9_goFar 27 = .ok (.invokestatic 93, 3) := by decide +kernel
theorem dX9_goFar_30 : decode cX9_goFar 30 = .ok (.return_, 1) := by decide +kernel
theorem dX9_goOn_0 : decode cX9_goOn 0 = .ok (.iload_n 3, 1) := by decide +kernel
theorem dX9_goOn_1 : decode cX9_goOn 1 = .ok (.aload_n 0, 1) := by decide +kernel
theorem dX9_goOn_2 : decode cX9_goOn 2 = .ok (.getfield 87, 3) := by decide +kernel
theorem dX9_goOn_5 : decode cX9_goOn 5 = .ok (.if_icmp .gt 19, 3) := by decide +kernel
theorem dX9_goOn_8 : decode cX9_goOn 8 = .ok (.iload_n 3, 1) := by decide +kernel
theorem dX9_goOn_9 : decode cX9_goOn 9 = .ok (.aload_n 0, 1) := by decide +kernel
theorem dX9_goOn_10 : decode cX9_goOn 10 = .ok (.getfield 87, 3) := by decide +kernel
theorem dX9_goOn_13 : decode cX9_goOn 13 = .ok (.if_icmp .ne 21, 3) := by decide +kernel
theorem dX9_goOn_16 : decode cX9_goOn 16 = .ok (.iload_n 1, 1) := by decide +kernel
theorem dX9_goOn_17 : decode cX9_goOn 17 = .ok (.aload_n 0, 1) := by decide +kernel
theorem dX9_goOn_18 : decode cX9_goOn 18 = .ok (.getfield 90, 3) := by decide +kernel
theorem dX9_goOn_21 : decode cX9_goOn 21 = .ok (.if_icmp .ge 13, 3) := by decide +kernel
theorem dX9_goOn_24 : decode cX9_goOn 24 = .ok (.aload_n 0, 1) := by decide +kernel
theorem dX9_goOn_25 : decode cX9_goOn 25 = .ok (.iload_n 3, 1) := by decide +kernel
theorem dX9_goOn_26 : decode cX9_goOn 26 = .ok (.putfield 87, 3) := by decide +kernel
theorem dX9_goOn_29 : decode cX9_goOn 29 = .ok (.aload_n 0, 1) := by decide +kernel
theorem dX9_goOn_30 : decode cX9_goOn 30 = .ok (.iload_n 1, 1) := by decide +kernel
theorem dX9_goOn_31 : decode cX9_goOn 31 = .ok (.putfield 90, 3) := by decide +kernel
theorem dX9_goOn_34 : decode cX9_goOn 34 = .ok (.iload_n 3, 1) := by decide +kernel
theorem dX9_goOn_35 : decode cX9_goOn 35 = .ok (.bipush 16, 2) := by decide +kernel
theorem dX9_goOn_37 : decode cX9_goOn 37 = .ok (.if_icmp .ge 16, 3) := by decide +kernel
theorem dX9_goOn_40 : decode cX9_goOn 40 = .ok (.iload_n 3, 1) := by decide +kernel
theorem dX9_goOn_41 : decode cX9_goOn 41 = .ok (.iload_n 2, 1) := by decide +kernel
theorem dX9_goOn_42 : decode cX9_goOn 42 = .ok (.invokestatic 57, 3) := by decide +kernel
theorem dX9_goOn_45 : decode cX9_goOn 45 = .ok (.iadd, 1) := by decide +kernel
theorem dX9_goOn_46 : decode cX9_goOn 46 = .ok (.aload_n 0, 1) := by decide +kernel
theorem dX9_goOn_47 : decode cX9_goOn 47 = .ok (.getfield 87, 3) := by decide +kernel
theorem dX9_goOn_50 : decode cX9_goOn 50 = .ok (.if_icmp .ge 4, 3) := by decide +kernel
theorem dX9_goOn_53 : decode cX9_goOn 53 = .ok (.return_, 1) := by decide +kernel
theorem dX9_goOn_54 : decode cX9_goOn 54 = .ok (.aload_n 0, 1) := by decide +kernel
theorem dX9_goOn_55 : decode cX9_goOn 55 = .ok (.getfield 26, 3) := by decide +kernel
theorem dX9_goOn_58 : decode cX9_goOn 58 = .ok (.getfield 97, 3) := by decide +kernel
theorem dX9_goOn_61 : decode cX9_goOn 61 = .ok (.iload_n 1, 1) := by decide +kernel
theorem dX9_goOn_62 : decode cX9_goOn 62 = .ok (.iaload, 1) := by decide +kernel
theorem dX9_goOn_63 : decode cX9_goOn 63 = .ok (.iload_n 2, 1) := by decide +kernel
theorem dX9_goOn_64 : decode cX9_goOn 64 = .ok (.iand, 1) := by decide +kernel
theorem dX9_goOn_65 : decode cX9_goOn 65 = .ok (.istore 4, 2) := by decide +kernel
theorem dX9_goOn_67 : decode cX9_goOn 67 = .ok (.iconst 0, 1) := by decide +kernel
theorem dX9_goOn_68 : decode cX9_goOn 68 = .ok (.istore 5, 2) := by decide +kernel
theorem dX9_goOn_70 : decode cX9_goOn 70 = .ok (.iload 5, 2) := by decide +kernel
theorem dX9_goOn_72 : decode cX9_goOn 72 = .ok (.bipush 16, 2) := by decide +kernel
theorem dX9_goOn_74 : decode cX9_goOn 74 = .ok (.if_icmp .ge 47, 3) := by decide +kernel
theorem dX9_goOn_77 : decode cX9_goOn 77 = .ok (.iload 4, 2) := by decide +kernel
theorem dX9_goOn_79 : decode cX9_goOn 79 = .ok (.ifCond .eq 42, 3) := by decide +kernel
theorem dX9_goOn_82 : decode cX9_goOn 82 = .ok (.iload 4, 2) := by decide +kernel
theorem dX9_goOn_84 : decode cX9_goOn 84 = .ok (.invokestatic 75, 3) := by decide +kernel
theorem dX9_goOn_87 : decode cX9_goOn 87 = .ok (.istore 6, 2) := by decide +kernel
theorem dX9_goOn_89 : decode cX9_goOn 89 = .ok (.iload 4, 2) := by decide +kernel
theorem dX9_goOn_91 : decode cX9_goOn 91 = .ok (.iload 4, 2) := by decide +kernel
theorem dX9_goOn_93 : decode cX9_goOn 93 = .ok (.iconst 1, 1) := by decide +kernel
theorem dX9_goOn_94 : decode cX9_goOn 94 = .ok (.isub, 1) := by decide +kernel
theorem dX9_goOn_95 : decode cX9_goOn 95 = .ok (.iand, 1) := by decide +kernel
theorem dX9_goOn_96 : decode cX9_goOn 96 = .ok (.istore 4, 2) := by decide +kernel
theorem dX9_goOn_98 : decode cX9_goOn 98 = .ok (.aload_n 0, 1) := by decide +kernel
theorem dX9_goOn_99 : decode cX9_goOn 99 = .ok (.iload 6, 2) := by decide +kernel
theorem dX9_goOn_101 : decode cX9_goOn 101 = .ok (.iload_n 2, 1) := by decide +kernel
theorem dX9_goOn_102 : decode cX9_goOn 102 = .ok (.iconst 1, 1) := by decide +kernel
theorem dX9_goOn_103 : decode cX9_goOn 103 = .ok (.iload 6, 2) := by decide +kernel
theorem dX9_goOn_105 : decode cX9_goOn 105 = .ok (.ishl, 1) := by decide +kernel
theorem dX9_goOn_106 : decode cX9_goOn 106 = .ok (.iconst (-1), 1) := by decide +kernel
theorem dX9_goOn_107 : decode cX9_goOn 107 = .ok (.ixor, 1) := by decide +kernel
theorem dX9_goOn_108 : decode cX9_goOn 108 = .ok (.iand, 1) := by decide +kernel
theorem dX9_goOn_109 : decode cX9_goOn 109 = .ok (.iload_n 3, 1) := by decide +kernel
theorem dX9_goOn_110 : decode cX9_goOn 110 = .ok (.iconst 1, 1) := by decide +kernel
theorem dX9_goOn_111 : decode cX9_goOn 111 = .ok (.iadd, 1) := by decide +kernel
theorem dX9_goOn_112 : decode cX9_goOn 112 = .ok (.invokestatic 93, 3) := by decide +kernel
theorem dX9_goOn_115 : decode cX9_goOn 115 = .ok (.iinc 5 1, 3) := by decide +kernel
theorem dX9_goOn_118 : decode cX9_goOn 118 = .ok (.goto (-48), 3) := by decide +kernel
theorem dX9_goOn_121 : decode cX9_goOn 121 = .ok (.return_, 1) := by decide +kernel
theorem dX10_init_0 : decode cX10_init 0 = .ok (.aload_n 0, 1) := by decide +kernel
theorem dX10_init_1 : decode cX10_init 1 = .ok (.invokespecial 1, 3) := by decide +kernel
theorem dX10_init_4 : decode cX10_init 4 = .ok (.aload_n 0, 1) := by decide +kernel
theorem dX10_init_5 : decode cX10_init 5 = .ok (.new 7, 3) := by decide +kernel
theorem dX10_init_8 : decode cX10_init 8 = .ok (.dup, 1) := by decide +kernel
theorem dX10_init_9 : decode cX10_init 9 = .ok (.invokespecial 9, 3) := by decide +kernel
theorem dX10_init_12 : decode cX10_init 12 = .ok (.putfield 10, 3) := by decide +kernel
theorem dX10_init_15 : decode cX10_init 15 = .ok (.aload_n 0, 1) := by decide +kernel
theorem dX10_init_16 : decode cX10_init 16 = .ok (.new 16, 3) := by decide +kernel
theorem dX10_init_19 : decode cX10_init 19 = .ok (.dup, 1) := by decide +kernel
theorem dX10_init_20 : decode cX10_init 20 = .ok (.invokespecial 18, 3) := by decide +kernel
theorem dX10_init_23 : decode cX10_init 23 = .ok (.putfield 19, 3) := by decide +kernel
theorem dX10_init_26 : decode cX10_init 26 = .ok (.aload_n 0, 1) := by decide +kernel
theorem dX10_init_27 : decode cX10_init 27 = .ok (.new 16, 3) := by decide +kernel
theorem dX10_init_30 : decode cX10_init 30 = .ok (.dup, 1) := by decide +kernel
theorem dX10_init_31 : decode cX10_init 31 = .ok (.invokespecial 18, 3) := by decide +kernel
theorem dX10_init_34 : decode cX10_init 34 = .ok (.putfield 23, 3) := by decide +kernel
theorem dX10_init_37 : decode cX10_init 37 = .ok (.aload_n 0, 1) := by decide +kernel
theorem dX10_init_38 : decode cX10_init 38 = .ok (.new 26, 3) := by decide +kernel
theorem dX10_init_41 : decode cX10_init 41 = .ok (.dup, 1) := by decide +kernel
theorem dX10_init_42 : decode cX10_init 42 = .ok (.invokespecial 28, 3) := by decide +kernel
theorem dX10_init_45 : decode cX10_init 45 = .ok (.putfield 29, 3) := by decide +kernel
theorem dX10_init_48 : decode cX10_init 48 = .ok (.aload_n 0, 1) := by decide +kernel
theorem dX10_init_49 : decode cX10_init 49 = .ok (.new 26, 3) := by decide +kernel
theorem dX10_init_52 : decode cX10_init 52 = .ok (.dup, 1) := by decide +kernel
theorem dX10_init_53 : decode cX10_init 53 = .ok (.invokespecial 28, 3) := by decide +kernel
theorem dX10_init_56 : decode cX10_init 56 = .ok (.putfield 33, 3) := by decide +kernel
theorem dX10_init_59 : decode cX10_init 59 = .ok (.aload_n 0, 1) := by decide +kernel
theorem dX10_init_60 : decode cX10_init 60 = .ok (.new 36, 3) := by decide +kernel
theorem dX10_init_63 : decode cX10_init 63 = .ok (.dup, 1) := by decide +kernel
theorem dX10_init_64 : decode cX10_init 64 = .ok (.invokespecial 38, 3) := by decide +kernel
theorem dX10_init_67 : decode cX10_init 67 = .ok (.putfield 39, 3) := by decide +kernel
theorem dX10_init_70 : decode cX10_init 70 = .ok (.aload_n 0, 1) := by decide +kernel
theorem dX10_init_71 : decode cX10_init 71 = .ok (.new 43, 3) := by decide +kernel
theorem dX10_init_74 : decode cX10_init 74 = .ok (.dup, 1) := by decide +kernel
theorem dX10_init_75 : decode cX10_init 75 = .ok (.invokespecial 45, 3) := by decide +kernel
theorem dX10_init_78 : decode cX10_init 78 = .ok (.putfield 46, 3) := by decide +kernel
theorem dX10_init_81 : decode cX10_init 81 = .ok (.aload_n 0, 1) := by decide +kernel
theorem dX10_init_82 : decode cX10_init 82 = .ok (.new 43, 3) := by decide +kernel
theorem dX10_init_85 : decode cX10_init 85 = .ok (.dup, 1) := by decide +kernel
theorem dX10_init_86 : decode cX10_init 86 = .ok (.invokespecial 45, 3) := by decide +kernel
theorem dX10_init_89 : decode cX10_init 89 = .ok (.putfield 50, 3) := by decide +kernel
theorem dX10_init_92 : decode cX10_init 92 = .ok (.aload_n 0, 1) := by decide +kernel
theorem dX10_init_93 : decode cX10_init 93 = .ok (.new 43, 3) := by decide +kernel
theorem dX10_init_96 : decode cX10_init 96 = .ok (.dup, 1) := by decide +kernel
theorem dX10_init_97 : decode cX10_init 97 = .ok (.invokespecial 45, 3) := by decide +kernel
theorem dX10_init_100 : decode cX10_init 100 = .ok (.putfield 53, 3) := by decide +kernel
theorem dX10_init_103 : decode cX10_init 103 = .ok (.aload_n 0, 1) := by decide +kernel
theorem dX10_init_104 : decode cX10_init 104 = .ok (.new 56, 3) := by decide +kernel
theorem dX10_init_107 : decode cX10_init 107 = .ok (.dup, 1) := by decide +kernel
theorem dX10_init_108 : decode cX10_init 108 = .ok (.aload_n 0, 1) := by decide +kernel
theorem dX10_init_109 : decode cX10_init 109 = .ok (.getfield 19, 3) := by decide +kernel
theorem dX10_init_112 : decode cX10_init 112 = .ok (.aload_n 0, 1) := by decide +kernel
theorem dX10_init_113 : decode cX10_init 113 = .ok (.getfield 29, 3) := by decide +kernel
theorem dX10_init_116 : decode cX10_init 116 = .ok (.aload_n 0, 1) := by decide +kernel
theorem dX10_init_117 : decode cX10_init 117 = .ok (.getfield 46, 3) := by decide +kernel
theorem dX10_init_120 : decode cX10_init 120 = .ok (.invokespecial 58, 3) := by decide +kernel
theorem dX10_init_123 : decode cX10_init 123 = .ok (.putfield 61, 3) := by decide +kernel
theorem dX10_init_126 : decode cX10_init 126 = .ok (.aload_n 0, 1) := by decide +kernel
theorem dX10_init_127 : decode cX10_init 127 = .ok (.new 65, 3) := by decide +kernel
theorem dX10_init_130 : decode cX10_init 130 = .ok (.dup, 1) := by decide +kernel
theorem dX10_init_131 : decode cX10_init 131 = .ok (.aload_n 0, 1) := by decide +kernel
theorem dX10_init_132 : decode cX10_init 132 = .ok (.getfield 19, 3) := by decide +kernel
theorem dX10_init_135 : decode cX10_init 135 = .ok (.invokespecial 67, 3) := by decide +kernel
theorem dX10_init_138 : decode cX10_init 138 = .ok (.putfield 70, 3) := by decide +kernel
theorem dX10_init_141 : decode cX10_init 141 = .ok (.aload_n 0, 1) := by decide +kernel
theorem dX10_init_142 : decode cX10_init 142 = .ok (.new 74, 3) := by decide +kernel
theorem dX10_init_145 : decode cX10_init 145 = .ok (.dup, 1) := by decide +kernel
theorem dX10_init_146 : decode cX10_init 146 = .ok (.aload_n 0, 1) := by decide +kernel
theorem dX10_init_147 : decode cX10_init 147 = .ok (.getfield 19, 3) := by decide +kernel
theorem dX10_init_150 : decode cX10_init 150 = .ok (.invokespecial 76, 3) := by decide +kernel
theorem dX10_init_153 : decode cX10_init 153 = .ok (.putfield 77, 3) := by decide +kernel
theorem dX10_init_156 : decode cX10_init 156 = .ok (.aload_n 0, 1) := by decide +kernel
theorem dX10_init_157 : decode cX10_init 157 = .ok (.new 81, 3) := by decide +kernel
theorem dX10_init_160 : decode cX10_init 160 = .ok (.dup, 1) := by decide +kernel
theorem dX10_init_161 : decode cX10_init 161 = .ok (.aload_n 0, 1) := by decide +kernel
theorem dX10_init_162 : decode cX10_init 162 = .ok (.getfield 19, 3) := by decide +kernel
theorem dX10_init_165 : decode cX10_init 165 = .ok (.aload_n 0, 1) := by decide +kernel
theorem dX10_init_166 : decode cX10_init 166 = .ok (.getfield 70, 3) := by decide +kernel
theorem dX10_init_169 : decode cX10_init 169 = .ok (.invokespecial 83, 3) := by decide +kernel
theorem dX10_init_172 : decode cX10_init 172 = .ok (.putfield 86, 3) := by decide +kernel
theorem dX10_init_175 : decode cX10_init 175 = .ok (.aload_n 0, 1) := by decide +kernel
theorem dX10_init_176 : decode cX10_init 176 = .ok (.new 90, 3) := by decide +kernel
theorem dX10_init_179 : decode cX10_init 179 = .ok (.dup, 1) := by decide +kernel
theorem dX10_init_180 : decode cX10_init 180 = .ok (.invokespecial 92, 3) := by decide +kernel
theorem dX10_init_183 : decode cX10_init 183 = .ok (.putfield 93, 3) := by decide +kernel
theorem dX10_init_186 : decode cX10_init 186 = .ok (.aload_n 0, 1) := by decide +kernel
theorem dX10_init_187 : decode cX10_init 187 = .ok (.bipush 6, 2) := by decide +kernel
theorem dX10_init_189 : decode cX10_init 189 = .ok (.newarray .int, 2) := by decide +kernel
theorem dX10_init_191 : decode cX10_init 191 = .ok (.putfield 97, 3) := by decide +kernel
theorem dX10_init_194 : decode cX10_init 194 = .ok (.return_, 1) := by decide +kernel
theorem dX10_feed_0 : decode cX10_feed 0 = .ok (.aload_n 0, 1) := by decide +kernel
theorem dX10_feed_1 : decode cX10_feed 1 = .ok (.getfield 10, 3) := by decide +kernel
theorem dX10_feed_4 : decode cX10_feed 4 = .ok (.getfield 101, 3) := by decide +kernel
theorem dX10_feed_7 : decode cX10_feed 7 = .ok (.bipush 20, 2) := by decide +kernel
theorem dX10_feed_9 : decode cX10_feed 9 = .ok (.iadd, 1) := by decide +kernel
theorem dX10_feed_10 : decode cX10_feed 10 = .ok (.sipush 260, 3) := by decide +kernel
theorem dX10_feed_13 : decode cX10_feed 13 = .ok (.if_icmp .le 5, 3) := by decide +kernel
theorem dX10_feed_16 : decode cX10_feed 16 = .ok (.iconst (-1), 1) := by decide +kernel
theorem dX10_feed_17 : decode cX10_feed 17 = .ok (.ireturn, 1) := by decide +kernel
theorem dX10_feed_18 : decode cX10_feed 18 = .ok (.aload_n 0, 1) := by decide +kernel
theorem dX10_feed_19 : decode cX10_feed 19 = .ok (.getfield 10, 3) := by decide +kernel
theorem dX10_feed_22 : decode cX10_feed 22 = .ok (.iload_n 1, 1) := by decide +kernel
theorem dX10_feed_23 : decode cX10_feed 23 = .ok (.invokevirtual 105, 3) := by decide +kernel
theorem dX10_feed_26 : decode cX10_feed 26 = .ok (.aload_n 0, 1) := by decide +kernel
theorem dX10_feed_27 : decode cX10_feed 27 = .ok (.getfield 10, 3) := by decide +kernel
theorem dX10_feed_30 : decode cX10_feed 30 = .ok (.iload_n 2, 1) := by decide +kernel
theorem dX10_feed_31 : decode cX10_feed 31 = .ok (.invokevirtual 105, 3) := by decide +kernel
theorem dX10_feed_34 : decode cX10_feed 34 = .ok (.aload_n 0, 1) := by decide +kernel
theorem dX10_feed_35 : decode cX10_feed 35 = .ok (.getfield 10, 3) := by decide +kernel
theorem dX10_feed_38 : decode cX10_feed 38 = .ok (.iload_n 3, 1) := by decide +kernel
theorem dX10_feed_39 : decode cX10_feed 39 = .ok (.invokevirtual 105, 3) := by decide +kernel
theorem dX10_feed_42 : decode cX10_feed 42 = .ok (.aload_n 0, 1) := by decide +kernel
theorem dX10_feed_43 : decode cX10_feed 43 = .ok (.getfield 10, 3) := by decide +kernel
theorem dX10_feed_46 : decode cX10_feed 46 = .ok (.iload 4, 2) := by decide +kernel
theorem dX10_feed_48 : decode cX10_feed 48 = .ok (.invokevirtual 105, 3) := by decide +kernel
theorem dX10_feed_51 : decode cX10_feed 51 = .ok (.aload_n 0, 1) := by decide +kernel
theorem dX10_feed_52 : decode cX10_feed 52 = .ok (.getfield 10, 3) := by decide +kernel
theorem dX10_feed_55 : decode cX10_feed 55 = .ok (.iload 5, 2) := by decide +kernel
theorem dX10_feed_57 : decode cX10_feed 57 = .ok (.invokevirtual 105, 3) := by decide +kernel
theorem dX10_feed_60 : decode cX10_feed 60 = .ok (.aload_n 0, 1) := by decide +kernel
theorem dX10_feed_61 : decode cX10_feed 61 = .ok (.getfield 10, 3) := by decide +kernel
theorem dX10_feed_64 : decode cX10_feed 64 = .ok (.getfield 101, 3) := by decide +kernel
theorem dX10_feed_67 : decode cX10_feed 67 = .ok (.ireturn, 1) := by decide +kernel
theorem dX10_law_0 : decode cX10_law 0 = .ok (.aload_n 0, 1) := by decide +kernel
theorem dX10_law_1 : decode cX10_law 1 = .ok (.getfield 10, 3) := by decide +kernel
theorem dX10_law_4 : decode cX10_law 4 = .ok (.iload_n 1, 1) := by decide +kernel
theorem dX10_law_5 : decode cX10_law 5 = .ok (.iconst 1, 1) := by decide +kernel
theorem dX10_law_6 : decode cX10_law 6 = .ok (.sipush 240, 3) := by decide +kernel
theorem dX10_law_9 : decode cX10_law 9 = .ok (.invokevirtual 109, 3) := by decide +kernel
theorem dX10_law_12 : decode cX10_law 12 = .ok (.ifCond .ne 5, 3) := by decide +kernel
theorem dX10_law_15 : decode cX10_law 15 = .ok (.iconst (-1), 1) := by decide +kernel
theorem dX10_law_16 : decode cX10_law 16 = .ok (.ireturn, 1) := by decide +kernel
theorem dX10_law_17 : decode cX10_law 17 = .ok (.aload_n 0, 1) := by decide +kernel
theorem dX10_law_18 : decode cX10_law 18 = .ok (.getfield 33, 3) := by decide +kernel
theorem dX10_law_21 : decode cX10_law 21 = .ok (.aload_n 0, 1) := by decide +kernel
theorem dX10_law_22 : decode cX10_law 22 = .ok (.getfield 10, 3) := by decide +kernel
theorem dX10_law_25 : decode cX10_law 25 = .ok (.invokevirtual 113, 3) := by decide +kernel
theorem dX10_law_28 : decode cX10_law 28 = .ok (.ifCond .ne 11, 3) := by decide +kernel
theorem dX10_law_31 : decode cX10_law 31 = .ok (.aload_n 0, 1) := by decide +kernel
theorem dX10_law_32 : decode cX10_law 32 = .ok (.getfield 10, 3) := by decide +kernel
theorem dX10_law_35 : decode cX10_law 35 = .ok (.getfield 117, 3) := by decide +kernel
theorem dX10_law_38 : decode cX10_law 38 = .ok (.ireturn, 1) := by decide +kernel
theorem dX10_law_39 : decode cX10_law 39 = .ok (.aload_n 0, 1) := by decide +kernel
theorem dX10_law_40 : decode cX10_law 40 = .ok (.getfield 29, 3) := by decide +kernel
theorem dX10_law_43 : decode cX10_law 43 = .ok (.aload_n 0, 1) := by decide +kernel
theorem dX10_law_44 : decode cX10_law 44 = .ok (.getfield 33, 3) := by decide +kernel
theorem dX10_law_47 : decode cX10_law 47 = .ok (.invokevirtual 120, 3) := by decide +kernel
theorem dX10_law_50 : decode cX10_law 50 = .ok (.aload_n 0, 1) := by decide +kernel
theorem dX10_law_51 : decode cX10_law 51 = .ok (.getfield 29, 3) := by decide +kernel
theorem dX10_law_54 : decode cX10_law 54 = .ok (.getfield 124, 3) := by decide +kernel
theorem dX10_law_57 : decode cX10_law 57 = .ok (.ireturn, 1) := by decide +kernel
theorem dX10_town_0 : decode cX10_town 0 = .ok (.aload_n 0, 1) := by decide +kernel
theorem dX10_town_1 : decode cX10_town 1 = .ok (.getfield 10, 3) := by decide +kernel
theorem dX10_town_4 : decode cX10_town 4 = .ok (.iload_n 1, 1) := by decide +kernel
theorem dX10_town_5 : decode cX10_town 5 = .ok (.iconst 1, 1) := by decide +kernel
theorem dX10_town_6 : decode cX10_town 6 = .ok (.sipush 160, 3) := by decide +kernel
theorem dX10_town_9 : decode cX10_town 9 = .ok (.invokevirtual 109, 3) := by decide +kernel
theorem dX10_town_12 : decode cX10_town 12 = .ok (.ifCond .ne 5, 3) := by decide +kernel
theorem dX10_town_15 : decode cX10_town 15 = .ok (.iconst (-1), 1) := by decide +kernel
theorem dX10_town_16 : decode cX10_town 16 = .ok (.ireturn, 1) := by decide +kernel
theorem dX10_town_17 : decode cX10_town 17 = .ok (.aload_n 0, 1) := by decide +kernel
theorem dX10_town_18 : decode cX10_town 18 = .ok (.getfield 23, 3) := by decide +kernel
theorem dX10_town_21 : decode cX10_town 21 = .ok (.aload_n 0, 1) := by decide +kernel
theorem dX10_town_22 : decode cX10_town 22 = .ok (.getfield 10, 3) := by decide +kernel
theorem dX10_town_25 : decode cX10_town 25 = .ok (.invokevirtual 127, 3) := by decide +kernel
theorem dX10_town_28 : decode cX10_town 28 = .ok (.ifCond .ne 11, 3) := by decide +kernel
theorem dX10_town_31 : decode cX10_town 31 = .ok (.aload_n 0, 1) := by decide +kernel
theorem dX10_town_32 : decode cX10_town 32 = .ok (.getfield 10, 3) := by decide +kernel
theorem dX10_town_35 : decode cX10_town 35 = .ok (.getfield 117, 3) := by decide +kernel
theorem dX10_town_38 : decode cX10_town 38 = .ok (.ireturn, 1) := by decide +kernel
theorem dX10_town_39 : decode cX10_town 39 = .ok (.aload_n 0, 1) := by decide +kernel
theorem dX10_town_40 : decode cX10_town 40 = .ok (.getfield 19, 3) := by decide +kernel
theorem dX10_town_43 : decode cX10_town 43 = .ok (.aload_n 0, 1) := by decide +kernel
theorem dX10_town_44 : decode cX10_town 44 = .ok (.getfield 23, 3) := by decide +kernel
theorem dX10_town_47 : decode cX10_town 47 = .ok (.invokevirtual 128, 3) := by decide +kernel
theorem dX10_town_50 : decode cX10_town 50 = .ok (.aload_n 0, 1) := by decide +kernel
theorem dX10_town_51 : decode cX10_town 51 = .ok (.getfield 46, 3) := by decide +kernel
theorem dX10_town_54 : decode cX10_town 54 = .ok (.aload_n 0, 1) := by decide +kernel
theorem dX10_town_55 : decode cX10_town 55 = .ok (.getfield 19, 3) := by decide +kernel
theorem dX10_town_58 : decode cX10_town 58 = .ok (.getfield 130, 3) := by decide +kernel
theorem dX10_town_61 : decode cX10_town 61 = .ok (.aload_n 0, 1) := by decide +kernel
theorem dX10_town_62 : decode cX10_town 62 = .ok (.getfield 19, 3) := by decide +kernel
theorem dX10_town_65 : decode cX10_town 65 = .ok (.getfield 133, 3) := by decide +kernel
theorem dX10_town_68 : decode cX10_town 68 = .ok (.invokevirtual 136, 3) := by decide +kernel
theorem dX10_town_71 : decode cX10_town 71 = .ok (.aload_n 0, 1) := by decide +kernel
theorem dX10_town_72 : decode cX10_town 72 = .ok (.getfield 19, 3) := by decide +kernel
theorem dX10_town_75 : decode cX10_town 75 = .ok (.getfield 133, 3) := by decide +kernel
theorem dX10_town_78 : decode cX10_town 78 = .ok (.ireturn, 1) := by decide +kernel
theorem dX10_orders_0 : decode cX10_orders 0 = .ok (.aload_n 0, 1) := by decide +kernel
theorem dX10_orders_1 : decode cX10_orders 1 = .ok (.getfield 10, 3) := by decide +kernel
theorem dX10_orders_4 : decode cX10_orders 4 = .ok (.iload_n 1, 1) := by decide +kernel
theorem dX10_orders_5 : decode cX10_orders 5 = .ok (.iconst 1, 1) := by decide +kernel
theorem dX10_orders_6 : decode cX10_orders 6 = .ok (.bipush 120, 2) := by decide +kernel
theorem dX10_orders_8 : decode cX10_orders 8 = .ok (.invokevirtual 109, 3) := by decide +kernel
theorem dX10_orders_11 : decode cX10_orders 11 = .ok (.ifCond .ne 5, 3) := by decide +kernel
theorem dX10_orders_14 : decode cX10_orders 14 = .ok (.iconst (-1), 1) := by decide +kernel
theorem dX10_orders_15 : decode cX10_orders 15 = .ok (.ireturn, 1) := by decide +kernel
theorem dX10_orders_16 : decode cX10_orders 16 = .ok (.aload_n 0, 1) := by decide +kernel
theorem dX10_orders_17 : decode cX10_orders 17 = .ok (.getfield 39, 3) := by decide +kernel
theorem dX10_orders_20 : decode cX10_orders 20 = .ok (.aload_n 0, 1) := by decide +kernel
theorem dX10_orders_21 : decode cX10_orders 21 = .ok (.getfield 10, 3) := by decide +kernel
theorem dX10_orders_24 : decode cX10_orders 24 = .ok (.aload_n 0, 1) := by decide +kernel
theorem dX10_orders_25 : decode cX10_orders 25 = .ok (.getfield 19, 3) := by decide +kernel
theorem dX10_orders_28 : decode cX10_orders 28 = .ok (.invokevirtual 140, 3) := by decide +kernel
theorem dX10_orders_31 : decode cX10_orders 31 = .ok (.ifCond .ne 11, 3) := by decide +kernel
theorem dX10_orders_34 : decode cX10_orders 34 = .ok (.aload_n 0, 1) := by decide +kernel
theorem dX10_orders_35 : decode cX10_orders 35 = .ok (.getfield 10, 3) := by decide +kernel
theorem dX10_orders_38 : decode cX10_orders 38 = .ok (.getfield 117, 3) := by decide +kernel
theorem dX10_orders_41 : decode cX10_orders 41 = .ok (.ireturn, 1) := by decide +kernel
theorem dX10_orders_42 : decode cX10_orders 42 = .ok (.aload_n 0, 1) := by decide +kernel
theorem dX10_orders_43 : decode cX10_orders 43 = .ok (.getfield 39, 3) := by decide +kernel
theorem dX10_orders_46 : decode cX10_orders 46 = .ok (.aload_n 0, 1) := by decide +kernel
theorem dX10_orders_47 : decode cX10_orders 47 = .ok (.getfield 46, 3) := by decide +kernel
theorem dX10_orders_50 : decode cX10_orders 50 = .ok (.invokevirtual 143, 3) := by decide +kernel
theorem dX10_orders_53 : decode cX10_orders 53 = .ok (.aload_n 0, 1) := by decide +kernel
theorem dX10_orders_54 : decode cX10_orders 54 = .ok (.getfield 39, 3) := by decide +kernel
theorem dX10_orders_57 : decode cX10_orders 57 = .ok (.getfield 147, 3) := by decide +kernel
theorem dX10_orders_60 : decode cX10_orders 60 = .ok (.ireturn, 1) := by decide +kernel
theorem dX10_minutes_0 : decode cX10_minutes 0 = .ok (.iload_n 1, 1) := by decide +kernel
theorem dX10_minutes_1 : decode cX10_minutes 1 = .ok (.invokestatic 148, 3) := by decide +kernel
theorem dX10_minutes_4 : decode cX10_minutes 4 = .ok (.ifCond .eq 18, 3) := by decide +kernel
theorem dX10_minutes_7 : decode cX10_minutes 7 = .ok (.aload_n 0, 1) := by decide +kernel
theorem dX10_minutes_8 : decode cX10_minutes 8 = .ok (.getfield 61, 3) := by decide +kernel
theorem dX10_minutes_11 : decode cX10_minutes 11 = .ok (.iload_n 1, 1) := by decide +kernel
theorem dX10_minutes_12 : decode cX10_minutes 12 = .ok (.aload_n 0, 1) := by decide +kernel
theorem dX10_minutes_13 : decode cX10_minutes 13 = .ok (.getfield 46, 3) := by decide +kernel
theorem dX10_minutes_16 : decode cX10_minutes 16 = .ok (.invokevirtual 152, 3) := by decide +kernel
theorem dX10_minutes_19 : decode cX10_minutes 19 = .ok (.goto 4, 3) := by decide +kernel
theorem dX10_minutes_22 : decode cX10_minutes 22 = .ok (.iconst (-1), 1) := by decide +kernel
theorem dX10_minutes_23 : decode cX10_minutes 23 = .ok (.ireturn, 1) := by decide +kernel
theorem dX10_tried_0 : decode cX10_tried 0 = .ok (.iload_n 2, 1) := by decide +kernel
theorem dX10_tried_1 : decode cX10_tried 1 = .ok (.ifCond .lt 12, 3) := by decide +kernel
theorem dX10_tried_4 : decode cX10_tried 4 = .ok (.iload_n 2, 1) := by decide +kernel
theorem dX10_tried_5 : decode cX10_tried 5 = .ok (.iconst 2, 1) := by decide +kernel
theorem dX10_tried_6 : decode cX10_tried 6 = .ok (.if_icmp .gt 7, 3) := by decide +kernel
theorem dX10_tried_9 : decode cX10_tried 9 = .ok (.iconst 1, 1) := by decide +kernel
theorem dX10_tried_10 : decode cX10_tried 10 = .ok (.goto 4, 3) := by decide +kernel
theorem dX10_tried_13 : decode cX10_tried 13 = .ok (.iconst 0, 1) := by decide +kernel
theorem dX10_tried_14 : decode cX10_tried 14 = .ok (.istore_n 3, 1) := by decide +kernel
theorem dX10_tried_15 : decode cX10_tried 15 = .ok (.aload_n 0, 1) := by decide +kernel
theorem dX10_tried_16 : decode cX10_tried 16 = .ok (.getfield 19, 3) := by decide +kernel
theorem dX10_tried_19 : decode cX10_tried 19 = .ok (.iload_n 2, 1) := by decide +kernel
theorem dX10_tried_20 : decode cX10_tried 20 = .ok (.bipush 10, 2) := by decide +kernel
theorem dX10_tried_22 : decode cX10_tried 22 = .ok (.isub, 1) := by decide +kernel
theorem dX10_tried_23 : decode cX10_tried 23 = .ok (.invokevirtual 156, 3) := by decide +kernel
theorem dX10_tried_26 : decode cX10_tried 26 = .ok (.istore 4, 2) := by decide +kernel
theorem dX10_tried_28 : decode cX10_tried 28 = .ok (.aload_n 0, 1) := by decide +kernel
theorem dX10_tried_29 : decode cX10_tried 29 = .ok (.getfield 19, 3) := by decide +kernel
theorem dX10_tried_32 : decode cX10_tried 32 = .ok (.iload_n 2, 1) := by decide +kernel
theorem dX10_tried_33 : decode cX10_tried 33 = .ok (.bipush 30, 2) := by decide +kernel
theorem dX10_tried_35 : decode cX10_tried 35 = .ok (.isub, 1) := by decide +kernel
theorem dX10_tried_36 : decode cX10_tried 36 = .ok (.invokevirtual 156, 3) := by decide +kernel
theorem dX10_tried_39 : decode cX10_tried 39 = .ok (.istore 5, 2) := by decide +kernel
theorem dX10_tried_41 : decode cX10_tried 41 = .ok (.iload_n 1, 1) := by decide +kernel
theorem dX10_tried_42 : decode cX10_tried 42 = .ok (.invokestatic 148, 3) := by decide +kernel
theorem dX10_tried_45 : decode cX10_tried 45 = .ok (.ifCond .eq 17, 3) := by decide +kernel
theorem dX10_tried_48 : decode cX10_tried 48 = .ok (.iload_n 3, 1) := by decide +kernel
theorem dX10_tried_49 : decode cX10_tried 49 = .ok (.ifCond .ne 15, 3) := by decide +kernel
theorem dX10_tried_52 : decode cX10_tried 52 = .ok (.iload 4, 2) := by decide +kernel
theorem dX10_tried_54 : decode cX10_tried 54 = .ok (.ifCond .ne 10, 3) := by decide +kernel
theorem dX10_tried_57 : decode cX10_tried 57 = .ok (.iload 5, 2) := by decide +kernel
theorem dX10_tried_59 : decode cX10_tried 59 = .ok (.ifCond .ne 5, 3) := by decide +kernel
theorem dX10_tried_62 : decode cX10_tried 62 = .ok (.iconst (-1), 1) := by decide +kernel
theorem dX10_tried_63 : decode cX10_tried 63 = .ok (.ireturn, 1) := by decide +kernel
theorem dX10_tried_64 : decode cX10_tried 64 = .ok (.aload_n 0, 1) := by decide +kernel
theorem dX10_tried_65 : decode cX10_tried 65 = .ok (.getfield 53, 3) := by decide +kernel
theorem dX10_tried_68 : decode cX10_tried 68 = .ok (.aload_n 0, 1) := by decide +kernel
theorem dX10_tried_69 : decode cX10_tried 69 = .ok (.getfield 46, 3) := by decide +kernel
theorem dX10_tried_72 : decode cX10_tried 72 = .ok (.invokevirtual 159, 3) := by decide +kernel
theorem dX10_tried_75 : decode cX10_tried 75 = .ok (.aload_n 0, 1) := by decide +kernel
theorem dX10_tried_76 : decode cX10_tried 76 = .ok (.getfield 61, 3) := by decide +kernel
theorem dX10_tried_79 : decode cX10_tried 79 = .ok (.iload_n 1, 1) := by decide +kernel
theorem dX10_tried_80 : decode cX10_tried 80 = .ok (.aload_n 0, 1) := by decide +kernel
theorem dX10_tried_81 : decode cX10_tried 81 = .ok (.getfield 53, 3) := by decide +kernel
theorem dX10_tried_84 : decode cX10_tried 84 = .ok (.invokevirtual 152, 3) := by decide +kernel
theorem dX10_tried_87 : decode cX10_tried 87 = .ok (.istore 6, 2) := by decide +kernel
theorem dX10_tried_89 : decode cX10_tried 89 = .ok (.iload 4, 2) := by decide +kernel
theorem dX10_tried_91 : decode cX10_tried 91 = .ok (.ifCond .eq 16, 3) := by decide +kernel
theorem dX10_tried_94 : decode cX10_tried 94 = .ok (.aload_n 0, 1) := by decide +kernel
theorem dX10_tried_95 : decode cX10_tried 95 = .ok (.getfield 53, 3) := by decide +kernel
theorem dX10_tried_98 : decode cX10_tried 98 = .ok (.getfield 161, 3) := by decide +kernel
theorem dX10_tried_101 : decode cX10_tried 101 = .ok (.iload_n 2, 1) := by decide +kernel
theorem dX10_tried_102 : decode cX10_tried 102 = .ok (.bipush 10, 2) := by decide +kernel
theorem dX10_tried_104 : decode cX10_tried 104 = .ok (.isub, 1) := by decide +kernel
theorem dX10_tried_105 : decode cX10_tried 105 = .ok (.iaload, 1) := by decide +kernel
theorem dX10_tried_106 : decode cX10_tried 106 = .ok (.ireturn, 1) := by decide +kernel
theorem dX10_tried_107 : decode cX10_tried 107 = .ok (.iload 5, 2) := by decide +kernel
theorem dX10_tried_109 : decode cX10_tried 109 = .ok (.ifCond .eq 16, 3) := by decide +kernel
theorem dX10_tried_112 : decode cX10_tried 112 = .ok (.aload_n 0, 1) := by decide +kernel
theorem dX10_tried_113 : decode cX10_tried 113 = .ok (.getfield 53, 3) := by decide +kernel
theorem dX10_tried_116 : decode cX10_tried 116 = .ok (.getfield 164, 3) := by decide +kernel
theorem dX10_tried_119 : decode cX10_tried 119 = .ok (.iload_n 2, 1) := by decide +kernel
theorem dX10_tried_120 : decode cX10_tried 120 = .ok (.bipush 30, 2) := by decide +kernel
theorem dX10_tried_122 : decode cX10_tried 122 = .ok (.isub, 1) := by decide +kernel
theorem dX10_tried_123 : decode cX10_tried 123 = .ok (.iaload, 1) := by decide +kernel
theorem dX10_tried_124 : decode cX10_tried 124 = .ok (.ireturn, 1) := by decide +kernel
theorem dX10_tried_125 : decode cX10_tried 125 = .ok (.iload_n 2, 1) := by decide +kernel
theorem dX10_tried_126 : decode cX10_tried 126 = .ok (.ifCond .ne 8, 3) := by decide +kernel
theorem dX10_tried_129 : decode cX10_tried 129 = .ok (.iload 6, 2) := by decide +kernel
theorem dX10_tried_131 : decode cX10_tried 131 = .ok (.goto 25, 3) := by decide +kernel
theorem dX10_tried_134 : decode cX10_tried 134 = .ok (.iload_n 2, 1) := by decide +kernel
theorem dX10_tried_135 : decode cX10_tried 135 = .ok (.iconst 1, 1) := by decide +kernel
theorem dX10_tried_136 : decode cX10_tried 136 = .ok (.if_icmp .ne 13, 3) := by decide +kernel
theorem dX10_tried_139 : decode cX10_tried 139 = .ok (.aload_n 0, 1) := by decide +kernel
theorem dX10_tried_140 : decode cX10_tried 140 = .ok (.getfield 53, 3) := by decide +kernel
theorem dX10_tried_143 : decode cX10_tried 143 = .ok (.getfield 167, 3) := by decide +kernel
theorem dX10_tried_146 : decode cX10_tried 146 = .ok (.goto 10, 3) := by decide +kernel
theorem dX10_tried_149 : decode cX10_tried 149 = .ok (.aload_n 0, 1) := by decide +kernel
theorem dX10_tried_150 : decode cX10_tried 150 = .ok (.getfield 53, 3) := by decide +kernel
theorem dX10_tried_153 : decode cX10_tried 153 = .ok (.invokevirtual 170, 3) := by decide +kernel
theorem dX10_tried_156 : decode cX10_tried 156 = .ok (.ireturn, 1) := by decide +kernel
theorem dX10_cornerIs_0 : decode cX10_cornerIs 0 = .ok (.aload_n 0, 1) := by decide +kernel
theorem dX10_cornerIs_1 : decode cX10_cornerIs 1 = .ok (.getfield 19, 3) := by decide +kernel
theorem dX10_cornerIs_4 : decode cX10_cornerIs 4 = .ok (.iload_n 1, 1) := by decide +kernel
theorem dX10_cornerIs_5 : decode cX10_cornerIs 5 = .ok (.invokevirtual 156, 3) := by decide +kernel
theorem dX10_cornerIs_8 : decode cX10_cornerIs 8 = .ok (.ifCond .ne 5, 3) := by decide +kernel
theorem dX10_cornerIs_11 : decode cX10_cornerIs 11 = .ok (.iconst (-1), 1) := by decide +kernel
theorem dX10_cornerIs_12 : decode cX10_cornerIs 12 = .ok (.ireturn, 1) := by decide +kernel
theorem dX10_cornerIs_13 : decode cX10_cornerIs 13 = .ok (.iload_n 2, 1) := by decide +kernel
theorem dX10_cornerIs_14 : decode cX10_cornerIs 14 = .ok (.tableswitch 110 0 5 #[38, 48, 58, 68, 78, 94], 38) := by decide +kernel
theorem dX10_cornerIs_52 : decode cX10_cornerIs 52 = .ok (.aload_n 0, 1) := by decide +kernel
theorem dX10_cornerIs_53 : decode cX10_cornerIs 53 = .ok (.getfield 19, 3) := by decide +kernel
theorem dX10_cornerIs_56 : decode cX10_cornerIs 56 = .ok (.getfield 174, 3) := by decide +kernel
theorem dX10_cornerIs_59 : decode cX10_cornerIs 59 = .ok (.iload_n 1, 1) := by decide +kernel
theorem dX10_cornerIs_60 : decode cX10_cornerIs 60 = .ok (.iaload, 1) := by decide +kernel
theorem dX10_cornerIs_61 : decode cX10_cornerIs 61 = .ok (.ireturn, 1) := by decide +kernel
theorem dX10_cornerIs_62 : decode cX10_cornerIs 62 = .ok (.aload_n 0, 1) := by decide +kernel
theorem dX10_cornerIs_63 : decode cX10_cornerIs 63 = .ok (.getfield 46, 3) := by decide +kernel
theorem dX10_cornerIs_66 : decode cX10_cornerIs 66 = .ok (.getfield 161, 3) := by decide +kernel
theorem dX10_cornerIs_69 : decode cX10_cornerIs 69 = .ok (.iload_n 1, 1) := by decide +kernel
theorem dX10_cornerIs_70 : decode cX10_cornerIs 70 = .ok (.iaload, 1) := by decide +kernel
theorem dX10_cornerIs_71 : decode cX10_cornerIs 71 = .ok (.ireturn, 1) := by decide +kernel
theorem dX10_cornerIs_72 : decode cX10_cornerIs 72 = .ok (.aload_n 0, 1) := by decide +kernel
theorem dX10_cornerIs_73 : decode cX10_cornerIs 73 = .ok (.getfield 46, 3) := by decide +kernel
theorem dX10_cornerIs_76 : decode cX10_cornerIs 76 = .ok (.getfield 177, 3) := by decide +kernel
theorem dX10_cornerIs_79 : decode cX10_cornerIs 79 = .ok (.iload_n 1, 1) := by decide +kernel
theorem dX10_cornerIs_80 : decode cX10_cornerIs 80 = .ok (.iaload, 1) := by decide +kernel
theorem dX10_cornerIs_81 : decode cX10_cornerIs 81 = .ok (.ireturn, 1) := by decide +kernel
theorem dX10_cornerIs_82 : decode cX10_cornerIs 82 = .ok (.aload_n 0, 1) := by decide +kernel
theorem dX10_cornerIs_83 : decode cX10_cornerIs 83 = .ok (.getfield 46, 3) := by decide +kernel
theorem dX10_cornerIs_86 : decode cX10_cornerIs 86 = .ok (.getfield 164, 3) := by decide +kernel
theorem dX10_cornerIs_89 : decode cX10_cornerIs 89 = .ok (.iload_n 1, 1) := by decide +kernel
theorem dX10_cornerIs_90 : decode cX10_cornerIs 90 = .ok (.iaload, 1) := by decide +kernel
theorem dX10_cornerIs_91 : decode cX10_cornerIs 91 = .ok (.ireturn, 1) := by decide +kernel
theorem dX10_cornerIs_92 : decode cX10_cornerIs 92 = .ok (.aload_n 0, 1) := by decide +kernel
theorem dX10_cornerIs_93 : decode cX10_cornerIs 93 = .ok (.getfield 19, 3) := by decide +kernel
theorem dX10_cornerIs_96 : decode cX10_cornerIs 96 = .ok (.iload_n 1, 1) := by decide +kernel
theorem dX10_cornerIs_97 : decode cX10_cornerIs 97 = .ok (.aload_n 0, 1) := by decide +kernel
theorem dX10_cornerIs_98 : decode cX10_cornerIs 98 = .ok (.getfield 46, 3) := by decide +kernel
theorem dX10_cornerIs_101 : decode cX10_cornerIs 101 = .ok (.getfield 180, 3) := by decide +kernel
theorem dX10_cornerIs_104 : decode cX10_cornerIs 104 = .ok (.invokevirtual 183, 3) := by decide +kernel
theorem dX10_cornerIs_107 : decode cX10_cornerIs 107 = .ok (.ireturn, 1) := by decide +kernel
theorem dX10_cornerIs_108 : decode cX10_cornerIs 108 = .ok (.aload_n 0, 1) := by decide +kernel
theorem dX10_cornerIs_109 : decode cX10_cornerIs 109 = .ok (.getfield 19, 3) := by decide +kernel
theorem dX10_cornerIs_112 : decode cX10_cornerIs 112 = .ok (.iload_n 1, 1) := by decide +kernel
theorem dX10_cornerIs_113 : decode cX10_cornerIs 113 = .ok (.aload_n 0, 1) := by decide +kernel
theorem dX10_cornerIs_114 : decode cX10_cornerIs 114 = .ok (.getfield 46, 3) := by decide +kernel
theorem dX10_cornerIs_117 : decode cX10_cornerIs 117 = .ok (.getfield 180, 3) := by decide +kernel
theorem dX10_cornerIs_120 : decode cX10_cornerIs 120 = .ok (.invokevirtual 187, 3) := by decide +kernel
theorem dX10_cornerIs_123 : decode cX10_cornerIs 123 = .ok (.ireturn, 1) := by decide +kernel
theorem dX10_cornerIs_124 : decode cX10_cornerIs 124 = .ok (.iconst (-1), 1) := by decide +kernel
theorem dX10_cornerIs_125 : decode cX10_cornerIs 125 = .ok (.ireturn, 1) := by decide +kernel
theorem dX10_pipeIs_0 : decode cX10_pipeIs 0 = .ok (.iload_n 1, 1) := by decide +kernel
theorem dX10_pipeIs_1 : decode cX10_pipeIs 1 = .ok (.ifCond .lt 14, 3) := by decide +kernel
theorem dX10_pipeIs_4 : decode cX10_pipeIs 4 = .ok (.iload_n 1, 1) := by decide +kernel
theorem dX10_pipeIs_5 : decode cX10_pipeIs 5 = .ok (.aload_n 0, 1) := by decide +kernel
theorem dX10_pipeIs_6 : decode cX10_pipeIs 6 = .ok (.getfield 19, 3) := by decide +kernel
theorem dX10_pipeIs_9 : decode cX10_pipeIs 9 = .ok (.getfield 133, 3) := by decide +kernel
theorem dX10_pipeIs_12 : decode cX10_pipeIs 12 = .ok (.if_icmp .lt 5, 3) := by decide +kernel
theorem dX10_pipeIs_15 : decode cX10_pipeIs 15 = .ok (.iconst (-1), 1) := by decide +kernel
theorem dX10_pipeIs_16 : decode cX10_pipeIs 16 = .ok (.ireturn, 1) := by decide +kernel
theorem dX10_pipeIs_17 : decode cX10_pipeIs 17 = .ok (.iload_n 2, 1) := by decide +kernel
theorem dX10_pipeIs_18 : decode cX10_pipeIs 18 = .ok (.tableswitch 72 0 3 #[30, 40, 50, 60], 30) := by decide +kernel
theorem dX10_pipeIs_48 : decode cX10_pipeIs 48 = .ok (.aload_n 0, 1) := by decide +kernel
theorem dX10_pipeIs_49 : decode cX10_pipeIs 49 = .ok (.getfield 19, 3) := by decide +kernel
theorem dX10_pipeIs_52 : decode cX10_pipeIs 52 = .ok (.getfield 190, 3) := by decide +kernel
theorem dX10_pipeIs_55 : decode cX10_pipeIs 55 = .ok (.iload_n 1, 1) := by decide +kernel
theorem dX10_pipeIs_56 : decode cX10_pipeIs 56 = .ok (.iaload, 1) := by decide +kernel
theorem dX10_pipeIs_57 : decode cX10_pipeIs 57 = .ok (.ireturn, 1) := by decide +kernel
theorem dX10_pipeIs_58 : decode cX10_pipeIs 58 = .ok (.aload_n 0, 1) := by decide +kernel
theorem dX10_pipeIs_59 : decode cX10_pipeIs 59 = .ok (.getfield 19, 3) := by decide +kernel
theorem dX10_pipeIs_62 : decode cX10_pipeIs 62 = .ok (.getfield 193, 3) := by decide +kernel
theorem dX10_pipeIs_65 : decode cX10_pipeIs 65 = .ok (.iload_n 1, 1) := by decide +kernel
theorem dX10_pipeIs_66 : decode cX10_pipeIs 66 = .ok (.iaload, 1) := by decide +kernel
theorem dX10_pipeIs_67 : decode cX10_pipeIs 67 = .ok (.ireturn, 1) := by decide +kernel
theorem dX10_pipeIs_68 : decode cX10_pipeIs 68 = .ok (.aload_n 0, 1) := by decide +kernel
theorem dX10_pipeIs_69 : decode cX10_pipeIs 69 = .ok (.getfield 19, 3) := by decide +kernel
theorem dX10_pipeIs_72 : decode cX10_pipeIs 72 = .ok (.getfield 196, 3) := by decide +kernel
theorem dX10_pipeIs_75 : decode cX10_pipeIs 75 = .ok (.iload_n 1, 1) := by decide +kernel
theorem dX10_pipeIs_76 : decode cX10_pipeIs 76 = .ok (.iaload, 1) := by decide +kernel
theorem dX10_pipeIs_77 : decode cX10_pipeIs 77 = .ok (.ireturn, 1) := by decide +kernel
theorem dX10_pipeIs_78 : decode cX10_pipeIs 78 = .ok (.aload_n 0, 1) := by decide +kernel
theorem dX10_pipeIs_79 : decode cX10_pipeIs 79 = .ok (.getfield 46, 3) := by decide +kernel
theorem dX10_pipeIs_82 : decode cX10_pipeIs 82 = .ok (.getfield 180, 3) := by decide +kernel
theorem dX10_pipeIs_85 : decode cX10_pipeIs 85 = .ok (.iload_n 1, 1) := by decide +kernel
theorem dX10_pipeIs_86 : decode cX10_pipeIs 86 = .ok (.ishr, 1) := by decide +kernel
theorem dX10_pipeIs_87 : decode cX10_pipeIs 87 = .ok (.iconst 1, 1) := by decide +kernel
theorem dX10_pipeIs_88 : decode cX10_pipeIs 88 = .ok (.iand, 1) := by decide +kernel
theorem dX10_pipeIs_89 : decode cX10_pipeIs 89 = .ok (.ireturn, 1) := by decide +kernel
theorem dX10_pipeIs_90 : decode cX10_pipeIs 90 = .ok (.iconst (-1), 1) := by decide +kernel
theorem dX10_pipeIs_91 : decode cX10_pipeIs 91 = .ok (.ireturn, 1) := by decide +kernel
theorem dX10_dry_0 : decode cX10_dry 0 = .ok (.aload_n 0, 1) := by decide +kernel
theorem dX10_dry_1 : decode cX10_dry 1 = .ok (.getfield 19, 3) := by decide +kernel
theorem dX10_dry_4 : decode cX10_dry 4 = .ok (.iload_n 1, 1) := by decide +kernel
theorem dX10_dry_5 : decode cX10_dry 5 = .ok (.invokevirtual 156, 3) := by decide +kernel
theorem dX10_dry_8 : decode cX10_dry 8 = .ok (.ifCond .eq 10, 3) := by decide +kernel
theorem dX10_dry_11 : decode cX10_dry 11 = .ok (.iload_n 2, 1) := by decide +kernel
theorem dX10_dry_12 : decode cX10_dry 12 = .ok (.invokestatic 148, 3) := by decide +kernel
theorem dX10_dry_15 : decode cX10_dry 15 = .ok (.ifCond .ne 5, 3) := by decide +kernel
theorem dX10_dry_18 : decode cX10_dry 18 = .ok (.iconst (-1), 1) := by decide +kernel
theorem dX10_dry_19 : decode cX10_dry 19 = .ok (.ireturn, 1) := by decide +kernel
theorem dX10_dry_20 : decode cX10_dry 20 = .ok (.aload_n 0, 1) := by decide +kernel
theorem dX10_dry_21 : decode cX10_dry 21 = .ok (.getfield 53, 3) := by decide +kernel
theorem dX10_dry_24 : decode cX10_dry 24 = .ok (.aload_n 0, 1) := by decide +kernel
theorem dX10_dry_25 : decode cX10_dry 25 = .ok (.getfield 46, 3) := by decide +kernel
theorem dX10_dry_28 : decode cX10_dry 28 = .ok (.invokevirtual 159, 3) := by decide +kernel
theorem dX10_dry_31 : decode cX10_dry 31 = .ok (.iconst 0, 1) := by decide +kernel
theorem dX10_dry_32 : decode cX10_dry 32 = .ok (.istore_n 3, 1) := by decide +kernel
theorem dX10_dry_33 : decode cX10_dry 33 = .ok (.iload_n 3, 1) := by decide +kernel
theorem dX10_dry_34 : decode cX10_dry 34 = .ok (.iload_n 2, 1) := by decide +kernel
theorem dX10_dry_35 : decode cX10_dry 35 = .ok (.if_icmp .gt 36, 3) := by decide +kernel
theorem dX10_dry_38 : decode cX10_dry 38 = .ok (.aload_n 0, 1) := by decide +kernel
theorem dX10_dry_39 : decode cX10_dry 39 = .ok (.getfield 53, 3) := by decide +kernel
theorem dX10_dry_42 : decode cX10_dry 42 = .ok (.getfield 161, 3) := by decide +kernel
theorem dX10_dry_45 : decode cX10_dry 45 = .ok (.iload_n 1, 1) := by decide +kernel
theorem dX10_dry_46 : decode cX10_dry 46 = .ok (.iaload, 1) := by decide +kernel
theorem dX10_dry_47 : decode cX10_dry 47 = .ok (.ifCond .ne 5, 3) := by decide +kernel
theorem dX10_dry_50 : decode cX10_dry 50 = .ok (.iload_n 3, 1) := by decide +kernel
theorem dX10_dry_51 : decode cX10_dry 51 = .ok (.ireturn, 1) := by decide +kernel
theorem dX10_dry_52 : decode cX10_dry 52 = .ok (.aload_n 0, 1) := by decide +kernel
theorem dX10_dry_53 : decode cX10_dry 53 = .ok (.getfield 61, 3) := by decide +kernel
theorem dX10_dry_56 : decode cX10_dry 56 = .ok (.iconst 1, 1) := by decide +kernel
theorem dX10_dry_57 : decode cX10_dry 57 = .ok (.aload_n 0, 1) := by decide +kernel
theorem dX10_dry_58 : decode cX10_dry 58 = .ok (.getfield 53, 3) := by decide +kernel
theorem dX10_dry_61 : decode cX10_dry 61 = .ok (.invokevirtual 152, 3) := by decide +kernel
theorem dX10_dry_64 : decode cX10_dry 64 = .ok (.pop, 1) := by decide +kernel
theorem dX10_dry_65 : decode cX10_dry 65 = .ok (.iinc 3 1, 3) := by decide +kernel
theorem dX10_dry_68 : decode cX10_dry 68 = .ok (.goto (-35), 3) := by decide +kernel
theorem dX10_dry_71 : decode cX10_dry 71 = .ok (.bipush (-2), 2) := by decide +kernel
theorem dX10_dry_73 : decode cX10_dry 73 = .ok (.ireturn, 1) := by decide +kernel
theorem dX10_most_0 : decode cX10_most 0 = .ok (.aload_n 0, 1) := by decide +kernel
theorem dX10_most_1 : decode cX10_most 1 = .ok (.iload_n 1, 1) := by decide +kernel
theorem dX10_most_2 : decode cX10_most 2 = .ok (.iload_n 2, 1) := by decide +kernel
theorem dX10_most_3 : decode cX10_most 3 = .ok (.invokevirtual 199, 3) := by decide +kernel
theorem dX10_most_6 : decode cX10_most 6 = .ok (.ifCond .eq 12, 3) := by decide +kernel
theorem dX10_most_9 : decode cX10_most 9 = .ok (.iload_n 3, 1) := by decide +kernel
theorem dX10_most_10 : decode cX10_most 10 = .ok (.ifCond .lt 8, 3) := by decide +kernel
theorem dX10_most_13 : decode cX10_most 13 = .ok (.iload_n 3, 1) := by decide +kernel
theorem dX10_most_14 : decode cX10_most 14 = .ok (.iconst 1, 1) := by decide +kernel
theorem dX10_most_15 : decode cX10_most 15 = .ok (.if_icmp .le 5, 3) := by decide +kernel
theorem dX10_most_18 : decode cX10_most 18 = .ok (.iconst (-1), 1) := by decide +kernel
theorem dX10_most_19 : decode cX10_most 19 = .ok (.ireturn, 1) := by decide +kernel
theorem dX10_most_20 : decode cX10_most 20 = .ok (.aload_n 0, 1) := by decide +kernel
theorem dX10_most_21 : decode cX10_most 21 = .ok (.getfield 77, 3) := by decide +kernel
theorem dX10_most_24 : decode cX10_most 24 = .ok (.iload_n 1, 1) := by decide +kernel
theorem dX10_most_25 : decode cX10_most 25 = .ok (.iload_n 2, 1) := by decide +kernel
theorem dX10_most_26 : decode cX10_most 26 = .ok (.aload_n 0, 1) := by decide +kernel
theorem dX10_most_27 : decode cX10_most 27 = .ok (.getfield 46, 3) := by decide +kernel
theorem dX10_most_30 : decode cX10_most 30 = .ok (.getfield 180, 3) := by decide +kernel
theorem dX10_most_33 : decode cX10_most 33 = .ok (.iconst 0, 1) := by decide +kernel
theorem dX10_most_34 : decode cX10_most 34 = .ok (.invokevirtual 203, 3) := by decide +kernel
theorem dX10_most_37 : decode cX10_most 37 = .ok (.istore 4, 2) := by decide +kernel
theorem dX10_most_39 : decode cX10_most 39 = .ok (.iload_n 3, 1) := by decide +kernel
theorem dX10_most_40 : decode cX10_most 40 = .ok (.ifCond .ne 8, 3) := by decide +kernel
theorem dX10_most_43 : decode cX10_most 43 = .ok (.iload 4, 2) := by decide +kernel
theorem dX10_most_45 : decode cX10_most 45 = .ok (.goto 10, 3) := by decide +kernel
theorem dX10_most_48 : decode cX10_most 48 = .ok (.aload_n 0, 1) := by decide +kernel
theorem dX10_most_49 : decode cX10_most 49 = .ok (.getfield 77, 3) := by decide +kernel
theorem dX10_most_52 : decode cX10_most 52 = .ok (.getfield 207, 3) := by decide +kernel
theorem dX10_most_55 : decode cX10_most 55 = .ok (.ireturn, 1) := by decide +kernel
theorem dX10_cut_0 : decode cX10_cut 0 = .ok (.aload_n 0, 1) := by decide +kernel
theorem dX10_cut_1 : decode cX10_cut 1 = .ok (.iload_n 1, 1) := by decide +kernel
theorem dX10_cut_2 : decode cX10_cut 2 = .ok (.iload_n 2, 1) := by decide +kernel
theorem dX10_cut_3 : decode cX10_cut 3 = .ok (.invokevirtual 199, 3) := by decide +kernel
theorem dX10_cut_6 : decode cX10_cut 6 = .ok (.ifCond .eq 23, 3) := by decide +kernel
theorem dX10_cut_9 : decode cX10_cut 9 = .ok (.aload_n 0, 1) := by decide +kernel
theorem dX10_cut_10 : decode cX10_cut 10 = .ok (.getfield 77, 3) := by decide +kernel
theorem dX10_cut_13 : decode cX10_cut 13 = .ok (.iload_n 1, 1) := by decide +kernel
theorem dX10_cut_14 : decode cX10_cut 14 = .ok (.iload_n 2, 1) := by decide +kernel
theorem dX10_cut_15 : decode cX10_cut 15 = .ok (.aload_n 0, 1) := by decide +kernel
theorem dX10_cut_16 : decode cX10_cut 16 = .ok (.getfield 46, 3) := by decide +kernel
theorem dX10_cut_19 : decode cX10_cut 19 = .ok (.getfield 180, 3) := by decide +kernel
theorem dX10_cut_22 : decode cX10_cut 22 = .ok (.iconst 1, 1) := by decide +kernel
theorem dX10_cut_23 : decode cX10_cut 23 = .ok (.invokevirtual 203, 3) := by decide +kernel
theorem dX10_cut_26 : decode cX10_cut 26 = .ok (.goto 4, 3) := by decide +kernel
theorem dX10_cut_29 : decode cX10_cut 29 = .ok (.iconst (-1), 1) := by decide +kernel
theorem dX10_cut_30 : decode cX10_cut 30 = .ok (.ireturn, 1) := by decide +kernel
theorem dX10_widest_0 : decode cX10_widest 0 = .ok (.aload_n 0, 1) := by decide +kernel
theorem dX10_widest_1 : decode cX10_widest 1 = .ok (.iload_n 1, 1) := by decide +kernel
theorem dX10_widest_2 : decode cX10_widest 2 = .ok (.iload_n 2, 1) := by decide +kernel
theorem dX10_widest_3 : decode cX10_widest 3 = .ok (.invokevirtual 199, 3) := by decide +kernel
theorem dX10_widest_6 : decode cX10_widest 6 = .ok (.ifCond .ne 5, 3) := by decide +kernel
theorem dX10_widest_9 : decode cX10_widest 9 = .ok (.iconst (-1), 1) := by decide +kernel
theorem dX10_widest_10 : decode cX10_widest 10 = .ok (.ireturn, 1) := by decide +kernel
theorem dX10_widest_11 : decode cX10_widest 11 = .ok (.aload_n 0, 1) := by decide +kernel
theorem dX10_widest_12 : decode cX10_widest 12 = .ok (.getfield 70, 3) := by decide +kernel
theorem dX10_widest_15 : decode cX10_widest 15 = .ok (.aload_n 0, 1) := by decide +kernel
theorem dX10_widest_16 : decode cX10_widest 16 = .ok (.getfield 46, 3) := by decide +kernel
theorem dX10_widest_19 : decode cX10_widest 19 = .ok (.getfield 180, 3) := by decide +kernel
theorem dX10_widest_22 : decode cX10_widest 22 = .ok (.invokevirtual 210, 3) := by decide +kernel
theorem dX10_widest_25 : decode cX10_widest 25 = .ok (.aload_n 0, 1) := by decide +kernel
theorem dX10_widest_26 : decode cX10_widest 26 = .ok (.getfield 70, 3) := by decide +kernel
theorem dX10_widest_29 : decode cX10_widest 29 = .ok (.iload_n 1, 1) := by decide +kernel
theorem dX10_widest_30 : decode cX10_widest 30 = .ok (.iload_n 2, 1) := by decide +kernel
theorem dX10_widest_31 : decode cX10_widest 31 = .ok (.invokevirtual 213, 3) := by decide +kernel
theorem dX10_widest_34 : decode cX10_widest 34 = .ok (.ireturn, 1) := by decide +kernel
theorem dX10_steps_0 : decode cX10_steps 0 = .ok (.aload_n 0, 1) := by decide +kernel
theorem dX10_steps_1 : decode cX10_steps 1 = .ok (.getfield 19, 3) := by decide +kernel
theorem dX10_steps_4 : decode cX10_steps 4 = .ok (.iload_n 1, 1) := by decide +kernel
theorem dX10_steps_5 : decode cX10_steps 5 = .ok (.invokevirtual 156, 3) := by decide +kernel
theorem dX10_steps_8 : decode cX10_steps 8 = .ok (.ifCond .eq 14, 3) := by decide +kernel
theorem dX10_steps_11 : decode cX10_steps 11 = .ok (.aload_n 0, 1) := by decide +kernel
theorem dX10_steps_12 : decode cX10_steps 12 = .ok (.getfield 19, 3) := by decide +kernel
theorem dX10_steps_15 : decode cX10_steps 15 = .ok (.iload_n 2, 1) := by decide +kernel
theorem dX10_steps_16 : decode cX10_steps 16 = .ok (.invokevirtual 156, 3) := by decide +kernel
theorem dX10_steps_19 : decode cX10_steps 19 = .ok (.ifCond .ne 5, 3) := by decide +kernel
theorem dX10_steps_22 : decode cX10_steps 22 = .ok (.iconst (-1), 1) := by decide +kernel
theorem dX10_steps_23 : decode cX10_steps 23 = .ok (.ireturn, 1) := by decide +kernel
theorem dX10_steps_24 : decode cX10_steps 24 = .ok (.aload_n 0, 1) := by decide +kernel
theorem dX10_steps_25 : decode cX10_steps 25 = .ok (.getfield 70, 3) := by decide +kernel
theorem dX10_steps_28 : decode cX10_steps 28 = .ok (.aload_n 0, 1) := by decide +kernel
theorem dX10_steps_29 : decode cX10_steps 29 = .ok (.getfield 46, 3) := by decide +kernel
theorem dX10_steps_32 : decode cX10_steps 32 = .ok (.getfield 180, 3) := by decide +kernel
theorem dX10_steps_35 : decode cX10_steps 35 = .ok (.invokevirtual 210, 3) := by decide +kernel
theorem dX10_steps_38 : decode cX10_steps 38 = .ok (.aload_n 0, 1) := by decide +kernel
theorem dX10_steps_39 : decode cX10_steps 39 = .ok (.getfield 70, 3) := by decide +kernel
theorem dX10_steps_42 : decode cX10_steps 42 = .ok (.iload_n 1, 1) := by decide +kernel
theorem dX10_steps_43 : decode cX10_steps 43 = .ok (.iload_n 2, 1) := by decide +kernel
theorem dX10_steps_44 : decode cX10_steps 44 = .ok (.invokevirtual 216, 3) := by decide +kernel
theorem dX10_steps_47 : decode cX10_steps 47 = .ok (.ireturn, 1) := by decide +kernel
theorem dX10_bridges_0 : decode cX10_bridges 0 = .ok (.iload_n 1, 1) := by decide +kernel
theorem dX10_bridges_1 : decode cX10_bridges 1 = .ok (.ifCond .lt 8, 3) := by decide +kernel
theorem dX10_bridges_4 : decode cX10_bridges 4 = .ok (.iload_n 1, 1) := by decide +kernel
theorem dX10_bridges_5 : decode cX10_bridges 5 = .ok (.iconst 1, 1) := by decide +kernel
theorem dX10_bridges_6 : decode cX10_bridges 6 = .ok (.if_icmp .le 5, 3) := by decide +kernel
theorem dX10_bridges_9 : decode cX10_bridges 9 = .ok (.iconst (-1), 1) := by decide +kernel
theorem dX10_bridges_10 : decode cX10_bridges 10 = .ok (.ireturn, 1) := by decide +kernel
theorem dX10_bridges_11 : decode cX10_bridges 11 = .ok (.aload_n 0, 1) := by decide +kernel
theorem dX10_bridges_12 : decode cX10_bridges 12 = .ok (.getfield 70, 3) := by decide +kernel
theorem dX10_bridges_15 : decode cX10_bridges 15 = .ok (.aload_n 0, 1) := by decide +kernel
theorem dX10_bridges_16 : decode cX10_bridges 16 = .ok (.getfield 46, 3) := by decide +kernel
theorem dX10_bridges_19 : decode cX10_bridges 19 = .ok (.getfield 180, 3) := by decide +kernel
theorem dX10_bridges_22 : decode cX10_bridges 22 = .ok (.invokevirtual 219, 3) := by decide +kernel
theorem dX10_bridges_25 : decode cX10_bridges 25 = .ok (.istore_n 2, 1) := by decide +kernel
theorem dX10_bridges_26 : decode cX10_bridges 26 = .ok (.iload_n 1, 1) := by decide +kernel
theorem dX10_bridges_27 : decode cX10_bridges 27 = .ok (.ifCond .ne 8, 3) := by decide +kernel
theorem dX10_bridges_30 : decode cX10_bridges 30 = .ok (.iload_n 2, 1) := by decide +kernel
theorem dX10_bridges_31 : decode cX10_bridges 31 = .ok (.invokestatic 223, 3) := by decide +kernel
theorem dX10_bridges_34 : decode cX10_bridges 34 = .ok (.ireturn, 1) := by decide +kernel
theorem dX10_bridges_35 : decode cX10_bridges 35 = .ok (.iload_n 2, 1) := by decide +kernel
theorem dX10_bridges_36 : decode cX10_bridges 36 = .ok (.ifCond .ne 8, 3) := by decide +kernel
theorem dX10_bridges_39 : decode cX10_bridges 39 = .ok (.bipush (-2), 2) := by decide +kernel
theorem dX10_bridges_41 : decode cX10_bridges 41 = .ok (.goto 7, 3) := by decide +kernel
theorem dX10_bridges_44 : decode cX10_bridges 44 = .ok (.iload_n 2, 1) := by decide +kernel
theorem dX10_bridges_45 : decode cX10_bridges 45 = .ok (.invokestatic 228, 3) := by decide +kernel
theorem dX10_bridges_48 : decode cX10_bridges 48 = .ok (.ireturn, 1) := by decide +kernel
theorem dX10_brigades_0 : decode cX10_brigades 0 = .ok (.iload_n 1, 1) := by decide +kernel
theorem dX10_brigades_1 : decode cX10_brigades 1 = .ok (.iconst 1, 1) := by decide +kernel
theorem dX10_brigades_2 : decode cX10_brigades 2 = .ok (.if_icmp .lt 17, 3) := by decide +kernel
theorem dX10_brigades_5 : decode cX10_brigades 5 = .ok (.iload_n 1, 1) := by decide +kernel
theorem dX10_brigades_6 : decode cX10_brigades 6 = .ok (.iconst 5, 1) := by decide +kernel
theorem dX10_brigades_7 : decode cX10_brigades 7 = .ok (.if_icmp .gt 12, 3) := by decide +kernel
theorem dX10_brigades_10 : decode cX10_brigades 10 = .ok (.iload_n 2, 1) := by decide +kernel
theorem dX10_brigades_11 : decode cX10_brigades 11 = .ok (.ifCond .lt 8, 3) := by decide +kernel
theorem dX10_brigades_14 : decode cX10_brigades 14 = .ok (.iload_n 2, 1) := by decide +kernel
theorem dX10_brigades_15 : decode cX10_brigades 15 = .ok (.iconst 1, 1) := by decide +kernel
theorem dX10_brigades_16 : decode cX10_brigades 16 = .ok (.if_icmp .le 5, 3) := by decide +kernel
theorem dX10_brigades_19 : decode cX10_brigades 19 = .ok (.iconst (-1), 1) := by decide +kernel
theorem dX10_brigades_20 : decode cX10_brigades 20 = .ok (.ireturn, 1) := by decide +kernel
theorem dX10_brigades_21 : decode cX10_brigades 21 = .ok (.aload_n 0, 1) := by decide +kernel
theorem dX10_brigades_22 : decode cX10_brigades 22 = .ok (.getfield 70, 3) := by decide +kernel
theorem dX10_brigades_25 : decode cX10_brigades 25 = .ok (.aload_n 0, 1) := by decide +kernel
theorem dX10_brigades_26 : decode cX10_brigades 26 = .ok (.getfield 46, 3) := by decide +kernel
theorem dX10_brigades_29 : decode cX10_brigades 29 = .ok (.getfield 180, 3) := by decide +kernel
theorem dX10_brigades_32 : decode cX10_brigades 32 = .ok (.invokevirtual 210, 3) := by decide +kernel
theorem dX10_brigades_35 : decode cX10_brigades 35 = .ok (.aload_n 0, 1) := by decide +kernel
theorem dX10_brigades_36 : decode cX10_brigades 36 = .ok (.getfield 70, 3) := by decide +kernel
theorem dX10_brigades_39 : decode cX10_brigades 39 = .ok (.iload_n 1, 1) := by decide +kernel
theorem dX10_brigades_40 : decode cX10_brigades 40 = .ok (.invokevirtual 231, 3) := by decide +kernel
theorem dX10_brigades_43 : decode cX10_brigades 43 = .ok (.istore_n 3, 1) := by decide +kernel
theorem dX10_brigades_44 : decode cX10_brigades 44 = .ok (.iload_n 3, 1) := by decide +kernel
theorem dX10_brigades_45 : decode cX10_brigades 45 = .ok (.ifCond .ge 6, 3) := by decide +kernel
theorem dX10_brigades_48 : decode cX10_brigades 48 = .ok (.bipush (-2), 2) := by decide +kernel
theorem dX10_brigades_50 : decode cX10_brigades 50 = .ok (.ireturn, 1) := by decide +kernel
theorem dX10_brigades_51 : decode cX10_brigades 51 = .ok (.iload_n 2, 1) := by decide +kernel
theorem dX10_brigades_52 : decode cX10_brigades 52 = .ok (.ifCond .ne 10, 3) := by decide +kernel
theorem dX10_brigades_55 : decode cX10_brigades 55 = .ok (.iload_n 3, 1) := by decide +kernel
theorem dX10_brigades_56 : decode cX10_brigades 56 = .ok (.bipush 16, 2) := by decide +kernel
theorem dX10_brigades_58 : decode cX10_brigades 58 = .ok (.ishr, 1) := by decide +kernel
theorem dX10_brigades_59 : decode cX10_brigades 59 = .ok (.goto 7, 3) := by decide +kernel
theorem dX10_brigades_62 : decode cX10_brigades 62 = .ok (.iload_n 3, 1) := by decide +kernel
theorem dX10_brigades_63 : decode cX10_brigades 63 = .ok (.ldc 234, 2) := by decide +kernel
theorem dX10_brigades_65 : decode cX10_brigades 65 = .ok (.iand, 1) := by decide +kernel
theorem dX10_brigades_66 : decode cX10_brigades 66 = .ok (.ireturn, 1) := by decide +kernel
theorem dX10_painted_0 : decode cX10_painted 0 = .ok (.aload_n 0, 1) := by decide +kernel
theorem dX10_painted_1 : decode cX10_painted 1 = .ok (.getfield 19, 3) := by decide +kernel
theorem dX10_painted_4 : decode cX10_painted 4 = .ok (.iload_n 1, 1) := by decide +kernel
theorem dX10_painted_5 : decode cX10_painted 5 = .ok (.invokevirtual 156, 3) := by decide +kernel
theorem dX10_painted_8 : decode cX10_painted 8 = .ok (.ifCond .ne 5, 3) := by decide +kernel
theorem dX10_painted_11 : decode cX10_painted 11 = .ok (.iconst (-1), 1) := by decide +kernel
theorem dX10_painted_12 : decode cX10_painted 12 = .ok (.ireturn, 1) := by decide +kernel
theorem dX10_painted_13 : decode cX10_painted 13 = .ok (.aload_n 0, 1) := by decide +kernel
theorem dX10_painted_14 : decode cX10_painted 14 = .ok (.getfield 70, 3) := by decide +kernel
theorem dX10_painted_17 : decode cX10_painted 17 = .ok (.aload_n 0, 1) := by decide +kernel
theorem dX10_painted_18 : decode cX10_painted 18 = .ok (.getfield 46, 3) := by decide +kernel
theorem dX10_painted_21 : decode cX10_painted 21 = .ok (.getfield 180, 3) := by decide +kernel
theorem dX10_painted_24 : decode cX10_painted 24 = .ok (.invokevirtual 210, 3) := by decide +kernel
theorem dX10_painted_27 : decode cX10_painted 27 = .ok (.aload_n 0, 1) := by decide +kernel
theorem dX10_painted_28 : decode cX10_painted 28 = .ok (.getfield 86, 3) := by decide +kernel
theorem dX10_painted_31 : decode cX10_painted 31 = .ok (.iload_n 1, 1) := by decide +kernel
theorem dX10_painted_32 : decode cX10_painted 32 = .ok (.aload_n 0, 1) := by decide +kernel
theorem dX10_painted_33 : decode cX10_painted 33 = .ok (.getfield 46, 3) := by decide +kernel
theorem dX10_painted_36 : decode cX10_painted 36 = .ok (.getfield 180, 3) := by decide +kernel
theorem dX10_painted_39 : decode cX10_painted 39 = .ok (.invokevirtual 235, 3) := by decide +kernel
theorem dX10_painted_42 : decode cX10_painted 42 = .ok (.ireturn, 1) := by decide +kernel
theorem dX10_keptOpen_0 : decode cX10_keptOpen 0 = .ok (.aload_n 0, 1) := by decide +kernel
theorem dX10_keptOpen_1 : decode cX10_keptOpen 1 = .ok (.getfield 70, 3) := by decide +kernel
theorem dX10_keptOpen_4 : decode cX10_keptOpen 4 = .ok (.aload_n 0, 1) := by decide +kernel
theorem dX10_keptOpen_5 : decode cX10_keptOpen 5 = .ok (.getfield 46, 3) := by decide +kernel
theorem dX10_keptOpen_8 : decode cX10_keptOpen 8 = .ok (.getfield 180, 3) := by decide +kernel
theorem dX10_keptOpen_11 : decode cX10_keptOpen 11 = .ok (.invokevirtual 238, 3) := by decide +kernel
theorem dX10_keptOpen_14 : decode cX10_keptOpen 14 = .ok (.ireturn, 1) := by decide +kernel
theorem dX10_farthest_0 : decode cX10_farthest 0 = .ok (.iload_n 1, 1) := by decide +kernel
theorem dX10_farthest_1 : decode cX10_farthest 1 = .ok (.ifCond .lt 8, 3) := by decide +kernel
theorem dX10_farthest_4 : decode cX10_farthest 4 = .ok (.iload_n 1, 1) := by decide +kernel
theorem dX10_farthest_5 : decode cX10_farthest 5 = .ok (.iconst 2, 1) := by decide +kernel
theorem dX10_farthest_6 : decode cX10_farthest 6 = .ok (.if_icmp .le 5, 3) := by decide +kernel
theorem dX10_farthest_9 : decode cX10_farthest 9 = .ok (.iconst (-1), 1) := by decide +kernel
theorem dX10_farthest_10 : decode cX10_farthest 10 = .ok (.ireturn, 1) := by decide +kernel
theorem dX10_farthest_11 : decode cX10_farthest 11 = .ok (.aload_n 0, 1) := by decide +kernel
theorem dX10_farthest_12 : decode cX10_farthest 12 = .ok (.getfield 19, 3) := by decide +kernel
theorem dX10_farthest_15 : decode cX10_farthest 15 = .ok (.getfield 130, 3) := by decide +kernel
theorem dX10_farthest_18 : decode cX10_farthest 18 = .ok (.ifCond .ne 6, 3) := by decide +kernel
theorem dX10_farthest_21 : decode cX10_farthest 21 = .ok (.bipush (-2), 2) := by decide +kernel
theorem dX10_farthest_23 : decode cX10_farthest 23 = .ok (.ireturn, 1) := by decide +kernel
theorem dX10_farthest_24 : decode cX10_farthest 24 = .ok (.aload_n 0, 1) := by decide +kernel
theorem dX10_farthest_25 : decode cX10_farthest 25 = .ok (.getfield 70, 3) := by decide +kernel
theorem dX10_farthest_28 : decode cX10_farthest 28 = .ok (.aload_n 0, 1) := by decide +kernel
theorem dX10_farthest_29 : decode cX10_farthest 29 = .ok (.getfield 46, 3) := by decide +kernel
theorem dX10_farthest_32 : decode cX10_farthest 32 = .ok (.getfield 180, 3) := by decide +kernel
theorem dX10_farthest_35 : decode cX10_farthest 35 = .ok (.invokevirtual 210, 3) := by decide +kernel
theorem dX10_farthest_38 : decode cX10_farthest 38 = .ok (.aload_n 0, 1) := by decide +kernel
theorem dX10_farthest_39 : decode cX10_farthest 39 = .ok (.getfield 70, 3) := by decide +kernel
theorem dX10_farthest_42 : decode cX10_farthest 42 = .ok (.invokevirtual 241, 3) := by decide +kernel
theorem dX10_farthest_45 : decode cX10_farthest 45 = .ok (.istore_n 2, 1) := by decide +kernel
theorem dX10_farthest_46 : decode cX10_farthest 46 = .ok (.iload_n 1, 1) := by decide +kernel
theorem dX10_farthest_47 : decode cX10_farthest 47 = .ok (.ifCond .ne 10, 3) := by decide +kernel
theorem dX10_farthest_50 : decode cX10_farthest 50 = .ok (.iload_n 2, 1) := by decide +kernel
theorem dX10_farthest_51 : decode cX10_farthest 51 = .ok (.bipush 8, 2) := by decide +kernel
theorem dX10_farthest_53 : decode cX10_farthest 53 = .ok (.ishr, 1) := by decide +kernel
theorem dX10_farthest_54 : decode cX10_farthest 54 = .ok (.goto 21, 3) := by decide +kernel
theorem dX10_farthest_57 : decode cX10_farthest 57 = .ok (.iload_n 1, 1) := by decide +kernel
theorem dX10_farthest_58 : decode cX10_farthest 58 = .ok (.iconst 1, 1) := by decide +kernel
theorem dX10_farthest_59 : decode cX10_farthest 59 = .ok (.if_icmp .ne 12, 3) := by decide +kernel
theorem dX10_farthest_62 : decode cX10_farthest 62 = .ok (.iload_n 2, 1) := by decide +kernel
theorem dX10_farthest_63 : decode cX10_farthest 63 = .ok (.iconst 4, 1) := by decide +kernel
theorem dX10_farthest_64 : decode cX10_farthest 64 = .ok (.ishr, 1) := by decide +kernel
theorem dX10_farthest_65 : decode cX10_farthest 65 = .ok (.bipush 15, 2) := by decide +kernel
theorem dX10_farthest_67 : decode cX10_farthest 67 = .ok (.iand, 1) := by decide +kernel
theorem dX10_farthest_68 : decode cX10_farthest 68 = .ok (.goto 7, 3) := by decide +kernel
theorem dX10_farthest_71 : decode cX10_farthest 71 = .ok (.iload_n 2, 1) := by decide +kernel
theorem dX10_farthest_72 : decode cX10_farthest 72 = .ok (.bipush 15, 2) := by decide +kernel
theorem dX10_farthest_74 : decode cX10_farthest 74 = .ok (.iand, 1) := by decide +kernel
theorem dX10_farthest_75 : decode cX10_farthest 75 = .ok (.ireturn, 1) := by decide +kernel
theorem dX10_ring_0 : decode cX10_ring 0 = .ok (.aload_n 0, 1) := by decide +kernel
theorem dX10_ring_1 : decode cX10_ring 1 = .ok (.getfield 19, 3) := by decide +kernel
theorem dX10_ring_4 : decode cX10_ring 4 = .ok (.iload_n 1, 1) := by decide +kernel
theorem dX10_ring_5 : decode cX10_ring 5 = .ok (.invokevirtual 156, 3) := by decide +kernel
theorem dX10_ring_8 : decode cX10_ring 8 = .ok (.ifCond .eq 21, 3) := by decide +kernel
theorem dX10_ring_11 : decode cX10_ring 11 = .ok (.aload_n 0, 1) := by decide +kernel
theorem dX10_ring_12 : decode cX10_ring 12 = .ok (.getfield 70, 3) := by decide +kernel
theorem dX10_ring_15 : decode cX10_ring 15 = .ok (.iload_n 1, 1) := by decide +kernel
theorem dX10_ring_16 : decode cX10_ring 16 = .ok (.aload_n 0, 1) := by decide +kernel
theorem dX10_ring_17 : decode cX10_ring 17 = .ok (.getfield 46, 3) := by decide +kernel
theorem dX10_ring_20 : decode cX10_ring 20 = .ok (.getfield 180, 3) := by decide +kernel
theorem dX10_ring_23 : decode cX10_ring 23 = .ok (.invokevirtual 244, 3) := by decide +kernel
theorem dX10_ring_26 : decode cX10_ring 26 = .ok (.goto 4, 3) := by decide +kernel
theorem dX10_ring_29 : decode cX10_ring 29 = .ok (.iconst (-1), 1) := by decide +kernel
theorem dX10_ring_30 : decode cX10_ring 30 = .ok (.ireturn, 1) := by decide +kernel
theorem dX10_highest_0 : decode cX10_highest 0 = .ok (.iload_n 1, 1) := by decide +kernel
theorem dX10_highest_1 : decode cX10_highest 1 = .ok (.ifCond .lt 8, 3) := by decide +kernel
theorem dX10_highest_4 : decode cX10_highest 4 = .ok (.iload_n 1, 1) := by decide +kernel
theorem dX10_highest_5 : decode cX10_highest 5 = .ok (.iconst 1, 1) := by decide +kernel
theorem dX10_highest_6 : decode cX10_highest 6 = .ok (.if_icmp .le 5, 3) := by decide +kernel
theorem dX10_highest_9 : decode cX10_highest 9 = .ok (.iconst (-1), 1) := by decide +kernel
theorem dX10_highest_10 : decode cX10_highest 10 = .ok (.ireturn, 1) := by decide +kernel
theorem dX10_highest_11 : decode cX10_highest 11 = .ok (.bipush (-2), 2) := by decide +kernel
theorem dX10_highest_13 : decode cX10_highest 13 = .ok (.istore_n 2, 1) := by decide +kernel
theorem dX10_highest_14 : decode cX10_highest 14 = .ok (.bipush (-2), 2) := by decide +kernel
theorem dX10_highest_16 : decode cX10_highest 16 = .ok (.istore_n 3, 1) := by decide +kernel
theorem dX10_highest_17 : decode cX10_highest 17 = .ok (.iconst 0, 1) := by decide +kernel
theorem dX10_highest_18 : decode cX10_highest 18 = .ok (.istore 4, 2) := by decide +kernel
theorem dX10_highest_20 : decode cX10_highest 20 = .ok (.iload 4, 2) := by decide +kernel
theorem dX10_highest_22 : decode cX10_highest 22 = .ok (.bipush 16, 2) := by decide +kernel
theorem dX10_highest_24 : decode cX10_highest 24 = .ok (.if_icmp .ge 71, 3) := by decide +kernel
theorem dX10_highest_27 : decode cX10_highest 27 = .ok (.aload_n 0, 1) := by decide +kernel
theorem dX10_highest_28 : decode cX10_highest 28 = .ok (.getfield 19, 3) := by decide +kernel
theorem dX10_highest_31 : decode cX10_highest 31 = .ok (.iload 4, 2) := by decide +kernel
theorem dX10_highest_33 : decode cX10_highest 33 = .ok (.invokevirtual 156, 3) := by decide +kernel
theorem dX10_highest_36 : decode cX10_highest 36 = .ok (.ifCond .eq 53, 3) := by decide +kernel
theorem dX10_highest_39 : decode cX10_highest 39 = .ok (.aload_n 0, 1) := by decide +kernel
theorem dX10_highest_40 : decode cX10_highest 40 = .ok (.getfield 19, 3) := by decide +kernel
theorem dX10_highest_43 : decode cX10_highest 43 = .ok (.getfield 174, 3) := by decide +kernel
theorem dX10_highest_46 : decode cX10_highest 46 = .ok (.iload 4, 2) := by decide +kernel
theorem dX10_highest_48 : decode cX10_highest 48 = .ok (.iaload, 1) := by decide +kernel
theorem dX10_highest_49 : decode cX10_highest 49 = .ok (.aload_n 0, 1) := by decide +kernel
theorem dX10_highest_50 : decode cX10_highest 50 = .ok (.getfield 46, 3) := by decide +kernel
theorem dX10_highest_53 : decode cX10_highest 53 = .ok (.getfield 161, 3) := by decide +kernel
theorem dX10_highest_56 : decode cX10_highest 56 = .ok (.iload 4, 2) := by decide +kernel
theorem dX10_highest_58 : decode cX10_highest 58 = .ok (.iaload, 1) := by decide +kernel
theorem dX10_highest_59 : decode cX10_highest 59 = .ok (.iadd, 1) := by decide +kernel
theorem dX10_highest_60 : decode cX10_highest 60 = .ok (.iload_n 3, 1) := by decide +kernel
theorem dX10_highest_61 : decode cX10_highest 61 = .ok (.if_icmp .le 28, 3) := by decide +kernel
theorem dX10_highest_64 : decode cX10_highest 64 = .ok (.iload 4, 2) := by decide +kernel
theorem dX10_highest_66 : decode cX10_highest 66 = .ok (.istore_n 2, 1) := by decide +kernel
theorem dX10_highest_67 : decode cX10_highest 67 = .ok (.aload_n 0, 1) := by decide +kernel
theorem dX10_highest_68 : decode cX10_highest 68 = .ok (.getfield 19, 3) := by decide +kernel
theorem dX10_highest_71 : decode cX10_highest 71 = .ok (.getfield 174, 3) := by decide +kernel
theorem dX10_highest_74 : decode cX10_highest 74 = .ok (.iload 4, 2) := by decide +kernel
theorem dX10_highest_76 : decode cX10_highest 76 = .ok (.iaload, 1) := by decide +kernel
theorem dX10_highest_77 : decode cX10_highest 77 = .ok (.aload_n 0, 1) := by decide +kernel
theorem dX10_highest_78 : decode cX10_highest 78 = .ok (.getfield 46, 3) := by decide +kernel
theorem dX10_highest_81 : decode cX10_highest 81 = .ok (.getfield 161, 3) := by decide +kernel
theorem dX10_highest_84 : decode cX10_highest 84 = .ok (.iload 4, 2) := by decide +kernel
theorem dX10_highest_86 : decode cX10_highest 86 = .ok (.iaload, 1) := by decide +kernel
theorem dX10_highest_87 : decode cX10_highest 87 = .ok (.iadd, 1) := by decide +kernel
theorem dX10_highest_88 : decode cX10_highest 88 = .ok (.istore_n 3, 1) := by decide +kernel
theorem dX10_highest_89 : decode cX10_highest 89 = .ok (.iinc 4 1, 3) := by decide +kernel
theorem dX10_highest_92 : decode cX10_highest 92 = .ok (.goto (-72), 3) := by decide +kernel
theorem dX10_highest_95 : decode cX10_highest 95 = .ok (.iload_n 1, 1) := by decide +kernel
theorem dX10_highest_96 : decode cX10_highest 96 = .ok (.ifCond .ne 7, 3) := by decide +kernel
theorem dX10_highest_99 : decode cX10_highest 99 = .ok (.iload_n 2, 1) := by decide +kernel
theorem dX10_highest_100 : decode cX10_highest 100 = .ok (.goto 4, 3) := by decide +kernel
theorem dX10_highest_103 : decode cX10_highest 103 = .ok (.iload_n 3, 1) := by decide +kernel
theorem dX10_highest_104 : decode cX10_highest 104 = .ok (.ireturn, 1) := by decide +kernel
theorem dX10_longest_0 : decode cX10_longest 0 = .ok (.aload_n 0, 1) := by decide +kernel
theorem dX10_longest_1 : decode cX10_longest 1 = .ok (.getfield 19, 3) := by decide +kernel
theorem dX10_longest_4 : decode cX10_longest 4 = .ok (.iload_n 1, 1) := by decide +kernel
theorem dX10_longest_5 : decode cX10_longest 5 = .ok (.invokevirtual 156, 3) := by decide +kernel
theorem dX10_longest_8 : decode cX10_longest 8 = .ok (.ifCond .eq 12, 3) := by decide +kernel
theorem dX10_longest_11 : decode cX10_longest 11 = .ok (.iload_n 2, 1) := by decide +kernel
theorem dX10_longest_12 : decode cX10_longest 12 = .ok (.ifCond .lt 8, 3) := by decide +kernel
theorem dX10_longest_15 : decode cX10_longest 15 = .ok (.iload_n 2, 1) := by decide +kernel
theorem dX10_longest_16 : decode cX10_longest 16 = .ok (.iconst 1, 1) := by decide +kernel
theorem dX10_longest_17 : decode cX10_longest 17 = .ok (.if_icmp .le 5, 3) := by decide +kernel
theorem dX10_longest_20 : decode cX10_longest 20 = .ok (.iconst (-1), 1) := by decide +kernel
theorem dX10_longest_21 : decode cX10_longest 21 = .ok (.ireturn, 1) := by decide +kernel
theorem dX10_longest_22 : decode cX10_longest 22 = .ok (.aload_n 0, 1) := by decide +kernel
theorem dX10_longest_23 : decode cX10_longest 23 = .ok (.getfield 70, 3) := by decide +kernel
theorem dX10_longest_26 : decode cX10_longest 26 = .ok (.aload_n 0, 1) := by decide +kernel
theorem dX10_longest_27 : decode cX10_longest 27 = .ok (.getfield 46, 3) := by decide +kernel
theorem dX10_longest_30 : decode cX10_longest 30 = .ok (.getfield 180, 3) := by decide +kernel
theorem dX10_longest_33 : decode cX10_longest 33 = .ok (.invokevirtual 210, 3) := by decide +kernel
theorem dX10_longest_36 : decode cX10_longest 36 = .ok (.aload_n 0, 1) := by decide +kernel
theorem dX10_longest_37 : decode cX10_longest 37 = .ok (.getfield 86, 3) := by decide +kernel
theorem dX10_longest_40 : decode cX10_longest 40 = .ok (.iload_n 1, 1) := by decide +kernel
theorem dX10_longest_41 : decode cX10_longest 41 = .ok (.invokevirtual 247, 3) := by decide +kernel
theorem dX10_longest_44 : decode cX10_longest 44 = .ok (.iload_n 2, 1) := by decide +kernel
theorem dX10_longest_45 : decode cX10_longest 45 = .ok (.ifCond .ne 13, 3) := by decide +kernel
theorem dX10_longest_48 : decode cX10_longest 48 = .ok (.aload_n 0, 1) := by decide +kernel
theorem dX10_longest_49 : decode cX10_longest 49 = .ok (.getfield 86, 3) := by decide +kernel
theorem dX10_longest_52 : decode cX10_longest 52 = .ok (.getfield 250, 3) := by decide +kernel
theorem dX10_longest_55 : decode cX10_longest 55 = .ok (.goto 10, 3) := by decide +kernel
theorem dX10_longest_58 : decode cX10_longest 58 = .ok (.aload_n 0, 1) := by decide +kernel
theorem dX10_longest_59 : decode cX10_longest 59 = .ok (.getfield 86, 3) := by decide +kernel
theorem dX10_longest_62 : decode cX10_longest 62 = .ok (.getfield 253, 3) := by decide +kernel
theorem dX10_longest_65 : decode cX10_longest 65 = .ok (.ireturn, 1) := by decide +kernel
theorem dX10_byEighths_0 : decode cX10_byEighths 0 = .ok (.iload_n 2, 1) := by decide +kernel
theorem dX10_byEighths_1 : decode cX10_byEighths 1 = .ok (.ifCond .lt 23, 3) := by decide +kernel
theorem dX10_byEighths_4 : decode cX10_byEighths 4 = .ok (.iload_n 2, 1) := by decide +kernel
theorem dX10_byEighths_5 : decode cX10_byEighths 5 = .ok (.sipush 16320, 3) := by decide +kernel
theorem dX10_byEighths_8 : decode cX10_byEighths 8 = .ok (.if_icmp .gt 16, 3) := by decide +kernel
theorem dX10_byEighths_11 : decode cX10_byEighths 11 = .ok (.iload_n 3, 1) := by decide +kernel
theorem dX10_byEighths_12 : decode cX10_byEighths 12 = .ok (.ifCond .lt 12, 3) := by decide +kernel
theorem dX10_byEighths_15 : decode cX10_byEighths 15 = .ok (.iload_n 3, 1) := by decide +kernel
theorem dX10_byEighths_16 : decode cX10_byEighths 16 = .ok (.iconst 1, 1) := by decide +kernel
theorem dX10_byEighths_17 : decode cX10_byEighths 17 = .ok (.if_icmp .gt 7, 3) := by decide +kernel
theorem dX10_byEighths_20 : decode cX10_byEighths 20 = .ok (.iconst 1, 1) := by decide +kernel
theorem dX10_byEighths_21 : decode cX10_byEighths 21 = .ok (.goto 4, 3) := by decide +kernel
theorem dX10_byEighths_24 : decode cX10_byEighths 24 = .ok (.iconst 0, 1) := by decide +kernel
theorem dX10_byEighths_25 : decode cX10_byEighths 25 = .ok (.istore 4, 2) := by decide +kernel
theorem dX10_byEighths_27 : decode cX10_byEighths 27 = .ok (.iload 4, 2) := by decide +kernel
theorem dX10_byEighths_29 : decode cX10_byEighths 29 = .ok (.ifCond .eq 17, 3) := by decide +kernel
theorem dX10_byEighths_32 : decode cX10_byEighths 32 = .ok (.aload_n 0, 1) := by decide +kernel
theorem dX10_byEighths_33 : decode cX10_byEighths 33 = .ok (.getfield 10, 3) := by decide +kernel
theorem dX10_byEighths_36 : decode cX10_byEighths 36 = .ok (.iload_n 1, 1) := by decide +kernel
theorem dX10_byEighths_37 : decode cX10_byEighths 37 = .ok (.iconst 1, 1) := by decide +kernel
theorem dX10_byEighths_38 : decode cX10_byEighths 38 = .ok (.bipush 8, 2) := by decide +kernel
theorem dX10_byEighths_40 : decode cX10_byEighths 40 = .ok (.invokevirtual 109, 3) := by decide +kernel
theorem dX10_byEighths_43 : decode cX10_byEighths 43 = .ok (.ifCond .ne 5, 3) := by decide +kernel
theorem dX10_byEighths_46 : decode cX10_byEighths 46 = .ok (.iconst (-1), 1) := by decide +kernel
theorem dX10_byEighths_47 : decode cX10_byEighths 47 = .ok (.ireturn, 1) := by decide +kernel
theorem dX10_byEighths_48 : decode cX10_byEighths 48 = .ok (.aload_n 0, 1) := by decide +kernel
theorem dX10_byEighths_49 : decode cX10_byEighths 49 = .ok (.getfield 93, 3) := by decide +kernel
theorem dX10_byEighths_52 : decode cX10_byEighths 52 = .ok (.aload_n 0, 1) := by decide +kernel
theorem dX10_byEighths_53 : decode cX10_byEighths 53 = .ok (.getfield 10, 3) := by decide +kernel
theorem dX10_byEighths_56 : decode cX10_byEighths 56 = .ok (.iload_n 1, 1) := by decide +kernel
theorem dX10_byEighths_57 : decode cX10_byEighths 57 = .ok (.iload_n 2, 1) := by decide +kernel
theorem dX10_byEighths_58 : decode cX10_byEighths 58 = .ok (.invokevirtual 256, 3) := by decide +kernel
theorem dX10_byEighths_61 : decode cX10_byEighths 61 = .ok (.iload_n 3, 1) := by decide +kernel
theorem dX10_byEighths_62 : decode cX10_byEighths 62 = .ok (.ifCond .ne 11, 3) := by decide +kernel
theorem dX10_byEighths_65 : decode cX10_byEighths 65 = .ok (.aload_n 0, 1) := by decide +kernel
theorem dX10_byEighths_66 : decode cX10_byEighths 66 = .ok (.getfield 93, 3) := by decide +kernel
theorem dX10_byEighths_69 : decode cX10_byEighths 69 = .ok (.getfield 260, 3) := by decide +kernel
theorem dX10_byEighths_72 : decode cX10_byEighths 72 = .ok (.ireturn, 1) := by decide +kernel
theorem dX10_byEighths_73 : decode cX10_byEighths 73 = .ok (.aload_n 0, 1) := by decide +kernel
theorem dX10_byEighths_74 : decode cX10_byEighths 74 = .ok (.getfield 93, 3) := by decide +kernel
theorem dX10_byEighths_77 : decode cX10_byEighths 77 = .ok (.getfield 260, 3) := by decide +kernel
theorem dX10_byEighths_80 : decode cX10_byEighths 80 = .ok (.ifCond .ne 8, 3) := by decide +kernel
theorem dX10_byEighths_83 : decode cX10_byEighths 83 = .ok (.bipush (-2), 2) := by decide +kernel
theorem dX10_byEighths_85 : decode cX10_byEighths 85 = .ok (.goto 10, 3) := by decide +kernel
theorem dX10_byEighths_88 : decode cX10_byEighths 88 = .ok (.aload_n 0, 1) := by decide +kernel
theorem dX10_byEighths_89 : decode cX10_byEighths 89 = .ok (.getfield 93, 3) := by decide +kernel
theorem dX10_byEighths_92 : decode cX10_byEighths 92 = .ok (.getfield 263, 3) := by decide +kernel
theorem dX10_byEighths_95 : decode cX10_byEighths 95 = .ok (.ireturn, 1) := by decide +kernel
theorem dX10_readings_0 : decode cX10_readings 0 = .ok (.iconst 2, 1) := by decide +kernel
theorem dX10_readings_1 : decode cX10_readings 1 = .ok (.aload_n 0, 1) := by decide +kernel
theorem dX10_readings_2 : decode cX10_readings 2 = .ok (.getfield 19, 3) := by decide +kernel
theorem dX10_readings_5 : decode cX10_readings 5 = .ok (.getfield 130, 3) := by decide +kernel
theorem dX10_readings_8 : decode cX10_readings 8 = .ok (.invokestatic 223, 3) := by decide +kernel
theorem dX10_readings_11 : decode cX10_readings 11 = .ok (.imul, 1) := by decide +kernel
theorem dX10_readings_12 : decode cX10_readings 12 = .ok (.istore_n 2, 1) := by decide +kernel
theorem dX10_readings_13 : decode cX10_readings 13 = .ok (.iload_n 1, 1) := by decide +kernel
theorem dX10_readings_14 : decode cX10_readings 14 = .ok (.ifCond .lt 22, 3) := by decide +kernel
theorem dX10_readings_17 : decode cX10_readings 17 = .ok (.iload_n 1, 1) := by decide +kernel
theorem dX10_readings_18 : decode cX10_readings 18 = .ok (.iconst 2, 1) := by decide +kernel
theorem dX10_readings_19 : decode cX10_readings 19 = .ok (.if_icmp .gt 17, 3) := by decide +kernel
theorem dX10_readings_22 : decode cX10_readings 22 = .ok (.aload_n 0, 1) := by decide +kernel
theorem dX10_readings_23 : decode cX10_readings 23 = .ok (.getfield 10, 3) := by decide +kernel
theorem dX10_readings_26 : decode cX10_readings 26 = .ok (.iload_n 2, 1) := by decide +kernel
theorem dX10_readings_27 : decode cX10_readings 27 = .ok (.iconst 2, 1) := by decide +kernel
theorem dX10_readings_28 : decode cX10_readings 28 = .ok (.bipush 32, 2) := by decide +kernel
theorem dX10_readings_30 : decode cX10_readings 30 = .ok (.invokevirtual 109, 3) := by decide +kernel
theorem dX10_readings_33 : decode cX10_readings 33 = .ok (.ifCond .ne 5, 3) := by decide +kernel
theorem dX10_readings_36 : decode cX10_readings 36 = .ok (.iconst (-1), 1) := by decide +kernel
theorem dX10_readings_37 : decode cX10_readings 37 = .ok (.ireturn, 1) := by decide +kernel
theorem dX10_readings_38 : decode cX10_readings 38 = .ok (.iconst 0, 1) := by decide +kernel
theorem dX10_readings_39 : decode cX10_readings 39 = .ok (.istore_n 3, 1) := by decide +kernel
theorem dX10_readings_40 : decode cX10_readings 40 = .ok (.bipush (-2), 2) := by decide +kernel
theorem dX10_readings_42 : decode cX10_readings 42 = .ok (.istore 4, 2) := by decide +kernel
theorem dX10_readings_44 : decode cX10_readings 44 = .ok (.iconst 0, 1) := by decide +kernel
theorem dX10_readings_45 : decode cX10_readings 45 = .ok (.istore 5, 2) := by decide +kernel
theorem dX10_readings_47 : decode cX10_readings 47 = .ok (.iconst 0, 1) := by decide +kernel
theorem dX10_readings_48 : decode cX10_readings 48 = .ok (.istore 6, 2) := by decide +kernel
theorem dX10_readings_50 : decode cX10_readings 50 = .ok (.iconst 0, 1) := by decide +kernel
theorem dX10_readings_51 : decode cX10_readings 51 = .ok (.istore 7, 2) := by decide +kernel
theorem dX10_readings_53 : decode cX10_readings 53 = .ok (.iconst 0, 1) := by decide +kernel
theorem dX10_readings_54 : decode cX10_readings 54 = .ok (.istore 8, 2) := by decide +kernel
theorem dX10_readings_56 : decode cX10_readings 56 = .ok (.iload 8, 2) := by decide +kernel
theorem dX10_readings_58 : decode cX10_readings 58 = .ok (.bipush 16, 2) := by decide +kernel
theorem dX10_readings_60 : decode cX10_readings 60 = .ok (.if_icmp .ge 84, 3) := by decide +kernel
theorem dX10_readings_63 : decode cX10_readings 63 = .ok (.aload_n 0, 1) := by decide +kernel
theorem dX10_readings_64 : decode cX10_readings 64 = .ok (.getfield 19, 3) := by decide +kernel
theorem dX10_readings_67 : decode cX10_readings 67 = .ok (.iload 8, 2) := by decide +kernel
theorem dX10_readings_69 : decode cX10_readings 69 = .ok (.invokevirtual 156, 3) := by decide +kernel
theorem dX10_readings_72 : decode cX10_readings 72 = .ok (.ifCond .ne 6, 3) := by decide +kernel
theorem dX10_readings_75 : decode cX10_readings 75 = .ok (.goto 63, 3) := by decide +kernel
theorem dX10_readings_78 : decode cX10_readings 78 = .ok (.aload_n 0, 1) := by decide +kernel
theorem dX10_readings_79 : decode cX10_readings 79 = .ok (.getfield 10, 3) := by decide +kernel
theorem dX10_readings_82 : decode cX10_readings 82 = .ok (.iload 7, 2) := by decide +kernel
theorem dX10_readings_84 : decode cX10_readings 84 = .ok (.invokevirtual 266, 3) := by decide +kernel
theorem dX10_readings_87 : decode cX10_readings 87 = .ok (.aload_n 0, 1) := by decide +kernel
theorem dX10_readings_88 : decode cX10_readings 88 = .ok (.getfield 10, 3) := by decide +kernel
theorem dX10_readings_91 : decode cX10_readings 91 = .ok (.iload 7, 2) := by decide +kernel
theorem dX10_readings_93 : decode cX10_readings 93 = .ok (.iconst 1, 1) := by decide +kernel
theorem dX10_readings_94 : decode cX10_readings 94 = .ok (.iadd, 1) := by decide +kernel
theorem dX10_readings_95 : decode cX10_readings 95 = .ok (.invokevirtual 266, 3) := by decide +kernel
theorem dX10_readings_98 : decode cX10_readings 98 = .ok (.isub, 1) := by decide +kernel
theorem dX10_readings_99 : decode cX10_readings 99 = .ok (.istore 9, 2) := by decide +kernel
theorem dX10_readings_101 : decode cX10_readings 101 = .ok (.iinc 7 2, 3) := by decide +kernel
theorem dX10_readings_104 : decode cX10_readings 104 = .ok (.iload 9, 2) := by decide +kernel
theorem dX10_readings_106 : decode cX10_readings 106 = .ok (.ifCond .le 17, 3) := by decide +kernel
theorem dX10_readings_109 : decode cX10_readings 109 = .ok (.iload_n 3, 1) := by decide +kernel
theorem dX10_readings_110 : decode cX10_readings 110 = .ok (.iconst 1, 1) := by decide +kernel
theorem dX10_readings_111 : decode cX10_readings 111 = .ok (.iload 8, 2) := by decide +kernel
theorem dX10_readings_113 : decode cX10_readings 113 = .ok (.ishl, 1) := by decide +kernel
theorem dX10_readings_114 : decode cX10_readings 114 = .ok (.ior, 1) := by decide +kernel
theorem dX10_readings_115 : decode cX10_readings 115 = .ok (.istore_n 3, 1) := by decide +kernel
theorem dX10_readings_116 : decode cX10_readings 116 = .ok (.iload 6, 2) := by decide +kernel
theorem dX10_readings_118 : decode cX10_readings 118 = .ok (.iload 9, 2) := by decide +kernel
theorem dX10_readings_120 : decode cX10_readings 120 = .ok (.iadd, 1) := by decide +kernel
theorem dX10_readings_121 : decode cX10_readings 121 = .ok (.istore 6, 2) := by decide +kernel
theorem dX10_readings_123 : decode cX10_readings 123 = .ok (.iload 9, 2) := by decide +kernel
theorem dX10_readings_125 : decode cX10_readings 125 = .ok (.iload 5, 2) := by decide +kernel
theorem dX10_readings_127 : decode cX10_readings 127 = .ok (.if_icmp .le 11, 3) := by decide +kernel
theorem dX10_readings_130 : decode cX10_readings 130 = .ok (.iload 9, 2) := by decide +kernel
theorem dX10_readings_132 : decode cX10_readings 132 = .ok (.istore 5, 2) := by decide +kernel
theorem dX10_readings_134 : decode cX10_readings 134 = .ok (.iload 8, 2) := by decide +kernel
theorem dX10_readings_136 : decode cX10_readings 136 = .ok (.istore 4, 2) := by decide +kernel
theorem dX10_readings_138 : decode cX10_readings 138 = .ok (.iinc 8 1, 3) := by decide +kernel
theorem dX10_readings_141 : decode cX10_readings 141 = .ok (.goto (-85), 3) := by decide +kernel
theorem dX10_readings_144 : decode cX10_readings 144 = .ok (.iload_n 1, 1) := by decide +kernel
theorem dX10_readings_145 : decode cX10_readings 145 = .ok (.ifCond .ne 7, 3) := by decide +kernel
theorem dX10_readings_148 : decode cX10_readings 148 = .ok (.iload_n 3, 1) := by decide +kernel
theorem dX10_readings_149 : decode cX10_readings 149 = .ok (.goto 15, 3) := by decide +kernel
theorem dX10_readings_152 : decode cX10_readings 152 = .ok (.iload_n 1, 1) := by decide +kernel
theorem dX10_readings_153 : decode cX10_readings 153 = .ok (.iconst 1, 1) := by decide +kernel
theorem dX10_readings_154 : decode cX10_readings 154 = .ok (.if_icmp .ne 8, 3) := by decide +kernel
theorem dX10_readings_157 : decode cX10_readings 157 = .ok (.iload 4, 2) := by decide +kernel
theorem dX10_readings_159 : decode cX10_readings 159 = .ok (.goto 5, 3) := by decide +kernel
theorem dX10_readings_162 : decode cX10_readings 162 = .ok (.iload 6, 2) := by decide +kernel
theorem dX10_readings_164 : decode cX10_readings 164 = .ok (.ireturn, 1) := by decide +kernel
theorem dX10_hose_0 : decode cX10_hose 0 = .ok (.iload_n 1, 1) := by decide +kernel
theorem dX10_hose_1 : decode cX10_hose 1 = .ok (.iconst 1, 1) := by decide +kernel
theorem dX10_hose_2 : decode cX10_hose 2 = .ok (.if_icmp .lt 24, 3) := by decide +kernel
theorem dX10_hose_5 : decode cX10_hose 5 = .ok (.iload_n 1, 1) := by decide +kernel
theorem dX10_hose_6 : decode cX10_hose 6 = .ok (.bipush 12, 2) := by decide +kernel
theorem dX10_hose_8 : decode cX10_hose 8 = .ok (.if_icmp .gt 18, 3) := by decide +kernel
theorem dX10_hose_11 : decode cX10_hose 11 = .ok (.iload_n 2, 1) := by decide +kernel
theorem dX10_hose_12 : decode cX10_hose 12 = .ok (.iconst 1, 1) := by decide +kernel
theorem dX10_hose_13 : decode cX10_hose 13 = .ok (.if_icmp .lt 13, 3) := by decide +kernel
theorem dX10_hose_16 : decode cX10_hose 16 = .ok (.iload_n 2, 1) := by decide +kernel
theorem dX10_hose_17 : decode cX10_hose 17 = .ok (.bipush 6, 2) := by decide +kernel
theorem dX10_hose_19 : decode cX10_hose 19 = .ok (.if_icmp .gt 7, 3) := by decide +kernel
theorem dX10_hose_22 : decode cX10_hose 22 = .ok (.iconst 1, 1) := by decide +kernel
theorem dX10_hose_23 : decode cX10_hose 23 = .ok (.goto 4, 3) := by decide +kernel
theorem dX10_hose_26 : decode cX10_hose 26 = .ok (.iconst 0, 1) := by decide +kernel
theorem dX10_hose_27 : decode cX10_hose 27 = .ok (.istore 4, 2) := by decide +kernel
theorem dX10_hose_29 : decode cX10_hose 29 = .ok (.iload_n 3, 1) := by decide +kernel
theorem dX10_hose_30 : decode cX10_hose 30 = .ok (.bipush 100, 2) := by decide +kernel
theorem dX10_hose_32 : decode cX10_hose 32 = .ok (.if_icmp .eq 12, 3) := by decide +kernel
theorem dX10_hose_35 : decode cX10_hose 35 = .ok (.iload_n 3, 1) := by decide +kernel
theorem dX10_hose_36 : decode cX10_hose 36 = .ok (.ifCond .lt 12, 3) := by decide +kernel
theorem dX10_hose_39 : decode cX10_hose 39 = .ok (.iload_n 3, 1) := by decide +kernel
theorem dX10_hose_40 : decode cX10_hose 40 = .ok (.iload_n 1, 1) := by decide +kernel
theorem dX10_hose_41 : decode cX10_hose 41 = .ok (.if_icmp .ge 7, 3) := by decide +kernel
theorem dX10_hose_44 : decode cX10_hose 44 = .ok (.iconst 1, 1) := by decide +kernel
theorem dX10_hose_45 : decode cX10_hose 45 = .ok (.goto 4, 3) := by decide +kernel
theorem dX10_hose_48 : decode cX10_hose 48 = .ok (.iconst 0, 1) := by decide +kernel
theorem dX10_hose_49 : decode cX10_hose 49 = .ok (.istore 5, 2) := by decide +kernel
theorem dX10_hose_51 : decode cX10_hose 51 = .ok (.iload 4, 2) := by decide +kernel
theorem dX10_hose_53 : decode cX10_hose 53 = .ok (.ifCond .eq 24, 3) := by decide +kernel
theorem dX10_hose_56 : decode cX10_hose 56 = .ok (.iload 5, 2) := by decide +kernel
theorem dX10_hose_58 : decode cX10_hose 58 = .ok (.ifCond .eq 19, 3) := by decide +kernel
theorem dX10_hose_61 : decode cX10_hose 61 = .ok (.aload_n 0, 1) := by decide +kernel
theorem dX10_hose_62 : decode cX10_hose 62 = .ok (.getfield 10, 3) := by decide +kernel
theorem dX10_hose_65 : decode cX10_hose 65 = .ok (.iload_n 1, 1) := by decide +kernel
theorem dX10_hose_66 : decode cX10_hose 66 = .ok (.iload_n 2, 1) := by decide +kernel
theorem dX10_hose_67 : decode cX10_hose 67 = .ok (.imul, 1) := by decide +kernel
theorem dX10_hose_68 : decode cX10_hose 68 = .ok (.iconst 1, 1) := by decide +kernel
theorem dX10_hose_69 : decode cX10_hose 69 = .ok (.bipush 72, 2) := by decide +kernel
theorem dX10_hose_71 : decode cX10_hose 71 = .ok (.invokevirtual 109, 3) := by decide +kernel
theorem dX10_hose_74 : decode cX10_hose 74 = .ok (.ifCond .ne 5, 3) := by decide +kernel
theorem dX10_hose_77 : decode cX10_hose 77 = .ok (.iconst (-1), 1) := by decide +kernel
theorem dX10_hose_78 : decode cX10_hose 78 = .ok (.ireturn, 1) := by decide +kernel
theorem dX10_hose_79 : decode cX10_hose 79 = .ok (.aload_n 0, 1) := by decide +kernel
theorem dX10_hose_80 : decode cX10_hose 80 = .ok (.getfield 97, 3) := by decide +kernel
theorem dX10_hose_83 : decode cX10_hose 83 = .ok (.iconst 0, 1) := by decide +kernel
theorem dX10_hose_84 : decode cX10_hose 84 = .ok (.invokestatic 269, 3) := by decide +kernel
theorem dX10_hose_87 : decode cX10_hose 87 = .ok (.iconst 0, 1) := by decide +kernel
theorem dX10_hose_88 : decode cX10_hose 88 = .ok (.istore 6, 2) := by decide +kernel
theorem dX10_hose_90 : decode cX10_hose 90 = .ok (.iconst 0, 1) := by decide +kernel
theorem dX10_hose_91 : decode cX10_hose 91 = .ok (.istore 7, 2) := by decide +kernel
theorem dX10_hose_93 : decode cX10_hose 93 = .ok (.iload 7, 2) := by decide +kernel
theorem dX10_hose_95 : decode cX10_hose 95 = .ok (.iload_n 1, 1) := by decide +kernel
theorem dX10_hose_96 : decode cX10_hose 96 = .ok (.if_icmp .ge 117, 3) := by decide +kernel
theorem dX10_hose_99 : decode cX10_hose 99 = .ok (.iconst 0, 1) := by decide +kernel
theorem dX10_hose_100 : decode cX10_hose 100 = .ok (.istore 8, 2) := by decide +kernel
theorem dX10_hose_102 : decode cX10_hose 102 = .ok (.aload_n 0, 1) := by decide +kernel
theorem dX10_hose_103 : decode cX10_hose 103 = .ok (.getfield 97, 3) := by decide +kernel
theorem dX10_hose_106 : decode cX10_hose 106 = .ok (.iconst 0, 1) := by decide +kernel
theorem dX10_hose_107 : decode cX10_hose 107 = .ok (.iaload, 1) := by decide +kernel
theorem dX10_hose_108 : decode cX10_hose 108 = .ok (.iconst 2, 1) := by decide +kernel
theorem dX10_hose_109 : decode cX10_hose 109 = .ok (.aload_n 0, 1) := by decide +kernel
theorem dX10_hose_110 : decode cX10_hose 110 = .ok (.getfield 10, 3) := by decide +kernel
theorem dX10_hose_113 : decode cX10_hose 113 = .ok (.iload 7, 2) := by decide +kernel
theorem dX10_hose_115 : decode cX10_hose 115 = .ok (.iload_n 2, 1) := by decide +kernel
theorem dX10_hose_116 : decode cX10_hose 116 = .ok (.imul, 1) := by decide +kernel
theorem dX10_hose_117 : decode cX10_hose 117 = .ok (.invokevirtual 266, 3) := by decide +kernel
theorem dX10_hose_120 : decode cX10_hose 120 = .ok (.imul, 1) := by decide +kernel
theorem dX10_hose_121 : decode cX10_hose 121 = .ok (.iadd, 1) := by decide +kernel
theorem dX10_hose_122 : decode cX10_hose 122 = .ok (.istore 9, 2) := by decide +kernel
theorem dX10_hose_124 : decode cX10_hose 124 = .ok (.iconst 1, 1) := by decide +kernel
theorem dX10_hose_125 : decode cX10_hose 125 = .ok (.istore 10, 2) := by decide +kernel
theorem dX10_hose_127 : decode cX10_hose 127 = .ok (.iload 10, 2) := by decide +kernel
theorem dX10_hose_129 : decode cX10_hose 129 = .ok (.iload_n 2, 1) := by decide +kernel
theorem dX10_hose_130 : decode cX10_hose 130 = .ok (.if_icmp .ge 50, 3) := by decide +kernel
theorem dX10_hose_133 : decode cX10_hose 133 = .ok (.aload_n 0, 1) := by decide +kernel
theorem dX10_hose_134 : decode cX10_hose 134 = .ok (.getfield 97, 3) := by decide +kernel
theorem dX10_hose_137 : decode cX10_hose 137 = .ok (.iload 10, 2) := by decide +kernel
theorem dX10_hose_139 : decode cX10_hose 139 = .ok (.iaload, 1) := by decide +kernel
theorem dX10_hose_140 : decode cX10_hose 140 = .ok (.iconst 2, 1) := by decide +kernel
theorem dX10_hose_141 : decode cX10_hose 141 = .ok (.aload_n 0, 1) := by decide +kernel
theorem dX10_hose_142 : decode cX10_hose 142 = .ok (.getfield 10, 3) := by decide +kernel
theorem dX10_hose_145 : decode cX10_hose 145 = .ok (.iload 7, 2) := by decide +kernel
theorem dX10_hose_147 : decode cX10_hose 147 = .ok (.iload_n 2, 1) := by decide +kernel
theorem dX10_hose_148 : decode cX10_hose 148 = .ok (.imul, 1) := by decide +kernel
theorem dX10_hose_149 : decode cX10_hose 149 = .ok (.iload 10, 2) := by decide +kernel
theorem dX10_hose_151 : decode cX10_hose 151 = .ok (.iadd, 1) := by decide +kernel
theorem dX10_hose_152 : decode cX10_hose 152 = .ok (.invokevirtual 266, 3) := by decide +kernel
theorem dX10_hose_155 : decode cX10_hose 155 = .ok (.imul, 1) := by decide +kernel
theorem dX10_hose_156 : decode cX10_hose 156 = .ok (.iadd, 1) := by decide +kernel
theorem dX10_hose_157 : decode cX10_hose 157 = .ok (.istore 11, 2) := by decide +kernel
theorem dX10_hose_159 : decode cX10_hose 159 = .ok (.iload 11, 2) := by decide +kernel
theorem dX10_hose_161 : decode cX10_hose 161 = .ok (.iload 9, 2) := by decide +kernel
theorem dX10_hose_163 : decode cX10_hose 163 = .ok (.if_icmp .ge 11, 3) := by decide +kernel
theorem dX10_hose_166 : decode cX10_hose 166 = .ok (.iload 10, 2) := by decide +kernel
theorem dX10_hose_168 : decode cX10_hose 168 = .ok (.istore 8, 2) := by decide +kernel
theorem dX10_hose_170 : decode cX10_hose 170 = .ok (.iload 11, 2) := by decide +kernel
theorem dX10_hose_172 : decode cX10_hose 172 = .ok (.istore 9, 2) := by decide +kernel
theorem dX10_hose_174 : decode cX10_hose 174 = .ok (.iinc 10 1, 3) := by decide +kernel
theorem dX10_hose_177 : decode cX10_hose 177 = .ok (.goto (-50), 3) := by decide +kernel
theorem dX10_hose_180 : decode cX10_hose 180 = .ok (.iload 7, 2) := by decide +kernel
theorem dX10_hose_182 : decode cX10_hose 182 = .ok (.iload_n 3, 1) := by decide +kernel
theorem dX10_hose_183 : decode cX10_hose 183 = .ok (.if_icmp .ne 6, 3) := by decide +kernel
theorem dX10_hose_186 : decode cX10_hose 186 = .ok (.iload 8, 2) := by decide +kernel
theorem dX10_hose_188 : decode cX10_hose 188 = .ok (.ireturn, 1) := by decide +kernel
theorem dX10_hose_189 : decode cX10_hose 189 = .ok (.aload_n 0, 1) := by decide +kernel
theorem dX10_hose_190 : decode cX10_hose 190 = .ok (.getfield 97, 3) := by decide +kernel
theorem dX10_hose_193 : decode cX10_hose 193 = .ok (.iload 8, 2) := by decide +kernel
theorem dX10_hose_195 : decode cX10_hose 195 = .ok (.iload 9, 2) := by decide +kernel
theorem dX10_hose_197 : decode cX10_hose 197 = .ok (.iastore, 1) := by decide +kernel
theorem dX10_hose_198 : decode cX10_hose 198 = .ok (.iload 6, 2) := by decide +kernel
theorem dX10_hose_200 : decode cX10_hose 200 = .ok (.iload 9, 2) := by decide +kernel
theorem dX10_hose_202 : decode cX10_hose 202 = .ok (.invokestatic 275, 3) := by decide +kernel
theorem dX10_hose_205 : decode cX10_hose 205 = .ok (.istore 6, 2) := by decide +kernel
theorem dX10_hose_207 : decode cX10_hose 207 = .ok (.iinc 7 1, 3) := by decide +kernel
theorem dX10_hose_210 : decode cX10_hose 210 = .ok (.goto (-117), 3) := by decide +kernel
theorem dX10_hose_213 : decode cX10_hose 213 = .ok (.iload 6, 2) := by decide +kernel
theorem dX10_hose_215 : decode cX10_hose 215 = .ok (.ireturn, 1) := by decide +kernel
theorem dX10_seed_0 : decode cX10_seed 0 = .ok (.iload_n 1, 1) := by decide +kernel
theorem dX10_seed_1 : decode cX10_seed 1 = .ok (.ifCond .lt 10, 3) := by decide +kernel
theorem dX10_seed_4 : decode cX10_seed 4 = .ok (.iload_n 1, 1) := by decide +kernel
theorem dX10_seed_5 : decode cX10_seed 5 = .ok (.ldc_w 280, 3) := by decide +kernel
theorem dX10_seed_8 : decode cX10_seed 8 = .ok (.if_icmp .lt 5, 3) := by decide +kernel
theorem dX10_seed_11 : decode cX10_seed 11 = .ok (.iconst 0, 1) := by decide +kernel
theorem dX10_seed_12 : decode cX10_seed 12 = .ok (.ireturn, 1) := by decide +kernel
theorem dX10_seed_13 : decode cX10_seed 13 = .ok (.aload_n 0, 1) := by decide +kernel
theorem dX10_seed_14 : decode cX10_seed 14 = .ok (.getfield 46, 3) := by decide +kernel
theorem dX10_seed_17 : decode cX10_seed 17 = .ok (.iload_n 1, 1) := by decide +kernel
theorem dX10_seed_18 : decode cX10_seed 18 = .ok (.putfield 281, 3) := by decide +kernel
theorem dX10_seed_21 : decode cX10_seed 21 = .ok (.iconst 1, 1) := by decide +kernel
theorem dX10_seed_22 : decode cX10_seed 22 = .ok (.ireturn, 1) := by decide +kernel
theorem dX10_keep_0 : decode cX10_keep 0 = .ok (.aload_n 0, 1) := by decide +kernel
theorem dX10_keep_1 : decode cX10_keep 1 = .ok (.getfield 50, 3) := by decide +kernel
theorem dX10_keep_4 : decode cX10_keep 4 = .ok (.aload_n 0, 1) := by decide +kernel
theorem dX10_keep_5 : decode cX10_keep 5 = .ok (.getfield 46, 3) := by decide +kernel
theorem dX10_keep_8 : decode cX10_keep 8 = .ok (.invokevirtual 159, 3) := by decide +kernel
theorem dX10_keep_11 : decode cX10_keep 11 = .ok (.aload_n 0, 1) := by decide +kernel
theorem dX10_keep_12 : decode cX10_keep 12 = .ok (.iconst 1, 1) := by decide +kernel
theorem dX10_keep_13 : decode cX10_keep 13 = .ok (.putfield 284, 3) := by decide +kernel
theorem dX10_keep_16 : decode cX10_keep 16 = .ok (.aload_n 0, 1) := by decide +kernel
theorem dX10_keep_17 : decode cX10_keep 17 = .ok (.getfield 46, 3) := by decide +kernel
theorem dX10_keep_20 : decode cX10_keep 20 = .ok (.getfield 288, 3) := by decide +kernel
theorem dX10_keep_23 : decode cX10_keep 23 = .ok (.ireturn, 1) := by decide +kernel
theorem dX10_undo_0 : decode cX10_undo 0 = .ok (.aload_n 0, 1) := by decide +kernel
theorem dX10_undo_1 : decode cX10_undo 1 = .ok (.getfield 284, 3) := by decide +kernel
theorem dX10_undo_4 : decode cX10_undo 4 = .ok (.ifCond .eq 14, 3) := by decide +kernel
theorem dX10_undo_7 : decode cX10_undo 7 = .ok (.aload_n 0, 1) := by decide +kernel
theorem dX10_undo_8 : decode cX10_undo 8 = .ok (.getfield 46, 3) := by decide +kernel
theorem dX10_undo_11 : decode cX10_undo 11 = .ok (.aload_n 0, 1) := by decide +kernel
theorem dX10_undo_12 : decode cX10_undo 12 = .ok (.getfield 50, 3) := by decide +kernel
theorem dX10_undo_15 : decode cX10_undo 15 = .ok (.invokevirtual 291, 3) := by decide +kernel
theorem dX10_undo_18 : decode cX10_undo 18 = .ok (.aload_n 0, 1) := by decide +kernel
theorem dX10_undo_19 : decode cX10_undo 19 = .ok (.getfield 284, 3) := by decide +kernel
theorem dX10_undo_22 : decode cX10_undo 22 = .ok (.ireturn, 1) := by decide +kernel
theorem dX10_check_0 : decode cX10_check 0 = .ok (.aload_n 0, 1) := by decide +kernel
theorem dX10_check_1 : decode cX10_check 1 = .ok (.getfield 10, 3) := by decide +kernel
theorem dX10_check_4 : decode cX10_check 4 = .ok (.iload_n 1, 1) := by decide +kernel
theorem dX10_check_5 : decode cX10_check 5 = .ok (.iconst 0, 1) := by decide +kernel
theorem dX10_check_6 : decode cX10_check 6 = .ok (.bipush 16, 2) := by decide +kernel
theorem dX10_check_8 : decode cX10_check 8 = .ok (.invokevirtual 109, 3) := by decide +kernel
theorem dX10_check_11 : decode cX10_check 11 = .ok (.ifCond .ne 6, 3) := by decide +kernel
theorem dX10_check_14 : decode cX10_check 14 = .ok (.bipush (-2), 2) := by decide +kernel
theorem dX10_check_16 : decode cX10_check 16 = .ok (.ireturn, 1) := by decide +kernel
theorem dX10_check_17 : decode cX10_check 17 = .ok (.iconst 0, 1) := by decide +kernel
theorem dX10_check_18 : decode cX10_check 18 = .ok (.istore_n 2, 1) := by decide +kernel
theorem dX10_check_19 : decode cX10_check 19 = .ok (.iload_n 2, 1) := by decide +kernel
theorem dX10_check_20 : decode cX10_check 20 = .ok (.iload_n 1, 1) := by decide +kernel
theorem dX10_check_21 : decode cX10_check 21 = .ok (.if_icmp .ge 50, 3) := by decide +kernel
theorem dX10_check_24 : decode cX10_check 24 = .ok (.aload_n 0, 1) := by decide +kernel
theorem dX10_check_25 : decode cX10_check 25 = .ok (.getfield 19, 3) := by decide +kernel
theorem dX10_check_28 : decode cX10_check 28 = .ok (.iload_n 2, 1) := by decide +kernel
theorem dX10_check_29 : decode cX10_check 29 = .ok (.invokevirtual 156, 3) := by decide +kernel
theorem dX10_check_32 : decode cX10_check 32 = .ok (.ifCond .eq 15, 3) := by decide +kernel
theorem dX10_check_35 : decode cX10_check 35 = .ok (.aload_n 0, 1) := by decide +kernel
theorem dX10_check_36 : decode cX10_check 36 = .ok (.getfield 46, 3) := by decide +kernel
theorem dX10_check_39 : decode cX10_check 39 = .ok (.getfield 177, 3) := by decide +kernel
theorem dX10_check_42 : decode cX10_check 42 = .ok (.iload_n 2, 1) := by decide +kernel
theorem dX10_check_43 : decode cX10_check 43 = .ok (.iaload, 1) := by decide +kernel
theorem dX10_check_44 : decode cX10_check 44 = .ok (.goto 6, 3) := by decide +kernel
theorem dX10_check_47 : decode cX10_check 47 = .ok (.sipush 255, 3) := by decide +kernel
theorem dX10_check_50 : decode cX10_check 50 = .ok (.istore_n 3, 1) := by decide +kernel
theorem dX10_check_51 : decode cX10_check 51 = .ok (.aload_n 0, 1) := by decide +kernel
theorem dX10_check_52 : decode cX10_check 52 = .ok (.getfield 10, 3) := by decide +kernel
theorem dX10_check_55 : decode cX10_check 55 = .ok (.iload_n 2, 1) := by decide +kernel
theorem dX10_check_56 : decode cX10_check 56 = .ok (.invokevirtual 266, 3) := by decide +kernel
theorem dX10_check_59 : decode cX10_check 59 = .ok (.iload_n 3, 1) := by decide +kernel
theorem dX10_check_60 : decode cX10_check 60 = .ok (.if_icmp .eq 5, 3) := by decide +kernel
theorem dX10_check_63 : decode cX10_check 63 = .ok (.iload_n 2, 1) := by decide +kernel
theorem dX10_check_64 : decode cX10_check 64 = .ok (.ireturn, 1) := by decide +kernel
theorem dX10_check_65 : decode cX10_check 65 = .ok (.iinc 2 1, 3) := by decide +kernel
theorem dX10_check_68 : decode cX10_check 68 = .ok (.goto (-49), 3) := by decide +kernel
theorem dX10_check_71 : decode cX10_check 71 = .ok (.iconst (-1), 1) := by decide +kernel
theorem dX10_check_72 : decode cX10_check 72 = .ok (.ireturn, 1) := by decide +kernel
theorem dX10_count_0 : decode cX10_count 0 = .ok (.iload_n 1, 1) := by decide +kernel
theorem dX10_count_1 : decode cX10_count 1 = .ok (.tableswitch 157 0 10 #[59, 67, 75, 83, 94, 102, 110, 118, 126, 134, 142], 59) := by decide +kernel
theorem dX10_count_60 : decode cX10_count 60 = .ok (.aload_n 0, 1) := by decide +kernel
theorem dX10_count_61 : decode cX10_count 61 = .ok (.getfield 46, 3) := by decide +kernel
theorem dX10_count_64 : decode cX10_count 64 = .ok (.getfield 288, 3) := by decide +kernel
theorem dX10_count_67 : decode cX10_count 67 = .ok (.ireturn, 1) := by decide +kernel
theorem dX10_count_68 : decode cX10_count 68 = .ok (.aload_n 0, 1) := by decide +kernel
theorem dX10_count_69 : decode cX10_count 69 = .ok (.getfield 19, 3) := by decide +kernel
theorem dX10_count_72 : decode cX10_count 72 = .ok (.getfield 130, 3) := by decide +kernel
theorem dX10_count_75 : decode cX10_count 75 = .ok (.ireturn, 1) := by decide +kernel
theorem dX10_count_76 : decode cX10_count 76 = .ok (.aload_n 0, 1) := by decide +kernel
theorem dX10_count_77 : decode cX10_count 77 = .ok (.getfield 19, 3) := by decide +kernel
theorem dX10_count_80 : decode cX10_count 80 = .ok (.getfield 133, 3) := by decide +kernel
theorem dX10_count_83 : decode cX10_count 83 = .ok (.ireturn, 1) := by decide +kernel
theorem dX10_count_84 : decode cX10_count 84 = .ok (.aload_n 0, 1) := by decide +kernel
theorem dX10_count_85 : decode cX10_count 85 = .ok (.getfield 46, 3) := by decide +kernel
theorem dX10_count_88 : decode cX10_count 88 = .ok (.getfield 180, 3) := by decide +kernel
theorem dX10_count_91 : decode cX10_count 91 = .ok (.invokestatic 223, 3) := by decide +kernel
theorem dX10_count_94 : decode cX10_count 94 = .ok (.ireturn, 1) := by decide +kernel
theorem dX10_count_95 : decode cX10_count 95 = .ok (.aload_n 0, 1) := by decide +kernel
theorem dX10_count_96 : decode cX10_count 96 = .ok (.getfield 46, 3) := by decide +kernel
theorem dX10_count_99 : decode cX10_count 99 = .ok (.getfield 167, 3) := by decide +kernel
theorem dX10_count_102 : decode cX10_count 102 = .ok (.ireturn, 1) := by decide +kernel
theorem dX10_count_103 : decode cX10_count 103 = .ok (.aload_n 0, 1) := by decide +kernel
theorem dX10_count_104 : decode cX10_count 104 = .ok (.getfield 29, 3) := by decide +kernel
theorem dX10_count_107 : decode cX10_count 107 = .ok (.getfield 124, 3) := by decide +kernel
theorem dX10_count_110 : decode cX10_count 110 = .ok (.ireturn, 1) := by decide +kernel
theorem dX10_count_111 : decode cX10_count 111 = .ok (.aload_n 0, 1) := by decide +kernel
theorem dX10_count_112 : decode cX10_count 112 = .ok (.getfield 10, 3) := by decide +kernel
theorem dX10_count_115 : decode cX10_count 115 = .ok (.getfield 101, 3) := by decide +kernel
theorem dX10_count_118 : decode cX10_count 118 = .ok (.ireturn, 1) := by decide +kernel
theorem dX10_count_119 : decode cX10_count 119 = .ok (.aload_n 0, 1) := by decide +kernel
theorem dX10_count_120 : decode cX10_count 120 = .ok (.getfield 46, 3) := by decide +kernel
theorem dX10_count_123 : decode cX10_count 123 = .ok (.getfield 281, 3) := by decide +kernel
theorem dX10_count_126 : decode cX10_count 126 = .ok (.ireturn, 1) := by decide +kernel
theorem dX10_count_127 : decode cX10_count 127 = .ok (.aload_n 0, 1) := by decide +kernel
theorem dX10_count_128 : decode cX10_count 128 = .ok (.getfield 46, 3) := by decide +kernel
theorem dX10_count_131 : decode cX10_count 131 = .ok (.invokevirtual 170, 3) := by decide +kernel
theorem dX10_count_134 : decode cX10_count 134 = .ok (.ireturn, 1) := by decide +kernel
theorem dX10_count_135 : decode cX10_count 135 = .ok (.aload_n 0, 1) := by decide +kernel
theorem dX10_count_136 : decode cX10_count 136 = .ok (.getfield 46, 3) := by decide +kernel
theorem dX10_count_139 : decode cX10_count 139 = .ok (.invokevirtual 294, 3) := by decide +kernel
theorem dX10_count_142 : decode cX10_count 142 = .ok (.ireturn, 1) := by decide +kernel
theorem dX10_count_143 : decode cX10_count 143 = .ok (.aload_n 0, 1) := by decide +kernel
theorem dX10_count_144 : decode cX10_count 144 = .ok (.getfield 70, 3) := by decide +kernel
theorem dX10_count_147 : decode cX10_count 147 = .ok (.aload_n 0, 1) := by decide +kernel
theorem dX10_count_148 : decode cX10_count 148 = .ok (.getfield 46, 3) := by decide +kernel
theorem dX10_count_151 : decode cX10_count 151 = .ok (.getfield 180, 3) := by decide +kernel
theorem dX10_count_154 : decode cX10_count 154 = .ok (.invokevirtual 297, 3) := by decide +kernel
theorem dX10_count_157 : decode cX10_count 157 = .ok (.ireturn, 1) := by decide +kernel
theorem dX10_count_158 : decode cX10_count 158 = .ok (.iconst (-1), 1) := by decide +kernel
theorem dX10_count_159 : decode cX10_count 159 = .ok (.ireturn, 1) := by decide +kernel
theorem dX10_areTwo_0 : decode cX10_areTwo 0 = .ok (.aload_n 0, 1) := by decide +kernel
theorem dX10_areTwo_1 : decode cX10_areTwo 1 = .ok (.getfield 19, 3) := by decide +kernel
theorem dX10_areTwo_4 : decode cX10_areTwo 4 = .ok (.iload_n 1, 1) := by decide +kernel
theorem dX10_areTwo_5 : decode cX10_areTwo 5 = .ok (.invokevirtual 156, 3) := by decide +kernel
theorem dX10_areTwo_8 : decode cX10_areTwo 8 = .ok (.ifCond .eq 23, 3) := by decide +kernel
theorem dX10_areTwo_11 : decode cX10_areTwo 11 = .ok (.aload_n 0, 1) := by decide +kernel
theorem dX10_areTwo_12 : decode cX10_areTwo 12 = .ok (.getfield 19, 3) := by decide +kernel
theorem dX10_areTwo_15 : decode cX10_areTwo 15 = .ok (.iload_n 2, 1) := by decide +kernel
theorem dX10_areTwo_16 : decode cX10_areTwo 16 = .ok (.invokevirtual 156, 3) := by decide +kernel
theorem dX10_areTwo_19 : decode cX10_areTwo 19 = .ok (.ifCond .eq 12, 3) := by decide +kernel
theorem dX10_areTwo_22 : decode cX10_areTwo 22 = .ok (.iload_n 1, 1) := by decide +kernel
theorem dX10_areTwo_23 : decode cX10_areTwo 23 = .ok (.iload_n 2, 1) := by decide +kernel
theorem dX10_areTwo_24 : decode cX10_areTwo 24 = .ok (.if_icmp .eq 7, 3) := by decide +kernel
theorem dX10_areTwo_27 : decode cX10_areTwo 27 = .ok (.iconst 1, 1) := by decide +kernel
theorem dX10_areTwo_28 : decode cX10_areTwo 28 = .ok (.goto 4, 3) := by decide +kernel
theorem dX10_areTwo_31 : decode cX10_areTwo 31 = .ok (.iconst 0, 1) := by decide +kernel
theorem dX10_areTwo_32 : decode cX10_areTwo 32 = .ok (.ireturn, 1) := by decide +kernel
theorem dX10_isSpan_0 : decode cX10_isSpan 0 = .ok (.iload_n 0, 1) := by decide +kernel
theorem dX10_isSpan_1 : decode cX10_isSpan 1 = .ok (.iconst 1, 1) := by decide +kernel
theorem dX10_isSpan_2 : decode cX10_isSpan 2 = .ok (.if_icmp .lt 13, 3) := by decide +kernel
theorem dX10_isSpan_5 : decode cX10_isSpan 5 = .ok (.iload_n 0, 1) := by decide +kernel
theorem dX10_isSpan_6 : decode cX10_isSpan 6 = .ok (.bipush 100, 2) := by decide +kernel
theorem dX10_isSpan_8 : decode cX10_isSpan 8 = .ok (.if_icmp .gt 7, 3) := by decide +kernel
theorem dX10_isSpan_11 : decode cX10_isSpan 11 = .ok (.iconst 1, 1) := by decide +kernel
theorem dX10_isSpan_12 : decode cX10_isSpan 12 = .ok (.goto 4, 3) := by decide +kernel
theorem dX10_isSpan_15 : decode cX10_isSpan 15 = .ok (.iconst 0, 1) := by decide +kernel
theorem dX10_isSpan_16 : decode cX10_isSpan 16 = .ok (.ireturn, 1) := by decide +kernel
theorem dX10_hasBit_0 : decode cX10_hasBit 0 = .ok (.iload_n 0, 1) := by decide +kernel
theorem dX10_hasBit_1 : decode cX10_hasBit 1 = .ok (.iload_n 1, 1) := by decide +kernel
theorem dX10_hasBit_2 : decode cX10_hasBit 2 = .ok (.ishr, 1) := by decide +kernel
theorem dX10_hasBit_3 : decode cX10_hasBit 3 = .ok (.iconst 1, 1) := by decide +kernel
theorem dX10_hasBit_4 : decode cX10_hasBit 4 = .ok (.iand, 1) := by decide +kernel
theorem dX10_hasBit_5 : decode cX10_hasBit 5 = .ok (.iconst 1, 1) := by decide +kernel
theorem dX10_hasBit_6 : decode cX10_hasBit 6 = .ok (.if_icmp .ne 7, 3) := by decide +kernel
theorem dX10_hasBit_9 : decode cX10_hasBit 9 = .ok (.iconst 1, 1) := by decide +kernel
theorem dX10_hasBit_10 : decode cX10_hasBit 10 = .ok (.goto 4, 3) := by decide +kernel
theorem dX10_hasBit_13 : decode cX10_hasBit 13 = .ok (.iconst 0, 1) := by decide +kernel
theorem dX10_hasBit_14 : decode cX10_hasBit 14 = .ok (.ireturn, 1) := by decide +kernel
theorem dX10_lowest_0 : decode cX10_lowest 0 = .ok (.iload_n 0, 1) := by decide +kernel
theorem dX10_lowest_1 : decode cX10_lowest 1 = .ok (.iload_n 0, 1) := by decide +kernel
theorem dX10_lowest_2 : decode cX10_lowest 2 = .ok (.ineg, 1) := by decide +kernel
theorem dX10_lowest_3 : decode cX10_lowest 3 = .ok (.iand, 1) := by decide +kernel
theorem dX10_lowest_4 : decode cX10_lowest 4 = .ok (.iconst 1, 1) := by decide +kernel
theorem dX10_lowest_5 : decode cX10_lowest 5 = .ok (.isub, 1) := by decide +kernel
theorem dX10_lowest_6 : decode cX10_lowest 6 = .ok (.invokestatic 223, 3) := by decide +kernel
theorem dX10_lowest_9 : decode cX10_lowest 9 = .ok (.ireturn, 1) := by decide +kernel
theorem dX11_init_0 : decode cX11_init 0 = .ok (.aload_n 0, 1) := by decide +kernel
theorem dX11_init_1 : decode cX11_init 1 = .ok (.invokespecial 1, 3) := by decide +kernel
theorem dX11_init_4 : decode cX11_init 4 = .ok (.aload_n 0, 1) := by decide +kernel
theorem dX11_init_5 : decode cX11_init 5 = .ok (.bipush 75, 2) := by decide +kernel
theorem dX11_init_7 : decode cX11_init 7 = .ok (.newarray .int, 2) := by decide +kernel
theorem dX11_init_9 : decode cX11_init 9 = .ok (.putfield 7, 3) := by decide +kernel
theorem dX11_init_12 : decode cX11_init 12 = .ok (.aload_n 0, 1) := by decide +kernel
theorem dX11_init_13 : decode cX11_init 13 = .ok (.bipush 75, 2) := by decide +kernel
theorem dX11_init_15 : decode cX11_init 15 = .ok (.newarray .int, 2) := by decide +kernel
theorem dX11_init_17 : decode cX11_init 17 = .ok (.putfield 13, 3) := by decide +kernel
theorem dX11_init_20 : decode cX11_init 20 = .ok (.aload_n 0, 1) := by decide +kernel
theorem dX11_init_21 : decode cX11_init 21 = .ok (.bipush 75, 2) := by decide +kernel
theorem dX11_init_23 : decode cX11_init 23 = .ok (.newarray .int, 2) := by decide +kernel
theorem dX11_init_25 : decode cX11_init 25 = .ok (.putfield 16, 3) := by decide +kernel
theorem dX11_init_28 : decode cX11_init 28 = .ok (.aload_n 0, 1) := by decide +kernel
theorem dX11_init_29 : decode cX11_init 29 = .ok (.bipush 16, 2) := by decide +kernel
theorem dX11_init_31 : decode cX11_init 31 = .ok (.newarray .int, 2) := by decide +kernel
theorem dX11_init_33 : decode cX11_init 33 = .ok (.putfield 19, 3) := by decide +kernel
theorem dX11_init_36 : decode cX11_init 36 = .ok (.aload_n 0, 1) := by decide +kernel
theorem dX11_init_37 : decode cX11_init 37 = .ok (.bipush 24, 2) := by decide +kernel
theorem dX11_init_39 : decode cX11_init 39 = .ok (.newarray .int, 2) := by decide +kernel
theorem dX11_init_41 : decode cX11_init 41 = .ok (.putfield 22, 3) := by decide +kernel
theorem dX11_init_44 : decode cX11_init 44 = .ok (.aload_n 0, 1) := by decide +kernel
theorem dX11_init_45 : decode cX11_init 45 = .ok (.bipush 24, 2) := by decide +kernel
theorem dX11_init_47 : decode cX11_init 47 = .ok (.newarray .int, 2) := by decide +kernel
theorem dX11_init_49 : decode cX11_init 49 = .ok (.putfield 25, 3) := by decide +kernel
theorem dX11_init_52 : decode cX11_init 52 = .ok (.aload_n 0, 1) := by decide +kernel
theorem dX11_init_53 : decode cX11_init 53 = .ok (.bipush 24, 2) := by decide +kernel
theorem dX11_init_55 : decode cX11_init 55 = .ok (.newarray .int, 2) := by decide +kernel
theorem dX11_init_57 : decode cX11_init 57 = .ok (.putfield 28, 3) := by decide +kernel
theorem dX11_init_60 : decode cX11_init 60 = .ok (.aload_n 0, 1) := by decide +kernel
theorem dX11_init_61 : decode cX11_init 61 = .ok (.sipush 260, 3) := by decide +kernel
theorem dX11_init_64 : decode cX11_init 64 = .ok (.newarray .byte, 2) := by decide +kernel
theorem dX11_init_66 : decode cX11_init 66 = .ok (.putfield 31, 3) := by decide +kernel
theorem dX11_init_69 : decode cX11_init 69 = .ok (.aload_n 0, 1) := by decide +kernel
theorem dX11_init_70 : decode cX11_init 70 = .ok (.sipush 260, 3) := by decide +kernel
theorem dX11_init_73 : decode cX11_init 73 = .ok (.newarray .int, 2) := by decide +kernel
theorem dX11_init_75 : decode cX11_init 75 = .ok (.putfield 35, 3) := by decide +kernel
theorem dX11_init_78 : decode cX11_init 78 = .ok (.aload_n 0, 1) := by decide +kernel
theorem dX11_init_79 : decode cX11_init 79 = .ok (.sipush 260, 3) := by decide +kernel
theorem dX11_init_82 : decode cX11_init 82 = .ok (.newarray .int, 2) := by decide +kernel
theorem dX11_init_84 : decode cX11_init 84 = .ok (.putfield 38, 3) := by decide +kernel
theorem dX11_init_87 : decode cX11_init 87 = .ok (.aload_n 0, 1) := by decide +kernel
theorem dX11_init_88 : decode cX11_init 88 = .ok (.bipush 16, 2) := by decide +kernel
theorem dX11_init_90 : decode cX11_init 90 = .ok (.newarray .int, 2) := by decide +kernel
theorem dX11_init_92 : decode cX11_init 92 = .ok (.putfield 41, 3) := by decide +kernel
theorem dX11_init_95 : decode cX11_init 95 = .ok (.aload_n 0, 1) := by decide +kernel
theorem dX11_init_96 : decode cX11_init 96 = .ok (.bipush 16, 2) := by decide +kernel
theorem dX11_init_98 : decode cX11_init 98 = .ok (.newarray .int, 2) := by decide +kernel
theorem dX11_init_100 : decode cX11_init 100 = .ok (.putfield 44, 3) := by decide +kernel
theorem dX11_init_103 : decode cX11_init 103 = .ok (.aload_n 0, 1) := by decide +kernel
theorem dX11_init_104 : decode cX11_init 104 = .ok (.bipush 16, 2) := by decide +kernel
theorem dX11_init_106 : decode cX11_init 106 = .ok (.newarray .int, 2) := by decide +kernel
theorem dX11_init_108 : decode cX11_init 108 = .ok (.putfield 47, 3) := by decide +kernel
theorem dX11_init_111 : decode cX11_init 111 = .ok (.aload_n 0, 1) := by decide +kernel
theorem dX11_init_112 : decode cX11_init 112 = .ok (.bipush 16, 2) := by decide +kernel
theorem dX11_init_114 : decode cX11_init 114 = .ok (.newarray .int, 2) := by decide +kernel
theorem dX11_init_116 : decode cX11_init 116 = .ok (.putfield 50, 3) := by decide +kernel
theorem dX11_init_119 : decode cX11_init 119 = .ok (.aload_n 0, 1) := by decide +kernel
theorem dX11_init_120 : decode cX11_init 120 = .ok (.sipush 260, 3) := by decide +kernel
theorem dX11_init_123 : decode cX11_init 123 = .ok (.newarray .int, 2) := by decide +kernel
theorem dX11_init_125 : decode cX11_init 125 = .ok (.putfield 53, 3) := by decide +kernel
theorem dX11_init_128 : decode cX11_init 128 = .ok (.aload_n 0, 1) := by decide +kernel
theorem dX11_init_129 : decode cX11_init 129 = .ok (.bipush 16, 2) := by decide +kernel
theorem dX11_init_131 : decode cX11_init 131 = .ok (.newarray .int, 2) := by decide +kernel
theorem dX11_init_133 : decode cX11_init 133 = .ok (.putfield 56, 3) := by decide +kernel
theorem dX11_init_136 : decode cX11_init 136 = .ok (.aload_n 0, 1) := by decide +kernel
theorem dX11_init_137 : decode cX11_init 137 = .ok (.bipush 16, 2) := by decide +kernel
theorem dX11_init_139 : decode cX11_init 139 = .ok (.newarray .int, 2) := by decide +kernel
theorem dX11_init_141 : decode cX11_init 141 = .ok (.putfield 59, 3) := by decide +kernel
theorem dX11_init_144 : decode cX11_init 144 = .ok (.aload_n 0, 1) := by decide +kernel
theorem dX11_init_145 : decode cX11_init 145 = .ok (.bipush 16, 2) := by decide +kernel
theorem dX11_init_147 : decode cX11_init 147 = .ok (.newarray .int, 2) := by decide +kernel
theorem dX11_init_149 : decode cX11_init 149 = .ok (.putfield 62, 3) := by decide +kernel
theorem dX11_init_152 : decode cX11_init 152 = .ok (.aload_n 0, 1) := by decide +kernel
theorem dX11_init_153 : decode cX11_init 153 = .ok (.bipush 16, 2) := by decide +kernel
theorem dX11_init_155 : decode cX11_init 155 = .ok (.newarray .int, 2) := by decide +kernel
theorem dX11_init_157 : decode cX11_init 157 = .ok (.putfield 65, 3) := by decide +kernel
theorem dX11_init_160 : decode cX11_init 160 = .ok (.aload_n 0, 1) := by decide +kernel
theorem dX11_init_161 : decode cX11_init 161 = .ok (.sipush 260, 3) := by decide +kernel
theorem dX11_init_164 : decode cX11_init 164 = .ok (.newarray .int, 2) := by decide +kernel
theorem dX11_init_166 : decode cX11_init 166 = .ok (.putfield 68, 3) := by decide +kernel
theorem dX11_init_169 : decode cX11_init 169 = .ok (.aload_n 0, 1) := by decide +kernel
theorem dX11_init_170 : decode cX11_init 170 = .ok (.bipush 10, 2) := by decide +kernel
theorem dX11_init_172 : decode cX11_init 172 = .ok (.newarray .int, 2) := by decide +kernel
theorem dX11_init_174 : decode cX11_init 174 = .ok (.putfield 71, 3) := by decide +kernel
theorem dX11_init_177 : decode cX11_init 177 = .ok (.aload_n 0, 1) := by decide +kernel
theorem dX11_init_178 : decode cX11_init 178 = .ok (.bipush 16, 2) := by decide +kernel
theorem dX11_init_180 : decode cX11_init 180 = .ok (.newarray .int, 2) := by decide +kernel
theorem dX11_init_182 : decode cX11_init 182 = .ok (.putfield 74, 3) := by decide +kernel
theorem dX11_init_185 : decode cX11_init 185 = .ok (.aload_n 0, 1) := by decide +kernel
theorem dX11_init_186 : decode cX11_init 186 = .ok (.bipush 24, 2) := by decide +kernel
theorem dX11_init_188 : decode cX11_init 188 = .ok (.newarray .int, 2) := by decide +kernel
theorem dX11_init_190 : decode cX11_init 190 = .ok (.putfield 77, 3) := by decide +kernel
theorem dX11_init_193 : decode cX11_init 193 = .ok (.aload_n 0, 1) := by decide +kernel
theorem dX11_init_194 : decode cX11_init 194 = .ok (.bipush 24, 2) := by decide +kernel
theorem dX11_init_196 : decode cX11_init 196 = .ok (.newarray .int, 2) := by decide +kernel
theorem dX11_init_198 : decode cX11_init 198 = .ok (.putfield 80, 3) := by decide +kernel
theorem dX11_init_201 : decode cX11_init 201 = .ok (.aload_n 0, 1) := by decide +kernel
theorem dX11_init_202 : decode cX11_init 202 = .ok (.bipush 24, 2) := by decide +kernel
theorem dX11_init_204 : decode cX11_init 204 = .ok (.newarray .int, 2) := by decide +kernel
theorem dX11_init_206 : decode cX11_init 206 = .ok (.putfield 83, 3) := by decide +kernel
theorem dX11_init_209 : decode cX11_init 209 = .ok (.aload_n 0, 1) := by decide +kernel
theorem dX11_init_210 : decode cX11_init 210 = .ok (.bipush 24, 2) := by decide +kernel
theorem dX11_init_212 : decode cX11_init 212 = .ok (.newarray .int, 2) := by decide +kernel
theorem dX11_init_214 : decode cX11_init 214 = .ok (.putfield 86, 3) := by decide +kernel
theorem dX11_init_217 : decode cX11_init 217 = .ok (.aload_n 0, 1) := by decide +kernel
theorem dX11_init_218 : decode cX11_init 218 = .ok (.bipush 16, 2) := by decide +kernel
theorem dX11_init_220 : decode cX11_init 220 = .ok (.newarray .int, 2) := by decide +kernel
theorem dX11_init_222 : decode cX11_init 222 = .ok (.putfield 89, 3) := by decide +kernel
theorem dX11_init_225 : decode cX11_init 225 = .ok (.aload_n 0, 1) := by decide +kernel
theorem dX11_init_226 : decode cX11_init 226 = .ok (.bipush 16, 2) := by decide +kernel
theorem dX11_init_228 : decode cX11_init 228 = .ok (.newarray .int, 2) := by decide +kernel
theorem dX11_init_230 : decode cX11_init 230 = .ok (.putfield 92, 3) := by decide +kernel
theorem dX11_init_233 : decode cX11_init 233 = .ok (.aload_n 0, 1) := by decide +kernel
theorem dX11_init_234 : decode cX11_init 234 = .ok (.sipush 256, 3) := by decide +kernel
theorem dX11_init_237 : decode cX11_init 237 = .ok (.newarray .int, 2) := by decide +kernel
theorem dX11_init_239 : decode cX11_init 239 = .ok (.putfield 95, 3) := by decide +kernel
theorem dX11_init_242 : decode cX11_init 242 = .ok (.aload_n 0, 1) := by decide +kernel
theorem dX11_init_243 : decode cX11_init 243 = .ok (.bipush 16, 2) := by decide +kernel
theorem dX11_init_245 : decode cX11_init 245 = .ok (.newarray .int, 2) := by decide +kernel
theorem dX11_init_247 : decode cX11_init 247 = .ok (.putfield 98, 3) := by decide +kernel
theorem dX11_init_250 : decode cX11_init 250 = .ok (.aload_n 0, 1) := by decide +kernel
theorem dX11_init_251 : decode cX11_init 251 = .ok (.ldc 101, 2) := by decide +kernel
theorem dX11_init_253 : decode cX11_init 253 = .ok (.newarray .int, 2) := by decide +kernel
theorem dX11_init_255 : decode cX11_init 255 = .ok (.putfield 102, 3) := by decide +kernel
theorem dX11_init_258 : decode cX11_init 258 = .ok (.aload_n 0, 1) := by decide +kernel
theorem dX11_init_259 : decode cX11_init 259 = .ok (.bipush 16, 2) := by decide +kernel
theorem dX11_init_261 : decode cX11_init 261 = .ok (.newarray .int, 2) := by decide +kernel
theorem dX11_init_263 : decode cX11_init 263 = .ok (.putfield 105, 3) := by decide +kernel
theorem dX11_init_266 : decode cX11_init 266 = .ok (.aload_n 0, 1) := by decide +kernel
theorem dX11_init_267 : decode cX11_init 267 = .ok (.ldc 101, 2) := by decide +kernel
theorem dX11_init_269 : decode cX11_init 269 = .ok (.newarray .int, 2) := by decide +kernel
theorem dX11_init_271 : decode cX11_init 271 = .ok (.putfield 108, 3) := by decide +kernel
theorem dX11_init_274 : decode cX11_init 274 = .ok (.aload_n 0, 1) := by decide +kernel
theorem dX11_init_275 : decode cX11_init 275 = .ok (.sipush 16321, 3) := by decide +kernel
theorem dX11_init_278 : decode cX11_init 278 = .ok (.newarray .int, 2) := by decide +kernel
theorem dX11_init_280 : decode cX11_init 280 = .ok (.putfield 111, 3) := by decide +kernel
theorem dX11_init_283 : decode cX11_init 283 = .ok (.aload_n 0, 1) := by decide +kernel
theorem dX11_init_284 : decode cX11_init 284 = .ok (.sipush 16321, 3) := by decide +kernel
theorem dX11_init_287 : decode cX11_init 287 = .ok (.newarray .int, 2) := by decide +kernel
theorem dX11_init_289 : decode cX11_init 289 = .ok (.putfield 114, 3) := by decide +kernel
theorem dX11_init_292 : decode cX11_init 292 = .ok (.aload_n 0, 1) := by decide +kernel
theorem dX11_init_293 : decode cX11_init 293 = .ok (.sipush 16321, 3) := by decide +kernel
theorem dX11_init_296 : decode cX11_init 296 = .ok (.newarray .int, 2) := by decide +kernel
theorem dX11_init_298 : decode cX11_init 298 = .ok (.putfield 117, 3) := by decide +kernel
theorem dX11_init_301 : decode cX11_init 301 = .ok (.aload_n 0, 1) := by decide +kernel
theorem dX11_init_302 : decode cX11_init 302 = .ok (.sipush 16321, 3) := by decide +kernel
theorem dX11_init_305 : decode cX11_init 305 = .ok (.newarray .int, 2) := by decide +kernel
theorem dX11_init_307 : decode cX11_init 307 = .ok (.putfield 120, 3) := by decide +kernel
theorem dX11_init_310 : decode cX11_init 310 = .ok (.aload_n 0, 1) := by decide +kernel
theorem dX11_init_311 : decode cX11_init 311 = .ok (.bipush 6, 2) := by decide +kernel
theorem dX11_init_313 : decode cX11_init 313 = .ok (.newarray .int, 2) := by decide +kernel
theorem dX11_init_315 : decode cX11_init 315 = .ok (.putfield 123, 3) := by decide +kernel
theorem dX11_init_318 : decode cX11_init 318 = .ok (.aload_n 0, 1) := by decide +kernel
theorem dX11_init_319 : decode cX11_init 319 = .ok (.bipush 12, 2) := by decide +kernel
theorem dX11_init_321 : decode cX11_init 321 = .ok (.newarray .int, 2) := by decide +kernel
theorem dX11_init_323 : decode cX11_init 323 = .ok (.putfield 126, 3) := by decide +kernel
theorem dX11_init_326 : decode cX11_init 326 = .ok (.aload_n 0, 1) := by decide +kernel
theorem dX11_init_327 : decode cX11_init 327 = .ok (.getfield 7, 3) := by decide +kernel
theorem dX11_init_330 : decode cX11_init 330 = .ok (.bipush 74, 2) := by decide +kernel
theorem dX11_init_332 : decode cX11_init 332 = .ok (.iconst 1, 1) := by decide +kernel
theorem dX11_init_333 : decode cX11_init 333 = .ok (.iastore, 1) := by decide +kernel
theorem dX11_init_334 : decode cX11_init 334 = .ok (.aload_n 0, 1) := by decide +kernel
theorem dX11_init_335 : decode cX11_init 335 = .ok (.getfield 7, 3) := by decide +kernel
theorem dX11_init_338 : decode cX11_init 338 = .ok (.bipush 72, 2) := by decide +kernel
theorem dX11_init_340 : decode cX11_init 340 = .ok (.sipush 9999, 3) := by decide +kernel
theorem dX11_init_343 : decode cX11_init 343 = .ok (.iastore, 1) := by decide +kernel
theorem dX11_init_344 : decode cX11_init 344 = .ok (.return_, 1) := by decide +kernel
theorem dX11_in_0 : decode cX11_in 0 = .ok (.iload_n 0, 1) := by decide +kernel
theorem dX11_in_1 : decode cX11_in 1 = .ok (.iload_n 1, 1) := by decide +kernel
theorem dX11_in_2 : decode cX11_in 2 = .ok (.if_icmp .lt 12, 3) := by decide +kernel
theorem dX11_in_5 : decode cX11_in 5 = .ok (.iload_n 0, 1) := by decide +kernel
theorem dX11_in_6 : decode cX11_in 6 = .ok (.iload_n 2, 1) := by decide +kernel
theorem dX11_in_7 : decode cX11_in 7 = .ok (.if_icmp .gt 7, 3) := by decide +kernel
theorem dX11_in_10 : decode cX11_in 10 = .ok (.iconst 1, 1) := by decide +kernel
theorem dX11_in_11 : decode cX11_in 11 = .ok (.goto 4, 3) := by decide +kernel
theorem dX11_in_14 : decode cX11_in 14 = .ok (.iconst 0, 1) := by decide +kernel
theorem dX11_in_15 : decode cX11_in 15 = .ok (.ireturn, 1) := by decide +kernel
theorem dX11_min_0 : decode cX11_min 0 = .ok (.iload_n 0, 1) := by decide +kernel
theorem dX11_min_1 : decode cX11_min 1 = .ok (.iload_n 1, 1) := by decide +kernel
theorem dX11_min_2 : decode cX11_min 2 = .ok (.if_icmp .ge 7, 3) := by decide +kernel
theorem dX11_min_5 : decode cX11_min 5 = .ok (.iload_n 0, 1) := by decide +kernel
theorem dX11_min_6 : decode cX11_min 6 = .ok (.goto 4, 3) := by decide +kernel
theorem dX11_min_9 : decode cX11_min 9 = .ok (.iload_n 1, 1) := by decide +kernel
theorem dX11_min_10 : decode cX11_min 10 = .ok (.ireturn, 1) := by decide +kernel
theorem dX11_max_0 : decode cX11_max 0 = .ok (.iload_n 0, 1) := by decide +kernel
theorem dX11_max_1 : decode cX11_max 1 = .ok (.iload_n 1, 1) := by decide +kernel
theorem dX11_max_2 : decode cX11_max 2 = .ok (.if_icmp .le 7, 3) := by decide +kernel
theorem dX11_max_5 : decode cX11_max 5 = .ok (.iload_n 0, 1) := by decide +kernel
theorem dX11_max_6 : decode cX11_max 6 = .ok (.goto 4, 3) := by decide +kernel
theorem dX11_max_9 : decode cX11_max 9 = .ok (.iload_n 1, 1) := by decide +kernel
theorem dX11_max_10 : decode cX11_max 10 = .ok (.ireturn, 1) := by decide +kernel
theorem dX11_has_0 : decode cX11_has 0 = .ok (.iload_n 0, 1) := by decide +kernel
theorem dX11_has_1 : decode cX11_has 1 = .ok (.iload_n 1, 1) := by decide +kernel
theorem dX11_has_2 : decode cX11_has 2 = .ok (.ishr, 1) := by decide +kernel
theorem dX11_has_3 : decode cX11_has 3 = .ok (.iconst 1, 1) := by decide +kernel
theorem dX11_has_4 : decode cX11_has 4 = .ok (.iand, 1) := by decide +kernel
theorem dX11_has_5 : decode cX11_has 5 = .ok (.iconst 1, 1) := by decide +kernel
theorem dX11_has_6 : decode cX11_has 6 = .ok (.if_icmp .ne 7, 3) := by decide +kernel
theorem dX11_has_9 : decode cX11_has 9 = .ok (.iconst 1, 1) := by decide +kernel
theorem dX11_has_10 : decode cX11_has 10 = .ok (.goto 4, 3) := by decide +kernel
theorem dX11_has_13 : decode cX11_has 13 = .ok (.iconst 0, 1) := by decide +kernel
theorem dX11_has_14 : decode cX11_has 14 = .ok (.ireturn, 1) := by decide +kernel
theorem dX11_bits_0 : decode cX11_bits 0 = .ok (.iconst 0, 1) := by decide +kernel
theorem dX11_bits_1 : decode cX11_bits 1 = .ok (.istore_n 1, 1) := by decide +kernel
theorem dX11_bits_2 : decode cX11_bits 2 = .ok (.iconst 0, 1) := by decide +kernel
theorem dX11_bits_3 : decode cX11_bits 3 = .ok (.istore_n 2, 1) := by decide +kernel
theorem dX11_bits_4 : decode cX11_bits 4 = .ok (.iload_n 2, 1) := by decide +kernel
theorem dX11_bits_5 : decode cX11_bits 5 = .ok (.bipush 16, 2) := by decide +kernel
theorem dX11_bits_7 : decode cX11_bits 7 = .ok (.if_icmp .ge 17, 3) := by decide +kernel
theorem dX11_bits_10 : decode cX11_bits 10 = .ok (.iload_n 1, 1) := by decide +kernel
theorem dX11_bits_11 : decode cX11_bits 11 = .ok (.iload_n 0, 1) := by decide +kernel
theorem dX11_bits_12 : decode cX11_bits 12 = .ok (.iload_n 2, 1) := by decide +kernel
theorem dX11_bits_13 : decode cX11_bits 13 = .ok (.ishr, 1) := by decide +kernel
theorem dX11_bits_14 : decode cX11_bits 14 = .ok (.iconst 1, 1) := by decide +kernel
theorem dX11_bits_15 : decode cX11_bits 15 = .ok (.iand, 1) := by decide +kernel
theorem dX11_bits_16 : decode cX11_bits 16 = .ok (.iadd, 1) := by decide +kernel
theorem dX11_bits_17 : decode cX11_bits 17 = .ok (.istore_n 1, 1) := by decide +kernel
theorem dX11_bits_18 : decode cX11_bits 18 = .ok (.iinc 2 1, 3) := by decide +kernel
theorem dX11_bits_21 : decode cX11_bits 21 = .ok (.goto (-17), 3) := by decide +kernel
theorem dX11_bits_24 : decode cX11_bits 24 = .ok (.iload_n 1, 1) := by decide +kernel
theorem dX11_bits_25 : decode cX11_bits 25 = .ok (.ireturn, 1) := by decide +kernel
theorem dX11_copies_0 : decode cX11_copies 0 = .ok (.iconst 0, 1) := by decide +kernel
theorem dX11_copies_1 : decode cX11_copies 1 = .ok (.istore_n 2, 1) := by decide +kernel
theorem dX11_copies_2 : decode cX11_copies 2 = .ok (.iload_n 2, 1) := by decide +kernel
theorem dX11_copies_3 : decode cX11_copies 3 = .ok (.bipush 75, 2) := by decide +kernel
theorem dX11_copies_5 : decode cX11_copies 5 = .ok (.if_icmp .ge 15, 3) := by decide +kernel
theorem dX11_copies_8 : decode cX11_copies 8 = .ok (.aload_n 1, 1) := by decide +kernel
theorem dX11_copies_9 : decode cX11_copies 9 = .ok (.iload_n 2, 1) := by decide +kernel
theorem dX11_copies_10 : decode cX11_copies 10 = .ok (.aload_n 0, 1) := by decide +kernel
theorem dX11_copies_11 : decode cX11_copies 11 = .ok (.iload_n 2, 1) := by decide +kernel
theorem dX11_copies_12 : decode cX11_copies 12 = .ok (.iaload, 1) := by decide +kernel
theorem dX11_copies_13 : decode cX11_copies 13 = .ok (.iastore, 1) := by decide +kernel
theorem dX11_copies_14 : decode cX11_copies 14 = .ok (.iinc 2 1, 3) := by decide +kernel
theorem dX11_copies_17 : decode cX11_copies 17 = .ok (.goto (-15), 3) := by decide +kernel
theorem dX11_copies_20 : decode cX11_copies 20 = .ok (.return_, 1) := by decide +kernel
theorem dX11_isTold_0 : decode cX11_isTold 0 = .ok (.iload_n 1, 1) := by decide +kernel
theorem dX11_isTold_1 : decode cX11_isTold 1 = .ok (.iconst 0, 1) := by decide +kernel
theorem dX11_isTold_2 : decode cX11_isTold 2 = .ok (.bipush 15, 2) := by decide +kernel
theorem dX11_isTold_4 : decode cX11_isTold 4 = .ok (.invokestatic 129, 3) := by decide +kernel
theorem dX11_isTold_7 : decode cX11_isTold 7 = .ok (.ifCond .eq 18, 3) := by decide +kernel
theorem dX11_isTold_10 : decode cX11_isTold 10 = .ok (.aload_n 0, 1) := by decide +kernel
theorem dX11_isTold_11 : decode cX11_isTold 11 = .ok (.getfield 133, 3) := by decide +kernel
theorem dX11_isTold_14 : decode cX11_isTold 14 = .ok (.iload_n 1, 1) := by decide +kernel
theorem dX11_isTold_15 : decode cX11_isTold 15 = .ok (.invokestatic 137, 3) := by decide +kernel
theorem dX11_isTold_18 : decode cX11_isTold 18 = .ok (.ifCond .eq 7, 3) := by decide +kernel
theorem dX11_isTold_21 : decode cX11_isTold 21 = .ok (.iconst 1, 1) := by decide +kernel
theorem dX11_isTold_22 : decode cX11_isTold 22 = .ok (.goto 4, 3) := by decide +kernel
theorem dX11_isTold_25 : decode cX11_isTold 25 = .ok (.iconst 0, 1) := by decide +kernel
theorem dX11_isTold_26 : decode cX11_isTold 26 = .ok (.ireturn, 1) := by decide +kernel
theorem dX11_areTwo_0 : decode cX11_areTwo 0 = .ok (.aload_n 0, 1) := by decide +kernel
theorem dX11_areTwo_1 : decode cX11_areTwo 1 = .ok (.iload_n 1, 1) := by decide +kernel
theorem dX11_areTwo_2 : decode cX11_areTwo 2 = .ok (.invokevirtual 141, 3) := by decide +kernel
theorem dX11_areTwo_5 : decode cX11_areTwo 5 = .ok (.ifCond .eq 20, 3) := by decide +kernel
theorem dX11_areTwo_8 : decode cX11_areTwo 8 = .ok (.aload_n 0, 1) := by decide +kernel
theorem dX11_areTwo_9 : decode cX11_areTwo 9 = .ok (.iload_n 2, 1) := by decide +kernel
theorem dX11_areTwo_10 : decode cX11_areTwo 10 = .ok (.invokevirtual 141, 3) := by decide +kernel
theorem dX11_areTwo_13 : decode cX11_areTwo 13 = .ok (.ifCond .eq 12, 3) := by decide +kernel
theorem dX11_areTwo_16 : decode cX11_areTwo 16 = .ok (.iload_n 1, 1) := by decide +kernel
theorem dX11_areTwo_17 : decode cX11_areTwo 17 = .ok (.iload_n 2, 1) := by decide +kernel
theorem dX11_areTwo_18 : decode cX11_areTwo 18 = .ok (.if_icmp .eq 7, 3) := by decide +kernel
theorem dX11_areTwo_21 : decode cX11_areTwo 21 = .ok (.iconst 1, 1) := by decide +kernel
theorem dX11_areTwo_22 : decode cX11_areTwo 22 = .ok (.goto 4, 3) := by decide +kernel
theorem dX11_areTwo_25 : decode cX11_areTwo 25 = .ok (.iconst 0, 1) := by decide +kernel
theorem dX11_areTwo_26 : decode cX11_areTwo 26 = .ok (.ireturn, 1) := by decide +kernel
theorem dX11_isOpen_0 : decode cX11_isOpen 0 = .ok (.iload_n 1, 1) := by decide +kernel
theorem dX11_isOpen_1 : decode cX11_isOpen 1 = .ok (.iconst 0, 1) := by decide +kernel
theorem dX11_isOpen_2 : decode cX11_isOpen 2 = .ok (.aload_n 0, 1) := by decide +kernel
theorem dX11_isOpen_3 : decode cX11_isOpen 3 = .ok (.getfield 145, 3) := by decide +kernel
theorem dX11_isOpen_6 : decode cX11_isOpen 6 = .ok (.iconst 1, 1) := by decide +kernel
theorem dX11_isOpen_7 : decode cX11_isOpen 7 = .ok (.isub, 1) := by decide +kernel
theorem dX11_isOpen_8 : decode cX11_isOpen 8 = .ok (.invokestatic 129, 3) := by decide +kernel
theorem dX11_isOpen_11 : decode cX11_isOpen 11 = .ok (.ifCond .eq 20, 3) := by decide +kernel
theorem dX11_isOpen_14 : decode cX11_isOpen 14 = .ok (.aload_n 0, 1) := by decide +kernel
theorem dX11_isOpen_15 : decode cX11_isOpen 15 = .ok (.getfield 7, 3) := by decide +kernel
theorem dX11_isOpen_18 : decode cX11_isOpen 18 = .ok (.bipush 48, 2) := by decide +kernel
theorem dX11_isOpen_20 : decode cX11_isOpen 20 = .ok (.iload_n 1, 1) := by decide +kernel
theorem dX11_isOpen_21 : decode cX11_isOpen 21 = .ok (.iadd, 1) := by decide +kernel
theorem dX11_isOpen_22 : decode cX11_isOpen 22 = .ok (.iaload, 1) := by decide +kernel
theorem dX11_isOpen_23 : decode cX11_isOpen 23 = .ok (.iconst 1, 1) := by decide +kernel
theorem dX11_isOpen_24 : decode cX11_isOpen 24 = .ok (.if_icmp .ne 7, 3) := by decide +kernel
theorem dX11_isOpen_27 : decode cX11_isOpen 27 = .ok (.iconst 1, 1) := by decide +kernel
theorem dX11_isOpen_28 : decode cX11_isOpen 28 = .ok (.goto 4, 3) := by decide +kernel
theorem dX11_isOpen_31 : decode cX11_isOpen 31 = .ok (.iconst 0, 1) := by decide +kernel
theorem dX11_isOpen_32 : decode cX11_isOpen 32 = .ok (.ireturn, 1) := by decide +kernel
theorem dX11_beyond_0 : decode cX11_beyond 0 = .ok (.aload_n 0, 1) := by decide +kernel
theorem dX11_beyond_1 : decode cX11_beyond 1 = .ok (.iload_n 1, 1) := by decide +kernel
theorem dX11_beyond_2 : decode cX11_beyond 2 = .ok (.invokevirtual 148, 3) := by decide +kernel
theorem dX11_beyond_5 : decode cX11_beyond 5 = .ok (.ifCond .ne 5, 3) := by decide +kernel
theorem dX11_beyond_8 : decode cX11_beyond 8 = .ok (.iconst (-1), 1) := by decide +kernel
theorem dX11_beyond_9 : decode cX11_beyond 9 = .ok (.ireturn, 1) := by decide +kernel
theorem dX11_beyond_10 : decode cX11_beyond 10 = .ok (.aload_n 0, 1) := by decide +kernel
theorem dX11_beyond_11 : decode cX11_beyond 11 = .ok (.getfield 22, 3) := by decide +kernel
theorem dX11_beyond_14 : decode cX11_beyond 14 = .ok (.iload_n 1, 1) := by decide +kernel
theorem dX11_beyond_15 : decode cX11_beyond 15 = .ok (.iaload, 1) := by decide +kernel
theorem dX11_beyond_16 : decode cX11_beyond 16 = .ok (.iload_n 2, 1) := by decide +kernel
theorem dX11_beyond_17 : decode cX11_beyond 17 = .ok (.if_icmp .ne 12, 3) := by decide +kernel
theorem dX11_beyond_20 : decode cX11_beyond 20 = .ok (.aload_n 0, 1) := by decide +kernel
theorem dX11_beyond_21 : decode cX11_beyond 21 = .ok (.getfield 25, 3) := by decide +kernel
theorem dX11_beyond_24 : decode cX11_beyond 24 = .ok (.iload_n 1, 1) := by decide +kernel
theorem dX11_beyond_25 : decode cX11_beyond 25 = .ok (.iaload, 1) := by decide +kernel
theorem dX11_beyond_26 : decode cX11_beyond 26 = .ok (.goto 23, 3) := by decide +kernel
theorem dX11_beyond_29 : decode cX11_beyond 29 = .ok (.aload_n 0, 1) := by decide +kernel
