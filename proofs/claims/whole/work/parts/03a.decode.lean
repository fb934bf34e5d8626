theorem dX0_init_0 : decode cX0_init 0 = .ok (.aload_n 0, 1) := by decide +kernel
theorem dX0_init_1 : decode cX0_init 1 = .ok (.invokespecial 3, 3) := by decide +kernel
theorem dX0_init_4 : decode cX0_init 4 = .ok (.aload_n 0, 1) := by decide +kernel
theorem dX0_init_5 : decode cX0_init 5 = .ok (.sipush 8161, 3) := by decide +kernel
theorem dX0_init_8 : decode cX0_init 8 = .ok (.newarray .int, 2) := by decide +kernel
theorem dX0_init_10 : decode cX0_init 10 = .ok (.putfield 9, 3) := by decide +kernel
theorem dX0_init_13 : decode cX0_init 13 = .ok (.return_, 1) := by decide +kernel
theorem dX0_reckon_0 : decode cX0_reckon 0 = .ok (.iload_n 2, 1) := by decide +kernel
theorem dX0_reckon_1 : decode cX0_reckon 1 = .ok (.iconst 2, 1) := by decide +kernel
theorem dX0_reckon_2 : decode cX0_reckon 2 = .ok (.idiv, 1) := by decide +kernel
theorem dX0_reckon_3 : decode cX0_reckon 3 = .ok (.istore 4, 2) := by decide +kernel
theorem dX0_reckon_5 : decode cX0_reckon 5 = .ok (.aload_n 0, 1) := by decide +kernel
theorem dX0_reckon_6 : decode cX0_reckon 6 = .ok (.aload_n 1, 1) := by decide +kernel
theorem dX0_reckon_7 : decode cX0_reckon 7 = .ok (.iload 4, 2) := by decide +kernel
theorem dX0_reckon_9 : decode cX0_reckon 9 = .ok (.invokevirtual 15, 3) := by decide +kernel
theorem dX0_reckon_12 : decode cX0_reckon 12 = .ok (.aload_n 0, 1) := by decide +kernel
theorem dX0_reckon_13 : decode cX0_reckon 13 = .ok (.iconst 0, 1) := by decide +kernel
theorem dX0_reckon_14 : decode cX0_reckon 14 = .ok (.putfield 19, 3) := by decide +kernel
theorem dX0_reckon_17 : decode cX0_reckon 17 = .ok (.aload_n 0, 1) := by decide +kernel
theorem dX0_reckon_18 : decode cX0_reckon 18 = .ok (.bipush 64, 2) := by decide +kernel
theorem dX0_reckon_20 : decode cX0_reckon 20 = .ok (.putfield 23, 3) := by decide +kernel
theorem dX0_reckon_23 : decode cX0_reckon 23 = .ok (.iload_n 2, 1) := by decide +kernel
theorem dX0_reckon_24 : decode cX0_reckon 24 = .ok (.iload 4, 2) := by decide +kernel
theorem dX0_reckon_26 : decode cX0_reckon 26 = .ok (.isub, 1) := by decide +kernel
theorem dX0_reckon_27 : decode cX0_reckon 27 = .ok (.invokestatic 26, 3) := by decide +kernel
theorem dX0_reckon_30 : decode cX0_reckon 30 = .ok (.istore 5, 2) := by decide +kernel
theorem dX0_reckon_32 : decode cX0_reckon 32 = .ok (.iconst 0, 1) := by decide +kernel
theorem dX0_reckon_33 : decode cX0_reckon 33 = .ok (.istore 6, 2) := by decide +kernel
theorem dX0_reckon_35 : decode cX0_reckon 35 = .ok (.iload 6, 2) := by decide +kernel
theorem dX0_reckon_37 : decode cX0_reckon 37 = .ok (.iload 5, 2) := by decide +kernel
theorem dX0_reckon_39 : decode cX0_reckon 39 = .ok (.if_icmp .ge 97, 3) := by decide +kernel
theorem dX0_reckon_42 : decode cX0_reckon 42 = .ok (.aload_n 0, 1) := by decide +kernel
theorem dX0_reckon_43 : decode cX0_reckon 43 = .ok (.aload_n 1, 1) := by decide +kernel
theorem dX0_reckon_44 : decode cX0_reckon 44 = .ok (.iload 4, 2) := by decide +kernel
theorem dX0_reckon_46 : decode cX0_reckon 46 = .ok (.iload_n 2, 1) := by decide +kernel
theorem dX0_reckon_47 : decode cX0_reckon 47 = .ok (.iload 6, 2) := by decide +kernel
theorem dX0_reckon_49 : decode cX0_reckon 49 = .ok (.invokevirtual 30, 3) := by decide +kernel
theorem dX0_reckon_52 : decode cX0_reckon 52 = .ok (.iload_n 3, 1) := by decide +kernel
theorem dX0_reckon_53 : decode cX0_reckon 53 = .ok (.aload_n 0, 1) := by decide +kernel
theorem dX0_reckon_54 : decode cX0_reckon 54 = .ok (.getfield 34, 3) := by decide +kernel
theorem dX0_reckon_57 : decode cX0_reckon 57 = .ok (.isub, 1) := by decide +kernel
theorem dX0_reckon_58 : decode cX0_reckon 58 = .ok (.istore 7, 2) := by decide +kernel
theorem dX0_reckon_60 : decode cX0_reckon 60 = .ok (.iload 7, 2) := by decide +kernel
theorem dX0_reckon_62 : decode cX0_reckon 62 = .ok (.ifCond .lt 68, 3) := by decide +kernel
theorem dX0_reckon_65 : decode cX0_reckon 65 = .ok (.iload 7, 2) := by decide +kernel
theorem dX0_reckon_67 : decode cX0_reckon 67 = .ok (.aload_n 0, 1) := by decide +kernel
theorem dX0_reckon_68 : decode cX0_reckon 68 = .ok (.getfield 9, 3) := by decide +kernel
theorem dX0_reckon_71 : decode cX0_reckon 71 = .ok (.arraylength, 1) := by decide +kernel
theorem dX0_reckon_72 : decode cX0_reckon 72 = .ok (.if_icmp .ge 58, 3) := by decide +kernel
theorem dX0_reckon_75 : decode cX0_reckon 75 = .ok (.aload_n 0, 1) := by decide +kernel
theorem dX0_reckon_76 : decode cX0_reckon 76 = .ok (.getfield 9, 3) := by decide +kernel
theorem dX0_reckon_79 : decode cX0_reckon 79 = .ok (.iload 7, 2) := by decide +kernel
theorem dX0_reckon_81 : decode cX0_reckon 81 = .ok (.iaload, 1) := by decide +kernel
theorem dX0_reckon_82 : decode cX0_reckon 82 = .ok (.ifCond .eq 48, 3) := by decide +kernel
theorem dX0_reckon_85 : decode cX0_reckon 85 = .ok (.aload_n 0, 1) := by decide +kernel
theorem dX0_reckon_86 : decode cX0_reckon 86 = .ok (.dup, 1) := by decide +kernel
theorem dX0_reckon_87 : decode cX0_reckon 87 = .ok (.getfield 19, 3) := by decide +kernel
theorem dX0_reckon_90 : decode cX0_reckon 90 = .ok (.aload_n 0, 1) := by decide +kernel
theorem dX0_reckon_91 : decode cX0_reckon 91 = .ok (.getfield 9, 3) := by decide +kernel
theorem dX0_reckon_94 : decode cX0_reckon 94 = .ok (.iload 7, 2) := by decide +kernel
theorem dX0_reckon_96 : decode cX0_reckon 96 = .ok (.iaload, 1) := by decide +kernel
theorem dX0_reckon_97 : decode cX0_reckon 97 = .ok (.bipush 6, 2) := by decide +kernel
theorem dX0_reckon_99 : decode cX0_reckon 99 = .ok (.ishr, 1) := by decide +kernel
theorem dX0_reckon_100 : decode cX0_reckon 100 = .ok (.iadd, 1) := by decide +kernel
theorem dX0_reckon_101 : decode cX0_reckon 101 = .ok (.putfield 19, 3) := by decide +kernel
theorem dX0_reckon_104 : decode cX0_reckon 104 = .ok (.aload_n 0, 1) := by decide +kernel
theorem dX0_reckon_105 : decode cX0_reckon 105 = .ok (.aload_n 0, 1) := by decide +kernel
theorem dX0_reckon_106 : decode cX0_reckon 106 = .ok (.getfield 23, 3) := by decide +kernel
theorem dX0_reckon_109 : decode cX0_reckon 109 = .ok (.aload_n 0, 1) := by decide +kernel
theorem dX0_reckon_110 : decode cX0_reckon 110 = .ok (.getfield 37, 3) := by decide +kernel
theorem dX0_reckon_113 : decode cX0_reckon 113 = .ok (.aload_n 0, 1) := by decide +kernel
theorem dX0_reckon_114 : decode cX0_reckon 114 = .ok (.getfield 9, 3) := by decide +kernel
theorem dX0_reckon_117 : decode cX0_reckon 117 = .ok (.iload 7, 2) := by decide +kernel
theorem dX0_reckon_119 : decode cX0_reckon 119 = .ok (.iaload, 1) := by decide +kernel
theorem dX0_reckon_120 : decode cX0_reckon 120 = .ok (.bipush 63, 2) := by decide +kernel
theorem dX0_reckon_122 : decode cX0_reckon 122 = .ok (.iand, 1) := by decide +kernel
theorem dX0_reckon_123 : decode cX0_reckon 123 = .ok (.iadd, 1) := by decide +kernel
theorem dX0_reckon_124 : decode cX0_reckon 124 = .ok (.invokestatic 40, 3) := by decide +kernel
theorem dX0_reckon_127 : decode cX0_reckon 127 = .ok (.putfield 23, 3) := by decide +kernel
theorem dX0_reckon_130 : decode cX0_reckon 130 = .ok (.iinc 6 1, 3) := by decide +kernel
theorem dX0_reckon_133 : decode cX0_reckon 133 = .ok (.goto (-98), 3) := by decide +kernel
theorem dX0_reckon_136 : decode cX0_reckon 136 = .ok (.return_, 1) := by decide +kernel
theorem dX0_layOut_0 : decode cX0_layOut 0 = .ok (.aload_n 0, 1) := by decide +kernel
theorem dX0_layOut_1 : decode cX0_layOut 1 = .ok (.getfield 9, 3) := by decide +kernel
theorem dX0_layOut_4 : decode cX0_layOut 4 = .ok (.iconst 0, 1) := by decide +kernel
theorem dX0_layOut_5 : decode cX0_layOut 5 = .ok (.invokestatic 46, 3) := by decide +kernel
theorem dX0_layOut_8 : decode cX0_layOut 8 = .ok (.iload_n 2, 1) := by decide +kernel
theorem dX0_layOut_9 : decode cX0_layOut 9 = .ok (.invokestatic 26, 3) := by decide +kernel
theorem dX0_layOut_12 : decode cX0_layOut 12 = .ok (.istore_n 3, 1) := by decide +kernel
theorem dX0_layOut_13 : decode cX0_layOut 13 = .ok (.iconst 0, 1) := by decide +kernel
theorem dX0_layOut_14 : decode cX0_layOut 14 = .ok (.istore 4, 2) := by decide +kernel
theorem dX0_layOut_16 : decode cX0_layOut 16 = .ok (.iload 4, 2) := by decide +kernel
theorem dX0_layOut_18 : decode cX0_layOut 18 = .ok (.iload_n 3, 1) := by decide +kernel
theorem dX0_layOut_19 : decode cX0_layOut 19 = .ok (.if_icmp .ge 77, 3) := by decide +kernel
theorem dX0_layOut_22 : decode cX0_layOut 22 = .ok (.aload_n 0, 1) := by decide +kernel
theorem dX0_layOut_23 : decode cX0_layOut 23 = .ok (.aload_n 1, 1) := by decide +kernel
theorem dX0_layOut_24 : decode cX0_layOut 24 = .ok (.iconst 0, 1) := by decide +kernel
theorem dX0_layOut_25 : decode cX0_layOut 25 = .ok (.iload_n 2, 1) := by decide +kernel
theorem dX0_layOut_26 : decode cX0_layOut 26 = .ok (.iload 4, 2) := by decide +kernel
theorem dX0_layOut_28 : decode cX0_layOut 28 = .ok (.invokevirtual 30, 3) := by decide +kernel
theorem dX0_layOut_31 : decode cX0_layOut 31 = .ok (.aload_n 0, 1) := by decide +kernel
theorem dX0_layOut_32 : decode cX0_layOut 32 = .ok (.getfield 9, 3) := by decide +kernel
theorem dX0_layOut_35 : decode cX0_layOut 35 = .ok (.aload_n 0, 1) := by decide +kernel
theorem dX0_layOut_36 : decode cX0_layOut 36 = .ok (.getfield 34, 3) := by decide +kernel
theorem dX0_layOut_39 : decode cX0_layOut 39 = .ok (.iaload, 1) := by decide +kernel
theorem dX0_layOut_40 : decode cX0_layOut 40 = .ok (.istore 5, 2) := by decide +kernel
theorem dX0_layOut_42 : decode cX0_layOut 42 = .ok (.iload 5, 2) := by decide +kernel
theorem dX0_layOut_44 : decode cX0_layOut 44 = .ok (.ifCond .ne 10, 3) := by decide +kernel
theorem dX0_layOut_47 : decode cX0_layOut 47 = .ok (.aload_n 0, 1) := by decide +kernel
theorem dX0_layOut_48 : decode cX0_layOut 48 = .ok (.getfield 37, 3) := by decide +kernel
theorem dX0_layOut_51 : decode cX0_layOut 51 = .ok (.goto 15, 3) := by decide +kernel
theorem dX0_layOut_54 : decode cX0_layOut 54 = .ok (.aload_n 0, 1) := by decide +kernel
theorem dX0_layOut_55 : decode cX0_layOut 55 = .ok (.getfield 37, 3) := by decide +kernel
theorem dX0_layOut_58 : decode cX0_layOut 58 = .ok (.iload 5, 2) := by decide +kernel
theorem dX0_layOut_60 : decode cX0_layOut 60 = .ok (.bipush 63, 2) := by decide +kernel
theorem dX0_layOut_62 : decode cX0_layOut 62 = .ok (.iand, 1) := by decide +kernel
theorem dX0_layOut_63 : decode cX0_layOut 63 = .ok (.invokestatic 40, 3) := by decide +kernel
theorem dX0_layOut_66 : decode cX0_layOut 66 = .ok (.istore 6, 2) := by decide +kernel
theorem dX0_layOut_68 : decode cX0_layOut 68 = .ok (.aload_n 0, 1) := by decide +kernel
theorem dX0_layOut_69 : decode cX0_layOut 69 = .ok (.getfield 9, 3) := by decide +kernel
theorem dX0_layOut_72 : decode cX0_layOut 72 = .ok (.aload_n 0, 1) := by decide +kernel
theorem dX0_layOut_73 : decode cX0_layOut 73 = .ok (.getfield 34, 3) := by decide +kernel
theorem dX0_layOut_76 : decode cX0_layOut 76 = .ok (.iload 5, 2) := by decide +kernel
theorem dX0_layOut_78 : decode cX0_layOut 78 = .ok (.bipush 6, 2) := by decide +kernel
theorem dX0_layOut_80 : decode cX0_layOut 80 = .ok (.ishr, 1) := by decide +kernel
theorem dX0_layOut_81 : decode cX0_layOut 81 = .ok (.iconst 1, 1) := by decide +kernel
theorem dX0_layOut_82 : decode cX0_layOut 82 = .ok (.iadd, 1) := by decide +kernel
theorem dX0_layOut_83 : decode cX0_layOut 83 = .ok (.bipush 6, 2) := by decide +kernel
theorem dX0_layOut_85 : decode cX0_layOut 85 = .ok (.ishl, 1) := by decide +kernel
theorem dX0_layOut_86 : decode cX0_layOut 86 = .ok (.iload 6, 2) := by decide +kernel
theorem dX0_layOut_88 : decode cX0_layOut 88 = .ok (.ior, 1) := by decide +kernel
theorem dX0_layOut_89 : decode cX0_layOut 89 = .ok (.iastore, 1) := by decide +kernel
theorem dX0_layOut_90 : decode cX0_layOut 90 = .ok (.iinc 4 1, 3) := by decide +kernel
theorem dX0_layOut_93 : decode cX0_layOut 93 = .ok (.goto (-77), 3) := by decide +kernel
theorem dX0_layOut_96 : decode cX0_layOut 96 = .ok (.return_, 1) := by decide +kernel
theorem dX0_choicesOf_0 : decode cX0_choicesOf 0 = .ok (.iconst 1, 1) := by decide +kernel
theorem dX0_choicesOf_1 : decode cX0_choicesOf 1 = .ok (.istore_n 1, 1) := by decide +kernel
theorem dX0_choicesOf_2 : decode cX0_choicesOf 2 = .ok (.iconst 0, 1) := by decide +kernel
theorem dX0_choicesOf_3 : decode cX0_choicesOf 3 = .ok (.istore_n 2, 1) := by decide +kernel
theorem dX0_choicesOf_4 : decode cX0_choicesOf 4 = .ok (.iload_n 2, 1) := by decide +kernel
theorem dX0_choicesOf_5 : decode cX0_choicesOf 5 = .ok (.iload_n 0, 1) := by decide +kernel
theorem dX0_choicesOf_6 : decode cX0_choicesOf 6 = .ok (.if_icmp .ge 14, 3) := by decide +kernel
theorem dX0_choicesOf_9 : decode cX0_choicesOf 9 = .ok (.iload_n 1, 1) := by decide +kernel
theorem dX0_choicesOf_10 : decode cX0_choicesOf 10 = .ok (.bipush 9, 2) := by decide +kernel
theorem dX0_choicesOf_12 : decode cX0_choicesOf 12 = .ok (.imul, 1) := by decide +kernel
theorem dX0_choicesOf_13 : decode cX0_choicesOf 13 = .ok (.istore_n 1, 1) := by decide +kernel
theorem dX0_choicesOf_14 : decode cX0_choicesOf 14 = .ok (.iinc 2 1, 3) := by decide +kernel
theorem dX0_choicesOf_17 : decode cX0_choicesOf 17 = .ok (.goto (-13), 3) := by decide +kernel
theorem dX0_choicesOf_20 : decode cX0_choicesOf 20 = .ok (.iload_n 1, 1) := by decide +kernel
theorem dX0_choicesOf_21 : decode cX0_choicesOf 21 = .ok (.ireturn, 1) := by decide +kernel
theorem dX0_turnKeys_0 : decode cX0_turnKeys 0 = .ok (.aload_n 0, 1) := by decide +kernel
theorem dX0_turnKeys_1 : decode cX0_turnKeys 1 = .ok (.iconst 0, 1) := by decide +kernel
theorem dX0_turnKeys_2 : decode cX0_turnKeys 2 = .ok (.putfield 34, 3) := by decide +kernel
theorem dX0_turnKeys_5 : decode cX0_turnKeys 5 = .ok (.aload_n 0, 1) := by decide +kernel
theorem dX0_turnKeys_6 : decode cX0_turnKeys 6 = .ok (.iconst 0, 1) := by decide +kernel
theorem dX0_turnKeys_7 : decode cX0_turnKeys 7 = .ok (.putfield 37, 3) := by decide +kernel
theorem dX0_turnKeys_10 : decode cX0_turnKeys 10 = .ok (.iload 4, 2) := by decide +kernel
theorem dX0_turnKeys_12 : decode cX0_turnKeys 12 = .ok (.istore 5, 2) := by decide +kernel
theorem dX0_turnKeys_14 : decode cX0_turnKeys 14 = .ok (.iload_n 2, 1) := by decide +kernel
theorem dX0_turnKeys_15 : decode cX0_turnKeys 15 = .ok (.istore 6, 2) := by decide +kernel
theorem dX0_turnKeys_17 : decode cX0_turnKeys 17 = .ok (.iload 6, 2) := by decide +kernel
theorem dX0_turnKeys_19 : decode cX0_turnKeys 19 = .ok (.iload_n 3, 1) := by decide +kernel
theorem dX0_turnKeys_20 : decode cX0_turnKeys 20 = .ok (.if_icmp .ge 52, 3) := by decide +kernel
theorem dX0_turnKeys_23 : decode cX0_turnKeys 23 = .ok (.iload 5, 2) := by decide +kernel
theorem dX0_turnKeys_25 : decode cX0_turnKeys 25 = .ok (.bipush 9, 2) := by decide +kernel
theorem dX0_turnKeys_27 : decode cX0_turnKeys 27 = .ok (.irem, 1) := by decide +kernel
theorem dX0_turnKeys_28 : decode cX0_turnKeys 28 = .ok (.istore 7, 2) := by decide +kernel
theorem dX0_turnKeys_30 : decode cX0_turnKeys 30 = .ok (.iload 5, 2) := by decide +kernel
theorem dX0_turnKeys_32 : decode cX0_turnKeys 32 = .ok (.bipush 9, 2) := by decide +kernel
theorem dX0_turnKeys_34 : decode cX0_turnKeys 34 = .ok (.idiv, 1) := by decide +kernel
theorem dX0_turnKeys_35 : decode cX0_turnKeys 35 = .ok (.istore 5, 2) := by decide +kernel
theorem dX0_turnKeys_37 : decode cX0_turnKeys 37 = .ok (.aload_n 0, 1) := by decide +kernel
theorem dX0_turnKeys_38 : decode cX0_turnKeys 38 = .ok (.dup, 1) := by decide +kernel
theorem dX0_turnKeys_39 : decode cX0_turnKeys 39 = .ok (.getfield 34, 3) := by decide +kernel
theorem dX0_turnKeys_42 : decode cX0_turnKeys 42 = .ok (.iload 7, 2) := by decide +kernel
theorem dX0_turnKeys_44 : decode cX0_turnKeys 44 = .ok (.aload_n 1, 1) := by decide +kernel
theorem dX0_turnKeys_45 : decode cX0_turnKeys 45 = .ok (.iload 6, 2) := by decide +kernel
theorem dX0_turnKeys_47 : decode cX0_turnKeys 47 = .ok (.invokevirtual 52, 3) := by decide +kernel
theorem dX0_turnKeys_50 : decode cX0_turnKeys 50 = .ok (.imul, 1) := by decide +kernel
theorem dX0_turnKeys_51 : decode cX0_turnKeys 51 = .ok (.iadd, 1) := by decide +kernel
theorem dX0_turnKeys_52 : decode cX0_turnKeys 52 = .ok (.putfield 34, 3) := by decide +kernel
theorem dX0_turnKeys_55 : decode cX0_turnKeys 55 = .ok (.aload_n 0, 1) := by decide +kernel
theorem dX0_turnKeys_56 : decode cX0_turnKeys 56 = .ok (.dup, 1) := by decide +kernel
theorem dX0_turnKeys_57 : decode cX0_turnKeys 57 = .ok (.getfield 37, 3) := by decide +kernel
theorem dX0_turnKeys_60 : decode cX0_turnKeys 60 = .ok (.iload 7, 2) := by decide +kernel
theorem dX0_turnKeys_62 : decode cX0_turnKeys 62 = .ok (.iadd, 1) := by decide +kernel
theorem dX0_turnKeys_63 : decode cX0_turnKeys 63 = .ok (.putfield 37, 3) := by decide +kernel
theorem dX0_turnKeys_66 : decode cX0_turnKeys 66 = .ok (.iinc 6 1, 3) := by decide +kernel
theorem dX0_turnKeys_69 : decode cX0_turnKeys 69 = .ok (.goto (-52), 3) := by decide +kernel
theorem dX0_turnKeys_72 : decode cX0_turnKeys 72 = .ok (.return_, 1) := by decide +kernel
theorem dX1_init_0 : decode cX1_init 0 = .ok (.aload_n 0, 1) := by decide +kernel
theorem dX1_init_1 : decode cX1_init 1 = .ok (.invokespecial 3, 3) := by decide +kernel
theorem dX1_init_4 : decode cX1_init 4 = .ok (.aload_n 0, 1) := by decide +kernel
theorem dX1_init_5 : decode cX1_init 5 = .ok (.sipush 256, 3) := by decide +kernel
theorem dX1_init_8 : decode cX1_init 8 = .ok (.newarray .int, 2) := by decide +kernel
theorem dX1_init_10 : decode cX1_init 10 = .ok (.putfield 9, 3) := by decide +kernel
theorem dX1_init_13 : decode cX1_init 13 = .ok (.aload_n 0, 1) := by decide +kernel
theorem dX1_init_14 : decode cX1_init 14 = .ok (.bipush 16, 2) := by decide +kernel
theorem dX1_init_16 : decode cX1_init 16 = .ok (.newarray .int, 2) := by decide +kernel
theorem dX1_init_18 : decode cX1_init 18 = .ok (.putfield 15, 3) := by decide +kernel
theorem dX1_init_21 : decode cX1_init 21 = .ok (.aload_n 0, 1) := by decide +kernel
theorem dX1_init_22 : decode cX1_init 22 = .ok (.aload_n 1, 1) := by decide +kernel
theorem dX1_init_23 : decode cX1_init 23 = .ok (.putfield 18, 3) := by decide +kernel
theorem dX1_init_26 : decode cX1_init 26 = .ok (.return_, 1) := by decide +kernel
theorem dX1_push_0 : decode cX1_push 0 = .ok (.aload_n 0, 1) := by decide +kernel
theorem dX1_push_1 : decode cX1_push 1 = .ok (.getfield 9, 3) := by decide +kernel
theorem dX1_push_4 : decode cX1_push 4 = .ok (.iconst 0, 1) := by decide +kernel
theorem dX1_push_5 : decode cX1_push 5 = .ok (.invokestatic 22, 3) := by decide +kernel
theorem dX1_push_8 : decode cX1_push 8 = .ok (.iconst 0, 1) := by decide +kernel
theorem dX1_push_9 : decode cX1_push 9 = .ok (.istore 5, 2) := by decide +kernel
theorem dX1_push_11 : decode cX1_push 11 = .ok (.iload 5, 2) := by decide +kernel
theorem dX1_push_13 : decode cX1_push 13 = .ok (.aload_n 0, 1) := by decide +kernel
theorem dX1_push_14 : decode cX1_push 14 = .ok (.getfield 18, 3) := by decide +kernel
theorem dX1_push_17 : decode cX1_push 17 = .ok (.getfield 28, 3) := by decide +kernel
theorem dX1_push_20 : decode cX1_push 20 = .ok (.if_icmp .ge 107, 3) := by decide +kernel
theorem dX1_push_23 : decode cX1_push 23 = .ok (.iload_n 3, 1) := by decide +kernel
theorem dX1_push_24 : decode cX1_push 24 = .ok (.iload 5, 2) := by decide +kernel
theorem dX1_push_26 : decode cX1_push 26 = .ok (.invokestatic 34, 3) := by decide +kernel
theorem dX1_push_29 : decode cX1_push 29 = .ok (.ifCond .eq 92, 3) := by decide +kernel
theorem dX1_push_32 : decode cX1_push 32 = .ok (.iload 4, 2) := by decide +kernel
theorem dX1_push_34 : decode cX1_push 34 = .ok (.ifCond .eq 7, 3) := by decide +kernel
theorem dX1_push_37 : decode cX1_push 37 = .ok (.iconst 1, 1) := by decide +kernel
theorem dX1_push_38 : decode cX1_push 38 = .ok (.goto 13, 3) := by decide +kernel
theorem dX1_push_41 : decode cX1_push 41 = .ok (.aload_n 0, 1) := by decide +kernel
theorem dX1_push_42 : decode cX1_push 42 = .ok (.getfield 18, 3) := by decide +kernel
theorem dX1_push_45 : decode cX1_push 45 = .ok (.getfield 38, 3) := by decide +kernel
theorem dX1_push_48 : decode cX1_push 48 = .ok (.iload 5, 2) := by decide +kernel
theorem dX1_push_50 : decode cX1_push 50 = .ok (.iaload, 1) := by decide +kernel
theorem dX1_push_51 : decode cX1_push 51 = .ok (.istore 6, 2) := by decide +kernel
theorem dX1_push_53 : decode cX1_push 53 = .ok (.aload_n 0, 1) := by decide +kernel
theorem dX1_push_54 : decode cX1_push 54 = .ok (.getfield 9, 3) := by decide +kernel
theorem dX1_push_57 : decode cX1_push 57 = .ok (.aload_n 0, 1) := by decide +kernel
theorem dX1_push_58 : decode cX1_push 58 = .ok (.getfield 18, 3) := by decide +kernel
theorem dX1_push_61 : decode cX1_push 61 = .ok (.getfield 41, 3) := by decide +kernel
theorem dX1_push_64 : decode cX1_push 64 = .ok (.iload 5, 2) := by decide +kernel
theorem dX1_push_66 : decode cX1_push 66 = .ok (.iaload, 1) := by decide +kernel
theorem dX1_push_67 : decode cX1_push 67 = .ok (.bipush 16, 2) := by decide +kernel
theorem dX1_push_69 : decode cX1_push 69 = .ok (.imul, 1) := by decide +kernel
theorem dX1_push_70 : decode cX1_push 70 = .ok (.aload_n 0, 1) := by decide +kernel
theorem dX1_push_71 : decode cX1_push 71 = .ok (.getfield 18, 3) := by decide +kernel
theorem dX1_push_74 : decode cX1_push 74 = .ok (.getfield 44, 3) := by decide +kernel
theorem dX1_push_77 : decode cX1_push 77 = .ok (.iload 5, 2) := by decide +kernel
theorem dX1_push_79 : decode cX1_push 79 = .ok (.iaload, 1) := by decide +kernel
theorem dX1_push_80 : decode cX1_push 80 = .ok (.iadd, 1) := by decide +kernel
theorem dX1_push_81 : decode cX1_push 81 = .ok (.dup2, 1) := by decide +kernel
theorem dX1_push_82 : decode cX1_push 82 = .ok (.iaload, 1) := by decide +kernel
theorem dX1_push_83 : decode cX1_push 83 = .ok (.iload 6, 2) := by decide +kernel
theorem dX1_push_85 : decode cX1_push 85 = .ok (.iadd, 1) := by decide +kernel
theorem dX1_push_86 : decode cX1_push 86 = .ok (.iastore, 1) := by decide +kernel
theorem dX1_push_87 : decode cX1_push 87 = .ok (.aload_n 0, 1) := by decide +kernel
theorem dX1_push_88 : decode cX1_push 88 = .ok (.getfield 9, 3) := by decide +kernel
theorem dX1_push_91 : decode cX1_push 91 = .ok (.aload_n 0, 1) := by decide +kernel
theorem dX1_push_92 : decode cX1_push 92 = .ok (.getfield 18, 3) := by decide +kernel
theorem dX1_push_95 : decode cX1_push 95 = .ok (.getfield 44, 3) := by decide +kernel
theorem dX1_push_98 : decode cX1_push 98 = .ok (.iload 5, 2) := by decide +kernel
theorem dX1_push_100 : decode cX1_push 100 = .ok (.iaload, 1) := by decide +kernel
theorem dX1_push_101 : decode cX1_push 101 = .ok (.bipush 16, 2) := by decide +kernel
theorem dX1_push_103 : decode cX1_push 103 = .ok (.imul, 1) := by decide +kernel
theorem dX1_push_104 : decode cX1_push 104 = .ok (.aload_n 0, 1) := by decide +kernel
theorem dX1_push_105 : decode cX1_push 105 = .ok (.getfield 18, 3) := by decide +kernel
theorem dX1_push_108 : decode cX1_push 108 = .ok (.getfield 41, 3) := by decide +kernel
theorem dX1_push_111 : decode cX1_push 111 = .ok (.iload 5, 2) := by decide +kernel
theorem dX1_push_113 : decode cX1_push 113 = .ok (.iaload, 1) := by decide +kernel
theorem dX1_push_114 : decode cX1_push 114 = .ok (.iadd, 1) := by decide +kernel
theorem dX1_push_115 : decode cX1_push 115 = .ok (.dup2, 1) := by decide +kernel
theorem dX1_push_116 : decode cX1_push 116 = .ok (.iaload, 1) := by decide +kernel
theorem dX1_push_117 : decode cX1_push 117 = .ok (.iload 6, 2) := by decide +kernel
theorem dX1_push_119 : decode cX1_push 119 = .ok (.iadd, 1) := by decide +kernel
theorem dX1_push_120 : decode cX1_push 120 = .ok (.iastore, 1) := by decide +kernel
theorem dX1_push_121 : decode cX1_push 121 = .ok (.iinc 5 1, 3) := by decide +kernel
theorem dX1_push_124 : decode cX1_push 124 = .ok (.goto (-113), 3) := by decide +kernel
theorem dX1_push_127 : decode cX1_push 127 = .ok (.iconst 0, 1) := by decide +kernel
theorem dX1_push_128 : decode cX1_push 128 = .ok (.istore 5, 2) := by decide +kernel
theorem dX1_push_130 : decode cX1_push 130 = .ok (.iconst 0, 1) := by decide +kernel
theorem dX1_push_131 : decode cX1_push 131 = .ok (.istore 6, 2) := by decide +kernel
theorem dX1_push_133 : decode cX1_push 133 = .ok (.iload 6, 2) := by decide +kernel
theorem dX1_push_135 : decode cX1_push 135 = .ok (.sipush 2376, 3) := by decide +kernel
theorem dX1_push_138 : decode cX1_push 138 = .ok (.if_icmp .gt 39, 3) := by decide +kernel
theorem dX1_push_141 : decode cX1_push 141 = .ok (.aload_n 0, 1) := by decide +kernel
theorem dX1_push_142 : decode cX1_push 142 = .ok (.iload_n 1, 1) := by decide +kernel
theorem dX1_push_143 : decode cX1_push 143 = .ok (.invokevirtual 47, 3) := by decide +kernel
theorem dX1_push_146 : decode cX1_push 146 = .ok (.aload_n 0, 1) := by decide +kernel
theorem dX1_push_147 : decode cX1_push 147 = .ok (.getfield 51, 3) := by decide +kernel
theorem dX1_push_150 : decode cX1_push 150 = .ok (.iload_n 2, 1) := by decide +kernel
theorem dX1_push_151 : decode cX1_push 151 = .ok (.invokestatic 34, 3) := by decide +kernel
theorem dX1_push_154 : decode cX1_push 154 = .ok (.ifCond .ne 6, 3) := by decide +kernel
theorem dX1_push_157 : decode cX1_push 157 = .ok (.iload 5, 2) := by decide +kernel
theorem dX1_push_159 : decode cX1_push 159 = .ok (.ireturn, 1) := by decide +kernel
theorem dX1_push_160 : decode cX1_push 160 = .ok (.iload 5, 2) := by decide +kernel
theorem dX1_push_162 : decode cX1_push 162 = .ok (.aload_n 0, 1) := by decide +kernel
theorem dX1_push_163 : decode cX1_push 163 = .ok (.iload_n 1, 1) := by decide +kernel
theorem dX1_push_164 : decode cX1_push 164 = .ok (.iload_n 2, 1) := by decide +kernel
theorem dX1_push_165 : decode cX1_push 165 = .ok (.invokevirtual 54, 3) := by decide +kernel
theorem dX1_push_168 : decode cX1_push 168 = .ok (.iadd, 1) := by decide +kernel
theorem dX1_push_169 : decode cX1_push 169 = .ok (.istore 5, 2) := by decide +kernel
theorem dX1_push_171 : decode cX1_push 171 = .ok (.iinc 6 1, 3) := by decide +kernel
theorem dX1_push_174 : decode cX1_push 174 = .ok (.goto (-41), 3) := by decide +kernel
theorem dX1_push_177 : decode cX1_push 177 = .ok (.iload 5, 2) := by decide +kernel
theorem dX1_push_179 : decode cX1_push 179 = .ok (.ireturn, 1) := by decide +kernel
theorem dX1_seek_0 : decode cX1_seek 0 = .ok (.aload_n 0, 1) := by decide +kernel
theorem dX1_seek_1 : decode cX1_seek 1 = .ok (.iconst 1, 1) := by decide +kernel
theorem dX1_seek_2 : decode cX1_seek 2 = .ok (.iload_n 1, 1) := by decide +kernel
theorem dX1_seek_3 : decode cX1_seek 3 = .ok (.ishl, 1) := by decide +kernel
theorem dX1_seek_4 : decode cX1_seek 4 = .ok (.putfield 51, 3) := by decide +kernel
theorem dX1_seek_7 : decode cX1_seek 7 = .ok (.aload_n 0, 1) := by decide +kernel
theorem dX1_seek_8 : decode cX1_seek 8 = .ok (.getfield 51, 3) := by decide +kernel
theorem dX1_seek_11 : decode cX1_seek 11 = .ok (.istore_n 2, 1) := by decide +kernel
theorem dX1_seek_12 : decode cX1_seek 12 = .ok (.iconst 0, 1) := by decide +kernel
theorem dX1_seek_13 : decode cX1_seek 13 = .ok (.istore_n 3, 1) := by decide +kernel
theorem dX1_seek_14 : decode cX1_seek 14 = .ok (.iload_n 3, 1) := by decide +kernel
theorem dX1_seek_15 : decode cX1_seek 15 = .ok (.bipush 16, 2) := by decide +kernel
theorem dX1_seek_17 : decode cX1_seek 17 = .ok (.if_icmp .ge 55, 3) := by decide +kernel
theorem dX1_seek_20 : decode cX1_seek 20 = .ok (.iload_n 2, 1) := by decide +kernel
theorem dX1_seek_21 : decode cX1_seek 21 = .ok (.ifCond .eq 51, 3) := by decide +kernel
theorem dX1_seek_24 : decode cX1_seek 24 = .ok (.iconst 0, 1) := by decide +kernel
theorem dX1_seek_25 : decode cX1_seek 25 = .ok (.istore 4, 2) := by decide +kernel
theorem dX1_seek_27 : decode cX1_seek 27 = .ok (.iconst 0, 1) := by decide +kernel
theorem dX1_seek_28 : decode cX1_seek 28 = .ok (.istore 5, 2) := by decide +kernel
theorem dX1_seek_30 : decode cX1_seek 30 = .ok (.iload 5, 2) := by decide +kernel
theorem dX1_seek_32 : decode cX1_seek 32 = .ok (.bipush 16, 2) := by decide +kernel
theorem dX1_seek_34 : decode cX1_seek 34 = .ok (.if_icmp .ge 29, 3) := by decide +kernel
theorem dX1_seek_37 : decode cX1_seek 37 = .ok (.iload_n 2, 1) := by decide +kernel
theorem dX1_seek_38 : decode cX1_seek 38 = .ok (.iload 5, 2) := by decide +kernel
theorem dX1_seek_40 : decode cX1_seek 40 = .ok (.invokestatic 34, 3) := by decide +kernel
theorem dX1_seek_43 : decode cX1_seek 43 = .ok (.ifCond .eq 14, 3) := by decide +kernel
theorem dX1_seek_46 : decode cX1_seek 46 = .ok (.iload 4, 2) := by decide +kernel
theorem dX1_seek_48 : decode cX1_seek 48 = .ok (.aload_n 0, 1) := by decide +kernel
theorem dX1_seek_49 : decode cX1_seek 49 = .ok (.iload 5, 2) := by decide +kernel
theorem dX1_seek_51 : decode cX1_seek 51 = .ok (.invokevirtual 58, 3) := by decide +kernel
theorem dX1_seek_54 : decode cX1_seek 54 = .ok (.ior, 1) := by decide +kernel
theorem dX1_seek_55 : decode cX1_seek 55 = .ok (.istore 4, 2) := by decide +kernel
theorem dX1_seek_57 : decode cX1_seek 57 = .ok (.iinc 5 1, 3) := by decide +kernel
theorem dX1_seek_60 : decode cX1_seek 60 = .ok (.goto (-30), 3) := by decide +kernel
theorem dX1_seek_63 : decode cX1_seek 63 = .ok (.iload 4, 2) := by decide +kernel
theorem dX1_seek_65 : decode cX1_seek 65 = .ok (.istore_n 2, 1) := by decide +kernel
theorem dX1_seek_66 : decode cX1_seek 66 = .ok (.iinc 3 1, 3) := by decide +kernel
theorem dX1_seek_69 : decode cX1_seek 69 = .ok (.goto (-55), 3) := by decide +kernel
theorem dX1_seek_72 : decode cX1_seek 72 = .ok (.return_, 1) := by decide +kernel
theorem dX1_spreadFrom_0 : decode cX1_spreadFrom 0 = .ok (.iconst 0, 1) := by decide +kernel
theorem dX1_spreadFrom_1 : decode cX1_spreadFrom 1 = .ok (.istore_n 2, 1) := by decide +kernel
theorem dX1_spreadFrom_2 : decode cX1_spreadFrom 2 = .ok (.iconst 0, 1) := by decide +kernel
theorem dX1_spreadFrom_3 : decode cX1_spreadFrom 3 = .ok (.istore_n 3, 1) := by decide +kernel
theorem dX1_spreadFrom_4 : decode cX1_spreadFrom 4 = .ok (.iload_n 3, 1) := by decide +kernel
theorem dX1_spreadFrom_5 : decode cX1_spreadFrom 5 = .ok (.bipush 16, 2) := by decide +kernel
theorem dX1_spreadFrom_7 : decode cX1_spreadFrom 7 = .ok (.if_icmp .ge 59, 3) := by decide +kernel
theorem dX1_spreadFrom_10 : decode cX1_spreadFrom 10 = .ok (.aload_n 0, 1) := by decide +kernel
theorem dX1_spreadFrom_11 : decode cX1_spreadFrom 11 = .ok (.getfield 51, 3) := by decide +kernel
theorem dX1_spreadFrom_14 : decode cX1_spreadFrom 14 = .ok (.iload_n 3, 1) := by decide +kernel
theorem dX1_spreadFrom_15 : decode cX1_spreadFrom 15 = .ok (.invokestatic 34, 3) := by decide +kernel
theorem dX1_spreadFrom_18 : decode cX1_spreadFrom 18 = .ok (.ifCond .ne 42, 3) := by decide +kernel
theorem dX1_spreadFrom_21 : decode cX1_spreadFrom 21 = .ok (.aload_n 0, 1) := by decide +kernel
theorem dX1_spreadFrom_22 : decode cX1_spreadFrom 22 = .ok (.getfield 9, 3) := by decide +kernel
theorem dX1_spreadFrom_25 : decode cX1_spreadFrom 25 = .ok (.iload_n 1, 1) := by decide +kernel
theorem dX1_spreadFrom_26 : decode cX1_spreadFrom 26 = .ok (.bipush 16, 2) := by decide +kernel
theorem dX1_spreadFrom_28 : decode cX1_spreadFrom 28 = .ok (.imul, 1) := by decide +kernel
theorem dX1_spreadFrom_29 : decode cX1_spreadFrom 29 = .ok (.iload_n 3, 1) := by decide +kernel
theorem dX1_spreadFrom_30 : decode cX1_spreadFrom 30 = .ok (.iadd, 1) := by decide +kernel
theorem dX1_spreadFrom_31 : decode cX1_spreadFrom 31 = .ok (.iaload, 1) := by decide +kernel
theorem dX1_spreadFrom_32 : decode cX1_spreadFrom 32 = .ok (.ifCond .le 28, 3) := by decide +kernel
theorem dX1_spreadFrom_35 : decode cX1_spreadFrom 35 = .ok (.aload_n 0, 1) := by decide +kernel
theorem dX1_spreadFrom_36 : decode cX1_spreadFrom 36 = .ok (.dup, 1) := by decide +kernel
theorem dX1_spreadFrom_37 : decode cX1_spreadFrom 37 = .ok (.getfield 51, 3) := by decide +kernel
theorem dX1_spreadFrom_40 : decode cX1_spreadFrom 40 = .ok (.iconst 1, 1) := by decide +kernel
theorem dX1_spreadFrom_41 : decode cX1_spreadFrom 41 = .ok (.iload_n 3, 1) := by decide +kernel
theorem dX1_spreadFrom_42 : decode cX1_spreadFrom 42 = .ok (.ishl, 1) := by decide +kernel
theorem dX1_spreadFrom_43 : decode cX1_spreadFrom 43 = .ok (.ior, 1) := by decide +kernel
theorem dX1_spreadFrom_44 : decode cX1_spreadFrom 44 = .ok (.putfield 51, 3) := by decide +kernel
theorem dX1_spreadFrom_47 : decode cX1_spreadFrom 47 = .ok (.iload_n 2, 1) := by decide +kernel
theorem dX1_spreadFrom_48 : decode cX1_spreadFrom 48 = .ok (.iconst 1, 1) := by decide +kernel
theorem dX1_spreadFrom_49 : decode cX1_spreadFrom 49 = .ok (.iload_n 3, 1) := by decide +kernel
theorem dX1_spreadFrom_50 : decode cX1_spreadFrom 50 = .ok (.ishl, 1) := by decide +kernel
theorem dX1_spreadFrom_51 : decode cX1_spreadFrom 51 = .ok (.ior, 1) := by decide +kernel
theorem dX1_spreadFrom_52 : decode cX1_spreadFrom 52 = .ok (.istore_n 2, 1) := by decide +kernel
theorem dX1_spreadFrom_53 : decode cX1_spreadFrom 53 = .ok (.aload_n 0, 1) := by decide +kernel
theorem dX1_spreadFrom_54 : decode cX1_spreadFrom 54 = .ok (.getfield 15, 3) := by decide +kernel
theorem dX1_spreadFrom_57 : decode cX1_spreadFrom 57 = .ok (.iload_n 3, 1) := by decide +kernel
theorem dX1_spreadFrom_58 : decode cX1_spreadFrom 58 = .ok (.iload_n 1, 1) := by decide +kernel
theorem dX1_spreadFrom_59 : decode cX1_spreadFrom 59 = .ok (.iastore, 1) := by decide +kernel
theorem dX1_spreadFrom_60 : decode cX1_spreadFrom 60 = .ok (.iinc 3 1, 3) := by decide +kernel
theorem dX1_spreadFrom_63 : decode cX1_spreadFrom 63 = .ok (.goto (-59), 3) := by decide +kernel
theorem dX1_spreadFrom_66 : decode cX1_spreadFrom 66 = .ok (.iload_n 2, 1) := by decide +kernel
theorem dX1_spreadFrom_67 : decode cX1_spreadFrom 67 = .ok (.ireturn, 1) := by decide +kernel
theorem dX1_pushBy_0 : decode cX1_pushBy 0 = .ok (.sipush 2376, 3) := by decide +kernel
theorem dX1_pushBy_3 : decode cX1_pushBy 3 = .ok (.istore_n 3, 1) := by decide +kernel
theorem dX1_pushBy_4 : decode cX1_pushBy 4 = .ok (.iload_n 2, 1) := by decide +kernel
theorem dX1_pushBy_5 : decode cX1_pushBy 5 = .ok (.istore 4, 2) := by decide +kernel
theorem dX1_pushBy_7 : decode cX1_pushBy 7 = .ok (.iconst 0, 1) := by decide +kernel
theorem dX1_pushBy_8 : decode cX1_pushBy 8 = .ok (.istore 5, 2) := by decide +kernel
theorem dX1_pushBy_10 : decode cX1_pushBy 10 = .ok (.iload 5, 2) := by decide +kernel
theorem dX1_pushBy_12 : decode cX1_pushBy 12 = .ok (.bipush 16, 2) := by decide +kernel
theorem dX1_pushBy_14 : decode cX1_pushBy 14 = .ok (.if_icmp .ge 47, 3) := by decide +kernel
theorem dX1_pushBy_17 : decode cX1_pushBy 17 = .ok (.iload 4, 2) := by decide +kernel
theorem dX1_pushBy_19 : decode cX1_pushBy 19 = .ok (.iload_n 1, 1) := by decide +kernel
theorem dX1_pushBy_20 : decode cX1_pushBy 20 = .ok (.if_icmp .eq 41, 3) := by decide +kernel
theorem dX1_pushBy_23 : decode cX1_pushBy 23 = .ok (.iload_n 3, 1) := by decide +kernel
theorem dX1_pushBy_24 : decode cX1_pushBy 24 = .ok (.aload_n 0, 1) := by decide +kernel
theorem dX1_pushBy_25 : decode cX1_pushBy 25 = .ok (.getfield 9, 3) := by decide +kernel
theorem dX1_pushBy_28 : decode cX1_pushBy 28 = .ok (.aload_n 0, 1) := by decide +kernel
theorem dX1_pushBy_29 : decode cX1_pushBy 29 = .ok (.getfield 15, 3) := by decide +kernel
theorem dX1_pushBy_32 : decode cX1_pushBy 32 = .ok (.iload 4, 2) := by decide +kernel
theorem dX1_pushBy_34 : decode cX1_pushBy 34 = .ok (.iaload, 1) := by decide +kernel
theorem dX1_pushBy_35 : decode cX1_pushBy 35 = .ok (.bipush 16, 2) := by decide +kernel
theorem dX1_pushBy_37 : decode cX1_pushBy 37 = .ok (.imul, 1) := by decide +kernel
theorem dX1_pushBy_38 : decode cX1_pushBy 38 = .ok (.iload 4, 2) := by decide +kernel
theorem dX1_pushBy_40 : decode cX1_pushBy 40 = .ok (.iadd, 1) := by decide +kernel
theorem dX1_pushBy_41 : decode cX1_pushBy 41 = .ok (.iaload, 1) := by decide +kernel
theorem dX1_pushBy_42 : decode cX1_pushBy 42 = .ok (.invokestatic 62, 3) := by decide +kernel
theorem dX1_pushBy_45 : decode cX1_pushBy 45 = .ok (.istore_n 3, 1) := by decide +kernel
theorem dX1_pushBy_46 : decode cX1_pushBy 46 = .ok (.aload_n 0, 1) := by decide +kernel
theorem dX1_pushBy_47 : decode cX1_pushBy 47 = .ok (.getfield 15, 3) := by decide +kernel
theorem dX1_pushBy_50 : decode cX1_pushBy 50 = .ok (.iload 4, 2) := by decide +kernel
theorem dX1_pushBy_52 : decode cX1_pushBy 52 = .ok (.iaload, 1) := by decide +kernel
theorem dX1_pushBy_53 : decode cX1_pushBy 53 = .ok (.istore 4, 2) := by decide +kernel
theorem dX1_pushBy_55 : decode cX1_pushBy 55 = .ok (.iinc 5 1, 3) := by decide +kernel
theorem dX1_pushBy_58 : decode cX1_pushBy 58 = .ok (.goto (-48), 3) := by decide +kernel
theorem dX1_pushBy_61 : decode cX1_pushBy 61 = .ok (.iload_n 2, 1) := by decide +kernel
theorem dX1_pushBy_62 : decode cX1_pushBy 62 = .ok (.istore 4, 2) := by decide +kernel
theorem dX1_pushBy_64 : decode cX1_pushBy 64 = .ok (.iconst 0, 1) := by decide +kernel
theorem dX1_pushBy_65 : decode cX1_pushBy 65 = .ok (.istore 5, 2) := by decide +kernel
theorem dX1_pushBy_67 : decode cX1_pushBy 67 = .ok (.iload 5, 2) := by decide +kernel
theorem dX1_pushBy_69 : decode cX1_pushBy 69 = .ok (.bipush 16, 2) := by decide +kernel
theorem dX1_pushBy_71 : decode cX1_pushBy 71 = .ok (.if_icmp .ge 68, 3) := by decide +kernel
theorem dX1_pushBy_74 : decode cX1_pushBy 74 = .ok (.iload 4, 2) := by decide +kernel
theorem dX1_pushBy_76 : decode cX1_pushBy 76 = .ok (.iload_n 1, 1) := by decide +kernel
theorem dX1_pushBy_77 : decode cX1_pushBy 77 = .ok (.if_icmp .eq 62, 3) := by decide +kernel
theorem dX1_pushBy_80 : decode cX1_pushBy 80 = .ok (.aload_n 0, 1) := by decide +kernel
theorem dX1_pushBy_81 : decode cX1_pushBy 81 = .ok (.getfield 9, 3) := by decide +kernel
theorem dX1_pushBy_84 : decode cX1_pushBy 84 = .ok (.aload_n 0, 1) := by decide +kernel
theorem dX1_pushBy_85 : decode cX1_pushBy 85 = .ok (.getfield 15, 3) := by decide +kernel
theorem dX1_pushBy_88 : decode cX1_pushBy 88 = .ok (.iload 4, 2) := by decide +kernel
theorem dX1_pushBy_90 : decode cX1_pushBy 90 = .ok (.iaload, 1) := by decide +kernel
theorem dX1_pushBy_91 : decode cX1_pushBy 91 = .ok (.bipush 16, 2) := by decide +kernel
theorem dX1_pushBy_93 : decode cX1_pushBy 93 = .ok (.imul, 1) := by decide +kernel
theorem dX1_pushBy_94 : decode cX1_pushBy 94 = .ok (.iload 4, 2) := by decide +kernel
theorem dX1_pushBy_96 : decode cX1_pushBy 96 = .ok (.iadd, 1) := by decide +kernel
theorem dX1_pushBy_97 : decode cX1_pushBy 97 = .ok (.dup2, 1) := by decide +kernel
theorem dX1_pushBy_98 : decode cX1_pushBy 98 = .ok (.iaload, 1) := by decide +kernel
theorem dX1_pushBy_99 : decode cX1_pushBy 99 = .ok (.iload_n 3, 1) := by decide +kernel
theorem dX1_pushBy_100 : decode cX1_pushBy 100 = .ok (.isub, 1) := by decide +kernel
theorem dX1_pushBy_101 : decode cX1_pushBy 101 = .ok (.iastore, 1) := by decide +kernel
theorem dX1_pushBy_102 : decode cX1_pushBy 102 = .ok (.aload_n 0, 1) := by decide +kernel
theorem dX1_pushBy_103 : decode cX1_pushBy 103 = .ok (.getfield 9, 3) := by decide +kernel
theorem dX1_pushBy_106 : decode cX1_pushBy 106 = .ok (.iload 4, 2) := by decide +kernel
theorem dX1_pushBy_108 : decode cX1_pushBy 108 = .ok (.bipush 16, 2) := by decide +kernel
theorem dX1_pushBy_110 : decode cX1_pushBy 110 = .ok (.imul, 1) := by decide +kernel
theorem dX1_pushBy_111 : decode cX1_pushBy 111 = .ok (.aload_n 0, 1) := by decide +kernel
theorem dX1_pushBy_112 : decode cX1_pushBy 112 = .ok (.getfield 15, 3) := by decide +kernel
theorem dX1_pushBy_115 : decode cX1_pushBy 115 = .ok (.iload 4, 2) := by decide +kernel
theorem dX1_pushBy_117 : decode cX1_pushBy 117 = .ok (.iaload, 1) := by decide +kernel
theorem dX1_pushBy_118 : decode cX1_pushBy 118 = .ok (.iadd, 1) := by decide +kernel
theorem dX1_pushBy_119 : decode cX1_pushBy 119 = .ok (.dup2, 1) := by decide +kernel
theorem dX1_pushBy_120 : decode cX1_pushBy 120 = .ok (.iaload, 1) := by decide +kernel
theorem dX1_pushBy_121 : decode cX1_pushBy 121 = .ok (.iload_n 3, 1) := by decide +kernel
theorem dX1_pushBy_122 : decode cX1_pushBy 122 = .ok (.iadd, 1) := by decide +kernel
theorem dX1_pushBy_123 : decode cX1_pushBy 123 = .ok (.iastore, 1) := by decide +kernel
theorem dX1_pushBy_124 : decode cX1_pushBy 124 = .ok (.aload_n 0, 1) := by decide +kernel
theorem dX1_pushBy_125 : decode cX1_pushBy 125 = .ok (.getfield 15, 3) := by decide +kernel
theorem dX1_pushBy_128 : decode cX1_pushBy 128 = .ok (.iload 4, 2) := by decide +kernel
theorem dX1_pushBy_130 : decode cX1_pushBy 130 = .ok (.iaload, 1) := by decide +kernel
theorem dX1_pushBy_131 : decode cX1_pushBy 131 = .ok (.istore 4, 2) := by decide +kernel
theorem dX1_pushBy_133 : decode cX1_pushBy 133 = .ok (.iinc 5 1, 3) := by decide +kernel
theorem dX1_pushBy_136 : decode cX1_pushBy 136 = .ok (.goto (-69), 3) := by decide +kernel
theorem dX1_pushBy_139 : decode cX1_pushBy 139 = .ok (.iload_n 3, 1) := by decide +kernel
theorem dX1_pushBy_140 : decode cX1_pushBy 140 = .ok (.ireturn, 1) := by decide +kernel
theorem dX2_init_0 : decode cX2_init 0 = .ok (.aload_n 0, 1) := by decide +kernel
theorem dX2_init_1 : decode cX2_init 1 = .ok (.invokespecial 3, 3) := by decide +kernel
theorem dX2_init_4 : decode cX2_init 4 = .ok (.aload_n 0, 1) := by decide +kernel
theorem dX2_init_5 : decode cX2_init 5 = .ok (.sipush 240, 3) := by decide +kernel
theorem dX2_init_8 : decode cX2_init 8 = .ok (.newarray .int, 2) := by decide +kernel
theorem dX2_init_10 : decode cX2_init 10 = .ok (.putfield 9, 3) := by decide +kernel
theorem dX2_init_13 : decode cX2_init 13 = .ok (.aload_n 0, 1) := by decide +kernel
theorem dX2_init_14 : decode cX2_init 14 = .ok (.sipush 240, 3) := by decide +kernel
theorem dX2_init_17 : decode cX2_init 17 = .ok (.newarray .int, 2) := by decide +kernel
theorem dX2_init_19 : decode cX2_init 19 = .ok (.putfield 15, 3) := by decide +kernel
theorem dX2_init_22 : decode cX2_init 22 = .ok (.aload_n 0, 1) := by decide +kernel
theorem dX2_init_23 : decode cX2_init 23 = .ok (.bipush 16, 2) := by decide +kernel
theorem dX2_init_25 : decode cX2_init 25 = .ok (.newarray .int, 2) := by decide +kernel
theorem dX2_init_27 : decode cX2_init 27 = .ok (.putfield 18, 3) := by decide +kernel
theorem dX2_init_30 : decode cX2_init 30 = .ok (.aload_n 0, 1) := by decide +kernel
theorem dX2_init_31 : decode cX2_init 31 = .ok (.bipush 16, 2) := by decide +kernel
theorem dX2_init_33 : decode cX2_init 33 = .ok (.newarray .int, 2) := by decide +kernel
theorem dX2_init_35 : decode cX2_init 35 = .ok (.putfield 21, 3) := by decide +kernel
theorem dX2_init_38 : decode cX2_init 38 = .ok (.aload_n 0, 1) := by decide +kernel
theorem dX2_init_39 : decode cX2_init 39 = .ok (.bipush 16, 2) := by decide +kernel
theorem dX2_init_41 : decode cX2_init 41 = .ok (.newarray .int, 2) := by decide +kernel
theorem dX2_init_43 : decode cX2_init 43 = .ok (.putfield 24, 3) := by decide +kernel
theorem dX2_init_46 : decode cX2_init 46 = .ok (.aload_n 0, 1) := by decide +kernel
theorem dX2_init_47 : decode cX2_init 47 = .ok (.bipush 16, 2) := by decide +kernel
theorem dX2_init_49 : decode cX2_init 49 = .ok (.newarray .int, 2) := by decide +kernel
theorem dX2_init_51 : decode cX2_init 51 = .ok (.putfield 27, 3) := by decide +kernel
theorem dX2_init_54 : decode cX2_init 54 = .ok (.return_, 1) := by decide +kernel
theorem dX2_become_0 : decode cX2_become 0 = .ok (.aload_n 1, 1) := by decide +kernel
theorem dX2_become_1 : decode cX2_become 1 = .ok (.getfield 9, 3) := by decide +kernel
theorem dX2_become_4 : decode cX2_become 4 = .ok (.iconst 0, 1) := by decide +kernel
theorem dX2_become_5 : decode cX2_become 5 = .ok (.aload_n 0, 1) := by decide +kernel
theorem dX2_become_6 : decode cX2_become 6 = .ok (.getfield 9, 3) := by decide +kernel
theorem dX2_become_9 : decode cX2_become 9 = .ok (.iconst 0, 1) := by decide +kernel
theorem dX2_become_10 : decode cX2_become 10 = .ok (.sipush 240, 3) := by decide +kernel
theorem dX2_become_13 : decode cX2_become 13 = .ok (.invokestatic 30, 3) := by decide +kernel
theorem dX2_become_16 : decode cX2_become 16 = .ok (.aload_n 1, 1) := by decide +kernel
theorem dX2_become_17 : decode cX2_become 17 = .ok (.getfield 15, 3) := by decide +kernel
theorem dX2_become_20 : decode cX2_become 20 = .ok (.iconst 0, 1) := by decide +kernel
theorem dX2_become_21 : decode cX2_become 21 = .ok (.aload_n 0, 1) := by decide +kernel
theorem dX2_become_22 : decode cX2_become 22 = .ok (.getfield 15, 3) := by decide +kernel
theorem dX2_become_25 : decode cX2_become 25 = .ok (.iconst 0, 1) := by decide +kernel
theorem dX2_become_26 : decode cX2_become 26 = .ok (.sipush 240, 3) := by decide +kernel
theorem dX2_become_29 : decode cX2_become 29 = .ok (.invokestatic 30, 3) := by decide +kernel
theorem dX2_become_32 : decode cX2_become 32 = .ok (.aload_n 1, 1) := by decide +kernel
theorem dX2_become_33 : decode cX2_become 33 = .ok (.getfield 18, 3) := by decide +kernel
theorem dX2_become_36 : decode cX2_become 36 = .ok (.iconst 0, 1) := by decide +kernel
theorem dX2_become_37 : decode cX2_become 37 = .ok (.aload_n 0, 1) := by decide +kernel
theorem dX2_become_38 : decode cX2_become 38 = .ok (.getfield 18, 3) := by decide +kernel
theorem dX2_become_41 : decode cX2_become 41 = .ok (.iconst 0, 1) := by decide +kernel
theorem dX2_become_42 : decode cX2_become 42 = .ok (.bipush 16, 2) := by decide +kernel
theorem dX2_become_44 : decode cX2_become 44 = .ok (.invokestatic 30, 3) := by decide +kernel
theorem dX2_become_47 : decode cX2_become 47 = .ok (.aload_n 1, 1) := by decide +kernel
theorem dX2_become_48 : decode cX2_become 48 = .ok (.getfield 21, 3) := by decide +kernel
theorem dX2_become_51 : decode cX2_become 51 = .ok (.iconst 0, 1) := by decide +kernel
theorem dX2_become_52 : decode cX2_become 52 = .ok (.aload_n 0, 1) := by decide +kernel
theorem dX2_become_53 : decode cX2_become 53 = .ok (.getfield 21, 3) := by decide +kernel
theorem dX2_become_56 : decode cX2_become 56 = .ok (.iconst 0, 1) := by decide +kernel
theorem dX2_become_57 : decode cX2_become 57 = .ok (.bipush 16, 2) := by decide +kernel
theorem dX2_become_59 : decode cX2_become 59 = .ok (.invokestatic 30, 3) := by decide +kernel
theorem dX2_become_62 : decode cX2_become 62 = .ok (.aload_n 1, 1) := by decide +kernel
theorem dX2_become_63 : decode cX2_become 63 = .ok (.getfield 24, 3) := by decide +kernel
theorem dX2_become_66 : decode cX2_become 66 = .ok (.iconst 0, 1) := by decide +kernel
theorem dX2_become_67 : decode cX2_become 67 = .ok (.aload_n 0, 1) := by decide +kernel
theorem dX2_become_68 : decode cX2_become 68 = .ok (.getfield 24, 3) := by decide +kernel
theorem dX2_become_71 : decode cX2_become 71 = .ok (.iconst 0, 1) := by decide +kernel
theorem dX2_become_72 : decode cX2_become 72 = .ok (.bipush 16, 2) := by decide +kernel
theorem dX2_become_74 : decode cX2_become 74 = .ok (.invokestatic 30, 3) := by decide +kernel
theorem dX2_become_77 : decode cX2_become 77 = .ok (.aload_n 1, 1) := by decide +kernel
theorem dX2_become_78 : decode cX2_become 78 = .ok (.getfield 27, 3) := by decide +kernel
theorem dX2_become_81 : decode cX2_become 81 = .ok (.iconst 0, 1) := by decide +kernel
theorem dX2_become_82 : decode cX2_become 82 = .ok (.aload_n 0, 1) := by decide +kernel
theorem dX2_become_83 : decode cX2_become 83 = .ok (.getfield 27, 3) := by decide +kernel
theorem dX2_become_86 : decode cX2_become 86 = .ok (.iconst 0, 1) := by decide +kernel
theorem dX2_become_87 : decode cX2_become 87 = .ok (.bipush 16, 2) := by decide +kernel
theorem dX2_become_89 : decode cX2_become 89 = .ok (.invokestatic 30, 3) := by decide +kernel
theorem dX2_become_92 : decode cX2_become 92 = .ok (.aload_n 0, 1) := by decide +kernel
theorem dX2_become_93 : decode cX2_become 93 = .ok (.aload_n 1, 1) := by decide +kernel
theorem dX2_become_94 : decode cX2_become 94 = .ok (.getfield 36, 3) := by decide +kernel
theorem dX2_become_97 : decode cX2_become 97 = .ok (.putfield 36, 3) := by decide +kernel
theorem dX2_become_100 : decode cX2_become 100 = .ok (.aload_n 0, 1) := by decide +kernel
theorem dX2_become_101 : decode cX2_become 101 = .ok (.aload_n 1, 1) := by decide +kernel
theorem dX2_become_102 : decode cX2_become 102 = .ok (.getfield 40, 3) := by decide +kernel
theorem dX2_become_105 : decode cX2_become 105 = .ok (.putfield 40, 3) := by decide +kernel
theorem dX2_become_108 : decode cX2_become 108 = .ok (.return_, 1) := by decide +kernel
theorem dX2_readFrom_0 : decode cX2_readFrom 0 = .ok (.aload_n 0, 1) := by decide +kernel
theorem dX2_readFrom_1 : decode cX2_readFrom 1 = .ok (.iconst 0, 1) := by decide +kernel
theorem dX2_readFrom_2 : decode cX2_readFrom 2 = .ok (.putfield 36, 3) := by decide +kernel
theorem dX2_readFrom_5 : decode cX2_readFrom 5 = .ok (.aload_n 0, 1) := by decide +kernel
theorem dX2_readFrom_6 : decode cX2_readFrom 6 = .ok (.iconst 0, 1) := by decide +kernel
theorem dX2_readFrom_7 : decode cX2_readFrom 7 = .ok (.putfield 40, 3) := by decide +kernel
theorem dX2_readFrom_10 : decode cX2_readFrom 10 = .ok (.iconst 0, 1) := by decide +kernel
theorem dX2_readFrom_11 : decode cX2_readFrom 11 = .ok (.istore_n 2, 1) := by decide +kernel
theorem dX2_readFrom_12 : decode cX2_readFrom 12 = .ok (.iload_n 2, 1) := by decide +kernel
theorem dX2_readFrom_13 : decode cX2_readFrom 13 = .ok (.bipush 16, 2) := by decide +kernel
theorem dX2_readFrom_15 : decode cX2_readFrom 15 = .ok (.if_icmp .gt 178, 3) := by decide +kernel
theorem dX2_readFrom_18 : decode cX2_readFrom 18 = .ok (.aload_n 1, 1) := by decide +kernel
theorem dX2_readFrom_19 : decode cX2_readFrom 19 = .ok (.invokevirtual 43, 3) := by decide +kernel
theorem dX2_readFrom_22 : decode cX2_readFrom 22 = .ok (.istore_n 3, 1) := by decide +kernel
theorem dX2_readFrom_23 : decode cX2_readFrom 23 = .ok (.iload_n 3, 1) := by decide +kernel
theorem dX2_readFrom_24 : decode cX2_readFrom 24 = .ok (.bipush 114, 2) := by decide +kernel
theorem dX2_readFrom_26 : decode cX2_readFrom 26 = .ok (.if_icmp .eq 25, 3) := by decide +kernel
theorem dX2_readFrom_29 : decode cX2_readFrom 29 = .ok (.iload_n 3, 1) := by decide +kernel
theorem dX2_readFrom_30 : decode cX2_readFrom 30 = .ok (.bipush 111, 2) := by decide +kernel
theorem dX2_readFrom_32 : decode cX2_readFrom 32 = .ok (.if_icmp .eq 19, 3) := by decide +kernel
theorem dX2_readFrom_35 : decode cX2_readFrom 35 = .ok (.iload_n 3, 1) := by decide +kernel
theorem dX2_readFrom_36 : decode cX2_readFrom 36 = .ok (.bipush 120, 2) := by decide +kernel
theorem dX2_readFrom_38 : decode cX2_readFrom 38 = .ok (.if_icmp .eq 13, 3) := by decide +kernel
theorem dX2_readFrom_41 : decode cX2_readFrom 41 = .ok (.aload_n 1, 1) := by decide +kernel
theorem dX2_readFrom_42 : decode cX2_readFrom 42 = .ok (.iconst 1, 1) := by decide +kernel
theorem dX2_readFrom_43 : decode cX2_readFrom 43 = .ok (.aload_n 1, 1) := by decide +kernel
theorem dX2_readFrom_44 : decode cX2_readFrom 44 = .ok (.getfield 49, 3) := by decide +kernel
theorem dX2_readFrom_47 : decode cX2_readFrom 47 = .ok (.invokevirtual 52, 3) := by decide +kernel
theorem dX2_readFrom_50 : decode cX2_readFrom 50 = .ok (.ireturn, 1) := by decide +kernel
theorem dX2_readFrom_51 : decode cX2_readFrom 51 = .ok (.iload_n 2, 1) := by decide +kernel
theorem dX2_readFrom_52 : decode cX2_readFrom 52 = .ok (.bipush 16, 2) := by decide +kernel
theorem dX2_readFrom_54 : decode cX2_readFrom 54 = .ok (.if_icmp .ne 13, 3) := by decide +kernel
theorem dX2_readFrom_57 : decode cX2_readFrom 57 = .ok (.aload_n 1, 1) := by decide +kernel
theorem dX2_readFrom_58 : decode cX2_readFrom 58 = .ok (.iconst 4, 1) := by decide +kernel
theorem dX2_readFrom_59 : decode cX2_readFrom 59 = .ok (.aload_n 1, 1) := by decide +kernel
theorem dX2_readFrom_60 : decode cX2_readFrom 60 = .ok (.getfield 49, 3) := by decide +kernel
theorem dX2_readFrom_63 : decode cX2_readFrom 63 = .ok (.invokevirtual 52, 3) := by decide +kernel
theorem dX2_readFrom_66 : decode cX2_readFrom 66 = .ok (.ireturn, 1) := by decide +kernel
theorem dX2_readFrom_67 : decode cX2_readFrom 67 = .ok (.aload_n 1, 1) := by decide +kernel
theorem dX2_readFrom_68 : decode cX2_readFrom 68 = .ok (.dup, 1) := by decide +kernel
theorem dX2_readFrom_69 : decode cX2_readFrom 69 = .ok (.getfield 49, 3) := by decide +kernel
theorem dX2_readFrom_72 : decode cX2_readFrom 72 = .ok (.iconst 1, 1) := by decide +kernel
theorem dX2_readFrom_73 : decode cX2_readFrom 73 = .ok (.iadd, 1) := by decide +kernel
theorem dX2_readFrom_74 : decode cX2_readFrom 74 = .ok (.putfield 49, 3) := by decide +kernel
theorem dX2_readFrom_77 : decode cX2_readFrom 77 = .ok (.aload_n 0, 1) := by decide +kernel
theorem dX2_readFrom_78 : decode cX2_readFrom 78 = .ok (.getfield 18, 3) := by decide +kernel
theorem dX2_readFrom_81 : decode cX2_readFrom 81 = .ok (.iload_n 2, 1) := by decide +kernel
theorem dX2_readFrom_82 : decode cX2_readFrom 82 = .ok (.iload_n 3, 1) := by decide +kernel
theorem dX2_readFrom_83 : decode cX2_readFrom 83 = .ok (.iastore, 1) := by decide +kernel
theorem dX2_readFrom_84 : decode cX2_readFrom 84 = .ok (.aload_n 0, 1) := by decide +kernel
theorem dX2_readFrom_85 : decode cX2_readFrom 85 = .ok (.getfield 21, 3) := by decide +kernel
theorem dX2_readFrom_88 : decode cX2_readFrom 88 = .ok (.iload_n 2, 1) := by decide +kernel
theorem dX2_readFrom_89 : decode cX2_readFrom 89 = .ok (.aload_n 0, 1) := by decide +kernel
theorem dX2_readFrom_90 : decode cX2_readFrom 90 = .ok (.getfield 36, 3) := by decide +kernel
theorem dX2_readFrom_93 : decode cX2_readFrom 93 = .ok (.iastore, 1) := by decide +kernel
theorem dX2_readFrom_94 : decode cX2_readFrom 94 = .ok (.iload_n 3, 1) := by decide +kernel
theorem dX2_readFrom_95 : decode cX2_readFrom 95 = .ok (.bipush 120, 2) := by decide +kernel
theorem dX2_readFrom_97 : decode cX2_readFrom 97 = .ok (.if_icmp .eq 14, 3) := by decide +kernel
theorem dX2_readFrom_100 : decode cX2_readFrom 100 = .ok (.aload_n 0, 1) := by decide +kernel
theorem dX2_readFrom_101 : decode cX2_readFrom 101 = .ok (.aload_n 1, 1) := by decide +kernel
theorem dX2_readFrom_102 : decode cX2_readFrom 102 = .ok (.iconst 0, 1) := by decide +kernel
theorem dX2_readFrom_103 : decode cX2_readFrom 103 = .ok (.invokevirtual 56, 3) := by decide +kernel
theorem dX2_readFrom_106 : decode cX2_readFrom 106 = .ok (.ifCond .ne 5, 3) := by decide +kernel
theorem dX2_readFrom_109 : decode cX2_readFrom 109 = .ok (.iconst 0, 1) := by decide +kernel
theorem dX2_readFrom_110 : decode cX2_readFrom 110 = .ok (.ireturn, 1) := by decide +kernel
theorem dX2_readFrom_111 : decode cX2_readFrom 111 = .ok (.aload_n 0, 1) := by decide +kernel
theorem dX2_readFrom_112 : decode cX2_readFrom 112 = .ok (.getfield 24, 3) := by decide +kernel
theorem dX2_readFrom_115 : decode cX2_readFrom 115 = .ok (.iload_n 2, 1) := by decide +kernel
theorem dX2_readFrom_116 : decode cX2_readFrom 116 = .ok (.aload_n 0, 1) := by decide +kernel
theorem dX2_readFrom_117 : decode cX2_readFrom 117 = .ok (.getfield 36, 3) := by decide +kernel
theorem dX2_readFrom_120 : decode cX2_readFrom 120 = .ok (.iastore, 1) := by decide +kernel
theorem dX2_readFrom_121 : decode cX2_readFrom 121 = .ok (.aload_n 1, 1) := by decide +kernel
theorem dX2_readFrom_122 : decode cX2_readFrom 122 = .ok (.bipush 40, 2) := by decide +kernel
theorem dX2_readFrom_124 : decode cX2_readFrom 124 = .ok (.invokevirtual 60, 3) := by decide +kernel
theorem dX2_readFrom_127 : decode cX2_readFrom 127 = .ok (.ifCond .eq 21, 3) := by decide +kernel
theorem dX2_readFrom_130 : decode cX2_readFrom 130 = .ok (.aload_n 0, 1) := by decide +kernel
theorem dX2_readFrom_131 : decode cX2_readFrom 131 = .ok (.aload_n 1, 1) := by decide +kernel
theorem dX2_readFrom_132 : decode cX2_readFrom 132 = .ok (.iconst 1, 1) := by decide +kernel
theorem dX2_readFrom_133 : decode cX2_readFrom 133 = .ok (.invokevirtual 64, 3) := by decide +kernel
theorem dX2_readFrom_136 : decode cX2_readFrom 136 = .ok (.ifCond .eq 12, 3) := by decide +kernel
theorem dX2_readFrom_139 : decode cX2_readFrom 139 = .ok (.aload_n 1, 1) := by decide +kernel
theorem dX2_readFrom_140 : decode cX2_readFrom 140 = .ok (.bipush 41, 2) := by decide +kernel
theorem dX2_readFrom_142 : decode cX2_readFrom 142 = .ok (.invokevirtual 60, 3) := by decide +kernel
theorem dX2_readFrom_145 : decode cX2_readFrom 145 = .ok (.ifCond .ne 5, 3) := by decide +kernel
theorem dX2_readFrom_148 : decode cX2_readFrom 148 = .ok (.iconst 0, 1) := by decide +kernel
theorem dX2_readFrom_149 : decode cX2_readFrom 149 = .ok (.ireturn, 1) := by decide +kernel
theorem dX2_readFrom_150 : decode cX2_readFrom 150 = .ok (.aload_n 0, 1) := by decide +kernel
theorem dX2_readFrom_151 : decode cX2_readFrom 151 = .ok (.getfield 27, 3) := by decide +kernel
theorem dX2_readFrom_154 : decode cX2_readFrom 154 = .ok (.iload_n 2, 1) := by decide +kernel
theorem dX2_readFrom_155 : decode cX2_readFrom 155 = .ok (.aload_n 0, 1) := by decide +kernel
theorem dX2_readFrom_156 : decode cX2_readFrom 156 = .ok (.getfield 36, 3) := by decide +kernel
theorem dX2_readFrom_159 : decode cX2_readFrom 159 = .ok (.iastore, 1) := by decide +kernel
theorem dX2_readFrom_160 : decode cX2_readFrom 160 = .ok (.aload_n 0, 1) := by decide +kernel
theorem dX2_readFrom_161 : decode cX2_readFrom 161 = .ok (.iload_n 2, 1) := by decide +kernel
theorem dX2_readFrom_162 : decode cX2_readFrom 162 = .ok (.iconst 1, 1) := by decide +kernel
theorem dX2_readFrom_163 : decode cX2_readFrom 163 = .ok (.iadd, 1) := by decide +kernel
theorem dX2_readFrom_164 : decode cX2_readFrom 164 = .ok (.putfield 40, 3) := by decide +kernel
theorem dX2_readFrom_167 : decode cX2_readFrom 167 = .ok (.aload_n 1, 1) := by decide +kernel
theorem dX2_readFrom_168 : decode cX2_readFrom 168 = .ok (.invokevirtual 67, 3) := by decide +kernel
theorem dX2_readFrom_171 : decode cX2_readFrom 171 = .ok (.ifCond .eq 5, 3) := by decide +kernel
theorem dX2_readFrom_174 : decode cX2_readFrom 174 = .ok (.iconst 1, 1) := by decide +kernel
theorem dX2_readFrom_175 : decode cX2_readFrom 175 = .ok (.ireturn, 1) := by decide +kernel
theorem dX2_readFrom_176 : decode cX2_readFrom 176 = .ok (.aload_n 1, 1) := by decide +kernel
theorem dX2_readFrom_177 : decode cX2_readFrom 177 = .ok (.bipush 59, 2) := by decide +kernel
theorem dX2_readFrom_179 : decode cX2_readFrom 179 = .ok (.invokevirtual 60, 3) := by decide +kernel
theorem dX2_readFrom_182 : decode cX2_readFrom 182 = .ok (.ifCond .ne 5, 3) := by decide +kernel
theorem dX2_readFrom_185 : decode cX2_readFrom 185 = .ok (.iconst 0, 1) := by decide +kernel
theorem dX2_readFrom_186 : decode cX2_readFrom 186 = .ok (.ireturn, 1) := by decide +kernel
theorem dX2_readFrom_187 : decode cX2_readFrom 187 = .ok (.iinc 2 1, 3) := by decide +kernel
theorem dX2_readFrom_190 : decode cX2_readFrom 190 = .ok (.goto (-178), 3) := by decide +kernel
theorem dX2_readFrom_193 : decode cX2_readFrom 193 = .ok (.iconst 0, 1) := by decide +kernel
theorem dX2_readFrom_194 : decode cX2_readFrom 194 = .ok (.ireturn, 1) := by decide +kernel
theorem dX2_readCondition_0 : decode cX2_readCondition 0 = .ok (.iconst (-1), 1) := by decide +kernel
theorem dX2_readCondition_1 : decode cX2_readCondition 1 = .ok (.istore_n 3, 1) := by decide +kernel
theorem dX2_readCondition_2 : decode cX2_readCondition 2 = .ok (.iconst (-1), 1) := by decide +kernel
theorem dX2_readCondition_3 : decode cX2_readCondition 3 = .ok (.istore 4, 2) := by decide +kernel
theorem dX2_readCondition_5 : decode cX2_readCondition 5 = .ok (.iconst 0, 1) := by decide +kernel
theorem dX2_readCondition_6 : decode cX2_readCondition 6 = .ok (.istore 5, 2) := by decide +kernel
theorem dX2_readCondition_8 : decode cX2_readCondition 8 = .ok (.iload 5, 2) := by decide +kernel
theorem dX2_readCondition_10 : decode cX2_readCondition 10 = .ok (.sipush 240, 3) := by decide +kernel
theorem dX2_readCondition_13 : decode cX2_readCondition 13 = .ok (.if_icmp .ge 74, 3) := by decide +kernel
theorem dX2_readCondition_16 : decode cX2_readCondition 16 = .ok (.aload_n 0, 1) := by decide +kernel
theorem dX2_readCondition_17 : decode cX2_readCondition 17 = .ok (.aload_n 1, 1) := by decide +kernel
theorem dX2_readCondition_18 : decode cX2_readCondition 18 = .ok (.iload_n 2, 1) := by decide +kernel
theorem dX2_readCondition_19 : decode cX2_readCondition 19 = .ok (.invokevirtual 71, 3) := by decide +kernel
theorem dX2_readCondition_22 : decode cX2_readCondition 22 = .ok (.ifCond .ne 5, 3) := by decide +kernel
theorem dX2_readCondition_25 : decode cX2_readCondition 25 = .ok (.iconst 0, 1) := by decide +kernel
theorem dX2_readCondition_26 : decode cX2_readCondition 26 = .ok (.ireturn, 1) := by decide +kernel
theorem dX2_readCondition_27 : decode cX2_readCondition 27 = .ok (.aload_n 1, 1) := by decide +kernel
theorem dX2_readCondition_28 : decode cX2_readCondition 28 = .ok (.bipush 38, 2) := by decide +kernel
theorem dX2_readCondition_30 : decode cX2_readCondition 30 = .ok (.invokevirtual 74, 3) := by decide +kernel
theorem dX2_readCondition_33 : decode cX2_readCondition 33 = .ok (.ifCond .eq 14, 3) := by decide +kernel
theorem dX2_readCondition_36 : decode cX2_readCondition 36 = .ok (.aload_n 0, 1) := by decide +kernel
theorem dX2_readCondition_37 : decode cX2_readCondition 37 = .ok (.bipush 38, 2) := by decide +kernel
theorem dX2_readCondition_39 : decode cX2_readCondition 39 = .ok (.iload_n 3, 1) := by decide +kernel
theorem dX2_readCondition_40 : decode cX2_readCondition 40 = .ok (.invokevirtual 77, 3) := by decide +kernel
theorem dX2_readCondition_43 : decode cX2_readCondition 43 = .ok (.istore_n 3, 1) := by decide +kernel
theorem dX2_readCondition_44 : decode cX2_readCondition 44 = .ok (.goto 37, 3) := by decide +kernel
theorem dX2_readCondition_47 : decode cX2_readCondition 47 = .ok (.aload_n 0, 1) := by decide +kernel
theorem dX2_readCondition_48 : decode cX2_readCondition 48 = .ok (.iload_n 3, 1) := by decide +kernel
theorem dX2_readCondition_49 : decode cX2_readCondition 49 = .ok (.invokevirtual 81, 3) := by decide +kernel
theorem dX2_readCondition_52 : decode cX2_readCondition 52 = .ok (.iconst (-1), 1) := by decide +kernel
theorem dX2_readCondition_53 : decode cX2_readCondition 53 = .ok (.istore_n 3, 1) := by decide +kernel
theorem dX2_readCondition_54 : decode cX2_readCondition 54 = .ok (.aload_n 1, 1) := by decide +kernel
theorem dX2_readCondition_55 : decode cX2_readCondition 55 = .ok (.bipush 124, 2) := by decide +kernel
theorem dX2_readCondition_57 : decode cX2_readCondition 57 = .ok (.invokevirtual 74, 3) := by decide +kernel
theorem dX2_readCondition_60 : decode cX2_readCondition 60 = .ok (.ifCond .ne 11, 3) := by decide +kernel
theorem dX2_readCondition_63 : decode cX2_readCondition 63 = .ok (.aload_n 0, 1) := by decide +kernel
theorem dX2_readCondition_64 : decode cX2_readCondition 64 = .ok (.iload 4, 2) := by decide +kernel
theorem dX2_readCondition_66 : decode cX2_readCondition 66 = .ok (.invokevirtual 81, 3) := by decide +kernel
theorem dX2_readCondition_69 : decode cX2_readCondition 69 = .ok (.iconst 1, 1) := by decide +kernel
theorem dX2_readCondition_70 : decode cX2_readCondition 70 = .ok (.ireturn, 1) := by decide +kernel
theorem dX2_readCondition_71 : decode cX2_readCondition 71 = .ok (.aload_n 0, 1) := by decide +kernel
theorem dX2_readCondition_72 : decode cX2_readCondition 72 = .ok (.bipush 124, 2) := by decide +kernel
theorem dX2_readCondition_74 : decode cX2_readCondition 74 = .ok (.iload 4, 2) := by decide +kernel
theorem dX2_readCondition_76 : decode cX2_readCondition 76 = .ok (.invokevirtual 77, 3) := by decide +kernel
theorem dX2_readCondition_79 : decode cX2_readCondition 79 = .ok (.istore 4, 2) := by decide +kernel
theorem dX2_readCondition_81 : decode cX2_readCondition 81 = .ok (.iinc 5 1, 3) := by decide +kernel
theorem dX2_readCondition_84 : decode cX2_readCondition 84 = .ok (.goto (-76), 3) := by decide +kernel
theorem dX2_readCondition_87 : decode cX2_readCondition 87 = .ok (.iconst 0, 1) := by decide +kernel
theorem dX2_readCondition_88 : decode cX2_readCondition 88 = .ok (.ireturn, 1) := by decide +kernel
theorem dX2_readTest_0 : decode cX2_readTest 0 = .ok (.iload_n 2, 1) := by decide +kernel
theorem dX2_readTest_1 : decode cX2_readTest 1 = .ok (.istore_n 3, 1) := by decide +kernel
theorem dX2_readTest_2 : decode cX2_readTest 2 = .ok (.iload_n 3, 1) := by decide +kernel
theorem dX2_readTest_3 : decode cX2_readTest 3 = .ok (.bipush 6, 2) := by decide +kernel
theorem dX2_readTest_5 : decode cX2_readTest 5 = .ok (.if_icmp .ge 28, 3) := by decide +kernel
theorem dX2_readTest_8 : decode cX2_readTest 8 = .ok (.aload_n 1, 1) := by decide +kernel
theorem dX2_readTest_9 : decode cX2_readTest 9 = .ok (.invokevirtual 43, 3) := by decide +kernel
theorem dX2_readTest_12 : decode cX2_readTest 12 = .ok (.bipush 33, 2) := by decide +kernel
theorem dX2_readTest_14 : decode cX2_readTest 14 = .ok (.if_icmp .ne 19, 3) := by decide +kernel
theorem dX2_readTest_17 : decode cX2_readTest 17 = .ok (.aload_n 1, 1) := by decide +kernel
theorem dX2_readTest_18 : decode cX2_readTest 18 = .ok (.dup, 1) := by decide +kernel
theorem dX2_readTest_19 : decode cX2_readTest 19 = .ok (.getfield 49, 3) := by decide +kernel
theorem dX2_readTest_22 : decode cX2_readTest 22 = .ok (.iconst 1, 1) := by decide +kernel
theorem dX2_readTest_23 : decode cX2_readTest 23 = .ok (.iadd, 1) := by decide +kernel
theorem dX2_readTest_24 : decode cX2_readTest 24 = .ok (.putfield 49, 3) := by decide +kernel
theorem dX2_readTest_27 : decode cX2_readTest 27 = .ok (.iinc 3 1, 3) := by decide +kernel
theorem dX2_readTest_30 : decode cX2_readTest 30 = .ok (.goto (-28), 3) := by decide +kernel
theorem dX2_readTest_33 : decode cX2_readTest 33 = .ok (.aload_n 1, 1) := by decide +kernel
theorem dX2_readTest_34 : decode cX2_readTest 34 = .ok (.invokevirtual 43, 3) := by decide +kernel
theorem dX2_readTest_37 : decode cX2_readTest 37 = .ok (.istore 4, 2) := by decide +kernel
theorem dX2_readTest_39 : decode cX2_readTest 39 = .ok (.iload_n 3, 1) := by decide +kernel
theorem dX2_readTest_40 : decode cX2_readTest 40 = .ok (.bipush 6, 2) := by decide +kernel
theorem dX2_readTest_42 : decode cX2_readTest 42 = .ok (.if_icmp .lt 27, 3) := by decide +kernel
theorem dX2_readTest_45 : decode cX2_readTest 45 = .ok (.iload 4, 2) := by decide +kernel
theorem dX2_readTest_47 : decode cX2_readTest 47 = .ok (.bipush 33, 2) := by decide +kernel
theorem dX2_readTest_49 : decode cX2_readTest 49 = .ok (.if_icmp .eq 10, 3) := by decide +kernel
theorem dX2_readTest_52 : decode cX2_readTest 52 = .ok (.iload 4, 2) := by decide +kernel
theorem dX2_readTest_54 : decode cX2_readTest 54 = .ok (.bipush 40, 2) := by decide +kernel
theorem dX2_readTest_56 : decode cX2_readTest 56 = .ok (.if_icmp .ne 13, 3) := by decide +kernel
theorem dX2_readTest_59 : decode cX2_readTest 59 = .ok (.aload_n 1, 1) := by decide +kernel
theorem dX2_readTest_60 : decode cX2_readTest 60 = .ok (.iconst 5, 1) := by decide +kernel
theorem dX2_readTest_61 : decode cX2_readTest 61 = .ok (.aload_n 1, 1) := by decide +kernel
theorem dX2_readTest_62 : decode cX2_readTest 62 = .ok (.getfield 49, 3) := by decide +kernel
theorem dX2_readTest_65 : decode cX2_readTest 65 = .ok (.invokevirtual 52, 3) := by decide +kernel
theorem dX2_readTest_68 : decode cX2_readTest 68 = .ok (.ireturn, 1) := by decide +kernel
theorem dX2_readTest_69 : decode cX2_readTest 69 = .ok (.iload 4, 2) := by decide +kernel
theorem dX2_readTest_71 : decode cX2_readTest 71 = .ok (.bipush 40, 2) := by decide +kernel
theorem dX2_readTest_73 : decode cX2_readTest 73 = .ok (.if_icmp .ne 35, 3) := by decide +kernel
theorem dX2_readTest_76 : decode cX2_readTest 76 = .ok (.aload_n 1, 1) := by decide +kernel
theorem dX2_readTest_77 : decode cX2_readTest 77 = .ok (.dup, 1) := by decide +kernel
theorem dX2_readTest_78 : decode cX2_readTest 78 = .ok (.getfield 49, 3) := by decide +kernel
theorem dX2_readTest_81 : decode cX2_readTest 81 = .ok (.iconst 1, 1) := by decide +kernel
theorem dX2_readTest_82 : decode cX2_readTest 82 = .ok (.iadd, 1) := by decide +kernel
theorem dX2_readTest_83 : decode cX2_readTest 83 = .ok (.putfield 49, 3) := by decide +kernel
theorem dX2_readTest_86 : decode cX2_readTest 86 = .ok (.aload_n 0, 1) := by decide +kernel
theorem dX2_readTest_87 : decode cX2_readTest 87 = .ok (.aload_n 1, 1) := by decide +kernel
theorem dX2_readTest_88 : decode cX2_readTest 88 = .ok (.iload_n 3, 1) := by decide +kernel
theorem dX2_readTest_89 : decode cX2_readTest 89 = .ok (.iconst 1, 1) := by decide +kernel
theorem dX2_readTest_90 : decode cX2_readTest 90 = .ok (.iadd, 1) := by decide +kernel
theorem dX2_readTest_91 : decode cX2_readTest 91 = .ok (.invokevirtual 64, 3) := by decide +kernel
theorem dX2_readTest_94 : decode cX2_readTest 94 = .ok (.ifCond .eq 12, 3) := by decide +kernel
theorem dX2_readTest_97 : decode cX2_readTest 97 = .ok (.aload_n 1, 1) := by decide +kernel
theorem dX2_readTest_98 : decode cX2_readTest 98 = .ok (.bipush 41, 2) := by decide +kernel
theorem dX2_readTest_100 : decode cX2_readTest 100 = .ok (.invokevirtual 60, 3) := by decide +kernel
theorem dX2_readTest_103 : decode cX2_readTest 103 = .ok (.ifCond .ne 82, 3) := by decide +kernel
theorem dX2_readTest_106 : decode cX2_readTest 106 = .ok (.iconst 0, 1) := by decide +kernel
theorem dX2_readTest_107 : decode cX2_readTest 107 = .ok (.ireturn, 1) := by decide +kernel
theorem dX2_readTest_108 : decode cX2_readTest 108 = .ok (.aload_n 0, 1) := by decide +kernel
theorem dX2_readTest_109 : decode cX2_readTest 109 = .ok (.aload_n 1, 1) := by decide +kernel
theorem dX2_readTest_110 : decode cX2_readTest 110 = .ok (.iload_n 3, 1) := by decide +kernel
theorem dX2_readTest_111 : decode cX2_readTest 111 = .ok (.invokevirtual 56, 3) := by decide +kernel
theorem dX2_readTest_114 : decode cX2_readTest 114 = .ok (.ifCond .ne 5, 3) := by decide +kernel
theorem dX2_readTest_117 : decode cX2_readTest 117 = .ok (.iconst 0, 1) := by decide +kernel
theorem dX2_readTest_118 : decode cX2_readTest 118 = .ok (.ireturn, 1) := by decide +kernel
theorem dX2_readTest_119 : decode cX2_readTest 119 = .ok (.aload_n 1, 1) := by decide +kernel
theorem dX2_readTest_120 : decode cX2_readTest 120 = .ok (.invokevirtual 43, 3) := by decide +kernel
theorem dX2_readTest_123 : decode cX2_readTest 123 = .ok (.istore 5, 2) := by decide +kernel
theorem dX2_readTest_125 : decode cX2_readTest 125 = .ok (.iload 5, 2) := by decide +kernel
theorem dX2_readTest_127 : decode cX2_readTest 127 = .ok (.bipush 60, 2) := by decide +kernel
theorem dX2_readTest_129 : decode cX2_readTest 129 = .ok (.if_icmp .eq 27, 3) := by decide +kernel
theorem dX2_readTest_132 : decode cX2_readTest 132 = .ok (.iload 5, 2) := by decide +kernel
theorem dX2_readTest_134 : decode cX2_readTest 134 = .ok (.bipush 62, 2) := by decide +kernel
theorem dX2_readTest_136 : decode cX2_readTest 136 = .ok (.if_icmp .eq 20, 3) := by decide +kernel
theorem dX2_readTest_139 : decode cX2_readTest 139 = .ok (.iload 5, 2) := by decide +kernel
theorem dX2_readTest_141 : decode cX2_readTest 141 = .ok (.bipush 61, 2) := by decide +kernel
theorem dX2_readTest_143 : decode cX2_readTest 143 = .ok (.if_icmp .eq 13, 3) := by decide +kernel
theorem dX2_readTest_146 : decode cX2_readTest 146 = .ok (.aload_n 1, 1) := by decide +kernel
theorem dX2_readTest_147 : decode cX2_readTest 147 = .ok (.iconst 1, 1) := by decide +kernel
theorem dX2_readTest_148 : decode cX2_readTest 148 = .ok (.aload_n 1, 1) := by decide +kernel
theorem dX2_readTest_149 : decode cX2_readTest 149 = .ok (.getfield 49, 3) := by decide +kernel
theorem dX2_readTest_152 : decode cX2_readTest 152 = .ok (.invokevirtual 52, 3) := by decide +kernel
theorem dX2_readTest_155 : decode cX2_readTest 155 = .ok (.ireturn, 1) := by decide +kernel
theorem dX2_readTest_156 : decode cX2_readTest 156 = .ok (.aload_n 1, 1) := by decide +kernel
theorem dX2_readTest_157 : decode cX2_readTest 157 = .ok (.dup, 1) := by decide +kernel
theorem dX2_readTest_158 : decode cX2_readTest 158 = .ok (.getfield 49, 3) := by decide +kernel
theorem dX2_readTest_161 : decode cX2_readTest 161 = .ok (.iconst 1, 1) := by decide +kernel
theorem dX2_readTest_162 : decode cX2_readTest 162 = .ok (.iadd, 1) := by decide +kernel
theorem dX2_readTest_163 : decode cX2_readTest 163 = .ok (.putfield 49, 3) := by decide +kernel
theorem dX2_readTest_166 : decode cX2_readTest 166 = .ok (.aload_n 0, 1) := by decide +kernel
theorem dX2_readTest_167 : decode cX2_readTest 167 = .ok (.aload_n 1, 1) := by decide +kernel
theorem dX2_readTest_168 : decode cX2_readTest 168 = .ok (.iload_n 3, 1) := by decide +kernel
theorem dX2_readTest_169 : decode cX2_readTest 169 = .ok (.invokevirtual 56, 3) := by decide +kernel
theorem dX2_readTest_172 : decode cX2_readTest 172 = .ok (.ifCond .ne 5, 3) := by decide +kernel
theorem dX2_readTest_175 : decode cX2_readTest 175 = .ok (.iconst 0, 1) := by decide +kernel
theorem dX2_readTest_176 : decode cX2_readTest 176 = .ok (.ireturn, 1) := by decide +kernel
theorem dX2_readTest_177 : decode cX2_readTest 177 = .ok (.aload_n 0, 1) := by decide +kernel
theorem dX2_readTest_178 : decode cX2_readTest 178 = .ok (.iload 5, 2) := by decide +kernel
theorem dX2_readTest_180 : decode cX2_readTest 180 = .ok (.iconst 0, 1) := by decide +kernel
theorem dX2_readTest_181 : decode cX2_readTest 181 = .ok (.invokevirtual 77, 3) := by decide +kernel
theorem dX2_readTest_184 : decode cX2_readTest 184 = .ok (.pop, 1) := by decide +kernel
theorem dX2_readTest_185 : decode cX2_readTest 185 = .ok (.iload_n 2, 1) := by decide +kernel
theorem dX2_readTest_186 : decode cX2_readTest 186 = .ok (.istore 5, 2) := by decide +kernel
theorem dX2_readTest_188 : decode cX2_readTest 188 = .ok (.iload 5, 2) := by decide +kernel
theorem dX2_readTest_190 : decode cX2_readTest 190 = .ok (.iload_n 3, 1) := by decide +kernel
theorem dX2_readTest_191 : decode cX2_readTest 191 = .ok (.if_icmp .ge 17, 3) := by decide +kernel
theorem dX2_readTest_194 : decode cX2_readTest 194 = .ok (.aload_n 0, 1) := by decide +kernel
theorem dX2_readTest_195 : decode cX2_readTest 195 = .ok (.bipush 33, 2) := by decide +kernel
theorem dX2_readTest_197 : decode cX2_readTest 197 = .ok (.iconst 0, 1) := by decide +kernel
theorem dX2_readTest_198 : decode cX2_readTest 198 = .ok (.invokevirtual 77, 3) := by decide +kernel
theorem dX2_readTest_201 : decode cX2_readTest 201 = .ok (.pop, 1) := by decide +kernel
theorem dX2_readTest_202 : decode cX2_readTest 202 = .ok (.iinc 5 1, 3) := by decide +kernel
theorem dX2_readTest_205 : decode cX2_readTest 205 = .ok (.goto (-17), 3) := by decide +kernel
theorem dX2_readTest_208 : decode cX2_readTest 208 = .ok (.iconst 1, 1) := by decide +kernel
theorem dX2_readTest_209 : decode cX2_readTest 209 = .ok (.ireturn, 1) := by decide +kernel
theorem dX2_readSum_0 : decode cX2_readSum 0 = .ok (.iconst 0, 1) := by decide +kernel
theorem dX2_readSum_1 : decode cX2_readSum 1 = .ok (.istore_n 3, 1) := by decide +kernel
theorem dX2_readSum_2 : decode cX2_readSum 2 = .ok (.iconst 0, 1) := by decide +kernel
theorem dX2_readSum_3 : decode cX2_readSum 3 = .ok (.istore 4, 2) := by decide +kernel
theorem dX2_readSum_5 : decode cX2_readSum 5 = .ok (.iconst 0, 1) := by decide +kernel
theorem dX2_readSum_6 : decode cX2_readSum 6 = .ok (.istore 5, 2) := by decide +kernel
theorem dX2_readSum_8 : decode cX2_readSum 8 = .ok (.iload 5, 2) := by decide +kernel
theorem dX2_readSum_10 : decode cX2_readSum 10 = .ok (.sipush 240, 3) := by decide +kernel
theorem dX2_readSum_13 : decode cX2_readSum 13 = .ok (.if_icmp .ge 120, 3) := by decide +kernel
theorem dX2_readSum_16 : decode cX2_readSum 16 = .ok (.aload_n 0, 1) := by decide +kernel
theorem dX2_readSum_17 : decode cX2_readSum 17 = .ok (.aload_n 1, 1) := by decide +kernel
theorem dX2_readSum_18 : decode cX2_readSum 18 = .ok (.iload_n 2, 1) := by decide +kernel
theorem dX2_readSum_19 : decode cX2_readSum 19 = .ok (.invokevirtual 85, 3) := by decide +kernel
theorem dX2_readSum_22 : decode cX2_readSum 22 = .ok (.ifCond .ne 5, 3) := by decide +kernel
theorem dX2_readSum_25 : decode cX2_readSum 25 = .ok (.iconst 0, 1) := by decide +kernel
theorem dX2_readSum_26 : decode cX2_readSum 26 = .ok (.ireturn, 1) := by decide +kernel
theorem dX2_readSum_27 : decode cX2_readSum 27 = .ok (.iload 4, 2) := by decide +kernel
theorem dX2_readSum_29 : decode cX2_readSum 29 = .ok (.ifCond .eq 11, 3) := by decide +kernel
theorem dX2_readSum_32 : decode cX2_readSum 32 = .ok (.aload_n 0, 1) := by decide +kernel
theorem dX2_readSum_33 : decode cX2_readSum 33 = .ok (.iload 4, 2) := by decide +kernel
theorem dX2_readSum_35 : decode cX2_readSum 35 = .ok (.iconst 0, 1) := by decide +kernel
theorem dX2_readSum_36 : decode cX2_readSum 36 = .ok (.invokevirtual 77, 3) := by decide +kernel
theorem dX2_readSum_39 : decode cX2_readSum 39 = .ok (.pop, 1) := by decide +kernel
theorem dX2_readSum_40 : decode cX2_readSum 40 = .ok (.iconst 0, 1) := by decide +kernel
theorem dX2_readSum_41 : decode cX2_readSum 41 = .ok (.istore 4, 2) := by decide +kernel
theorem dX2_readSum_43 : decode cX2_readSum 43 = .ok (.aload_n 1, 1) := by decide +kernel
theorem dX2_readSum_44 : decode cX2_readSum 44 = .ok (.invokevirtual 43, 3) := by decide +kernel
theorem dX2_readSum_47 : decode cX2_readSum 47 = .ok (.istore 6, 2) := by decide +kernel
theorem dX2_readSum_49 : decode cX2_readSum 49 = .ok (.iload 6, 2) := by decide +kernel
theorem dX2_readSum_51 : decode cX2_readSum 51 = .ok (.bipush 42, 2) := by decide +kernel
theorem dX2_readSum_53 : decode cX2_readSum 53 = .ok (.if_icmp .eq 17, 3) := by decide +kernel
theorem dX2_readSum_56 : decode cX2_readSum 56 = .ok (.iload 6, 2) := by decide +kernel
theorem dX2_readSum_58 : decode cX2_readSum 58 = .ok (.bipush 47, 2) := by decide +kernel
theorem dX2_readSum_60 : decode cX2_readSum 60 = .ok (.if_icmp .eq 10, 3) := by decide +kernel
theorem dX2_readSum_63 : decode cX2_readSum 63 = .ok (.iload 6, 2) := by decide +kernel
theorem dX2_readSum_65 : decode cX2_readSum 65 = .ok (.bipush 37, 2) := by decide +kernel
theorem dX2_readSum_67 : decode cX2_readSum 67 = .ok (.if_icmp .ne 20, 3) := by decide +kernel
theorem dX2_readSum_70 : decode cX2_readSum 70 = .ok (.iload 6, 2) := by decide +kernel
theorem dX2_readSum_72 : decode cX2_readSum 72 = .ok (.istore 4, 2) := by decide +kernel
theorem dX2_readSum_74 : decode cX2_readSum 74 = .ok (.aload_n 1, 1) := by decide +kernel
theorem dX2_readSum_75 : decode cX2_readSum 75 = .ok (.dup, 1) := by decide +kernel
theorem dX2_readSum_76 : decode cX2_readSum 76 = .ok (.getfield 49, 3) := by decide +kernel
theorem dX2_readSum_79 : decode cX2_readSum 79 = .ok (.iconst 1, 1) := by decide +kernel
theorem dX2_readSum_80 : decode cX2_readSum 80 = .ok (.iadd, 1) := by decide +kernel
theorem dX2_readSum_81 : decode cX2_readSum 81 = .ok (.putfield 49, 3) := by decide +kernel
theorem dX2_readSum_84 : decode cX2_readSum 84 = .ok (.goto 43, 3) := by decide +kernel
theorem dX2_readSum_87 : decode cX2_readSum 87 = .ok (.iload_n 3, 1) := by decide +kernel
theorem dX2_readSum_88 : decode cX2_readSum 88 = .ok (.ifCond .eq 10, 3) := by decide +kernel
theorem dX2_readSum_91 : decode cX2_readSum 91 = .ok (.aload_n 0, 1) := by decide +kernel
theorem dX2_readSum_92 : decode cX2_readSum 92 = .ok (.iload_n 3, 1) := by decide +kernel
theorem dX2_readSum_93 : decode cX2_readSum 93 = .ok (.iconst 0, 1) := by decide +kernel
theorem dX2_readSum_94 : decode cX2_readSum 94 = .ok (.invokevirtual 77, 3) := by decide +kernel
theorem dX2_readSum_97 : decode cX2_readSum 97 = .ok (.pop, 1) := by decide +kernel
theorem dX2_readSum_98 : decode cX2_readSum 98 = .ok (.iload 6, 2) := by decide +kernel
theorem dX2_readSum_100 : decode cX2_readSum 100 = .ok (.bipush 43, 2) := by decide +kernel
theorem dX2_readSum_102 : decode cX2_readSum 102 = .ok (.if_icmp .eq 12, 3) := by decide +kernel
theorem dX2_readSum_105 : decode cX2_readSum 105 = .ok (.iload 6, 2) := by decide +kernel
theorem dX2_readSum_107 : decode cX2_readSum 107 = .ok (.bipush 45, 2) := by decide +kernel
theorem dX2_readSum_109 : decode cX2_readSum 109 = .ok (.if_icmp .eq 5, 3) := by decide +kernel
theorem dX2_readSum_112 : decode cX2_readSum 112 = .ok (.iconst 1, 1) := by decide +kernel
theorem dX2_readSum_113 : decode cX2_readSum 113 = .ok (.ireturn, 1) := by decide +kernel
theorem dX2_readSum_114 : decode cX2_readSum 114 = .ok (.iload 6, 2) := by decide +kernel
theorem dX2_readSum_116 : decode cX2_readSum 116 = .ok (.istore_n 3, 1) := by decide +kernel
theorem dX2_readSum_117 : decode cX2_readSum 117 = .ok (.aload_n 1, 1) := by decide +kernel
theorem dX2_readSum_118 : decode cX2_readSum 118 = .ok (.dup, 1) := by decide +kernel
theorem dX2_readSum_119 : decode cX2_readSum 119 = .ok (.getfield 49, 3) := by decide +kernel
theorem dX2_readSum_122 : decode cX2_readSum 122 = .ok (.iconst 1, 1) := by decide +kernel
theorem dX2_readSum_123 : decode cX2_readSum 123 = .ok (.iadd, 1) := by decide +kernel
theorem dX2_readSum_124 : decode cX2_readSum 124 = .ok (.putfield 49, 3) := by decide +kernel
theorem dX2_readSum_127 : decode cX2_readSum 127 = .ok (.iinc 5 1, 3) := by decide +kernel
theorem dX2_readSum_130 : decode cX2_readSum 130 = .ok (.goto (-122), 3) := by decide +kernel
theorem dX2_readSum_133 : decode cX2_readSum 133 = .ok (.iconst 0, 1) := by decide +kernel
theorem dX2_readSum_134 : decode cX2_readSum 134 = .ok (.ireturn, 1) := by decide +kernel
theorem dX2_readFactor_0 : decode cX2_readFactor 0 = .ok (.aload_n 1, 1) := by decide +kernel
theorem dX2_readFactor_1 : decode cX2_readFactor 1 = .ok (.invokevirtual 43, 3) := by decide +kernel
theorem dX2_readFactor_4 : decode cX2_readFactor 4 = .ok (.istore_n 3, 1) := by decide +kernel
theorem dX2_readFactor_5 : decode cX2_readFactor 5 = .ok (.iload_n 3, 1) := by decide +kernel
theorem dX2_readFactor_6 : decode cX2_readFactor 6 = .ok (.bipush 91, 2) := by decide +kernel
theorem dX2_readFactor_8 : decode cX2_readFactor 8 = .ok (.if_icmp .ne 55, 3) := by decide +kernel
theorem dX2_readFactor_11 : decode cX2_readFactor 11 = .ok (.iload_n 2, 1) := by decide +kernel
theorem dX2_readFactor_12 : decode cX2_readFactor 12 = .ok (.bipush 6, 2) := by decide +kernel
theorem dX2_readFactor_14 : decode cX2_readFactor 14 = .ok (.if_icmp .lt 13, 3) := by decide +kernel
theorem dX2_readFactor_17 : decode cX2_readFactor 17 = .ok (.aload_n 1, 1) := by decide +kernel
theorem dX2_readFactor_18 : decode cX2_readFactor 18 = .ok (.iconst 5, 1) := by decide +kernel
theorem dX2_readFactor_19 : decode cX2_readFactor 19 = .ok (.aload_n 1, 1) := by decide +kernel
theorem dX2_readFactor_20 : decode cX2_readFactor 20 = .ok (.getfield 49, 3) := by decide +kernel
theorem dX2_readFactor_23 : decode cX2_readFactor 23 = .ok (.invokevirtual 52, 3) := by decide +kernel
theorem dX2_readFactor_26 : decode cX2_readFactor 26 = .ok (.ireturn, 1) := by decide +kernel
theorem dX2_readFactor_27 : decode cX2_readFactor 27 = .ok (.aload_n 1, 1) := by decide +kernel
theorem dX2_readFactor_28 : decode cX2_readFactor 28 = .ok (.dup, 1) := by decide +kernel
theorem dX2_readFactor_29 : decode cX2_readFactor 29 = .ok (.getfield 49, 3) := by decide +kernel
theorem dX2_readFactor_32 : decode cX2_readFactor 32 = .ok (.iconst 1, 1) := by decide +kernel
theorem dX2_readFactor_33 : decode cX2_readFactor 33 = .ok (.iadd, 1) := by decide +kernel
theorem dX2_readFactor_34 : decode cX2_readFactor 34 = .ok (.putfield 49, 3) := by decide +kernel
theorem dX2_readFactor_37 : decode cX2_readFactor 37 = .ok (.aload_n 0, 1) := by decide +kernel
theorem dX2_readFactor_38 : decode cX2_readFactor 38 = .ok (.aload_n 1, 1) := by decide +kernel
theorem dX2_readFactor_39 : decode cX2_readFactor 39 = .ok (.iload_n 2, 1) := by decide +kernel
theorem dX2_readFactor_40 : decode cX2_readFactor 40 = .ok (.iconst 1, 1) := by decide +kernel
theorem dX2_readFactor_41 : decode cX2_readFactor 41 = .ok (.iadd, 1) := by decide +kernel
theorem dX2_readFactor_42 : decode cX2_readFactor 42 = .ok (.invokevirtual 56, 3) := by decide +kernel
theorem dX2_readFactor_45 : decode cX2_readFactor 45 = .ok (.ifCond .eq 16, 3) := by decide +kernel
theorem dX2_readFactor_48 : decode cX2_readFactor 48 = .ok (.aload_n 1, 1) := by decide +kernel
theorem dX2_readFactor_49 : decode cX2_readFactor 49 = .ok (.bipush 93, 2) := by decide +kernel
theorem dX2_readFactor_51 : decode cX2_readFactor 51 = .ok (.invokevirtual 60, 3) := by decide +kernel
theorem dX2_readFactor_54 : decode cX2_readFactor 54 = .ok (.ifCond .eq 7, 3) := by decide +kernel
theorem dX2_readFactor_57 : decode cX2_readFactor 57 = .ok (.iconst 1, 1) := by decide +kernel
theorem dX2_readFactor_58 : decode cX2_readFactor 58 = .ok (.goto 4, 3) := by decide +kernel
theorem dX2_readFactor_61 : decode cX2_readFactor 61 = .ok (.iconst 0, 1) := by decide +kernel
theorem dX2_readFactor_62 : decode cX2_readFactor 62 = .ok (.ireturn, 1) := by decide +kernel
theorem dX2_readFactor_63 : decode cX2_readFactor 63 = .ok (.iload_n 3, 1) := by decide +kernel
theorem dX2_readFactor_64 : decode cX2_readFactor 64 = .ok (.bipush 48, 2) := by decide +kernel
theorem dX2_readFactor_66 : decode cX2_readFactor 66 = .ok (.if_icmp .lt 40, 3) := by decide +kernel
theorem dX2_readFactor_69 : decode cX2_readFactor 69 = .ok (.iload_n 3, 1) := by decide +kernel
theorem dX2_readFactor_70 : decode cX2_readFactor 70 = .ok (.bipush 57, 2) := by decide +kernel
theorem dX2_readFactor_72 : decode cX2_readFactor 72 = .ok (.if_icmp .gt 34, 3) := by decide +kernel
theorem dX2_readFactor_75 : decode cX2_readFactor 75 = .ok (.aload_n 1, 1) := by decide +kernel
theorem dX2_readFactor_76 : decode cX2_readFactor 76 = .ok (.iconst 5, 1) := by decide +kernel
theorem dX2_readFactor_77 : decode cX2_readFactor 77 = .ok (.invokevirtual 88, 3) := by decide +kernel
theorem dX2_readFactor_80 : decode cX2_readFactor 80 = .ok (.istore 4, 2) := by decide +kernel
theorem dX2_readFactor_82 : decode cX2_readFactor 82 = .ok (.iload 4, 2) := by decide +kernel
theorem dX2_readFactor_84 : decode cX2_readFactor 84 = .ok (.iconst (-1), 1) := by decide +kernel
theorem dX2_readFactor_85 : decode cX2_readFactor 85 = .ok (.if_icmp .eq 19, 3) := by decide +kernel
theorem dX2_readFactor_88 : decode cX2_readFactor 88 = .ok (.aload_n 0, 1) := by decide +kernel
theorem dX2_readFactor_89 : decode cX2_readFactor 89 = .ok (.bipush 48, 2) := by decide +kernel
theorem dX2_readFactor_91 : decode cX2_readFactor 91 = .ok (.iload 4, 2) := by decide +kernel
theorem dX2_readFactor_93 : decode cX2_readFactor 93 = .ok (.invokevirtual 77, 3) := by decide +kernel
theorem dX2_readFactor_96 : decode cX2_readFactor 96 = .ok (.iconst (-1), 1) := by decide +kernel
theorem dX2_readFactor_97 : decode cX2_readFactor 97 = .ok (.if_icmp .eq 7, 3) := by decide +kernel
theorem dX2_readFactor_100 : decode cX2_readFactor 100 = .ok (.iconst 1, 1) := by decide +kernel
theorem dX2_readFactor_101 : decode cX2_readFactor 101 = .ok (.goto 4, 3) := by decide +kernel
theorem dX2_readFactor_104 : decode cX2_readFactor 104 = .ok (.iconst 0, 1) := by decide +kernel
theorem dX2_readFactor_105 : decode cX2_readFactor 105 = .ok (.ireturn, 1) := by decide +kernel
theorem dX2_readFactor_106 : decode cX2_readFactor 106 = .ok (.iload_n 3, 1) := by decide +kernel
theorem dX2_readFactor_107 : decode cX2_readFactor 107 = .ok (.invokestatic 92, 3) := by decide +kernel
theorem dX2_readFactor_110 : decode cX2_readFactor 110 = .ok (.ifCond .ne 13, 3) := by decide +kernel
theorem dX2_readFactor_113 : decode cX2_readFactor 113 = .ok (.aload_n 1, 1) := by decide +kernel
theorem dX2_readFactor_114 : decode cX2_readFactor 114 = .ok (.iconst 1, 1) := by decide +kernel
theorem dX2_readFactor_115 : decode cX2_readFactor 115 = .ok (.aload_n 1, 1) := by decide +kernel
theorem dX2_readFactor_116 : decode cX2_readFactor 116 = .ok (.getfield 49, 3) := by decide +kernel
theorem dX2_readFactor_119 : decode cX2_readFactor 119 = .ok (.invokevirtual 52, 3) := by decide +kernel
theorem dX2_readFactor_122 : decode cX2_readFactor 122 = .ok (.ireturn, 1) := by decide +kernel
theorem dX2_readFactor_123 : decode cX2_readFactor 123 = .ok (.aload_n 1, 1) := by decide +kernel
theorem dX2_readFactor_124 : decode cX2_readFactor 124 = .ok (.dup, 1) := by decide +kernel
theorem dX2_readFactor_125 : decode cX2_readFactor 125 = .ok (.getfield 49, 3) := by decide +kernel
theorem dX2_readFactor_128 : decode cX2_readFactor 128 = .ok (.iconst 1, 1) := by decide +kernel
theorem dX2_readFactor_129 : decode cX2_readFactor 129 = .ok (.iadd, 1) := by decide +kernel
theorem dX2_readFactor_130 : decode cX2_readFactor 130 = .ok (.putfield 49, 3) := by decide +kernel
theorem dX2_readFactor_133 : decode cX2_readFactor 133 = .ok (.aload_n 0, 1) := by decide +kernel
theorem dX2_readFactor_134 : decode cX2_readFactor 134 = .ok (.bipush 97, 2) := by decide +kernel
theorem dX2_readFactor_136 : decode cX2_readFactor 136 = .ok (.iload_n 3, 1) := by decide +kernel
theorem dX2_readFactor_137 : decode cX2_readFactor 137 = .ok (.invokevirtual 77, 3) := by decide +kernel
theorem dX2_readFactor_140 : decode cX2_readFactor 140 = .ok (.iconst (-1), 1) := by decide +kernel
theorem dX2_readFactor_141 : decode cX2_readFactor 141 = .ok (.if_icmp .eq 7, 3) := by decide +kernel
theorem dX2_readFactor_144 : decode cX2_readFactor 144 = .ok (.iconst 1, 1) := by decide +kernel
theorem dX2_readFactor_145 : decode cX2_readFactor 145 = .ok (.goto 4, 3) := by decide +kernel
theorem dX2_readFactor_148 : decode cX2_readFactor 148 = .ok (.iconst 0, 1) := by decide +kernel
theorem dX2_readFactor_149 : decode cX2_readFactor 149 = .ok (.ireturn, 1) := by decide +kernel
theorem dX2_isLetter_0 : decode cX2_isLetter 0 = .ok (.iload_n 0, 1) := by decide +kernel
theorem dX2_isLetter_1 : decode cX2_isLetter 1 = .ok (.ifCond .le 17, 3) := by decide +kernel
theorem dX2_isLetter_4 : decode cX2_isLetter 4 = .ok (.ldc 95, 2) := by decide +kernel
theorem dX2_isLetter_6 : decode cX2_isLetter 6 = .ok (.iload_n 0, 1) := by decide +kernel
theorem dX2_isLetter_7 : decode cX2_isLetter 7 = .ok (.i2c, 1) := by decide +kernel
theorem dX2_isLetter_8 : decode cX2_isLetter 8 = .ok (.invokevirtual 97, 3) := by decide +kernel
theorem dX2_isLetter_11 : decode cX2_isLetter 11 = .ok (.ifCond .lt 7, 3) := by decide +kernel
theorem dX2_isLetter_14 : decode cX2_isLetter 14 = .ok (.iconst 1, 1) := by decide +kernel
theorem dX2_isLetter_15 : decode cX2_isLetter 15 = .ok (.goto 4, 3) := by decide +kernel
theorem dX2_isLetter_18 : decode cX2_isLetter 18 = .ok (.iconst 0, 1) := by decide +kernel
theorem dX2_isLetter_19 : decode cX2_isLetter 19 = .ok (.ireturn, 1) := by decide +kernel
theorem dX2_write_0 : decode cX2_write 0 = .ok (.aload_n 0, 1) := by decide +kernel
theorem dX2_write_1 : decode cX2_write 1 = .ok (.getfield 36, 3) := by decide +kernel
theorem dX2_write_4 : decode cX2_write 4 = .ok (.sipush 240, 3) := by decide +kernel
theorem dX2_write_7 : decode cX2_write 7 = .ok (.if_icmp .lt 5, 3) := by decide +kernel
theorem dX2_write_10 : decode cX2_write 10 = .ok (.iconst (-1), 1) := by decide +kernel
theorem dX2_write_11 : decode cX2_write 11 = .ok (.ireturn, 1) := by decide +kernel
theorem dX2_write_12 : decode cX2_write 12 = .ok (.aload_n 0, 1) := by decide +kernel
theorem dX2_write_13 : decode cX2_write 13 = .ok (.getfield 9, 3) := by decide +kernel
theorem dX2_write_16 : decode cX2_write 16 = .ok (.aload_n 0, 1) := by decide +kernel
theorem dX2_write_17 : decode cX2_write 17 = .ok (.getfield 36, 3) := by decide +kernel
theorem dX2_write_20 : decode cX2_write 20 = .ok (.iload_n 1, 1) := by decide +kernel
theorem dX2_write_21 : decode cX2_write 21 = .ok (.iastore, 1) := by decide +kernel
theorem dX2_write_22 : decode cX2_write 22 = .ok (.aload_n 0, 1) := by decide +kernel
theorem dX2_write_23 : decode cX2_write 23 = .ok (.getfield 15, 3) := by decide +kernel
theorem dX2_write_26 : decode cX2_write 26 = .ok (.aload_n 0, 1) := by decide +kernel
theorem dX2_write_27 : decode cX2_write 27 = .ok (.getfield 36, 3) := by decide +kernel
theorem dX2_write_30 : decode cX2_write 30 = .ok (.iload_n 2, 1) := by decide +kernel
theorem dX2_write_31 : decode cX2_write 31 = .ok (.iastore, 1) := by decide +kernel
theorem dX2_write_32 : decode cX2_write 32 = .ok (.aload_n 0, 1) := by decide +kernel
theorem dX2_write_33 : decode cX2_write 33 = .ok (.dup, 1) := by decide +kernel
theorem dX2_write_34 : decode cX2_write 34 = .ok (.getfield 36, 3) := by decide +kernel
theorem dX2_write_37 : decode cX2_write 37 = .ok (.iconst 1, 1) := by decide +kernel
theorem dX2_write_38 : decode cX2_write 38 = .ok (.iadd, 1) := by decide +kernel
theorem dX2_write_39 : decode cX2_write 39 = .ok (.putfield 36, 3) := by decide +kernel
theorem dX2_write_42 : decode cX2_write 42 = .ok (.aload_n 0, 1) := by decide +kernel
theorem dX2_write_43 : decode cX2_write 43 = .ok (.getfield 36, 3) := by decide +kernel
theorem dX2_write_46 : decode cX2_write 46 = .ok (.iconst 1, 1) := by decide +kernel
theorem dX2_write_47 : decode cX2_write 47 = .ok (.isub, 1) := by decide +kernel
theorem dX2_write_48 : decode cX2_write 48 = .ok (.ireturn, 1) := by decide +kernel
theorem dX2_land_0 : decode cX2_land 0 = .ok (.iload_n 1, 1) := by decide +kernel
theorem dX2_land_1 : decode cX2_land 1 = .ok (.istore_n 2, 1) := by decide +kernel
theorem dX2_land_2 : decode cX2_land 2 = .ok (.iconst 0, 1) := by decide +kernel
theorem dX2_land_3 : decode cX2_land 3 = .ok (.istore_n 3, 1) := by decide +kernel
theorem dX2_land_4 : decode cX2_land 4 = .ok (.iload_n 3, 1) := by decide +kernel
theorem dX2_land_5 : decode cX2_land 5 = .ok (.sipush 240, 3) := by decide +kernel
theorem dX2_land_8 : decode cX2_land 8 = .ok (.if_icmp .ge 34, 3) := by decide +kernel
theorem dX2_land_11 : decode cX2_land 11 = .ok (.iload_n 2, 1) := by decide +kernel
theorem dX2_land_12 : decode cX2_land 12 = .ok (.ifCond .lt 30, 3) := by decide +kernel
theorem dX2_land_15 : decode cX2_land 15 = .ok (.aload_n 0, 1) := by decide +kernel
theorem dX2_land_16 : decode cX2_land 16 = .ok (.getfield 15, 3) := by decide +kernel
theorem dX2_land_19 : decode cX2_land 19 = .ok (.iload_n 2, 1) := by decide +kernel
theorem dX2_land_20 : decode cX2_land 20 = .ok (.iaload, 1) := by decide +kernel
theorem dX2_land_21 : decode cX2_land 21 = .ok (.istore 4, 2) := by decide +kernel
theorem dX2_land_23 : decode cX2_land 23 = .ok (.aload_n 0, 1) := by decide +kernel
theorem dX2_land_24 : decode cX2_land 24 = .ok (.getfield 15, 3) := by decide +kernel
theorem dX2_land_27 : decode cX2_land 27 = .ok (.iload_n 2, 1) := by decide +kernel
theorem dX2_land_28 : decode cX2_land 28 = .ok (.aload_n 0, 1) := by decide +kernel
theorem dX2_land_29 : decode cX2_land 29 = .ok (.getfield 36, 3) := by decide +kernel
theorem dX2_land_32 : decode cX2_land 32 = .ok (.iastore, 1) := by decide +kernel
theorem dX2_land_33 : decode cX2_land 33 = .ok (.iload 4, 2) := by decide +kernel
theorem dX2_land_35 : decode cX2_land 35 = .ok (.istore_n 2, 1) := by decide +kernel
theorem dX2_land_36 : decode cX2_land 36 = .ok (.iinc 3 1, 3) := by decide +kernel
theorem dX2_land_39 : decode cX2_land 39 = .ok (.goto (-35), 3) := by decide +kernel
theorem dX2_land_42 : decode cX2_land 42 = .ok (.return_, 1) := by decide +kernel
theorem dX3_init_0 : decode cX3_init 0 = .ok (.aload_n 0, 1) := by decide +kernel
theorem dX3_init_1 : decode cX3_init 1 = .ok (.invokespecial 3, 3) := by decide +kernel
theorem dX3_init_4 : decode cX3_init 4 = .ok (.aload_n 0, 1) := by decide +kernel
theorem dX3_init_5 : decode cX3_init 5 = .ok (.bipush 16, 2) := by decide +kernel
theorem dX3_init_7 : decode cX3_init 7 = .ok (.newarray .int, 2) := by decide +kernel
theorem dX3_init_9 : decode cX3_init 9 = .ok (.putfield 9, 3) := by decide +kernel
theorem dX3_init_12 : decode cX3_init 12 = .ok (.aload_n 0, 1) := by decide +kernel
theorem dX3_init_13 : decode cX3_init 13 = .ok (.bipush 16, 2) := by decide +kernel
theorem dX3_init_15 : decode cX3_init 15 = .ok (.newarray .int, 2) := by decide +kernel
theorem dX3_init_17 : decode cX3_init 17 = .ok (.putfield 15, 3) := by decide +kernel
theorem dX3_init_20 : decode cX3_init 20 = .ok (.aload_n 0, 1) := by decide +kernel
theorem dX3_init_21 : decode cX3_init 21 = .ok (.bipush 16, 2) := by decide +kernel
theorem dX3_init_23 : decode cX3_init 23 = .ok (.newarray .int, 2) := by decide +kernel
theorem dX3_init_25 : decode cX3_init 25 = .ok (.putfield 18, 3) := by decide +kernel
theorem dX3_init_28 : decode cX3_init 28 = .ok (.aload_n 0, 1) := by decide +kernel
theorem dX3_init_29 : decode cX3_init 29 = .ok (.aload_n 1, 1) := by decide +kernel
theorem dX3_init_30 : decode cX3_init 30 = .ok (.putfield 21, 3) := by decide +kernel
theorem dX3_init_33 : decode cX3_init 33 = .ok (.return_, 1) := by decide +kernel
theorem dX3_look_0 : decode cX3_look 0 = .ok (.aload_n 0, 1) := by decide +kernel
theorem dX3_look_1 : decode cX3_look 1 = .ok (.iload_n 1, 1) := by decide +kernel
theorem dX3_look_2 : decode cX3_look 2 = .ok (.putfield 25, 3) := by decide +kernel
theorem dX3_look_5 : decode cX3_look 5 = .ok (.aload_n 0, 1) := by decide +kernel
theorem dX3_look_6 : decode cX3_look 6 = .ok (.getfield 9, 3) := by decide +kernel
theorem dX3_look_9 : decode cX3_look 9 = .ok (.iconst 0, 1) := by decide +kernel
theorem dX3_look_10 : decode cX3_look 10 = .ok (.invokestatic 29, 3) := by decide +kernel
theorem dX3_look_13 : decode cX3_look 13 = .ok (.iconst 0, 1) := by decide +kernel
theorem dX3_look_14 : decode cX3_look 14 = .ok (.istore_n 2, 1) := by decide +kernel
theorem dX3_look_15 : decode cX3_look 15 = .ok (.iload_n 2, 1) := by decide +kernel
theorem dX3_look_16 : decode cX3_look 16 = .ok (.aload_n 0, 1) := by decide +kernel
theorem dX3_look_17 : decode cX3_look 17 = .ok (.getfield 21, 3) := by decide +kernel
theorem dX3_look_20 : decode cX3_look 20 = .ok (.getfield 35, 3) := by decide +kernel
theorem dX3_look_23 : decode cX3_look 23 = .ok (.if_icmp .ge 76, 3) := by decide +kernel
theorem dX3_look_26 : decode cX3_look 26 = .ok (.aload_n 0, 1) := by decide +kernel
theorem dX3_look_27 : decode cX3_look 27 = .ok (.getfield 25, 3) := by decide +kernel
theorem dX3_look_30 : decode cX3_look 30 = .ok (.iload_n 2, 1) := by decide +kernel
theorem dX3_look_31 : decode cX3_look 31 = .ok (.invokestatic 40, 3) := by decide +kernel
theorem dX3_look_34 : decode cX3_look 34 = .ok (.ifCond .eq 59, 3) := by decide +kernel
theorem dX3_look_37 : decode cX3_look 37 = .ok (.aload_n 0, 1) := by decide +kernel
theorem dX3_look_38 : decode cX3_look 38 = .ok (.getfield 9, 3) := by decide +kernel
theorem dX3_look_41 : decode cX3_look 41 = .ok (.aload_n 0, 1) := by decide +kernel
theorem dX3_look_42 : decode cX3_look 42 = .ok (.getfield 21, 3) := by decide +kernel
theorem dX3_look_45 : decode cX3_look 45 = .ok (.getfield 44, 3) := by decide +kernel
theorem dX3_look_48 : decode cX3_look 48 = .ok (.iload_n 2, 1) := by decide +kernel
theorem dX3_look_49 : decode cX3_look 49 = .ok (.iaload, 1) := by decide +kernel
theorem dX3_look_50 : decode cX3_look 50 = .ok (.dup2, 1) := by decide +kernel
theorem dX3_look_51 : decode cX3_look 51 = .ok (.iaload, 1) := by decide +kernel
theorem dX3_look_52 : decode cX3_look 52 = .ok (.iconst 1, 1) := by decide +kernel
theorem dX3_look_53 : decode cX3_look 53 = .ok (.aload_n 0, 1) := by decide +kernel
theorem dX3_look_54 : decode cX3_look 54 = .ok (.getfield 21, 3) := by decide +kernel
theorem dX3_look_57 : decode cX3_look 57 = .ok (.getfield 47, 3) := by decide +kernel
theorem dX3_look_60 : decode cX3_look 60 = .ok (.iload_n 2, 1) := by decide +kernel
theorem dX3_look_61 : decode cX3_look 61 = .ok (.iaload, 1) := by decide +kernel
theorem dX3_look_62 : decode cX3_look 62 = .ok (.ishl, 1) := by decide +kernel
theorem dX3_look_63 : decode cX3_look 63 = .ok (.ior, 1) := by decide +kernel
theorem dX3_look_64 : decode cX3_look 64 = .ok (.iastore, 1) := by decide +kernel
theorem dX3_look_65 : decode cX3_look 65 = .ok (.aload_n 0, 1) := by decide +kernel
theorem dX3_look_66 : decode cX3_look 66 = .ok (.getfield 9, 3) := by decide +kernel
theorem dX3_look_69 : decode cX3_look 69 = .ok (.aload_n 0, 1) := by decide +kernel
theorem dX3_look_70 : decode cX3_look 70 = .ok (.getfield 21, 3) := by decide +kernel
theorem dX3_look_73 : decode cX3_look 73 = .ok (.getfield 47, 3) := by decide +kernel
theorem dX3_look_76 : decode cX3_look 76 = .ok (.iload_n 2, 1) := by decide +kernel
theorem dX3_look_77 : decode cX3_look 77 = .ok (.iaload, 1) := by decide +kernel
theorem dX3_look_78 : decode cX3_look 78 = .ok (.dup2, 1) := by decide +kernel
theorem dX3_look_79 : decode cX3_look 79 = .ok (.iaload, 1) := by decide +kernel
theorem dX3_look_80 : decode cX3_look 80 = .ok (.iconst 1, 1) := by decide +kernel
theorem dX3_look_81 : decode cX3_look 81 = .ok (.aload_n 0, 1) := by decide +kernel
theorem dX3_look_82 : decode cX3_look 82 = .ok (.getfield 21, 3) := by decide +kernel
theorem dX3_look_85 : decode cX3_look 85 = .ok (.getfield 44, 3) := by decide +kernel
theorem dX3_look_88 : decode cX3_look 88 = .ok (.iload_n 2, 1) := by decide +kernel
theorem dX3_look_89 : decode cX3_look 89 = .ok (.iaload, 1) := by decide +kernel
theorem dX3_look_90 : decode cX3_look 90 = .ok (.ishl, 1) := by decide +kernel
theorem dX3_look_91 : decode cX3_look 91 = .ok (.ior, 1) := by decide +kernel
theorem dX3_look_92 : decode cX3_look 92 = .ok (.iastore, 1) := by decide +kernel
theorem dX3_look_93 : decode cX3_look 93 = .ok (.iinc 2 1, 3) := by decide +kernel
theorem dX3_look_96 : decode cX3_look 96 = .ok (.goto (-81), 3) := by decide +kernel
theorem dX3_look_99 : decode cX3_look 99 = .ok (.return_, 1) := by decide +kernel
theorem dX3_nearTo_0 : decode cX3_nearTo 0 = .ok (.iconst 0, 1) := by decide +kernel
theorem dX3_nearTo_1 : decode cX3_nearTo 1 = .ok (.istore_n 2, 1) := by decide +kernel
theorem dX3_nearTo_2 : decode cX3_nearTo 2 = .ok (.iload_n 1, 1) := by decide +kernel
theorem dX3_nearTo_3 : decode cX3_nearTo 3 = .ok (.istore_n 3, 1) := by decide +kernel
theorem dX3_nearTo_4 : decode cX3_nearTo 4 = .ok (.iconst 0, 1) := by decide +kernel
theorem dX3_nearTo_5 : decode cX3_nearTo 5 = .ok (.istore 4, 2) := by decide +kernel
theorem dX3_nearTo_7 : decode cX3_nearTo 7 = .ok (.iload 4, 2) := by decide +kernel
theorem dX3_nearTo_9 : decode cX3_nearTo 9 = .ok (.bipush 16, 2) := by decide +kernel
theorem dX3_nearTo_11 : decode cX3_nearTo 11 = .ok (.if_icmp .ge 31, 3) := by decide +kernel
theorem dX3_nearTo_14 : decode cX3_nearTo 14 = .ok (.iload_n 3, 1) := by decide +kernel
theorem dX3_nearTo_15 : decode cX3_nearTo 15 = .ok (.ifCond .eq 27, 3) := by decide +kernel
theorem dX3_nearTo_18 : decode cX3_nearTo 18 = .ok (.iload_n 2, 1) := by decide +kernel
theorem dX3_nearTo_19 : decode cX3_nearTo 19 = .ok (.aload_n 0, 1) := by decide +kernel
theorem dX3_nearTo_20 : decode cX3_nearTo 20 = .ok (.getfield 9, 3) := by decide +kernel
theorem dX3_nearTo_23 : decode cX3_nearTo 23 = .ok (.iload_n 3, 1) := by decide +kernel
theorem dX3_nearTo_24 : decode cX3_nearTo 24 = .ok (.invokestatic 50, 3) := by decide +kernel
theorem dX3_nearTo_27 : decode cX3_nearTo 27 = .ok (.iaload, 1) := by decide +kernel
theorem dX3_nearTo_28 : decode cX3_nearTo 28 = .ok (.ior, 1) := by decide +kernel
theorem dX3_nearTo_29 : decode cX3_nearTo 29 = .ok (.istore_n 2, 1) := by decide +kernel
theorem dX3_nearTo_30 : decode cX3_nearTo 30 = .ok (.iload_n 3, 1) := by decide +kernel
theorem dX3_nearTo_31 : decode cX3_nearTo 31 = .ok (.iload_n 3, 1) := by decide +kernel
theorem dX3_nearTo_32 : decode cX3_nearTo 32 = .ok (.iconst 1, 1) := by decide +kernel
theorem dX3_nearTo_33 : decode cX3_nearTo 33 = .ok (.isub, 1) := by decide +kernel
theorem dX3_nearTo_34 : decode cX3_nearTo 34 = .ok (.iand, 1) := by decide +kernel
theorem dX3_nearTo_35 : decode cX3_nearTo 35 = .ok (.istore_n 3, 1) := by decide +kernel
theorem dX3_nearTo_36 : decode cX3_nearTo 36 = .ok (.iinc 4 1, 3) := by decide +kernel
theorem dX3_nearTo_39 : decode cX3_nearTo 39 = .ok (.goto (-32), 3) := by decide +kernel
theorem dX3_nearTo_42 : decode cX3_nearTo 42 = .ok (.iload_n 2, 1) := by decide +kernel
theorem dX3_nearTo_43 : decode cX3_nearTo 43 = .ok (.ireturn, 1) := by decide +kernel
theorem dX3_measureFrom_0 : decode cX3_measureFrom 0 = .ok (.aload_n 0, 1) := by decide +kernel
theorem dX3_measureFrom_1 : decode cX3_measureFrom 1 = .ok (.getfield 15, 3) := by decide +kernel
theorem dX3_measureFrom_4 : decode cX3_measureFrom 4 = .ok (.bipush (-2), 2) := by decide +kernel
theorem dX3_measureFrom_6 : decode cX3_measureFrom 6 = .ok (.invokestatic 29, 3) := by decide +kernel
theorem dX3_measureFrom_9 : decode cX3_measureFrom 9 = .ok (.iconst 1, 1) := by decide +kernel
theorem dX3_measureFrom_10 : decode cX3_measureFrom 10 = .ok (.iload_n 1, 1) := by decide +kernel
theorem dX3_measureFrom_11 : decode cX3_measureFrom 11 = .ok (.ishl, 1) := by decide +kernel
theorem dX3_measureFrom_12 : decode cX3_measureFrom 12 = .ok (.istore_n 2, 1) := by decide +kernel
theorem dX3_measureFrom_13 : decode cX3_measureFrom 13 = .ok (.iload_n 2, 1) := by decide +kernel
theorem dX3_measureFrom_14 : decode cX3_measureFrom 14 = .ok (.istore_n 3, 1) := by decide +kernel
theorem dX3_measureFrom_15 : decode cX3_measureFrom 15 = .ok (.iconst 0, 1) := by decide +kernel
theorem dX3_measureFrom_16 : decode cX3_measureFrom 16 = .ok (.istore 4, 2) := by decide +kernel
theorem dX3_measureFrom_18 : decode cX3_measureFrom 18 = .ok (.iload 4, 2) := by decide +kernel
theorem dX3_measureFrom_20 : decode cX3_measureFrom 20 = .ok (.bipush 16, 2) := by decide +kernel
theorem dX3_measureFrom_22 : decode cX3_measureFrom 22 = .ok (.if_icmp .ge 61, 3) := by decide +kernel
theorem dX3_measureFrom_25 : decode cX3_measureFrom 25 = .ok (.iload_n 3, 1) := by decide +kernel
theorem dX3_measureFrom_26 : decode cX3_measureFrom 26 = .ok (.ifCond .eq 57, 3) := by decide +kernel
theorem dX3_measureFrom_29 : decode cX3_measureFrom 29 = .ok (.iconst 0, 1) := by decide +kernel
theorem dX3_measureFrom_30 : decode cX3_measureFrom 30 = .ok (.istore 5, 2) := by decide +kernel
theorem dX3_measureFrom_32 : decode cX3_measureFrom 32 = .ok (.iload 5, 2) := by decide +kernel
theorem dX3_measureFrom_34 : decode cX3_measureFrom 34 = .ok (.bipush 16, 2) := by decide +kernel
theorem dX3_measureFrom_36 : decode cX3_measureFrom 36 = .ok (.if_icmp .ge 27, 3) := by decide +kernel
theorem dX3_measureFrom_39 : decode cX3_measureFrom 39 = .ok (.iload_n 3, 1) := by decide +kernel
theorem dX3_measureFrom_40 : decode cX3_measureFrom 40 = .ok (.iload 5, 2) := by decide +kernel
theorem dX3_measureFrom_42 : decode cX3_measureFrom 42 = .ok (.invokestatic 40, 3) := by decide +kernel
theorem dX3_measureFrom_45 : decode cX3_measureFrom 45 = .ok (.ifCond .eq 12, 3) := by decide +kernel
theorem dX3_measureFrom_48 : decode cX3_measureFrom 48 = .ok (.aload_n 0, 1) := by decide +kernel
theorem dX3_measureFrom_49 : decode cX3_measureFrom 49 = .ok (.getfield 15, 3) := by decide +kernel
theorem dX3_measureFrom_52 : decode cX3_measureFrom 52 = .ok (.iload 5, 2) := by decide +kernel
theorem dX3_measureFrom_54 : decode cX3_measureFrom 54 = .ok (.iload 4, 2) := by decide +kernel
theorem dX3_measureFrom_56 : decode cX3_measureFrom 56 = .ok (.iastore, 1) := by decide +kernel
theorem dX3_measureFrom_57 : decode cX3_measureFrom 57 = .ok (.iinc 5 1, 3) := by decide +kernel
theorem dX3_measureFrom_60 : decode cX3_measureFrom 60 = .ok (.goto (-28), 3) := by decide +kernel
theorem dX3_measureFrom_63 : decode cX3_measureFrom 63 = .ok (.aload_n 0, 1) := by decide +kernel
theorem dX3_measureFrom_64 : decode cX3_measureFrom 64 = .ok (.iload_n 3, 1) := by decide +kernel
theorem dX3_measureFrom_65 : decode cX3_measureFrom 65 = .ok (.invokevirtual 54, 3) := by decide +kernel
theorem dX3_measureFrom_68 : decode cX3_measureFrom 68 = .ok (.iload_n 2, 1) := by decide +kernel
theorem dX3_measureFrom_69 : decode cX3_measureFrom 69 = .ok (.iconst (-1), 1) := by decide +kernel
theorem dX3_measureFrom_70 : decode cX3_measureFrom 70 = .ok (.ixor, 1) := by decide +kernel
theorem dX3_measureFrom_71 : decode cX3_measureFrom 71 = .ok (.iand, 1) := by decide +kernel
theorem dX3_measureFrom_72 : decode cX3_measureFrom 72 = .ok (.istore_n 3, 1) := by decide +kernel
theorem dX3_measureFrom_73 : decode cX3_measureFrom 73 = .ok (.iload_n 2, 1) := by decide +kernel
theorem dX3_measureFrom_74 : decode cX3_measureFrom 74 = .ok (.iload_n 3, 1) := by decide +kernel
theorem dX3_measureFrom_75 : decode cX3_measureFrom 75 = .ok (.ior, 1) := by decide +kernel
theorem dX3_measureFrom_76 : decode cX3_measureFrom 76 = .ok (.istore_n 2, 1) := by decide +kernel
theorem dX3_measureFrom_77 : decode cX3_measureFrom 77 = .ok (.iinc 4 1, 3) := by decide +kernel
theorem dX3_measureFrom_80 : decode cX3_measureFrom 80 = .ok (.goto (-62), 3) := by decide +kernel
theorem dX3_measureFrom_83 : decode cX3_measureFrom 83 = .ok (.iload_n 2, 1) := by decide +kernel
theorem dX3_measureFrom_84 : decode cX3_measureFrom 84 = .ok (.ireturn, 1) := by decide +kernel
theorem dX3_stepsBetween_0 : decode cX3_stepsBetween 0 = .ok (.aload_n 0, 1) := by decide +kernel
theorem dX3_stepsBetween_1 : decode cX3_stepsBetween 1 = .ok (.iload_n 1, 1) := by decide +kernel
theorem dX3_stepsBetween_2 : decode cX3_stepsBetween 2 = .ok (.invokevirtual 57, 3) := by decide +kernel
theorem dX3_stepsBetween_5 : decode cX3_stepsBetween 5 = .ok (.pop, 1) := by decide +kernel
theorem dX3_stepsBetween_6 : decode cX3_stepsBetween 6 = .ok (.aload_n 0, 1) := by decide +kernel
theorem dX3_stepsBetween_7 : decode cX3_stepsBetween 7 = .ok (.getfield 15, 3) := by decide +kernel
theorem dX3_stepsBetween_10 : decode cX3_stepsBetween 10 = .ok (.iload_n 2, 1) := by decide +kernel
theorem dX3_stepsBetween_11 : decode cX3_stepsBetween 11 = .ok (.iaload, 1) := by decide +kernel
theorem dX3_stepsBetween_12 : decode cX3_stepsBetween 12 = .ok (.ireturn, 1) := by decide +kernel
theorem dX3_widestWay_0 : decode cX3_widestWay 0 = .ok (.aload_n 0, 1) := by decide +kernel
theorem dX3_widestWay_1 : decode cX3_widestWay 1 = .ok (.getfield 18, 3) := by decide +kernel
theorem dX3_widestWay_4 : decode cX3_widestWay 4 = .ok (.bipush (-2), 2) := by decide +kernel
theorem dX3_widestWay_6 : decode cX3_widestWay 6 = .ok (.invokestatic 29, 3) := by decide +kernel
theorem dX3_widestWay_9 : decode cX3_widestWay 9 = .ok (.aload_n 0, 1) := by decide +kernel
theorem dX3_widestWay_10 : decode cX3_widestWay 10 = .ok (.getfield 18, 3) := by decide +kernel
theorem dX3_widestWay_13 : decode cX3_widestWay 13 = .ok (.iload_n 1, 1) := by decide +kernel
theorem dX3_widestWay_14 : decode cX3_widestWay 14 = .ok (.bipush 99, 2) := by decide +kernel
theorem dX3_widestWay_16 : decode cX3_widestWay 16 = .ok (.iastore, 1) := by decide +kernel
theorem dX3_widestWay_17 : decode cX3_widestWay 17 = .ok (.iconst 1, 1) := by decide +kernel
theorem dX3_widestWay_18 : decode cX3_widestWay 18 = .ok (.istore_n 3, 1) := by decide +kernel
theorem dX3_widestWay_19 : decode cX3_widestWay 19 = .ok (.iload_n 3, 1) := by decide +kernel
theorem dX3_widestWay_20 : decode cX3_widestWay 20 = .ok (.bipush 16, 2) := by decide +kernel
theorem dX3_widestWay_22 : decode cX3_widestWay 22 = .ok (.if_icmp .ge 140, 3) := by decide +kernel
theorem dX3_widestWay_25 : decode cX3_widestWay 25 = .ok (.iconst 0, 1) := by decide +kernel
theorem dX3_widestWay_26 : decode cX3_widestWay 26 = .ok (.istore 4, 2) := by decide +kernel
theorem dX3_widestWay_28 : decode cX3_widestWay 28 = .ok (.iload 4, 2) := by decide +kernel
theorem dX3_widestWay_30 : decode cX3_widestWay 30 = .ok (.aload_n 0, 1) := by decide +kernel
theorem dX3_widestWay_31 : decode cX3_widestWay 31 = .ok (.getfield 21, 3) := by decide +kernel
theorem dX3_widestWay_34 : decode cX3_widestWay 34 = .ok (.getfield 35, 3) := by decide +kernel
theorem dX3_widestWay_37 : decode cX3_widestWay 37 = .ok (.if_icmp .ge 119, 3) := by decide +kernel
theorem dX3_widestWay_40 : decode cX3_widestWay 40 = .ok (.aload_n 0, 1) := by decide +kernel
theorem dX3_widestWay_41 : decode cX3_widestWay 41 = .ok (.getfield 25, 3) := by decide +kernel
theorem dX3_widestWay_44 : decode cX3_widestWay 44 = .ok (.iload 4, 2) := by decide +kernel
theorem dX3_widestWay_46 : decode cX3_widestWay 46 = .ok (.invokestatic 40, 3) := by decide +kernel
theorem dX3_widestWay_49 : decode cX3_widestWay 49 = .ok (.ifCond .eq 101, 3) := by decide +kernel
theorem dX3_widestWay_52 : decode cX3_widestWay 52 = .ok (.aload_n 0, 1) := by decide +kernel
theorem dX3_widestWay_53 : decode cX3_widestWay 53 = .ok (.getfield 21, 3) := by decide +kernel
theorem dX3_widestWay_56 : decode cX3_widestWay 56 = .ok (.getfield 44, 3) := by decide +kernel
theorem dX3_widestWay_59 : decode cX3_widestWay 59 = .ok (.iload 4, 2) := by decide +kernel
theorem dX3_widestWay_61 : decode cX3_widestWay 61 = .ok (.iaload, 1) := by decide +kernel
theorem dX3_widestWay_62 : decode cX3_widestWay 62 = .ok (.istore 5, 2) := by decide +kernel
theorem dX3_widestWay_64 : decode cX3_widestWay 64 = .ok (.aload_n 0, 1) := by decide +kernel
theorem dX3_widestWay_65 : decode cX3_widestWay 65 = .ok (.getfield 21, 3) := by decide +kernel
theorem dX3_widestWay_68 : decode cX3_widestWay 68 = .ok (.getfield 47, 3) := by decide +kernel
theorem dX3_widestWay_71 : decode cX3_widestWay 71 = .ok (.iload 4, 2) := by decide +kernel
theorem dX3_widestWay_73 : decode cX3_widestWay 73 = .ok (.iaload, 1) := by decide +kernel
theorem dX3_widestWay_74 : decode cX3_widestWay 74 = .ok (.istore 6, 2) := by decide +kernel
theorem dX3_widestWay_76 : decode cX3_widestWay 76 = .ok (.aload_n 0, 1) := by decide +kernel
theorem dX3_widestWay_77 : decode cX3_widestWay 77 = .ok (.getfield 18, 3) := by decide +kernel
theorem dX3_widestWay_80 : decode cX3_widestWay 80 = .ok (.iload 6, 2) := by decide +kernel
theorem dX3_widestWay_82 : decode cX3_widestWay 82 = .ok (.aload_n 0, 1) := by decide +kernel
theorem dX3_widestWay_83 : decode cX3_widestWay 83 = .ok (.getfield 18, 3) := by decide +kernel
theorem dX3_widestWay_86 : decode cX3_widestWay 86 = .ok (.iload 6, 2) := by decide +kernel
theorem dX3_widestWay_88 : decode cX3_widestWay 88 = .ok (.iaload, 1) := by decide +kernel
theorem dX3_widestWay_89 : decode cX3_widestWay 89 = .ok (.aload_n 0, 1) := by decide +kernel
theorem dX3_widestWay_90 : decode cX3_widestWay 90 = .ok (.getfield 18, 3) := by decide +kernel
theorem dX3_widestWay_93 : decode cX3_widestWay 93 = .ok (.iload 5, 2) := by decide +kernel
theorem dX3_widestWay_95 : decode cX3_widestWay 95 = .ok (.iaload, 1) := by decide +kernel
theorem dX3_widestWay_96 : decode cX3_widestWay 96 = .ok (.aload_n 0, 1) := by decide +kernel
theorem dX3_widestWay_97 : decode cX3_widestWay 97 = .ok (.getfield 21, 3) := by decide +kernel
theorem dX3_widestWay_100 : decode cX3_widestWay 100 = .ok (.getfield 60, 3) := by decide +kernel
theorem dX3_widestWay_103 : decode cX3_widestWay 103 = .ok (.iload 4, 2) := by decide +kernel
theorem dX3_widestWay_105 : decode cX3_widestWay 105 = .ok (.iaload, 1) := by decide +kernel
theorem dX3_widestWay_106 : decode cX3_widestWay 106 = .ok (.invokestatic 63, 3) := by decide +kernel
theorem dX3_widestWay_109 : decode cX3_widestWay 109 = .ok (.invokestatic 69, 3) := by decide +kernel
theorem dX3_widestWay_112 : decode cX3_widestWay 112 = .ok (.iastore, 1) := by decide +kernel
theorem dX3_widestWay_113 : decode cX3_widestWay 113 = .ok (.aload_n 0, 1) := by decide +kernel
theorem dX3_widestWay_114 : decode cX3_widestWay 114 = .ok (.getfield 18, 3) := by decide +kernel
theorem dX3_widestWay_117 : decode cX3_widestWay 117 = .ok (.iload 5, 2) := by decide +kernel
theorem dX3_widestWay_119 : decode cX3_widestWay 119 = .ok (.aload_n 0, 1) := by decide +kernel
theorem dX3_widestWay_120 : decode cX3_widestWay 120 = .ok (.getfield 18, 3) := by decide +kernel
theorem dX3_widestWay_123 : decode cX3_widestWay 123 = .ok (.iload 5, 2) := by decide +kernel
theorem dX3_widestWay_125 : decode cX3_widestWay 125 = .ok (.iaload, 1) := by decide +kernel
theorem dX3_widestWay_126 : decode cX3_widestWay 126 = .ok (.aload_n 0, 1) := by decide +kernel
theorem dX3_widestWay_127 : decode cX3_widestWay 127 = .ok (.getfield 18, 3) := by decide +kernel
theorem dX3_widestWay_130 : decode cX3_widestWay 130 = .ok (.iload 6, 2) := by decide +kernel
theorem dX3_widestWay_132 : decode cX3_widestWay 132 = .ok (.iaload, 1) := by decide +kernel
theorem dX3_widestWay_133 : decode cX3_widestWay 133 = .ok (.aload_n 0, 1) := by decide +kernel
theorem dX3_widestWay_134 : decode cX3_widestWay 134 = .ok (.getfield 21, 3) := by decide +kernel
theorem dX3_widestWay_137 : decode cX3_widestWay 137 = .ok (.getfield 60, 3) := by decide +kernel
theorem dX3_widestWay_140 : decode cX3_widestWay 140 = .ok (.iload 4, 2) := by decide +kernel
theorem dX3_widestWay_142 : decode cX3_widestWay 142 = .ok (.iaload, 1) := by decide +kernel
theorem dX3_widestWay_143 : decode cX3_widestWay 143 = .ok (.invokestatic 63, 3) := by decide +kernel
theorem dX3_widestWay_146 : decode cX3_widestWay 146 = .ok (.invokestatic 69, 3) := by decide +kernel
theorem dX3_widestWay_149 : decode cX3_widestWay 149 = .ok (.iastore, 1) := by decide +kernel
theorem dX3_widestWay_150 : decode cX3_widestWay 150 = .ok (.iinc 4 1, 3) := by decide +kernel
theorem dX3_widestWay_153 : decode cX3_widestWay 153 = .ok (.goto (-125), 3) := by decide +kernel
theorem dX3_widestWay_156 : decode cX3_widestWay 156 = .ok (.iinc 3 1, 3) := by decide +kernel
theorem dX3_widestWay_159 : decode cX3_widestWay 159 = .ok (.goto (-140), 3) := by decide +kernel
theorem dX3_widestWay_162 : decode cX3_widestWay 162 = .ok (.aload_n 0, 1) := by decide +kernel
theorem dX3_widestWay_163 : decode cX3_widestWay 163 = .ok (.getfield 18, 3) := by decide +kernel
theorem dX3_widestWay_166 : decode cX3_widestWay 166 = .ok (.iload_n 2, 1) := by decide +kernel
theorem dX3_widestWay_167 : decode cX3_widestWay 167 = .ok (.iaload, 1) := by decide +kernel
theorem dX3_widestWay_168 : decode cX3_widestWay 168 = .ok (.ireturn, 1) := by decide +kernel
theorem dX3_groups_0 : decode cX3_groups 0 = .ok (.aload_n 0, 1) := by decide +kernel
theorem dX3_groups_1 : decode cX3_groups 1 = .ok (.iload_n 1, 1) := by decide +kernel
theorem dX3_groups_2 : decode cX3_groups 2 = .ok (.invokevirtual 72, 3) := by decide +kernel
theorem dX3_groups_5 : decode cX3_groups 5 = .ok (.iconst 0, 1) := by decide +kernel
theorem dX3_groups_6 : decode cX3_groups 6 = .ok (.istore_n 2, 1) := by decide +kernel
theorem dX3_groups_7 : decode cX3_groups 7 = .ok (.aload_n 0, 1) := by decide +kernel
theorem dX3_groups_8 : decode cX3_groups 8 = .ok (.getfield 21, 3) := by decide +kernel
theorem dX3_groups_11 : decode cX3_groups 11 = .ok (.getfield 76, 3) := by decide +kernel
theorem dX3_groups_14 : decode cX3_groups 14 = .ok (.istore_n 3, 1) := by decide +kernel
theorem dX3_groups_15 : decode cX3_groups 15 = .ok (.iconst 0, 1) := by decide +kernel
theorem dX3_groups_16 : decode cX3_groups 16 = .ok (.istore 4, 2) := by decide +kernel
theorem dX3_groups_18 : decode cX3_groups 18 = .ok (.iload 4, 2) := by decide +kernel
theorem dX3_groups_20 : decode cX3_groups 20 = .ok (.bipush 16, 2) := by decide +kernel
theorem dX3_groups_22 : decode cX3_groups 22 = .ok (.if_icmp .ge 29, 3) := by decide +kernel
theorem dX3_groups_25 : decode cX3_groups 25 = .ok (.iload_n 3, 1) := by decide +kernel
theorem dX3_groups_26 : decode cX3_groups 26 = .ok (.ifCond .eq 25, 3) := by decide +kernel
theorem dX3_groups_29 : decode cX3_groups 29 = .ok (.iload_n 3, 1) := by decide +kernel
theorem dX3_groups_30 : decode cX3_groups 30 = .ok (.aload_n 0, 1) := by decide +kernel
theorem dX3_groups_31 : decode cX3_groups 31 = .ok (.iload_n 3, 1) := by decide +kernel
theorem dX3_groups_32 : decode cX3_groups 32 = .ok (.invokestatic 50, 3) := by decide +kernel
theorem dX3_groups_35 : decode cX3_groups 35 = .ok (.invokevirtual 57, 3) := by decide +kernel
theorem dX3_groups_38 : decode cX3_groups 38 = .ok (.iconst (-1), 1) := by decide +kernel
theorem dX3_groups_39 : decode cX3_groups 39 = .ok (.ixor, 1) := by decide +kernel
theorem dX3_groups_40 : decode cX3_groups 40 = .ok (.iand, 1) := by decide +kernel
theorem dX3_groups_41 : decode cX3_groups 41 = .ok (.istore_n 3, 1) := by decide +kernel
theorem dX3_groups_42 : decode cX3_groups 42 = .ok (.iinc 2 1, 3) := by decide +kernel
theorem dX3_groups_45 : decode cX3_groups 45 = .ok (.iinc 4 1, 3) := by decide +kernel
theorem dX3_groups_48 : decode cX3_groups 48 = .ok (.goto (-30), 3) := by decide +kernel
theorem dX3_groups_51 : decode cX3_groups 51 = .ok (.iload_n 2, 1) := by decide +kernel
theorem dX3_groups_52 : decode cX3_groups 52 = .ok (.ireturn, 1) := by decide +kernel
theorem dX3_bridgeBits_0 : decode cX3_bridgeBits 0 = .ok (.iconst 0, 1) := by decide +kernel
theorem dX3_bridgeBits_1 : decode cX3_bridgeBits 1 = .ok (.istore_n 2, 1) := by decide +kernel
theorem dX3_bridgeBits_2 : decode cX3_bridgeBits 2 = .ok (.iconst 0, 1) := by decide +kernel
theorem dX3_bridgeBits_3 : decode cX3_bridgeBits 3 = .ok (.istore_n 3, 1) := by decide +kernel
theorem dX3_bridgeBits_4 : decode cX3_bridgeBits 4 = .ok (.iload_n 3, 1) := by decide +kernel
theorem dX3_bridgeBits_5 : decode cX3_bridgeBits 5 = .ok (.aload_n 0, 1) := by decide +kernel
theorem dX3_bridgeBits_6 : decode cX3_bridgeBits 6 = .ok (.getfield 21, 3) := by decide +kernel
theorem dX3_bridgeBits_9 : decode cX3_bridgeBits 9 = .ok (.getfield 35, 3) := by decide +kernel
theorem dX3_bridgeBits_12 : decode cX3_bridgeBits 12 = .ok (.if_icmp .ge 61, 3) := by decide +kernel
theorem dX3_bridgeBits_15 : decode cX3_bridgeBits 15 = .ok (.iload_n 1, 1) := by decide +kernel
theorem dX3_bridgeBits_16 : decode cX3_bridgeBits 16 = .ok (.iload_n 3, 1) := by decide +kernel
theorem dX3_bridgeBits_17 : decode cX3_bridgeBits 17 = .ok (.invokestatic 40, 3) := by decide +kernel
theorem dX3_bridgeBits_20 : decode cX3_bridgeBits 20 = .ok (.ifCond .eq 47, 3) := by decide +kernel
theorem dX3_bridgeBits_23 : decode cX3_bridgeBits 23 = .ok (.aload_n 0, 1) := by decide +kernel
theorem dX3_bridgeBits_24 : decode cX3_bridgeBits 24 = .ok (.iload_n 1, 1) := by decide +kernel
theorem dX3_bridgeBits_25 : decode cX3_bridgeBits 25 = .ok (.iconst 1, 1) := by decide +kernel
theorem dX3_bridgeBits_26 : decode cX3_bridgeBits 26 = .ok (.iload_n 3, 1) := by decide +kernel
theorem dX3_bridgeBits_27 : decode cX3_bridgeBits 27 = .ok (.ishl, 1) := by decide +kernel
theorem dX3_bridgeBits_28 : decode cX3_bridgeBits 28 = .ok (.iconst (-1), 1) := by decide +kernel
theorem dX3_bridgeBits_29 : decode cX3_bridgeBits 29 = .ok (.ixor, 1) := by decide +kernel
theorem dX3_bridgeBits_30 : decode cX3_bridgeBits 30 = .ok (.iand, 1) := by decide +kernel
theorem dX3_bridgeBits_31 : decode cX3_bridgeBits 31 = .ok (.invokevirtual 72, 3) := by decide +kernel
theorem dX3_bridgeBits_34 : decode cX3_bridgeBits 34 = .ok (.aload_n 0, 1) := by decide +kernel
theorem dX3_bridgeBits_35 : decode cX3_bridgeBits 35 = .ok (.aload_n 0, 1) := by decide +kernel
theorem dX3_bridgeBits_36 : decode cX3_bridgeBits 36 = .ok (.getfield 21, 3) := by decide +kernel
theorem dX3_bridgeBits_39 : decode cX3_bridgeBits 39 = .ok (.getfield 44, 3) := by decide +kernel
theorem dX3_bridgeBits_42 : decode cX3_bridgeBits 42 = .ok (.iload_n 3, 1) := by decide +kernel
theorem dX3_bridgeBits_43 : decode cX3_bridgeBits 43 = .ok (.iaload, 1) := by decide +kernel
theorem dX3_bridgeBits_44 : decode cX3_bridgeBits 44 = .ok (.aload_n 0, 1) := by decide +kernel
theorem dX3_bridgeBits_45 : decode cX3_bridgeBits 45 = .ok (.getfield 21, 3) := by decide +kernel
theorem dX3_bridgeBits_48 : decode cX3_bridgeBits 48 = .ok (.getfield 47, 3) := by decide +kernel
theorem dX3_bridgeBits_51 : decode cX3_bridgeBits 51 = .ok (.iload_n 3, 1) := by decide +kernel
theorem dX3_bridgeBits_52 : decode cX3_bridgeBits 52 = .ok (.iaload, 1) := by decide +kernel
theorem dX3_bridgeBits_53 : decode cX3_bridgeBits 53 = .ok (.invokevirtual 79, 3) := by decide +kernel
theorem dX3_bridgeBits_56 : decode cX3_bridgeBits 56 = .ok (.bipush (-2), 2) := by decide +kernel
theorem dX3_bridgeBits_58 : decode cX3_bridgeBits 58 = .ok (.if_icmp .ne 9, 3) := by decide +kernel
theorem dX3_bridgeBits_61 : decode cX3_bridgeBits 61 = .ok (.iload_n 2, 1) := by decide +kernel
theorem dX3_bridgeBits_62 : decode cX3_bridgeBits 62 = .ok (.iconst 1, 1) := by decide +kernel
theorem dX3_bridgeBits_63 : decode cX3_bridgeBits 63 = .ok (.iload_n 3, 1) := by decide +kernel
theorem dX3_bridgeBits_64 : decode cX3_bridgeBits 64 = .ok (.ishl, 1) := by decide +kernel
theorem dX3_bridgeBits_65 : decode cX3_bridgeBits 65 = .ok (.ior, 1) := by decide +kernel
theorem dX3_bridgeBits_66 : decode cX3_bridgeBits 66 = .ok (.istore_n 2, 1) := by decide +kernel
theorem dX3_bridgeBits_67 : decode cX3_bridgeBits 67 = .ok (.iinc 3 1, 3) := by decide +kernel
theorem dX3_bridgeBits_70 : decode cX3_bridgeBits 70 = .ok (.goto (-66), 3) := by decide +kernel
theorem dX3_bridgeBits_73 : decode cX3_bridgeBits 73 = .ok (.iload_n 2, 1) := by decide +kernel
theorem dX3_bridgeBits_74 : decode cX3_bridgeBits 74 = .ok (.ireturn, 1) := by decide +kernel
theorem dX3_leastRing_0 : decode cX3_leastRing 0 = .ok (.bipush (-2), 2) := by decide +kernel
theorem dX3_leastRing_2 : decode cX3_leastRing 2 = .ok (.istore_n 3, 1) := by decide +kernel
theorem dX3_leastRing_3 : decode cX3_leastRing 3 = .ok (.iconst 0, 1) := by decide +kernel
theorem dX3_leastRing_4 : decode cX3_leastRing 4 = .ok (.istore 4, 2) := by decide +kernel
theorem dX3_leastRing_6 : decode cX3_leastRing 6 = .ok (.iload 4, 2) := by decide +kernel
theorem dX3_leastRing_8 : decode cX3_leastRing 8 = .ok (.aload_n 0, 1) := by decide +kernel
theorem dX3_leastRing_9 : decode cX3_leastRing 9 = .ok (.getfield 21, 3) := by decide +kernel
theorem dX3_leastRing_12 : decode cX3_leastRing 12 = .ok (.getfield 35, 3) := by decide +kernel
theorem dX3_leastRing_15 : decode cX3_leastRing 15 = .ok (.if_icmp .ge 86, 3) := by decide +kernel
theorem dX3_leastRing_18 : decode cX3_leastRing 18 = .ok (.aload_n 0, 1) := by decide +kernel
theorem dX3_leastRing_19 : decode cX3_leastRing 19 = .ok (.getfield 21, 3) := by decide +kernel
theorem dX3_leastRing_22 : decode cX3_leastRing 22 = .ok (.iload 4, 2) := by decide +kernel
theorem dX3_leastRing_24 : decode cX3_leastRing 24 = .ok (.iload_n 1, 1) := by decide +kernel
theorem dX3_leastRing_25 : decode cX3_leastRing 25 = .ok (.invokevirtual 82, 3) := by decide +kernel
theorem dX3_leastRing_28 : decode cX3_leastRing 28 = .ok (.istore 5, 2) := by decide +kernel
theorem dX3_leastRing_30 : decode cX3_leastRing 30 = .ok (.iload_n 2, 1) := by decide +kernel
theorem dX3_leastRing_31 : decode cX3_leastRing 31 = .ok (.iload 4, 2) := by decide +kernel
theorem dX3_leastRing_33 : decode cX3_leastRing 33 = .ok (.invokestatic 40, 3) := by decide +kernel
theorem dX3_leastRing_36 : decode cX3_leastRing 36 = .ok (.ifCond .eq 59, 3) := by decide +kernel
theorem dX3_leastRing_39 : decode cX3_leastRing 39 = .ok (.iload 5, 2) := by decide +kernel
theorem dX3_leastRing_41 : decode cX3_leastRing 41 = .ok (.iconst (-1), 1) := by decide +kernel
theorem dX3_leastRing_42 : decode cX3_leastRing 42 = .ok (.if_icmp .ne 6, 3) := by decide +kernel
theorem dX3_leastRing_45 : decode cX3_leastRing 45 = .ok (.goto 50, 3) := by decide +kernel
theorem dX3_leastRing_48 : decode cX3_leastRing 48 = .ok (.aload_n 0, 1) := by decide +kernel
theorem dX3_leastRing_49 : decode cX3_leastRing 49 = .ok (.iload_n 2, 1) := by decide +kernel
theorem dX3_leastRing_50 : decode cX3_leastRing 50 = .ok (.iconst 1, 1) := by decide +kernel
theorem dX3_leastRing_51 : decode cX3_leastRing 51 = .ok (.iload 4, 2) := by decide +kernel
theorem dX3_leastRing_53 : decode cX3_leastRing 53 = .ok (.ishl, 1) := by decide +kernel
theorem dX3_leastRing_54 : decode cX3_leastRing 54 = .ok (.iconst (-1), 1) := by decide +kernel
theorem dX3_leastRing_55 : decode cX3_leastRing 55 = .ok (.ixor, 1) := by decide +kernel
theorem dX3_leastRing_56 : decode cX3_leastRing 56 = .ok (.iand, 1) := by decide +kernel
theorem dX3_leastRing_57 : decode cX3_leastRing 57 = .ok (.invokevirtual 72, 3) := by decide +kernel
theorem dX3_leastRing_60 : decode cX3_leastRing 60 = .ok (.aload_n 0, 1) := by decide +kernel
theorem dX3_leastRing_61 : decode cX3_leastRing 61 = .ok (.iload 5, 2) := by decide +kernel
theorem dX3_leastRing_63 : decode cX3_leastRing 63 = .ok (.iload_n 1, 1) := by decide +kernel
theorem dX3_leastRing_64 : decode cX3_leastRing 64 = .ok (.invokevirtual 79, 3) := by decide +kernel
theorem dX3_leastRing_67 : decode cX3_leastRing 67 = .ok (.istore 6, 2) := by decide +kernel
theorem dX3_leastRing_69 : decode cX3_leastRing 69 = .ok (.iload 6, 2) := by decide +kernel
theorem dX3_leastRing_71 : decode cX3_leastRing 71 = .ok (.bipush (-2), 2) := by decide +kernel
theorem dX3_leastRing_73 : decode cX3_leastRing 73 = .ok (.if_icmp .eq 22, 3) := by decide +kernel
theorem dX3_leastRing_76 : decode cX3_leastRing 76 = .ok (.iload_n 3, 1) := by decide +kernel
theorem dX3_leastRing_77 : decode cX3_leastRing 77 = .ok (.bipush (-2), 2) := by decide +kernel
theorem dX3_leastRing_79 : decode cX3_leastRing 79 = .ok (.if_icmp .eq 11, 3) := by decide +kernel
theorem dX3_leastRing_82 : decode cX3_leastRing 82 = .ok (.iload 6, 2) := by decide +kernel
theorem dX3_leastRing_84 : decode cX3_leastRing 84 = .ok (.iconst 1, 1) := by decide +kernel
theorem dX3_leastRing_85 : decode cX3_leastRing 85 = .ok (.iadd, 1) := by decide +kernel
theorem dX3_leastRing_86 : decode cX3_leastRing 86 = .ok (.iload_n 3, 1) := by decide +kernel
theorem dX3_leastRing_87 : decode cX3_leastRing 87 = .ok (.if_icmp .ge 8, 3) := by decide +kernel
theorem dX3_leastRing_90 : decode cX3_leastRing 90 = .ok (.iload 6, 2) := by decide +kernel
theorem dX3_leastRing_92 : decode cX3_leastRing 92 = .ok (.iconst 1, 1) := by decide +kernel
theorem dX3_leastRing_93 : decode cX3_leastRing 93 = .ok (.iadd, 1) := by decide +kernel
theorem dX3_leastRing_94 : decode cX3_leastRing 94 = .ok (.istore_n 3, 1) := by decide +kernel
theorem dX3_leastRing_95 : decode cX3_leastRing 95 = .ok (.iinc 4 1, 3) := by decide +kernel
theorem dX3_leastRing_98 : decode cX3_leastRing 98 = .ok (.goto (-92), 3) := by decide +kernel
theorem dX3_leastRing_101 : decode cX3_leastRing 101 = .ok (.iload_n 3, 1) := by decide +kernel
theorem dX3_leastRing_102 : decode cX3_leastRing 102 = .ok (.ireturn, 1) := by decide +kernel
theorem dX3_farthestPair_0 : decode cX3_farthestPair 0 = .ok (.aload_n 0, 1) := by decide +kernel
theorem dX3_farthestPair_1 : decode cX3_farthestPair 1 = .ok (.getfield 21, 3) := by decide +kernel
theorem dX3_farthestPair_4 : decode cX3_farthestPair 4 = .ok (.getfield 76, 3) := by decide +kernel
theorem dX3_farthestPair_7 : decode cX3_farthestPair 7 = .ok (.invokestatic 50, 3) := by decide +kernel
theorem dX3_farthestPair_10 : decode cX3_farthestPair 10 = .ok (.istore_n 1, 1) := by decide +kernel
theorem dX3_farthestPair_11 : decode cX3_farthestPair 11 = .ok (.iconst 0, 1) := by decide +kernel
theorem dX3_farthestPair_12 : decode cX3_farthestPair 12 = .ok (.istore_n 2, 1) := by decide +kernel
theorem dX3_farthestPair_13 : decode cX3_farthestPair 13 = .ok (.iload_n 1, 1) := by decide +kernel
theorem dX3_farthestPair_14 : decode cX3_farthestPair 14 = .ok (.iconst 4, 1) := by decide +kernel
theorem dX3_farthestPair_15 : decode cX3_farthestPair 15 = .ok (.ishl, 1) := by decide +kernel
theorem dX3_farthestPair_16 : decode cX3_farthestPair 16 = .ok (.iload_n 1, 1) := by decide +kernel
theorem dX3_farthestPair_17 : decode cX3_farthestPair 17 = .ok (.ior, 1) := by decide +kernel
theorem dX3_farthestPair_18 : decode cX3_farthestPair 18 = .ok (.istore_n 3, 1) := by decide +kernel
theorem dX3_farthestPair_19 : decode cX3_farthestPair 19 = .ok (.iload_n 1, 1) := by decide +kernel
theorem dX3_farthestPair_20 : decode cX3_farthestPair 20 = .ok (.istore 4, 2) := by decide +kernel
theorem dX3_farthestPair_22 : decode cX3_farthestPair 22 = .ok (.iload 4, 2) := by decide +kernel
theorem dX3_farthestPair_24 : decode cX3_farthestPair 24 = .ok (.bipush 16, 2) := by decide +kernel
theorem dX3_farthestPair_26 : decode cX3_farthestPair 26 = .ok (.if_icmp .ge 82, 3) := by decide +kernel
theorem dX3_farthestPair_29 : decode cX3_farthestPair 29 = .ok (.aload_n 0, 1) := by decide +kernel
theorem dX3_farthestPair_30 : decode cX3_farthestPair 30 = .ok (.getfield 21, 3) := by decide +kernel
theorem dX3_farthestPair_33 : decode cX3_farthestPair 33 = .ok (.iload 4, 2) := by decide +kernel
theorem dX3_farthestPair_35 : decode cX3_farthestPair 35 = .ok (.invokevirtual 85, 3) := by decide +kernel
theorem dX3_farthestPair_38 : decode cX3_farthestPair 38 = .ok (.ifCond .ne 6, 3) := by decide +kernel
theorem dX3_farthestPair_41 : decode cX3_farthestPair 41 = .ok (.goto 61, 3) := by decide +kernel
theorem dX3_farthestPair_44 : decode cX3_farthestPair 44 = .ok (.aload_n 0, 1) := by decide +kernel
theorem dX3_farthestPair_45 : decode cX3_farthestPair 45 = .ok (.iload 4, 2) := by decide +kernel
theorem dX3_farthestPair_47 : decode cX3_farthestPair 47 = .ok (.invokevirtual 57, 3) := by decide +kernel
theorem dX3_farthestPair_50 : decode cX3_farthestPair 50 = .ok (.pop, 1) := by decide +kernel
theorem dX3_farthestPair_51 : decode cX3_farthestPair 51 = .ok (.iload 4, 2) := by decide +kernel
theorem dX3_farthestPair_53 : decode cX3_farthestPair 53 = .ok (.iconst 1, 1) := by decide +kernel
theorem dX3_farthestPair_54 : decode cX3_farthestPair 54 = .ok (.iadd, 1) := by decide +kernel
theorem dX3_farthestPair_55 : decode cX3_farthestPair 55 = .ok (.istore 5, 2) := by decide +kernel
theorem dX3_farthestPair_57 : decode cX3_farthestPair 57 = .ok (.iload 5, 2) := by decide +kernel
theorem dX3_farthestPair_59 : decode cX3_farthestPair 59 = .ok (.bipush 16, 2) := by decide +kernel
theorem dX3_farthestPair_61 : decode cX3_farthestPair 61 = .ok (.if_icmp .ge 41, 3) := by decide +kernel
theorem dX3_farthestPair_64 : decode cX3_farthestPair 64 = .ok (.aload_n 0, 1) := by decide +kernel
theorem dX3_farthestPair_65 : decode cX3_farthestPair 65 = .ok (.getfield 15, 3) := by decide +kernel
theorem dX3_farthestPair_68 : decode cX3_farthestPair 68 = .ok (.iload 5, 2) := by decide +kernel
theorem dX3_farthestPair_70 : decode cX3_farthestPair 70 = .ok (.iaload, 1) := by decide +kernel
theorem dX3_farthestPair_71 : decode cX3_farthestPair 71 = .ok (.iload_n 2, 1) := by decide +kernel
theorem dX3_farthestPair_72 : decode cX3_farthestPair 72 = .ok (.if_icmp .le 24, 3) := by decide +kernel
theorem dX3_farthestPair_75 : decode cX3_farthestPair 75 = .ok (.aload_n 0, 1) := by decide +kernel
theorem dX3_farthestPair_76 : decode cX3_farthestPair 76 = .ok (.getfield 15, 3) := by decide +kernel
theorem dX3_farthestPair_79 : decode cX3_farthestPair 79 = .ok (.iload 5, 2) := by decide +kernel
theorem dX3_farthestPair_81 : decode cX3_farthestPair 81 = .ok (.iaload, 1) := by decide +kernel
theorem dX3_farthestPair_82 : decode cX3_farthestPair 82 = .ok (.istore_n 2, 1) := by decide +kernel
theorem dX3_farthestPair_83 : decode cX3_farthestPair 83 = .ok (.iload_n 2, 1) := by decide +kernel
theorem dX3_farthestPair_84 : decode cX3_farthestPair 84 = .ok (.bipush 8, 2) := by decide +kernel
theorem dX3_farthestPair_86 : decode cX3_farthestPair 86 = .ok (.ishl, 1) := by decide +kernel
theorem dX3_farthestPair_87 : decode cX3_farthestPair 87 = .ok (.iload 4, 2) := by decide +kernel
theorem dX3_farthestPair_89 : decode cX3_farthestPair 89 = .ok (.iconst 4, 1) := by decide +kernel
theorem dX3_farthestPair_90 : decode cX3_farthestPair 90 = .ok (.ishl, 1) := by decide +kernel
theorem dX3_farthestPair_91 : decode cX3_farthestPair 91 = .ok (.ior, 1) := by decide +kernel
theorem dX3_farthestPair_92 : decode cX3_farthestPair 92 = .ok (.iload 5, 2) := by decide +kernel
theorem dX3_farthestPair_94 : decode cX3_farthestPair 94 = .ok (.ior, 1) := by decide +kernel
theorem dX3_farthestPair_95 : decode cX3_farthestPair 95 = .ok (.istore_n 3, 1) := by decide +kernel
theorem dX3_farthestPair_96 : decode cX3_farthestPair 96 = .ok (.iinc 5 1, 3) := by decide +kernel
theorem dX3_farthestPair_99 : decode cX3_farthestPair 99 = .ok (.goto (-42), 3) := by decide +kernel
theorem dX3_farthestPair_102 : decode cX3_farthestPair 102 = .ok (.iinc 4 1, 3) := by decide +kernel
theorem dX3_farthestPair_105 : decode cX3_farthestPair 105 = .ok (.goto (-83), 3) := by decide +kernel
theorem dX3_farthestPair_108 : decode cX3_farthestPair 108 = .ok (.iload_n 3, 1) := by decide +kernel
theorem dX3_farthestPair_109 : decode cX3_farthestPair 109 = .ok (.ireturn, 1) := by decide +kernel
theorem dX3_widthToHold_0 : decode cX3_widthToHold 0 = .ok (.iconst 0, 1) := by decide +kernel
theorem dX3_widthToHold_1 : decode cX3_widthToHold 1 = .ok (.istore_n 2, 1) := by decide +kernel
theorem dX3_widthToHold_2 : decode cX3_widthToHold 2 = .ok (.iload_n 2, 1) := by decide +kernel
theorem dX3_widthToHold_3 : decode cX3_widthToHold 3 = .ok (.bipush 16, 2) := by decide +kernel
theorem dX3_widthToHold_5 : decode cX3_widthToHold 5 = .ok (.if_icmp .ge 16, 3) := by decide +kernel
theorem dX3_widthToHold_8 : decode cX3_widthToHold 8 = .ok (.aload_n 0, 1) := by decide +kernel
theorem dX3_widthToHold_9 : decode cX3_widthToHold 9 = .ok (.getfield 18, 3) := by decide +kernel
theorem dX3_widthToHold_12 : decode cX3_widthToHold 12 = .ok (.iload_n 2, 1) := by decide +kernel
theorem dX3_widthToHold_13 : decode cX3_widthToHold 13 = .ok (.iload_n 2, 1) := by decide +kernel
theorem dX3_widthToHold_14 : decode cX3_widthToHold 14 = .ok (.iastore, 1) := by decide +kernel
theorem dX3_widthToHold_15 : decode cX3_widthToHold 15 = .ok (.iinc 2 1, 3) := by decide +kernel
theorem dX3_widthToHold_18 : decode cX3_widthToHold 18 = .ok (.goto (-16), 3) := by decide +kernel
theorem dX3_widthToHold_21 : decode cX3_widthToHold 21 = .ok (.iconst 0, 1) := by decide +kernel
theorem dX3_widthToHold_22 : decode cX3_widthToHold 22 = .ok (.istore_n 2, 1) := by decide +kernel
theorem dX3_widthToHold_23 : decode cX3_widthToHold 23 = .ok (.iconst 1, 1) := by decide +kernel
theorem dX3_widthToHold_24 : decode cX3_widthToHold 24 = .ok (.istore_n 3, 1) := by decide +kernel
theorem dX3_widthToHold_25 : decode cX3_widthToHold 25 = .ok (.iload_n 3, 1) := by decide +kernel
theorem dX3_widthToHold_26 : decode cX3_widthToHold 26 = .ok (.bipush 16, 2) := by decide +kernel
theorem dX3_widthToHold_28 : decode cX3_widthToHold 28 = .ok (.if_icmp .ge 71, 3) := by decide +kernel
theorem dX3_widthToHold_31 : decode cX3_widthToHold 31 = .ok (.aload_n 0, 1) := by decide +kernel
theorem dX3_widthToHold_32 : decode cX3_widthToHold 32 = .ok (.iload_n 1, 1) := by decide +kernel
theorem dX3_widthToHold_33 : decode cX3_widthToHold 33 = .ok (.invokevirtual 89, 3) := by decide +kernel
theorem dX3_widthToHold_36 : decode cX3_widthToHold 36 = .ok (.istore 4, 2) := by decide +kernel
theorem dX3_widthToHold_38 : decode cX3_widthToHold 38 = .ok (.iload 4, 2) := by decide +kernel
theorem dX3_widthToHold_40 : decode cX3_widthToHold 40 = .ok (.iconst (-1), 1) := by decide +kernel
theorem dX3_widthToHold_41 : decode cX3_widthToHold 41 = .ok (.if_icmp .ne 5, 3) := by decide +kernel
theorem dX3_widthToHold_44 : decode cX3_widthToHold 44 = .ok (.iload_n 2, 1) := by decide +kernel
theorem dX3_widthToHold_45 : decode cX3_widthToHold 45 = .ok (.ireturn, 1) := by decide +kernel
theorem dX3_widthToHold_46 : decode cX3_widthToHold 46 = .ok (.iload_n 2, 1) := by decide +kernel
theorem dX3_widthToHold_47 : decode cX3_widthToHold 47 = .ok (.aload_n 0, 1) := by decide +kernel
theorem dX3_widthToHold_48 : decode cX3_widthToHold 48 = .ok (.getfield 21, 3) := by decide +kernel
theorem dX3_widthToHold_51 : decode cX3_widthToHold 51 = .ok (.getfield 60, 3) := by decide +kernel
theorem dX3_widthToHold_54 : decode cX3_widthToHold 54 = .ok (.iload 4, 2) := by decide +kernel
theorem dX3_widthToHold_56 : decode cX3_widthToHold 56 = .ok (.iaload, 1) := by decide +kernel
theorem dX3_widthToHold_57 : decode cX3_widthToHold 57 = .ok (.iadd, 1) := by decide +kernel
theorem dX3_widthToHold_58 : decode cX3_widthToHold 58 = .ok (.istore_n 2, 1) := by decide +kernel
theorem dX3_widthToHold_59 : decode cX3_widthToHold 59 = .ok (.aload_n 0, 1) := by decide +kernel
theorem dX3_widthToHold_60 : decode cX3_widthToHold 60 = .ok (.aload_n 0, 1) := by decide +kernel
theorem dX3_widthToHold_61 : decode cX3_widthToHold 61 = .ok (.getfield 18, 3) := by decide +kernel
theorem dX3_widthToHold_64 : decode cX3_widthToHold 64 = .ok (.aload_n 0, 1) := by decide +kernel
theorem dX3_widthToHold_65 : decode cX3_widthToHold 65 = .ok (.getfield 21, 3) := by decide +kernel
theorem dX3_widthToHold_68 : decode cX3_widthToHold 68 = .ok (.getfield 44, 3) := by decide +kernel
theorem dX3_widthToHold_71 : decode cX3_widthToHold 71 = .ok (.iload 4, 2) := by decide +kernel
theorem dX3_widthToHold_73 : decode cX3_widthToHold 73 = .ok (.iaload, 1) := by decide +kernel
theorem dX3_widthToHold_74 : decode cX3_widthToHold 74 = .ok (.iaload, 1) := by decide +kernel
theorem dX3_widthToHold_75 : decode cX3_widthToHold 75 = .ok (.aload_n 0, 1) := by decide +kernel
theorem dX3_widthToHold_76 : decode cX3_widthToHold 76 = .ok (.getfield 18, 3) := by decide +kernel
theorem dX3_widthToHold_79 : decode cX3_widthToHold 79 = .ok (.aload_n 0, 1) := by decide +kernel
theorem dX3_widthToHold_80 : decode cX3_widthToHold 80 = .ok (.getfield 21, 3) := by decide +kernel
theorem dX3_widthToHold_83 : decode cX3_widthToHold 83 = .ok (.getfield 47, 3) := by decide +kernel
theorem dX3_widthToHold_86 : decode cX3_widthToHold 86 = .ok (.iload 4, 2) := by decide +kernel
theorem dX3_widthToHold_88 : decode cX3_widthToHold 88 = .ok (.iaload, 1) := by decide +kernel
theorem dX3_widthToHold_89 : decode cX3_widthToHold 89 = .ok (.iaload, 1) := by decide +kernel
theorem dX3_widthToHold_90 : decode cX3_widthToHold 90 = .ok (.invokevirtual 92, 3) := by decide +kernel
theorem dX3_widthToHold_93 : decode cX3_widthToHold 93 = .ok (.iinc 3 1, 3) := by decide +kernel
theorem dX3_widthToHold_96 : decode cX3_widthToHold 96 = .ok (.goto (-71), 3) := by decide +kernel
theorem dX3_widthToHold_99 : decode cX3_widthToHold 99 = .ok (.iload_n 2, 1) := by decide +kernel
theorem dX3_widthToHold_100 : decode cX3_widthToHold 100 = .ok (.ireturn, 1) := by decide +kernel
theorem dX3_widestBetweenGroups_0 : decode cX3_widestBetweenGroups 0 = .ok (.iconst (-1), 1) := by decide +kernel
theorem dX3_widestBetweenGroups_1 : decode cX3_widestBetweenGroups 1 = .ok (.istore_n 2, 1) := by decide +kernel
theorem dX3_widestBetweenGroups_2 : decode cX3_widestBetweenGroups 2 = .ok (.iconst 0, 1) := by decide +kernel
theorem dX3_widestBetweenGroups_3 : decode cX3_widestBetweenGroups 3 = .ok (.istore_n 3, 1) := by decide +kernel
theorem dX3_widestBetweenGroups_4 : decode cX3_widestBetweenGroups 4 = .ok (.iload_n 3, 1) := by decide +kernel
theorem dX3_widestBetweenGroups_5 : decode cX3_widestBetweenGroups 5 = .ok (.aload_n 0, 1) := by decide +kernel
theorem dX3_widestBetweenGroups_6 : decode cX3_widestBetweenGroups 6 = .ok (.getfield 21, 3) := by decide +kernel
theorem dX3_widestBetweenGroups_9 : decode cX3_widestBetweenGroups 9 = .ok (.getfield 35, 3) := by decide +kernel
theorem dX3_widestBetweenGroups_12 : decode cX3_widestBetweenGroups 12 = .ok (.if_icmp .ge 88, 3) := by decide +kernel
theorem dX3_widestBetweenGroups_15 : decode cX3_widestBetweenGroups 15 = .ok (.aload_n 0, 1) := by decide +kernel
theorem dX3_widestBetweenGroups_16 : decode cX3_widestBetweenGroups 16 = .ok (.getfield 18, 3) := by decide +kernel
theorem dX3_widestBetweenGroups_19 : decode cX3_widestBetweenGroups 19 = .ok (.aload_n 0, 1) := by decide +kernel
theorem dX3_widestBetweenGroups_20 : decode cX3_widestBetweenGroups 20 = .ok (.getfield 21, 3) := by decide +kernel
theorem dX3_widestBetweenGroups_23 : decode cX3_widestBetweenGroups 23 = .ok (.getfield 44, 3) := by decide +kernel
theorem dX3_widestBetweenGroups_26 : decode cX3_widestBetweenGroups 26 = .ok (.iload_n 3, 1) := by decide +kernel
theorem dX3_widestBetweenGroups_27 : decode cX3_widestBetweenGroups 27 = .ok (.iaload, 1) := by decide +kernel
theorem dX3_widestBetweenGroups_28 : decode cX3_widestBetweenGroups 28 = .ok (.iaload, 1) := by decide +kernel
theorem dX3_widestBetweenGroups_29 : decode cX3_widestBetweenGroups 29 = .ok (.aload_n 0, 1) := by decide +kernel
theorem dX3_widestBetweenGroups_30 : decode cX3_widestBetweenGroups 30 = .ok (.getfield 18, 3) := by decide +kernel
theorem dX3_widestBetweenGroups_33 : decode cX3_widestBetweenGroups 33 = .ok (.aload_n 0, 1) := by decide +kernel
theorem dX3_widestBetweenGroups_34 : decode cX3_widestBetweenGroups 34 = .ok (.getfield 21, 3) := by decide +kernel
theorem dX3_widestBetweenGroups_37 : decode cX3_widestBetweenGroups 37 = .ok (.getfield 47, 3) := by decide +kernel
theorem dX3_widestBetweenGroups_40 : decode cX3_widestBetweenGroups 40 = .ok (.iload_n 3, 1) := by decide +kernel
theorem dX3_widestBetweenGroups_41 : decode cX3_widestBetweenGroups 41 = .ok (.iaload, 1) := by decide +kernel
theorem dX3_widestBetweenGroups_42 : decode cX3_widestBetweenGroups 42 = .ok (.iaload, 1) := by decide +kernel
theorem dX3_widestBetweenGroups_43 : decode cX3_widestBetweenGroups 43 = .ok (.if_icmp .eq 7, 3) := by decide +kernel
theorem dX3_widestBetweenGroups_46 : decode cX3_widestBetweenGroups 46 = .ok (.iconst 1, 1) := by decide +kernel
theorem dX3_widestBetweenGroups_47 : decode cX3_widestBetweenGroups 47 = .ok (.goto 4, 3) := by decide +kernel
theorem dX3_widestBetweenGroups_50 : decode cX3_widestBetweenGroups 50 = .ok (.iconst 0, 1) := by decide +kernel
theorem dX3_widestBetweenGroups_51 : decode cX3_widestBetweenGroups 51 = .ok (.istore 4, 2) := by decide +kernel
theorem dX3_widestBetweenGroups_53 : decode cX3_widestBetweenGroups 53 = .ok (.iload_n 1, 1) := by decide +kernel
theorem dX3_widestBetweenGroups_54 : decode cX3_widestBetweenGroups 54 = .ok (.iload_n 3, 1) := by decide +kernel
theorem dX3_widestBetweenGroups_55 : decode cX3_widestBetweenGroups 55 = .ok (.invokestatic 40, 3) := by decide +kernel
theorem dX3_widestBetweenGroups_58 : decode cX3_widestBetweenGroups 58 = .ok (.ifCond .eq 36, 3) := by decide +kernel
theorem dX3_widestBetweenGroups_61 : decode cX3_widestBetweenGroups 61 = .ok (.iload 4, 2) := by decide +kernel
theorem dX3_widestBetweenGroups_63 : decode cX3_widestBetweenGroups 63 = .ok (.ifCond .eq 31, 3) := by decide +kernel
theorem dX3_widestBetweenGroups_66 : decode cX3_widestBetweenGroups 66 = .ok (.iload_n 2, 1) := by decide +kernel
theorem dX3_widestBetweenGroups_67 : decode cX3_widestBetweenGroups 67 = .ok (.iconst (-1), 1) := by decide +kernel
theorem dX3_widestBetweenGroups_68 : decode cX3_widestBetweenGroups 68 = .ok (.if_icmp .eq 24, 3) := by decide +kernel
theorem dX3_widestBetweenGroups_71 : decode cX3_widestBetweenGroups 71 = .ok (.aload_n 0, 1) := by decide +kernel
theorem dX3_widestBetweenGroups_72 : decode cX3_widestBetweenGroups 72 = .ok (.getfield 21, 3) := by decide +kernel
theorem dX3_widestBetweenGroups_75 : decode cX3_widestBetweenGroups 75 = .ok (.getfield 60, 3) := by decide +kernel
theorem dX3_widestBetweenGroups_78 : decode cX3_widestBetweenGroups 78 = .ok (.iload_n 3, 1) := by decide +kernel
theorem dX3_widestBetweenGroups_79 : decode cX3_widestBetweenGroups 79 = .ok (.iaload, 1) := by decide +kernel
theorem dX3_widestBetweenGroups_80 : decode cX3_widestBetweenGroups 80 = .ok (.aload_n 0, 1) := by decide +kernel
theorem dX3_widestBetweenGroups_81 : decode cX3_widestBetweenGroups 81 = .ok (.getfield 21, 3) := by decide +kernel
theorem dX3_widestBetweenGroups_84 : decode cX3_widestBetweenGroups 84 = .ok (.getfield 60, 3) := by decide +kernel
theorem dX3_widestBetweenGroups_87 : decode cX3_widestBetweenGroups 87 = .ok (.iload_n 2, 1) := by decide +kernel
theorem dX3_widestBetweenGroups_88 : decode cX3_widestBetweenGroups 88 = .ok (.iaload, 1) := by decide +kernel
theorem dX3_widestBetweenGroups_89 : decode cX3_widestBetweenGroups 89 = .ok (.if_icmp .le 5, 3) := by decide +kernel
theorem dX3_widestBetweenGroups_92 : decode cX3_widestBetweenGroups 92 = .ok (.iload_n 3, 1) := by decide +kernel
theorem dX3_widestBetweenGroups_93 : decode cX3_widestBetweenGroups 93 = .ok (.istore_n 2, 1) := by decide +kernel
theorem dX3_widestBetweenGroups_94 : decode cX3_widestBetweenGroups 94 = .ok (.iinc 3 1, 3) := by decide +kernel
theorem dX3_widestBetweenGroups_97 : decode cX3_widestBetweenGroups 97 = .ok (.goto (-93), 3) := by decide +kernel
theorem dX3_widestBetweenGroups_100 : decode cX3_widestBetweenGroups 100 = .ok (.iload_n 2, 1) := by decide +kernel
theorem dX3_widestBetweenGroups_101 : decode cX3_widestBetweenGroups 101 = .ok (.ireturn, 1) := by decide +kernel
theorem dX3_joinGroups_0 : decode cX3_joinGroups 0 = .ok (.iconst 0, 1) := by decide +kernel
theorem dX3_joinGroups_1 : decode cX3_joinGroups 1 = .ok (.istore_n 3, 1) := by decide +kernel
theorem dX3_joinGroups_2 : decode cX3_joinGroups 2 = .ok (.iload_n 3, 1) := by decide +kernel
theorem dX3_joinGroups_3 : decode cX3_joinGroups 3 = .ok (.bipush 16, 2) := by decide +kernel
theorem dX3_joinGroups_5 : decode cX3_joinGroups 5 = .ok (.if_icmp .ge 26, 3) := by decide +kernel
theorem dX3_joinGroups_8 : decode cX3_joinGroups 8 = .ok (.aload_n 0, 1) := by decide +kernel
theorem dX3_joinGroups_9 : decode cX3_joinGroups 9 = .ok (.getfield 18, 3) := by decide +kernel
theorem dX3_joinGroups_12 : decode cX3_joinGroups 12 = .ok (.iload_n 3, 1) := by decide +kernel
theorem dX3_joinGroups_13 : decode cX3_joinGroups 13 = .ok (.iaload, 1) := by decide +kernel
theorem dX3_joinGroups_14 : decode cX3_joinGroups 14 = .ok (.iload_n 2, 1) := by decide +kernel
theorem dX3_joinGroups_15 : decode cX3_joinGroups 15 = .ok (.if_icmp .ne 10, 3) := by decide +kernel
theorem dX3_joinGroups_18 : decode cX3_joinGroups 18 = .ok (.aload_n 0, 1) := by decide +kernel
theorem dX3_joinGroups_19 : decode cX3_joinGroups 19 = .ok (.getfield 18, 3) := by decide +kernel
theorem dX3_joinGroups_22 : decode cX3_joinGroups 22 = .ok (.iload_n 3, 1) := by decide +kernel
theorem dX3_joinGroups_23 : decode cX3_joinGroups 23 = .ok (.iload_n 1, 1) := by decide +kernel
theorem dX3_joinGroups_24 : decode cX3_joinGroups 24 = .ok (.iastore, 1) := by decide +kernel
theorem dX3_joinGroups_25 : decode cX3_joinGroups 25 = .ok (.iinc 3 1, 3) := by decide +kernel
theorem dX3_joinGroups_28 : decode cX3_joinGroups 28 = .ok (.goto (-26), 3) := by decide +kernel
theorem dX3_joinGroups_31 : decode cX3_joinGroups 31 = .ok (.return_, 1) := by decide +kernel
theorem dX3_bestStand_0 : decode cX3_bestStand 0 = .ok (.aload_n 0, 1) := by decide +kernel
theorem dX3_bestStand_1 : decode cX3_bestStand 1 = .ok (.getfield 21, 3) := by decide +kernel
theorem dX3_bestStand_4 : decode cX3_bestStand 4 = .ok (.getfield 76, 3) := by decide +kernel
theorem dX3_bestStand_7 : decode cX3_bestStand 7 = .ok (.invokestatic 96, 3) := by decide +kernel
theorem dX3_bestStand_10 : decode cX3_bestStand 10 = .ok (.iload_n 1, 1) := by decide +kernel
theorem dX3_bestStand_11 : decode cX3_bestStand 11 = .ok (.if_icmp .lt 15, 3) := by decide +kernel
theorem dX3_bestStand_14 : decode cX3_bestStand 14 = .ok (.aload_n 0, 1) := by decide +kernel
theorem dX3_bestStand_15 : decode cX3_bestStand 15 = .ok (.aload_n 0, 1) := by decide +kernel
theorem dX3_bestStand_16 : decode cX3_bestStand 16 = .ok (.getfield 25, 3) := by decide +kernel
theorem dX3_bestStand_19 : decode cX3_bestStand 19 = .ok (.invokevirtual 101, 3) := by decide +kernel
theorem dX3_bestStand_22 : decode cX3_bestStand 22 = .ok (.iload_n 1, 1) := by decide +kernel
theorem dX3_bestStand_23 : decode cX3_bestStand 23 = .ok (.if_icmp .le 6, 3) := by decide +kernel
theorem dX3_bestStand_26 : decode cX3_bestStand 26 = .ok (.bipush (-2), 2) := by decide +kernel
theorem dX3_bestStand_28 : decode cX3_bestStand 28 = .ok (.ireturn, 1) := by decide +kernel
theorem dX3_bestStand_29 : decode cX3_bestStand 29 = .ok (.iconst 0, 1) := by decide +kernel
theorem dX3_bestStand_30 : decode cX3_bestStand 30 = .ok (.istore_n 2, 1) := by decide +kernel
theorem dX3_bestStand_31 : decode cX3_bestStand 31 = .ok (.iload_n 2, 1) := by decide +kernel
theorem dX3_bestStand_32 : decode cX3_bestStand 32 = .ok (.bipush 16, 2) := by decide +kernel
theorem dX3_bestStand_34 : decode cX3_bestStand 34 = .ok (.if_icmp .ge 18, 3) := by decide +kernel
theorem dX3_bestStand_37 : decode cX3_bestStand 37 = .ok (.aload_n 0, 1) := by decide +kernel
theorem dX3_bestStand_38 : decode cX3_bestStand 38 = .ok (.getfield 18, 3) := by decide +kernel
theorem dX3_bestStand_41 : decode cX3_bestStand 41 = .ok (.iload_n 2, 1) := by decide +kernel
theorem dX3_bestStand_42 : decode cX3_bestStand 42 = .ok (.iconst 1, 1) := by decide +kernel
theorem dX3_bestStand_43 : decode cX3_bestStand 43 = .ok (.iload_n 2, 1) := by decide +kernel
theorem dX3_bestStand_44 : decode cX3_bestStand 44 = .ok (.ishl, 1) := by decide +kernel
theorem dX3_bestStand_45 : decode cX3_bestStand 45 = .ok (.iastore, 1) := by decide +kernel
theorem dX3_bestStand_46 : decode cX3_bestStand 46 = .ok (.iinc 2 1, 3) := by decide +kernel
theorem dX3_bestStand_49 : decode cX3_bestStand 49 = .ok (.goto (-18), 3) := by decide +kernel
theorem dX3_bestStand_52 : decode cX3_bestStand 52 = .ok (.iconst 0, 1) := by decide +kernel
theorem dX3_bestStand_53 : decode cX3_bestStand 53 = .ok (.istore_n 2, 1) := by decide +kernel
theorem dX3_bestStand_54 : decode cX3_bestStand 54 = .ok (.iload_n 2, 1) := by decide +kernel
theorem dX3_bestStand_55 : decode cX3_bestStand 55 = .ok (.bipush 16, 2) := by decide +kernel
theorem dX3_bestStand_57 : decode cX3_bestStand 57 = .ok (.if_icmp .ge 63, 3) := by decide +kernel
theorem dX3_bestStand_60 : decode cX3_bestStand 60 = .ok (.aload_n 0, 1) := by decide +kernel
theorem dX3_bestStand_61 : decode cX3_bestStand 61 = .ok (.iload_n 1, 1) := by decide +kernel
theorem dX3_bestStand_62 : decode cX3_bestStand 62 = .ok (.invokevirtual 104, 3) := by decide +kernel
theorem dX3_bestStand_65 : decode cX3_bestStand 65 = .ok (.istore_n 3, 1) := by decide +kernel
theorem dX3_bestStand_66 : decode cX3_bestStand 66 = .ok (.iload_n 3, 1) := by decide +kernel
theorem dX3_bestStand_67 : decode cX3_bestStand 67 = .ok (.ifCond .eq 10, 3) := by decide +kernel
theorem dX3_bestStand_70 : decode cX3_bestStand 70 = .ok (.iload_n 2, 1) := by decide +kernel
theorem dX3_bestStand_71 : decode cX3_bestStand 71 = .ok (.bipush 16, 2) := by decide +kernel
theorem dX3_bestStand_73 : decode cX3_bestStand 73 = .ok (.ishl, 1) := by decide +kernel
theorem dX3_bestStand_74 : decode cX3_bestStand 74 = .ok (.iload_n 3, 1) := by decide +kernel
theorem dX3_bestStand_75 : decode cX3_bestStand 75 = .ok (.ior, 1) := by decide +kernel
theorem dX3_bestStand_76 : decode cX3_bestStand 76 = .ok (.ireturn, 1) := by decide +kernel
theorem dX3_bestStand_77 : decode cX3_bestStand 77 = .ok (.iconst 0, 1) := by decide +kernel
theorem dX3_bestStand_78 : decode cX3_bestStand 78 = .ok (.istore 4, 2) := by decide +kernel
theorem dX3_bestStand_80 : decode cX3_bestStand 80 = .ok (.iload 4, 2) := by decide +kernel
theorem dX3_bestStand_82 : decode cX3_bestStand 82 = .ok (.bipush 16, 2) := by decide +kernel
theorem dX3_bestStand_84 : decode cX3_bestStand 84 = .ok (.if_icmp .ge 30, 3) := by decide +kernel
theorem dX3_bestStand_87 : decode cX3_bestStand 87 = .ok (.aload_n 0, 1) := by decide +kernel
theorem dX3_bestStand_88 : decode cX3_bestStand 88 = .ok (.getfield 18, 3) := by decide +kernel
theorem dX3_bestStand_91 : decode cX3_bestStand 91 = .ok (.iload 4, 2) := by decide +kernel
theorem dX3_bestStand_93 : decode cX3_bestStand 93 = .ok (.dup2, 1) := by decide +kernel
theorem dX3_bestStand_94 : decode cX3_bestStand 94 = .ok (.iaload, 1) := by decide +kernel
theorem dX3_bestStand_95 : decode cX3_bestStand 95 = .ok (.aload_n 0, 1) := by decide +kernel
theorem dX3_bestStand_96 : decode cX3_bestStand 96 = .ok (.aload_n 0, 1) := by decide +kernel
theorem dX3_bestStand_97 : decode cX3_bestStand 97 = .ok (.getfield 18, 3) := by decide +kernel
theorem dX3_bestStand_100 : decode cX3_bestStand 100 = .ok (.iload 4, 2) := by decide +kernel
theorem dX3_bestStand_102 : decode cX3_bestStand 102 = .ok (.iaload, 1) := by decide +kernel
theorem dX3_bestStand_103 : decode cX3_bestStand 103 = .ok (.invokevirtual 54, 3) := by decide +kernel
theorem dX3_bestStand_106 : decode cX3_bestStand 106 = .ok (.ior, 1) := by decide +kernel
theorem dX3_bestStand_107 : decode cX3_bestStand 107 = .ok (.iastore, 1) := by decide +kernel
theorem dX3_bestStand_108 : decode cX3_bestStand 108 = .ok (.iinc 4 1, 3) := by decide +kernel
theorem dX3_bestStand_111 : decode cX3_bestStand 111 = .ok (.goto (-31), 3) := by decide +kernel
theorem dX3_bestStand_114 : decode cX3_bestStand 114 = .ok (.iinc 2 1, 3) := by decide +kernel
theorem dX3_bestStand_117 : decode cX3_bestStand 117 = .ok (.goto (-63), 3) := by decide +kernel
theorem dX3_bestStand_120 : decode cX3_bestStand 120 = .ok (.bipush (-2), 2) := by decide +kernel
theorem dX3_bestStand_122 : decode cX3_bestStand 122 = .ok (.ireturn, 1) := by decide +kernel
theorem dX3_leastCover_0 : decode cX3_leastCover 0 = .ok (.iconst 1, 1) := by decide +kernel
theorem dX3_leastCover_1 : decode cX3_leastCover 1 = .ok (.iload_n 1, 1) := by decide +kernel
theorem dX3_leastCover_2 : decode cX3_leastCover 2 = .ok (.ishl, 1) := by decide +kernel
theorem dX3_leastCover_3 : decode cX3_leastCover 3 = .ok (.iconst 1, 1) := by decide +kernel
theorem dX3_leastCover_4 : decode cX3_leastCover 4 = .ok (.isub, 1) := by decide +kernel
theorem dX3_leastCover_5 : decode cX3_leastCover 5 = .ok (.istore_n 2, 1) := by decide +kernel
theorem dX3_leastCover_6 : decode cX3_leastCover 6 = .ok (.iconst 0, 1) := by decide +kernel
theorem dX3_leastCover_7 : decode cX3_leastCover 7 = .ok (.istore_n 3, 1) := by decide +kernel
theorem dX3_leastCover_8 : decode cX3_leastCover 8 = .ok (.iload_n 3, 1) := by decide +kernel
theorem dX3_leastCover_9 : decode cX3_leastCover 9 = .ok (.ldc 107, 2) := by decide +kernel
theorem dX3_leastCover_11 : decode cX3_leastCover 11 = .ok (.if_icmp .ge 44, 3) := by decide +kernel
theorem dX3_leastCover_14 : decode cX3_leastCover 14 = .ok (.iload_n 2, 1) := by decide +kernel
theorem dX3_leastCover_15 : decode cX3_leastCover 15 = .ok (.ldc 107, 2) := by decide +kernel
theorem dX3_leastCover_17 : decode cX3_leastCover 17 = .ok (.if_icmp .ge 38, 3) := by decide +kernel
theorem dX3_leastCover_20 : decode cX3_leastCover 20 = .ok (.iload_n 2, 1) := by decide +kernel
theorem dX3_leastCover_21 : decode cX3_leastCover 21 = .ok (.aload_n 0, 1) := by decide +kernel
theorem dX3_leastCover_22 : decode cX3_leastCover 22 = .ok (.getfield 21, 3) := by decide +kernel
theorem dX3_leastCover_25 : decode cX3_leastCover 25 = .ok (.getfield 76, 3) := by decide +kernel
theorem dX3_leastCover_28 : decode cX3_leastCover 28 = .ok (.iconst (-1), 1) := by decide +kernel
theorem dX3_leastCover_29 : decode cX3_leastCover 29 = .ok (.ixor, 1) := by decide +kernel
theorem dX3_leastCover_30 : decode cX3_leastCover 30 = .ok (.iand, 1) := by decide +kernel
theorem dX3_leastCover_31 : decode cX3_leastCover 31 = .ok (.ifCond .ne 13, 3) := by decide +kernel
theorem dX3_leastCover_34 : decode cX3_leastCover 34 = .ok (.aload_n 0, 1) := by decide +kernel
theorem dX3_leastCover_35 : decode cX3_leastCover 35 = .ok (.iload_n 2, 1) := by decide +kernel
theorem dX3_leastCover_36 : decode cX3_leastCover 36 = .ok (.invokevirtual 108, 3) := by decide +kernel
theorem dX3_leastCover_39 : decode cX3_leastCover 39 = .ok (.ifCond .eq 5, 3) := by decide +kernel
theorem dX3_leastCover_42 : decode cX3_leastCover 42 = .ok (.iload_n 2, 1) := by decide +kernel
theorem dX3_leastCover_43 : decode cX3_leastCover 43 = .ok (.ireturn, 1) := by decide +kernel
theorem dX3_leastCover_44 : decode cX3_leastCover 44 = .ok (.iload_n 2, 1) := by decide +kernel
theorem dX3_leastCover_45 : decode cX3_leastCover 45 = .ok (.invokestatic 111, 3) := by decide +kernel
theorem dX3_leastCover_48 : decode cX3_leastCover 48 = .ok (.istore_n 2, 1) := by decide +kernel
theorem dX3_leastCover_49 : decode cX3_leastCover 49 = .ok (.iinc 3 1, 3) := by decide +kernel
theorem dX3_leastCover_52 : decode cX3_leastCover 52 = .ok (.goto (-44), 3) := by decide +kernel
theorem dX3_leastCover_55 : decode cX3_leastCover 55 = .ok (.iconst 0, 1) := by decide +kernel
theorem dX3_leastCover_56 : decode cX3_leastCover 56 = .ok (.ireturn, 1) := by decide +kernel
theorem dX3_doesCover_0 : decode cX3_doesCover 0 = .ok (.iconst 0, 1) := by decide +kernel
theorem dX3_doesCover_1 : decode cX3_doesCover 1 = .ok (.istore_n 2, 1) := by decide +kernel
theorem dX3_doesCover_2 : decode cX3_doesCover 2 = .ok (.iload_n 1, 1) := by decide +kernel
theorem dX3_doesCover_3 : decode cX3_doesCover 3 = .ok (.istore_n 3, 1) := by decide +kernel
theorem dX3_doesCover_4 : decode cX3_doesCover 4 = .ok (.iconst 0, 1) := by decide +kernel
theorem dX3_doesCover_5 : decode cX3_doesCover 5 = .ok (.istore 4, 2) := by decide +kernel
theorem dX3_doesCover_7 : decode cX3_doesCover 7 = .ok (.iload 4, 2) := by decide +kernel
theorem dX3_doesCover_9 : decode cX3_doesCover 9 = .ok (.iconst 5, 1) := by decide +kernel
theorem dX3_doesCover_10 : decode cX3_doesCover 10 = .ok (.if_icmp .ge 31, 3) := by decide +kernel
theorem dX3_doesCover_13 : decode cX3_doesCover 13 = .ok (.iload_n 3, 1) := by decide +kernel
theorem dX3_doesCover_14 : decode cX3_doesCover 14 = .ok (.ifCond .eq 27, 3) := by decide +kernel
theorem dX3_doesCover_17 : decode cX3_doesCover 17 = .ok (.iload_n 2, 1) := by decide +kernel
theorem dX3_doesCover_18 : decode cX3_doesCover 18 = .ok (.aload_n 0, 1) := by decide +kernel
theorem dX3_doesCover_19 : decode cX3_doesCover 19 = .ok (.getfield 18, 3) := by decide +kernel
theorem dX3_doesCover_22 : decode cX3_doesCover 22 = .ok (.iload_n 3, 1) := by decide +kernel
theorem dX3_doesCover_23 : decode cX3_doesCover 23 = .ok (.invokestatic 50, 3) := by decide +kernel
theorem dX3_doesCover_26 : decode cX3_doesCover 26 = .ok (.iaload, 1) := by decide +kernel
theorem dX3_doesCover_27 : decode cX3_doesCover 27 = .ok (.ior, 1) := by decide +kernel
theorem dX3_doesCover_28 : decode cX3_doesCover 28 = .ok (.istore_n 2, 1) := by decide +kernel
theorem dX3_doesCover_29 : decode cX3_doesCover 29 = .ok (.iload_n 3, 1) := by decide +kernel
theorem dX3_doesCover_30 : decode cX3_doesCover 30 = .ok (.iload_n 3, 1) := by decide +kernel
theorem dX3_doesCover_31 : decode cX3_doesCover 31 = .ok (.iconst 1, 1) := by decide +kernel
theorem dX3_doesCover_32 : decode cX3_doesCover 32 = .ok (.isub, 1) := by decide +kernel
theorem dX3_doesCover_33 : decode cX3_doesCover 33 = .ok (.iand, 1) := by decide +kernel
theorem dX3_doesCover_34 : decode cX3_doesCover 34 = .ok (.istore_n 3, 1) := by decide +kernel
theorem dX3_doesCover_35 : decode cX3_doesCover 35 = .ok (.iinc 4 1, 3) := by decide +kernel
theorem dX3_doesCover_38 : decode cX3_doesCover 38 = .ok (.goto (-31), 3) := by decide +kernel
theorem dX3_doesCover_41 : decode cX3_doesCover 41 = .ok (.iload_n 2, 1) := by decide +kernel
theorem dX3_doesCover_42 : decode cX3_doesCover 42 = .ok (.aload_n 0, 1) := by decide +kernel
theorem dX3_doesCover_43 : decode cX3_doesCover 43 = .ok (.getfield 21, 3) := by decide +kernel
theorem dX3_doesCover_46 : decode cX3_doesCover 46 = .ok (.getfield 76, 3) := by decide +kernel
theorem dX3_doesCover_49 : decode cX3_doesCover 49 = .ok (.if_icmp .ne 7, 3) := by decide +kernel
theorem dX3_doesCover_52 : decode cX3_doesCover 52 = .ok (.iconst 1, 1) := by decide +kernel
theorem dX3_doesCover_53 : decode cX3_doesCover 53 = .ok (.goto 4, 3) := by decide +kernel
theorem dX3_doesCover_56 : decode cX3_doesCover 56 = .ok (.iconst 0, 1) := by decide +kernel
theorem dX3_doesCover_57 : decode cX3_doesCover 57 = .ok (.ireturn, 1) := by decide +kernel
theorem dX3_nextOfAsMany_0 : decode cX3_nextOfAsMany 0 = .ok (.iload_n 0, 1) := by decide +kernel
theorem dX3_nextOfAsMany_1 : decode cX3_nextOfAsMany 1 = .ok (.iload_n 0, 1) := by decide +kernel
theorem dX3_nextOfAsMany_2 : decode cX3_nextOfAsMany 2 = .ok (.ineg, 1) := by decide +kernel
theorem dX3_nextOfAsMany_3 : decode cX3_nextOfAsMany 3 = .ok (.iand, 1) := by decide +kernel
theorem dX3_nextOfAsMany_4 : decode cX3_nextOfAsMany 4 = .ok (.istore_n 1, 1) := by decide +kernel
theorem dX3_nextOfAsMany_5 : decode cX3_nextOfAsMany 5 = .ok (.iload_n 0, 1) := by decide +kernel
theorem dX3_nextOfAsMany_6 : decode cX3_nextOfAsMany 6 = .ok (.iload_n 1, 1) := by decide +kernel
theorem dX3_nextOfAsMany_7 : decode cX3_nextOfAsMany 7 = .ok (.iadd, 1) := by decide +kernel
theorem dX3_nextOfAsMany_8 : decode cX3_nextOfAsMany 8 = .ok (.istore_n 2, 1) := by decide +kernel
theorem dX3_nextOfAsMany_9 : decode cX3_nextOfAsMany 9 = .ok (.iload_n 1, 1) := by decide +kernel
theorem dX3_nextOfAsMany_10 : decode cX3_nextOfAsMany 10 = .ok (.ifCond .ne 8, 3) := by decide +kernel
theorem dX3_nextOfAsMany_13 : decode cX3_nextOfAsMany 13 = .ok (.ldc 107, 2) := by decide +kernel
theorem dX3_nextOfAsMany_15 : decode cX3_nextOfAsMany 15 = .ok (.goto 12, 3) := by decide +kernel
theorem dX3_nextOfAsMany_18 : decode cX3_nextOfAsMany 18 = .ok (.iload_n 2, 1) := by decide +kernel
theorem dX3_nextOfAsMany_19 : decode cX3_nextOfAsMany 19 = .ok (.iload_n 0, 1) := by decide +kernel
theorem dX3_nextOfAsMany_20 : decode cX3_nextOfAsMany 20 = .ok (.iload_n 2, 1) := by decide +kernel
theorem dX3_nextOfAsMany_21 : decode cX3_nextOfAsMany 21 = .ok (.ixor, 1) := by decide +kernel
theorem dX3_nextOfAsMany_22 : decode cX3_nextOfAsMany 22 = .ok (.iload_n 1, 1) := by decide +kernel
theorem dX3_nextOfAsMany_23 : decode cX3_nextOfAsMany 23 = .ok (.idiv, 1) := by decide +kernel
theorem dX3_nextOfAsMany_24 : decode cX3_nextOfAsMany 24 = .ok (.iconst 2, 1) := by decide +kernel
theorem dX3_nextOfAsMany_25 : decode cX3_nextOfAsMany 25 = .ok (.ishr, 1) := by decide +kernel
theorem dX3_nextOfAsMany_26 : decode cX3_nextOfAsMany 26 = .ok (.ior, 1) := by decide +kernel
theorem dX3_nextOfAsMany_27 : decode cX3_nextOfAsMany 27 = .ok (.ireturn, 1) := by decide +kernel
theorem dX4_init_0 : decode cX4_init 0 = .ok (.aload_n 0, 1) := by decide +kernel
theorem dX4_init_1 : decode cX4_init 1 = .ok (.invokespecial 3, 3) := by decide +kernel
theorem dX4_init_4 : decode cX4_init 4 = .ok (.aload_n 0, 1) := by decide +kernel
theorem dX4_init_5 : decode cX4_init 5 = .ok (.bipush 20, 2) := by decide +kernel
theorem dX4_init_7 : decode cX4_init 7 = .ok (.newarray .int, 2) := by decide +kernel
theorem dX4_init_9 : decode cX4_init 9 = .ok (.putfield 9, 3) := by decide +kernel
theorem dX4_init_12 : decode cX4_init 12 = .ok (.aload_n 0, 1) := by decide +kernel
theorem dX4_init_13 : decode cX4_init 13 = .ok (.bipush 20, 2) := by decide +kernel
theorem dX4_init_15 : decode cX4_init 15 = .ok (.newarray .int, 2) := by decide +kernel
theorem dX4_init_17 : decode cX4_init 17 = .ok (.putfield 15, 3) := by decide +kernel
theorem dX4_init_20 : decode cX4_init 20 = .ok (.aload_n 0, 1) := by decide +kernel
theorem dX4_init_21 : decode cX4_init 21 = .ok (.bipush 20, 2) := by decide +kernel
theorem dX4_init_23 : decode cX4_init 23 = .ok (.newarray .int, 2) := by decide +kernel
theorem dX4_init_25 : decode cX4_init 25 = .ok (.putfield 18, 3) := by decide +kernel
theorem dX4_init_28 : decode cX4_init 28 = .ok (.return_, 1) := by decide +kernel
theorem dX4_readFrom_0 : decode cX4_readFrom 0 = .ok (.aload_n 0, 1) := by decide +kernel
theorem dX4_readFrom_1 : decode cX4_readFrom 1 = .ok (.iconst 0, 1) := by decide +kernel
theorem dX4_readFrom_2 : decode cX4_readFrom 2 = .ok (.putfield 21, 3) := by decide +kernel
theorem dX4_readFrom_5 : decode cX4_readFrom 5 = .ok (.iconst 0, 1) := by decide +kernel
theorem dX4_readFrom_6 : decode cX4_readFrom 6 = .ok (.istore_n 3, 1) := by decide +kernel
theorem dX4_readFrom_7 : decode cX4_readFrom 7 = .ok (.iload_n 3, 1) := by decide +kernel
theorem dX4_readFrom_8 : decode cX4_readFrom 8 = .ok (.bipush 20, 2) := by decide +kernel
theorem dX4_readFrom_10 : decode cX4_readFrom 10 = .ok (.if_icmp .gt 105, 3) := by decide +kernel
theorem dX4_readFrom_13 : decode cX4_readFrom 13 = .ok (.aload_n 1, 1) := by decide +kernel
theorem dX4_readFrom_14 : decode cX4_readFrom 14 = .ok (.invokevirtual 25, 3) := by decide +kernel
theorem dX4_readFrom_17 : decode cX4_readFrom 17 = .ok (.istore 4, 2) := by decide +kernel
theorem dX4_readFrom_19 : decode cX4_readFrom 19 = .ok (.aload_n 1, 1) := by decide +kernel
theorem dX4_readFrom_20 : decode cX4_readFrom 20 = .ok (.invokevirtual 31, 3) := by decide +kernel
theorem dX4_readFrom_23 : decode cX4_readFrom 23 = .ok (.ifCond .ne 17, 3) := by decide +kernel
theorem dX4_readFrom_26 : decode cX4_readFrom 26 = .ok (.iload 4, 2) := by decide +kernel
theorem dX4_readFrom_28 : decode cX4_readFrom 28 = .ok (.bipush 35, 2) := by decide +kernel
theorem dX4_readFrom_30 : decode cX4_readFrom 30 = .ok (.if_icmp .eq 10, 3) := by decide +kernel
theorem dX4_readFrom_33 : decode cX4_readFrom 33 = .ok (.iload 4, 2) := by decide +kernel
theorem dX4_readFrom_35 : decode cX4_readFrom 35 = .ok (.bipush 126, 2) := by decide +kernel
theorem dX4_readFrom_37 : decode cX4_readFrom 37 = .ok (.if_icmp .ne 7, 3) := by decide +kernel
theorem dX4_readFrom_40 : decode cX4_readFrom 40 = .ok (.iconst 1, 1) := by decide +kernel
theorem dX4_readFrom_41 : decode cX4_readFrom 41 = .ok (.goto 4, 3) := by decide +kernel
theorem dX4_readFrom_44 : decode cX4_readFrom 44 = .ok (.iconst 0, 1) := by decide +kernel
theorem dX4_readFrom_45 : decode cX4_readFrom 45 = .ok (.istore 5, 2) := by decide +kernel
theorem dX4_readFrom_47 : decode cX4_readFrom 47 = .ok (.iload 5, 2) := by decide +kernel
theorem dX4_readFrom_49 : decode cX4_readFrom 49 = .ok (.ifCond .ne 13, 3) := by decide +kernel
theorem dX4_readFrom_52 : decode cX4_readFrom 52 = .ok (.aload_n 1, 1) := by decide +kernel
theorem dX4_readFrom_53 : decode cX4_readFrom 53 = .ok (.iconst 1, 1) := by decide +kernel
theorem dX4_readFrom_54 : decode cX4_readFrom 54 = .ok (.aload_n 1, 1) := by decide +kernel
theorem dX4_readFrom_55 : decode cX4_readFrom 55 = .ok (.getfield 35, 3) := by decide +kernel
theorem dX4_readFrom_58 : decode cX4_readFrom 58 = .ok (.invokevirtual 38, 3) := by decide +kernel
theorem dX4_readFrom_61 : decode cX4_readFrom 61 = .ok (.ireturn, 1) := by decide +kernel
theorem dX4_readFrom_62 : decode cX4_readFrom 62 = .ok (.iload_n 3, 1) := by decide +kernel
theorem dX4_readFrom_63 : decode cX4_readFrom 63 = .ok (.bipush 20, 2) := by decide +kernel
theorem dX4_readFrom_65 : decode cX4_readFrom 65 = .ok (.if_icmp .ne 13, 3) := by decide +kernel
theorem dX4_readFrom_68 : decode cX4_readFrom 68 = .ok (.aload_n 1, 1) := by decide +kernel
theorem dX4_readFrom_69 : decode cX4_readFrom 69 = .ok (.iconst 4, 1) := by decide +kernel
theorem dX4_readFrom_70 : decode cX4_readFrom 70 = .ok (.aload_n 1, 1) := by decide +kernel
theorem dX4_readFrom_71 : decode cX4_readFrom 71 = .ok (.getfield 35, 3) := by decide +kernel
theorem dX4_readFrom_74 : decode cX4_readFrom 74 = .ok (.invokevirtual 38, 3) := by decide +kernel
theorem dX4_readFrom_77 : decode cX4_readFrom 77 = .ok (.ireturn, 1) := by decide +kernel
theorem dX4_readFrom_78 : decode cX4_readFrom 78 = .ok (.aload_n 0, 1) := by decide +kernel
theorem dX4_readFrom_79 : decode cX4_readFrom 79 = .ok (.aload_n 1, 1) := by decide +kernel
theorem dX4_readFrom_80 : decode cX4_readFrom 80 = .ok (.aload_n 2, 1) := by decide +kernel
theorem dX4_readFrom_81 : decode cX4_readFrom 81 = .ok (.invokevirtual 42, 3) := by decide +kernel
theorem dX4_readFrom_84 : decode cX4_readFrom 84 = .ok (.ifCond .ne 5, 3) := by decide +kernel
theorem dX4_readFrom_87 : decode cX4_readFrom 87 = .ok (.iconst 0, 1) := by decide +kernel
theorem dX4_readFrom_88 : decode cX4_readFrom 88 = .ok (.ireturn, 1) := by decide +kernel
theorem dX4_readFrom_89 : decode cX4_readFrom 89 = .ok (.aload_n 1, 1) := by decide +kernel
theorem dX4_readFrom_90 : decode cX4_readFrom 90 = .ok (.invokevirtual 46, 3) := by decide +kernel
theorem dX4_readFrom_93 : decode cX4_readFrom 93 = .ok (.ifCond .eq 5, 3) := by decide +kernel
theorem dX4_readFrom_96 : decode cX4_readFrom 96 = .ok (.iconst 1, 1) := by decide +kernel
theorem dX4_readFrom_97 : decode cX4_readFrom 97 = .ok (.ireturn, 1) := by decide +kernel
theorem dX4_readFrom_98 : decode cX4_readFrom 98 = .ok (.aload_n 1, 1) := by decide +kernel
theorem dX4_readFrom_99 : decode cX4_readFrom 99 = .ok (.bipush 59, 2) := by decide +kernel
theorem dX4_readFrom_101 : decode cX4_readFrom 101 = .ok (.invokevirtual 49, 3) := by decide +kernel
theorem dX4_readFrom_104 : decode cX4_readFrom 104 = .ok (.ifCond .ne 5, 3) := by decide +kernel
theorem dX4_readFrom_107 : decode cX4_readFrom 107 = .ok (.iconst 0, 1) := by decide +kernel
theorem dX4_readFrom_108 : decode cX4_readFrom 108 = .ok (.ireturn, 1) := by decide +kernel
theorem dX4_readFrom_109 : decode cX4_readFrom 109 = .ok (.iinc 3 1, 3) := by decide +kernel
theorem dX4_readFrom_112 : decode cX4_readFrom 112 = .ok (.goto (-105), 3) := by decide +kernel
theorem dX4_readFrom_115 : decode cX4_readFrom 115 = .ok (.iconst 0, 1) := by decide +kernel
theorem dX4_readFrom_116 : decode cX4_readFrom 116 = .ok (.ireturn, 1) := by decide +kernel
theorem dX4_readLine_0 : decode cX4_readLine 0 = .ok (.aload_n 1, 1) := by decide +kernel
theorem dX4_readLine_1 : decode cX4_readLine 1 = .ok (.bipush 35, 2) := by decide +kernel
theorem dX4_readLine_3 : decode cX4_readLine 3 = .ok (.invokevirtual 53, 3) := by decide +kernel
theorem dX4_readLine_6 : decode cX4_readLine 6 = .ok (.ifCond .eq 10, 3) := by decide +kernel
theorem dX4_readLine_9 : decode cX4_readLine 9 = .ok (.aload_n 0, 1) := by decide +kernel
theorem dX4_readLine_10 : decode cX4_readLine 10 = .ok (.aload_n 1, 1) := by decide +kernel
theorem dX4_readLine_11 : decode cX4_readLine 11 = .ok (.aload_n 2, 1) := by decide +kernel
theorem dX4_readLine_12 : decode cX4_readLine 12 = .ok (.invokevirtual 56, 3) := by decide +kernel
theorem dX4_readLine_15 : decode cX4_readLine 15 = .ok (.ireturn, 1) := by decide +kernel
theorem dX4_readLine_16 : decode cX4_readLine 16 = .ok (.aload_n 1, 1) := by decide +kernel
theorem dX4_readLine_17 : decode cX4_readLine 17 = .ok (.bipush 126, 2) := by decide +kernel
theorem dX4_readLine_19 : decode cX4_readLine 19 = .ok (.invokevirtual 53, 3) := by decide +kernel
theorem dX4_readLine_22 : decode cX4_readLine 22 = .ok (.ifCond .eq 14, 3) := by decide +kernel
theorem dX4_readLine_25 : decode cX4_readLine 25 = .ok (.aload_n 0, 1) := by decide +kernel
theorem dX4_readLine_26 : decode cX4_readLine 26 = .ok (.aload_n 1, 1) := by decide +kernel
theorem dX4_readLine_27 : decode cX4_readLine 27 = .ok (.bipush 126, 2) := by decide +kernel
theorem dX4_readLine_29 : decode cX4_readLine 29 = .ok (.iconst 0, 1) := by decide +kernel
theorem dX4_readLine_30 : decode cX4_readLine 30 = .ok (.bipush 6, 2) := by decide +kernel
theorem dX4_readLine_32 : decode cX4_readLine 32 = .ok (.invokevirtual 59, 3) := by decide +kernel
theorem dX4_readLine_35 : decode cX4_readLine 35 = .ok (.ireturn, 1) := by decide +kernel
theorem dX4_readLine_36 : decode cX4_readLine 36 = .ok (.aload_n 1, 1) := by decide +kernel
theorem dX4_readLine_37 : decode cX4_readLine 37 = .ok (.invokevirtual 25, 3) := by decide +kernel
theorem dX4_readLine_40 : decode cX4_readLine 40 = .ok (.bipush 97, 2) := by decide +kernel
theorem dX4_readLine_42 : decode cX4_readLine 42 = .ok (.isub, 1) := by decide +kernel
theorem dX4_readLine_43 : decode cX4_readLine 43 = .ok (.istore_n 3, 1) := by decide +kernel
theorem dX4_readLine_44 : decode cX4_readLine 44 = .ok (.aload_n 2, 1) := by decide +kernel
theorem dX4_readLine_45 : decode cX4_readLine 45 = .ok (.iload_n 3, 1) := by decide +kernel
theorem dX4_readLine_46 : decode cX4_readLine 46 = .ok (.invokevirtual 63, 3) := by decide +kernel
theorem dX4_readLine_49 : decode cX4_readLine 49 = .ok (.ifCond .ne 14, 3) := by decide +kernel
theorem dX4_readLine_52 : decode cX4_readLine 52 = .ok (.aload_n 1, 1) := by decide +kernel
theorem dX4_readLine_53 : decode cX4_readLine 53 = .ok (.bipush 7, 2) := by decide +kernel
theorem dX4_readLine_55 : decode cX4_readLine 55 = .ok (.aload_n 1, 1) := by decide +kernel
theorem dX4_readLine_56 : decode cX4_readLine 56 = .ok (.getfield 35, 3) := by decide +kernel
theorem dX4_readLine_59 : decode cX4_readLine 59 = .ok (.invokevirtual 38, 3) := by decide +kernel
theorem dX4_readLine_62 : decode cX4_readLine 62 = .ok (.ireturn, 1) := by decide +kernel
theorem dX4_readLine_63 : decode cX4_readLine 63 = .ok (.aload_n 1, 1) := by decide +kernel
theorem dX4_readLine_64 : decode cX4_readLine 64 = .ok (.dup, 1) := by decide +kernel
theorem dX4_readLine_65 : decode cX4_readLine 65 = .ok (.getfield 35, 3) := by decide +kernel
theorem dX4_readLine_68 : decode cX4_readLine 68 = .ok (.iconst 1, 1) := by decide +kernel
theorem dX4_readLine_69 : decode cX4_readLine 69 = .ok (.iadd, 1) := by decide +kernel
theorem dX4_readLine_70 : decode cX4_readLine 70 = .ok (.putfield 35, 3) := by decide +kernel
theorem dX4_readLine_73 : decode cX4_readLine 73 = .ok (.aload_n 1, 1) := by decide +kernel
theorem dX4_readLine_74 : decode cX4_readLine 74 = .ok (.bipush 64, 2) := by decide +kernel
theorem dX4_readLine_76 : decode cX4_readLine 76 = .ok (.invokevirtual 53, 3) := by decide +kernel
theorem dX4_readLine_79 : decode cX4_readLine 79 = .ok (.ifCond .eq 10, 3) := by decide +kernel
theorem dX4_readLine_82 : decode cX4_readLine 82 = .ok (.aload_n 0, 1) := by decide +kernel
theorem dX4_readLine_83 : decode cX4_readLine 83 = .ok (.aload_n 1, 1) := by decide +kernel
theorem dX4_readLine_84 : decode cX4_readLine 84 = .ok (.iload_n 3, 1) := by decide +kernel
theorem dX4_readLine_85 : decode cX4_readLine 85 = .ok (.invokevirtual 68, 3) := by decide +kernel
theorem dX4_readLine_88 : decode cX4_readLine 88 = .ok (.ireturn, 1) := by decide +kernel
theorem dX4_readLine_89 : decode cX4_readLine 89 = .ok (.aload_n 1, 1) := by decide +kernel
theorem dX4_readLine_90 : decode cX4_readLine 90 = .ok (.bipush 43, 2) := by decide +kernel
theorem dX4_readLine_92 : decode cX4_readLine 92 = .ok (.invokevirtual 53, 3) := by decide +kernel
theorem dX4_readLine_95 : decode cX4_readLine 95 = .ok (.ifCond .eq 13, 3) := by decide +kernel
theorem dX4_readLine_98 : decode cX4_readLine 98 = .ok (.aload_n 0, 1) := by decide +kernel
theorem dX4_readLine_99 : decode cX4_readLine 99 = .ok (.aload_n 1, 1) := by decide +kernel
theorem dX4_readLine_100 : decode cX4_readLine 100 = .ok (.bipush 43, 2) := by decide +kernel
theorem dX4_readLine_102 : decode cX4_readLine 102 = .ok (.iload_n 3, 1) := by decide +kernel
theorem dX4_readLine_103 : decode cX4_readLine 103 = .ok (.iconst 4, 1) := by decide +kernel
theorem dX4_readLine_104 : decode cX4_readLine 104 = .ok (.invokevirtual 59, 3) := by decide +kernel
theorem dX4_readLine_107 : decode cX4_readLine 107 = .ok (.ireturn, 1) := by decide +kernel
theorem dX4_readLine_108 : decode cX4_readLine 108 = .ok (.aload_n 1, 1) := by decide +kernel
theorem dX4_readLine_109 : decode cX4_readLine 109 = .ok (.bipush 45, 2) := by decide +kernel
theorem dX4_readLine_111 : decode cX4_readLine 111 = .ok (.invokevirtual 49, 3) := by decide +kernel
theorem dX4_readLine_114 : decode cX4_readLine 114 = .ok (.ifCond .eq 19, 3) := by decide +kernel
theorem dX4_readLine_117 : decode cX4_readLine 117 = .ok (.aload_n 0, 1) := by decide +kernel
theorem dX4_readLine_118 : decode cX4_readLine 118 = .ok (.aload_n 1, 1) := by decide +kernel
theorem dX4_readLine_119 : decode cX4_readLine 119 = .ok (.bipush 45, 2) := by decide +kernel
theorem dX4_readLine_121 : decode cX4_readLine 121 = .ok (.iload_n 3, 1) := by decide +kernel
theorem dX4_readLine_122 : decode cX4_readLine 122 = .ok (.iconst 4, 1) := by decide +kernel
theorem dX4_readLine_123 : decode cX4_readLine 123 = .ok (.invokevirtual 59, 3) := by decide +kernel
theorem dX4_readLine_126 : decode cX4_readLine 126 = .ok (.ifCond .eq 7, 3) := by decide +kernel
theorem dX4_readLine_129 : decode cX4_readLine 129 = .ok (.iconst 1, 1) := by decide +kernel
theorem dX4_readLine_130 : decode cX4_readLine 130 = .ok (.goto 4, 3) := by decide +kernel
theorem dX4_readLine_133 : decode cX4_readLine 133 = .ok (.iconst 0, 1) := by decide +kernel
theorem dX4_readLine_134 : decode cX4_readLine 134 = .ok (.ireturn, 1) := by decide +kernel
theorem dX4_readPipe_0 : decode cX4_readPipe 0 = .ok (.aload_n 1, 1) := by decide +kernel
theorem dX4_readPipe_1 : decode cX4_readPipe 1 = .ok (.getfield 35, 3) := by decide +kernel
theorem dX4_readPipe_4 : decode cX4_readPipe 4 = .ok (.istore_n 3, 1) := by decide +kernel
theorem dX4_readPipe_5 : decode cX4_readPipe 5 = .ok (.aload_n 1, 1) := by decide +kernel
theorem dX4_readPipe_6 : decode cX4_readPipe 6 = .ok (.iconst 2, 1) := by decide +kernel
theorem dX4_readPipe_7 : decode cX4_readPipe 7 = .ok (.invokevirtual 72, 3) := by decide +kernel
theorem dX4_readPipe_10 : decode cX4_readPipe 10 = .ok (.istore 4, 2) := by decide +kernel
theorem dX4_readPipe_12 : decode cX4_readPipe 12 = .ok (.iload 4, 2) := by decide +kernel
theorem dX4_readPipe_14 : decode cX4_readPipe 14 = .ok (.iconst (-1), 1) := by decide +kernel
theorem dX4_readPipe_15 : decode cX4_readPipe 15 = .ok (.if_icmp .ne 5, 3) := by decide +kernel
theorem dX4_readPipe_18 : decode cX4_readPipe 18 = .ok (.iconst 0, 1) := by decide +kernel
theorem dX4_readPipe_19 : decode cX4_readPipe 19 = .ok (.ireturn, 1) := by decide +kernel
theorem dX4_readPipe_20 : decode cX4_readPipe 20 = .ok (.iload 4, 2) := by decide +kernel
theorem dX4_readPipe_22 : decode cX4_readPipe 22 = .ok (.aload_n 2, 1) := by decide +kernel
theorem dX4_readPipe_23 : decode cX4_readPipe 23 = .ok (.getfield 76, 3) := by decide +kernel
theorem dX4_readPipe_26 : decode cX4_readPipe 26 = .ok (.if_icmp .lt 11, 3) := by decide +kernel
theorem dX4_readPipe_29 : decode cX4_readPipe 29 = .ok (.aload_n 1, 1) := by decide +kernel
theorem dX4_readPipe_30 : decode cX4_readPipe 30 = .ok (.bipush 7, 2) := by decide +kernel
theorem dX4_readPipe_32 : decode cX4_readPipe 32 = .ok (.iload_n 3, 1) := by decide +kernel
theorem dX4_readPipe_33 : decode cX4_readPipe 33 = .ok (.invokevirtual 38, 3) := by decide +kernel
theorem dX4_readPipe_36 : decode cX4_readPipe 36 = .ok (.ireturn, 1) := by decide +kernel
theorem dX4_readPipe_37 : decode cX4_readPipe 37 = .ok (.aload_n 1, 1) := by decide +kernel
theorem dX4_readPipe_38 : decode cX4_readPipe 38 = .ok (.bipush 33, 2) := by decide +kernel
theorem dX4_readPipe_40 : decode cX4_readPipe 40 = .ok (.invokevirtual 53, 3) := by decide +kernel
theorem dX4_readPipe_43 : decode cX4_readPipe 43 = .ok (.ifCond .eq 13, 3) := by decide +kernel
theorem dX4_readPipe_46 : decode cX4_readPipe 46 = .ok (.aload_n 0, 1) := by decide +kernel
theorem dX4_readPipe_47 : decode cX4_readPipe 47 = .ok (.bipush 33, 2) := by decide +kernel
theorem dX4_readPipe_49 : decode cX4_readPipe 49 = .ok (.iload 4, 2) := by decide +kernel
theorem dX4_readPipe_51 : decode cX4_readPipe 51 = .ok (.iconst 0, 1) := by decide +kernel
theorem dX4_readPipe_52 : decode cX4_readPipe 52 = .ok (.invokevirtual 79, 3) := by decide +kernel
theorem dX4_readPipe_55 : decode cX4_readPipe 55 = .ok (.ireturn, 1) := by decide +kernel
theorem dX4_readPipe_56 : decode cX4_readPipe 56 = .ok (.aload_n 1, 1) := by decide +kernel
theorem dX4_readPipe_57 : decode cX4_readPipe 57 = .ok (.bipush 63, 2) := by decide +kernel
theorem dX4_readPipe_59 : decode cX4_readPipe 59 = .ok (.invokevirtual 49, 3) := by decide +kernel
theorem dX4_readPipe_62 : decode cX4_readPipe 62 = .ok (.ifCond .eq 19, 3) := by decide +kernel
theorem dX4_readPipe_65 : decode cX4_readPipe 65 = .ok (.aload_n 0, 1) := by decide +kernel
theorem dX4_readPipe_66 : decode cX4_readPipe 66 = .ok (.bipush 63, 2) := by decide +kernel
theorem dX4_readPipe_68 : decode cX4_readPipe 68 = .ok (.iload 4, 2) := by decide +kernel
theorem dX4_readPipe_70 : decode cX4_readPipe 70 = .ok (.iconst 0, 1) := by decide +kernel
theorem dX4_readPipe_71 : decode cX4_readPipe 71 = .ok (.invokevirtual 79, 3) := by decide +kernel
theorem dX4_readPipe_74 : decode cX4_readPipe 74 = .ok (.ifCond .eq 7, 3) := by decide +kernel
theorem dX4_readPipe_77 : decode cX4_readPipe 77 = .ok (.iconst 1, 1) := by decide +kernel
theorem dX4_readPipe_78 : decode cX4_readPipe 78 = .ok (.goto 4, 3) := by decide +kernel
theorem dX4_readPipe_81 : decode cX4_readPipe 81 = .ok (.iconst 0, 1) := by decide +kernel
theorem dX4_readPipe_82 : decode cX4_readPipe 82 = .ok (.ireturn, 1) := by decide +kernel
theorem dX4_readTurn_0 : decode cX4_readTurn 0 = .ok (.aload_n 1, 1) := by decide +kernel
theorem dX4_readTurn_1 : decode cX4_readTurn 1 = .ok (.invokevirtual 25, 3) := by decide +kernel
theorem dX4_readTurn_4 : decode cX4_readTurn 4 = .ok (.bipush 48, 2) := by decide +kernel
theorem dX4_readTurn_6 : decode cX4_readTurn 6 = .ok (.isub, 1) := by decide +kernel
theorem dX4_readTurn_7 : decode cX4_readTurn 7 = .ok (.istore_n 3, 1) := by decide +kernel
theorem dX4_readTurn_8 : decode cX4_readTurn 8 = .ok (.iload_n 3, 1) := by decide +kernel
theorem dX4_readTurn_9 : decode cX4_readTurn 9 = .ok (.ifCond .lt 9, 3) := by decide +kernel
theorem dX4_readTurn_12 : decode cX4_readTurn 12 = .ok (.iload_n 3, 1) := by decide +kernel
theorem dX4_readTurn_13 : decode cX4_readTurn 13 = .ok (.bipush 8, 2) := by decide +kernel
theorem dX4_readTurn_15 : decode cX4_readTurn 15 = .ok (.if_icmp .le 13, 3) := by decide +kernel
theorem dX4_readTurn_18 : decode cX4_readTurn 18 = .ok (.aload_n 1, 1) := by decide +kernel
theorem dX4_readTurn_19 : decode cX4_readTurn 19 = .ok (.iconst 1, 1) := by decide +kernel
theorem dX4_readTurn_20 : decode cX4_readTurn 20 = .ok (.aload_n 1, 1) := by decide +kernel
theorem dX4_readTurn_21 : decode cX4_readTurn 21 = .ok (.getfield 35, 3) := by decide +kernel
theorem dX4_readTurn_24 : decode cX4_readTurn 24 = .ok (.invokevirtual 38, 3) := by decide +kernel
theorem dX4_readTurn_27 : decode cX4_readTurn 27 = .ok (.ireturn, 1) := by decide +kernel
theorem dX4_readTurn_28 : decode cX4_readTurn 28 = .ok (.aload_n 1, 1) := by decide +kernel
theorem dX4_readTurn_29 : decode cX4_readTurn 29 = .ok (.dup, 1) := by decide +kernel
theorem dX4_readTurn_30 : decode cX4_readTurn 30 = .ok (.getfield 35, 3) := by decide +kernel
theorem dX4_readTurn_33 : decode cX4_readTurn 33 = .ok (.iconst 1, 1) := by decide +kernel
theorem dX4_readTurn_34 : decode cX4_readTurn 34 = .ok (.iadd, 1) := by decide +kernel
theorem dX4_readTurn_35 : decode cX4_readTurn 35 = .ok (.putfield 35, 3) := by decide +kernel
theorem dX4_readTurn_38 : decode cX4_readTurn 38 = .ok (.aload_n 0, 1) := by decide +kernel
theorem dX4_readTurn_39 : decode cX4_readTurn 39 = .ok (.bipush 64, 2) := by decide +kernel
theorem dX4_readTurn_41 : decode cX4_readTurn 41 = .ok (.iload_n 2, 1) := by decide +kernel
theorem dX4_readTurn_42 : decode cX4_readTurn 42 = .ok (.iload_n 3, 1) := by decide +kernel
theorem dX4_readTurn_43 : decode cX4_readTurn 43 = .ok (.invokevirtual 79, 3) := by decide +kernel
theorem dX4_readTurn_46 : decode cX4_readTurn 46 = .ok (.ireturn, 1) := by decide +kernel
theorem dX4_readAmount_0 : decode cX4_readAmount 0 = .ok (.aload_n 1, 1) := by decide +kernel
theorem dX4_readAmount_1 : decode cX4_readAmount 1 = .ok (.iload 4, 2) := by decide +kernel
theorem dX4_readAmount_3 : decode cX4_readAmount 3 = .ok (.invokevirtual 72, 3) := by decide +kernel
theorem dX4_readAmount_6 : decode cX4_readAmount 6 = .ok (.istore 5, 2) := by decide +kernel
theorem dX4_readAmount_8 : decode cX4_readAmount 8 = .ok (.iload 5, 2) := by decide +kernel
theorem dX4_readAmount_10 : decode cX4_readAmount 10 = .ok (.iconst (-1), 1) := by decide +kernel
theorem dX4_readAmount_11 : decode cX4_readAmount 11 = .ok (.if_icmp .eq 18, 3) := by decide +kernel
theorem dX4_readAmount_14 : decode cX4_readAmount 14 = .ok (.aload_n 0, 1) := by decide +kernel
theorem dX4_readAmount_15 : decode cX4_readAmount 15 = .ok (.iload_n 2, 1) := by decide +kernel
theorem dX4_readAmount_16 : decode cX4_readAmount 16 = .ok (.iload_n 3, 1) := by decide +kernel
theorem dX4_readAmount_17 : decode cX4_readAmount 17 = .ok (.iload 5, 2) := by decide +kernel
theorem dX4_readAmount_19 : decode cX4_readAmount 19 = .ok (.invokevirtual 79, 3) := by decide +kernel
theorem dX4_readAmount_22 : decode cX4_readAmount 22 = .ok (.ifCond .eq 7, 3) := by decide +kernel
theorem dX4_readAmount_25 : decode cX4_readAmount 25 = .ok (.iconst 1, 1) := by decide +kernel
theorem dX4_readAmount_26 : decode cX4_readAmount 26 = .ok (.goto 4, 3) := by decide +kernel
theorem dX4_readAmount_29 : decode cX4_readAmount 29 = .ok (.iconst 0, 1) := by decide +kernel
theorem dX4_readAmount_30 : decode cX4_readAmount 30 = .ok (.ireturn, 1) := by decide +kernel
theorem dX4_note_0 : decode cX4_note 0 = .ok (.aload_n 0, 1) := by decide +kernel
theorem dX4_note_1 : decode cX4_note 1 = .ok (.getfield 21, 3) := by decide +kernel
theorem dX4_note_4 : decode cX4_note 4 = .ok (.bipush 20, 2) := by decide +kernel
theorem dX4_note_6 : decode cX4_note 6 = .ok (.if_icmp .lt 5, 3) := by decide +kernel
theorem dX4_note_9 : decode cX4_note 9 = .ok (.iconst 0, 1) := by decide +kernel
theorem dX4_note_10 : decode cX4_note 10 = .ok (.ireturn, 1) := by decide +kernel
theorem dX4_note_11 : decode cX4_note 11 = .ok (.aload_n 0, 1) := by decide +kernel
theorem dX4_note_12 : decode cX4_note 12 = .ok (.getfield 9, 3) := by decide +kernel
theorem dX4_note_15 : decode cX4_note 15 = .ok (.aload_n 0, 1) := by decide +kernel
theorem dX4_note_16 : decode cX4_note 16 = .ok (.getfield 21, 3) := by decide +kernel
theorem dX4_note_19 : decode cX4_note 19 = .ok (.iload_n 1, 1) := by decide +kernel
theorem dX4_note_20 : decode cX4_note 20 = .ok (.iastore, 1) := by decide +kernel
theorem dX4_note_21 : decode cX4_note 21 = .ok (.aload_n 0, 1) := by decide +kernel
theorem dX4_note_22 : decode cX4_note 22 = .ok (.getfield 15, 3) := by decide +kernel
theorem dX4_note_25 : decode cX4_note 25 = .ok (.aload_n 0, 1) := by decide +kernel
theorem dX4_note_26 : decode cX4_note 26 = .ok (.getfield 21, 3) := by decide +kernel
theorem dX4_note_29 : decode cX4_note 29 = .ok (.iload_n 2, 1) := by decide +kernel
theorem dX4_note_30 : decode cX4_note 30 = .ok (.iastore, 1) := by decide +kernel
theorem dX4_note_31 : decode cX4_note 31 = .ok (.aload_n 0, 1) := by decide +kernel
theorem dX4_note_32 : decode cX4_note 32 = .ok (.getfield 18, 3) := by decide +kernel
theorem dX4_note_35 : decode cX4_note 35 = .ok (.aload_n 0, 1) := by decide +kernel
theorem dX4_note_36 : decode cX4_note 36 = .ok (.getfield 21, 3) := by decide +kernel
theorem dX4_note_39 : decode cX4_note 39 = .ok (.iload_n 3, 1) := by decide +kernel
theorem dX4_note_40 : decode cX4_note 40 = .ok (.iastore, 1) := by decide +kernel
theorem dX4_note_41 : decode cX4_note 41 = .ok (.aload_n 0, 1) := by decide +kernel
theorem dX4_note_42 : decode cX4_note 42 = .ok (.dup, 1) := by decide +kernel
theorem dX4_note_43 : decode cX4_note 43 = .ok (.getfield 21, 3) := by decide +kernel
theorem dX4_note_46 : decode cX4_note 46 = .ok (.iconst 1, 1) := by decide +kernel
theorem dX4_note_47 : decode cX4_note 47 = .ok (.iadd, 1) := by decide +kernel
theorem dX4_note_48 : decode cX4_note 48 = .ok (.putfield 21, 3) := by decide +kernel
theorem dX4_note_51 : decode cX4_note 51 = .ok (.iconst 1, 1) := by decide +kernel
theorem dX4_note_52 : decode cX4_note 52 = .ok (.ireturn, 1) := by decide +kernel
theorem dX4_carryOut_0 : decode cX4_carryOut 0 = .ok (.iconst 0, 1) := by decide +kernel
theorem dX4_carryOut_1 : decode cX4_carryOut 1 = .ok (.istore_n 2, 1) := by decide +kernel
theorem dX4_carryOut_2 : decode cX4_carryOut 2 = .ok (.iload_n 2, 1) := by decide +kernel
theorem dX4_carryOut_3 : decode cX4_carryOut 3 = .ok (.aload_n 0, 1) := by decide +kernel
theorem dX4_carryOut_4 : decode cX4_carryOut 4 = .ok (.getfield 21, 3) := by decide +kernel
theorem dX4_carryOut_7 : decode cX4_carryOut 7 = .ok (.if_icmp .ge 182, 3) := by decide +kernel
theorem dX4_carryOut_10 : decode cX4_carryOut 10 = .ok (.aload_n 0, 1) := by decide +kernel
theorem dX4_carryOut_11 : decode cX4_carryOut 11 = .ok (.getfield 15, 3) := by decide +kernel
theorem dX4_carryOut_14 : decode cX4_carryOut 14 = .ok (.iload_n 2, 1) := by decide +kernel
theorem dX4_carryOut_15 : decode cX4_carryOut 15 = .ok (.iaload, 1) := by decide +kernel
theorem dX4_carryOut_16 : decode cX4_carryOut 16 = .ok (.istore_n 3, 1) := by decide +kernel
theorem dX4_carryOut_17 : decode cX4_carryOut 17 = .ok (.aload_n 0, 1) := by decide +kernel
theorem dX4_carryOut_18 : decode cX4_carryOut 18 = .ok (.getfield 9, 3) := by decide +kernel
theorem dX4_carryOut_21 : decode cX4_carryOut 21 = .ok (.iload_n 2, 1) := by decide +kernel
theorem dX4_carryOut_22 : decode cX4_carryOut 22 = .ok (.iaload, 1) := by decide +kernel
theorem dX4_carryOut_23 : decode cX4_carryOut 23 = .ok (.lookupswitch 150 #[(33, 118), (43, 64), (45, 92), (63, 135), (64, 49)], 49) := by decide +kernel
theorem dX4_carryOut_72 : decode cX4_carryOut 72 = .ok (.aload_n 1, 1) := by decide +kernel
theorem dX4_carryOut_73 : decode cX4_carryOut 73 = .ok (.getfield 83, 3) := by decide +kernel
theorem dX4_carryOut_76 : decode cX4_carryOut 76 = .ok (.iload_n 3, 1) := by decide +kernel
theorem dX4_carryOut_77 : decode cX4_carryOut 77 = .ok (.aload_n 0, 1) := by decide +kernel
theorem dX4_carryOut_78 : decode cX4_carryOut 78 = .ok (.getfield 18, 3) := by decide +kernel
theorem dX4_carryOut_81 : decode cX4_carryOut 81 = .ok (.iload_n 2, 1) := by decide +kernel
theorem dX4_carryOut_82 : decode cX4_carryOut 82 = .ok (.iaload, 1) := by decide +kernel
theorem dX4_carryOut_83 : decode cX4_carryOut 83 = .ok (.iastore, 1) := by decide +kernel
theorem dX4_carryOut_84 : decode cX4_carryOut 84 = .ok (.goto 99, 3) := by decide +kernel
theorem dX4_carryOut_87 : decode cX4_carryOut 87 = .ok (.aload_n 1, 1) := by decide +kernel
theorem dX4_carryOut_88 : decode cX4_carryOut 88 = .ok (.getfield 88, 3) := by decide +kernel
theorem dX4_carryOut_91 : decode cX4_carryOut 91 = .ok (.iload_n 3, 1) := by decide +kernel
theorem dX4_carryOut_92 : decode cX4_carryOut 92 = .ok (.sipush 9999, 3) := by decide +kernel
theorem dX4_carryOut_95 : decode cX4_carryOut 95 = .ok (.aload_n 1, 1) := by decide +kernel
theorem dX4_carryOut_96 : decode cX4_carryOut 96 = .ok (.getfield 88, 3) := by decide +kernel
theorem dX4_carryOut_99 : decode cX4_carryOut 99 = .ok (.iload_n 3, 1) := by decide +kernel
theorem dX4_carryOut_100 : decode cX4_carryOut 100 = .ok (.iaload, 1) := by decide +kernel
theorem dX4_carryOut_101 : decode cX4_carryOut 101 = .ok (.aload_n 0, 1) := by decide +kernel
theorem dX4_carryOut_102 : decode cX4_carryOut 102 = .ok (.getfield 18, 3) := by decide +kernel
theorem dX4_carryOut_105 : decode cX4_carryOut 105 = .ok (.iload_n 2, 1) := by decide +kernel
theorem dX4_carryOut_106 : decode cX4_carryOut 106 = .ok (.iaload, 1) := by decide +kernel
theorem dX4_carryOut_107 : decode cX4_carryOut 107 = .ok (.iadd, 1) := by decide +kernel
theorem dX4_carryOut_108 : decode cX4_carryOut 108 = .ok (.invokestatic 91, 3) := by decide +kernel
theorem dX4_carryOut_111 : decode cX4_carryOut 111 = .ok (.iastore, 1) := by decide +kernel
theorem dX4_carryOut_112 : decode cX4_carryOut 112 = .ok (.goto 71, 3) := by decide +kernel
theorem dX4_carryOut_115 : decode cX4_carryOut 115 = .ok (.aload_n 1, 1) := by decide +kernel
theorem dX4_carryOut_116 : decode cX4_carryOut 116 = .ok (.getfield 88, 3) := by decide +kernel
theorem dX4_carryOut_119 : decode cX4_carryOut 119 = .ok (.iload_n 3, 1) := by decide +kernel
theorem dX4_carryOut_120 : decode cX4_carryOut 120 = .ok (.iconst 0, 1) := by decide +kernel
theorem dX4_carryOut_121 : decode cX4_carryOut 121 = .ok (.aload_n 1, 1) := by decide +kernel
theorem dX4_carryOut_122 : decode cX4_carryOut 122 = .ok (.getfield 88, 3) := by decide +kernel
theorem dX4_carryOut_125 : decode cX4_carryOut 125 = .ok (.iload_n 3, 1) := by decide +kernel
theorem dX4_carryOut_126 : decode cX4_carryOut 126 = .ok (.iaload, 1) := by decide +kernel
theorem dX4_carryOut_127 : decode cX4_carryOut 127 = .ok (.aload_n 0, 1) := by decide +kernel
theorem dX4_carryOut_128 : decode cX4_carryOut 128 = .ok (.getfield 18, 3) := by decide +kernel
theorem dX4_carryOut_131 : decode cX4_carryOut 131 = .ok (.iload_n 2, 1) := by decide +kernel
theorem dX4_carryOut_132 : decode cX4_carryOut 132 = .ok (.iaload, 1) := by decide +kernel
theorem dX4_carryOut_133 : decode cX4_carryOut 133 = .ok (.isub, 1) := by decide +kernel
theorem dX4_carryOut_134 : decode cX4_carryOut 134 = .ok (.invokestatic 97, 3) := by decide +kernel
theorem dX4_carryOut_137 : decode cX4_carryOut 137 = .ok (.iastore, 1) := by decide +kernel
theorem dX4_carryOut_138 : decode cX4_carryOut 138 = .ok (.goto 45, 3) := by decide +kernel
theorem dX4_carryOut_141 : decode cX4_carryOut 141 = .ok (.aload_n 1, 1) := by decide +kernel
theorem dX4_carryOut_142 : decode cX4_carryOut 142 = .ok (.dup, 1) := by decide +kernel
theorem dX4_carryOut_143 : decode cX4_carryOut 143 = .ok (.getfield 100, 3) := by decide +kernel
theorem dX4_carryOut_146 : decode cX4_carryOut 146 = .ok (.iconst 1, 1) := by decide +kernel
theorem dX4_carryOut_147 : decode cX4_carryOut 147 = .ok (.iload_n 3, 1) := by decide +kernel
theorem dX4_carryOut_148 : decode cX4_carryOut 148 = .ok (.ishl, 1) := by decide +kernel
theorem dX4_carryOut_149 : decode cX4_carryOut 149 = .ok (.iconst (-1), 1) := by decide +kernel
theorem dX4_carryOut_150 : decode cX4_carryOut 150 = .ok (.ixor, 1) := by decide +kernel
theorem dX4_carryOut_151 : decode cX4_carryOut 151 = .ok (.iand, 1) := by decide +kernel
theorem dX4_carryOut_152 : decode cX4_carryOut 152 = .ok (.putfield 100, 3) := by decide +kernel
theorem dX4_carryOut_155 : decode cX4_carryOut 155 = .ok (.goto 28, 3) := by decide +kernel
theorem dX4_carryOut_158 : decode cX4_carryOut 158 = .ok (.aload_n 1, 1) := by decide +kernel
theorem dX4_carryOut_159 : decode cX4_carryOut 159 = .ok (.dup, 1) := by decide +kernel
theorem dX4_carryOut_160 : decode cX4_carryOut 160 = .ok (.getfield 100, 3) := by decide +kernel
theorem dX4_carryOut_163 : decode cX4_carryOut 163 = .ok (.iconst 1, 1) := by decide +kernel
theorem dX4_carryOut_164 : decode cX4_carryOut 164 = .ok (.iload_n 3, 1) := by decide +kernel
theorem dX4_carryOut_165 : decode cX4_carryOut 165 = .ok (.ishl, 1) := by decide +kernel
theorem dX4_carryOut_166 : decode cX4_carryOut 166 = .ok (.ior, 1) := by decide +kernel
theorem dX4_carryOut_167 : decode cX4_carryOut 167 = .ok (.putfield 100, 3) := by decide +kernel
theorem dX4_carryOut_170 : decode cX4_carryOut 170 = .ok (.goto 13, 3) := by decide +kernel
theorem dX4_carryOut_173 : decode cX4_carryOut 173 = .ok (.aload_n 1, 1) := by decide +kernel
theorem dX4_carryOut_174 : decode cX4_carryOut 174 = .ok (.aload_n 0, 1) := by decide +kernel
theorem dX4_carryOut_175 : decode cX4_carryOut 175 = .ok (.getfield 18, 3) := by decide +kernel
theorem dX4_carryOut_178 : decode cX4_carryOut 178 = .ok (.iload_n 2, 1) := by decide +kernel
theorem dX4_carryOut_179 : decode cX4_carryOut 179 = .ok (.iaload, 1) := by decide +kernel
theorem dX4_carryOut_180 : decode cX4_carryOut 180 = .ok (.putfield 103, 3) := by decide +kernel
theorem dX4_carryOut_183 : decode cX4_carryOut 183 = .ok (.iinc 2 1, 3) := by decide +kernel
theorem dX4_carryOut_186 : decode cX4_carryOut 186 = .ok (.goto (-184), 3) := by decide +kernel
theorem dX4_carryOut_189 : decode cX4_carryOut 189 = .ok (.return_, 1) := by decide +kernel
theorem dX5_init_0 : decode cX5_init 0 = .ok (.aload_n 0, 1) := by decide +kernel
theorem dX5_init_1 : decode cX5_init 1 = .ok (.invokespecial 3, 3) := by decide +kernel
theorem dX5_init_4 : decode cX5_init 4 = .ok (.aload_n 0, 1) := by decide +kernel
theorem dX5_init_5 : decode cX5_init 5 = .ok (.bipush 16, 2) := by decide +kernel
theorem dX5_init_7 : decode cX5_init 7 = .ok (.newarray .int, 2) := by decide +kernel
theorem dX5_init_9 : decode cX5_init 9 = .ok (.putfield 9, 3) := by decide +kernel
theorem dX5_init_12 : decode cX5_init 12 = .ok (.aload_n 0, 1) := by decide +kernel
theorem dX5_init_13 : decode cX5_init 13 = .ok (.bipush 16, 2) := by decide +kernel
theorem dX5_init_15 : decode cX5_init 15 = .ok (.newarray .int, 2) := by decide +kernel
theorem dX5_init_17 : decode cX5_init 17 = .ok (.putfield 15, 3) := by decide +kernel
theorem dX5_init_20 : decode cX5_init 20 = .ok (.aload_n 0, 1) := by decide +kernel
theorem dX5_init_21 : decode cX5_init 21 = .ok (.bipush 16, 2) := by decide +kernel
theorem dX5_init_23 : decode cX5_init 23 = .ok (.newarray .int, 2) := by decide +kernel
theorem dX5_init_25 : decode cX5_init 25 = .ok (.putfield 18, 3) := by decide +kernel
theorem dX5_init_28 : decode cX5_init 28 = .ok (.aload_n 0, 1) := by decide +kernel
theorem dX5_init_29 : decode cX5_init 29 = .ok (.sipush 9999, 3) := by decide +kernel
theorem dX5_init_32 : decode cX5_init 32 = .ok (.putfield 21, 3) := by decide +kernel
theorem dX5_init_35 : decode cX5_init 35 = .ok (.aload_n 0, 1) := by decide +kernel
theorem dX5_init_36 : decode cX5_init 36 = .ok (.iconst 1, 1) := by decide +kernel
theorem dX5_init_37 : decode cX5_init 37 = .ok (.putfield 25, 3) := by decide +kernel
theorem dX5_init_40 : decode cX5_init 40 = .ok (.return_, 1) := by decide +kernel
theorem dX5_settle_0 : decode cX5_settle 0 = .ok (.aload_n 0, 1) := by decide +kernel
theorem dX5_settle_1 : decode cX5_settle 1 = .ok (.getfield 9, 3) := by decide +kernel
theorem dX5_settle_4 : decode cX5_settle 4 = .ok (.iconst 0, 1) := by decide +kernel
theorem dX5_settle_5 : decode cX5_settle 5 = .ok (.invokestatic 28, 3) := by decide +kernel
theorem dX5_settle_8 : decode cX5_settle 8 = .ok (.aload_n 0, 1) := by decide +kernel
theorem dX5_settle_9 : decode cX5_settle 9 = .ok (.getfield 15, 3) := by decide +kernel
theorem dX5_settle_12 : decode cX5_settle 12 = .ok (.iconst 0, 1) := by decide +kernel
theorem dX5_settle_13 : decode cX5_settle 13 = .ok (.invokestatic 28, 3) := by decide +kernel
theorem dX5_settle_16 : decode cX5_settle 16 = .ok (.aload_n 0, 1) := by decide +kernel
theorem dX5_settle_17 : decode cX5_settle 17 = .ok (.getfield 18, 3) := by decide +kernel
theorem dX5_settle_20 : decode cX5_settle 20 = .ok (.iconst 0, 1) := by decide +kernel
theorem dX5_settle_21 : decode cX5_settle 21 = .ok (.invokestatic 28, 3) := by decide +kernel
theorem dX5_settle_24 : decode cX5_settle 24 = .ok (.aload_n 0, 1) := by decide +kernel
theorem dX5_settle_25 : decode cX5_settle 25 = .ok (.iload_n 1, 1) := by decide +kernel
theorem dX5_settle_26 : decode cX5_settle 26 = .ok (.putfield 34, 3) := by decide +kernel
theorem dX5_settle_29 : decode cX5_settle 29 = .ok (.aload_n 0, 1) := by decide +kernel
theorem dX5_settle_30 : decode cX5_settle 30 = .ok (.iload_n 2, 1) := by decide +kernel
theorem dX5_settle_31 : decode cX5_settle 31 = .ok (.putfield 37, 3) := by decide +kernel
theorem dX5_settle_34 : decode cX5_settle 34 = .ok (.aload_n 0, 1) := by decide +kernel
theorem dX5_settle_35 : decode cX5_settle 35 = .ok (.iconst 1, 1) := by decide +kernel
theorem dX5_settle_36 : decode cX5_settle 36 = .ok (.iload_n 2, 1) := by decide +kernel
theorem dX5_settle_37 : decode cX5_settle 37 = .ok (.ishl, 1) := by decide +kernel
theorem dX5_settle_38 : decode cX5_settle 38 = .ok (.iconst 1, 1) := by decide +kernel
theorem dX5_settle_39 : decode cX5_settle 39 = .ok (.isub, 1) := by decide +kernel
theorem dX5_settle_40 : decode cX5_settle 40 = .ok (.putfield 40, 3) := by decide +kernel
theorem dX5_settle_43 : decode cX5_settle 43 = .ok (.return_, 1) := by decide +kernel
theorem dX5_become_0 : decode cX5_become 0 = .ok (.aload_n 1, 1) := by decide +kernel
theorem dX5_become_1 : decode cX5_become 1 = .ok (.getfield 9, 3) := by decide +kernel
theorem dX5_become_4 : decode cX5_become 4 = .ok (.iconst 0, 1) := by decide +kernel
theorem dX5_become_5 : decode cX5_become 5 = .ok (.aload_n 0, 1) := by decide +kernel
theorem dX5_become_6 : decode cX5_become 6 = .ok (.getfield 9, 3) := by decide +kernel
theorem dX5_become_9 : decode cX5_become 9 = .ok (.iconst 0, 1) := by decide +kernel
theorem dX5_become_10 : decode cX5_become 10 = .ok (.bipush 16, 2) := by decide +kernel
theorem dX5_become_12 : decode cX5_become 12 = .ok (.invokestatic 43, 3) := by decide +kernel
theorem dX5_become_15 : decode cX5_become 15 = .ok (.aload_n 1, 1) := by decide +kernel
theorem dX5_become_16 : decode cX5_become 16 = .ok (.getfield 15, 3) := by decide +kernel
theorem dX5_become_19 : decode cX5_become 19 = .ok (.iconst 0, 1) := by decide +kernel
theorem dX5_become_20 : decode cX5_become 20 = .ok (.aload_n 0, 1) := by decide +kernel
theorem dX5_become_21 : decode cX5_become 21 = .ok (.getfield 15, 3) := by decide +kernel
theorem dX5_become_24 : decode cX5_become 24 = .ok (.iconst 0, 1) := by decide +kernel
theorem dX5_become_25 : decode cX5_become 25 = .ok (.bipush 16, 2) := by decide +kernel
theorem dX5_become_27 : decode cX5_become 27 = .ok (.invokestatic 43, 3) := by decide +kernel
theorem dX5_become_30 : decode cX5_become 30 = .ok (.aload_n 1, 1) := by decide +kernel
theorem dX5_become_31 : decode cX5_become 31 = .ok (.getfield 18, 3) := by decide +kernel
theorem dX5_become_34 : decode cX5_become 34 = .ok (.iconst 0, 1) := by decide +kernel
theorem dX5_become_35 : decode cX5_become 35 = .ok (.aload_n 0, 1) := by decide +kernel
theorem dX5_become_36 : decode cX5_become 36 = .ok (.getfield 18, 3) := by decide +kernel
theorem dX5_become_39 : decode cX5_become 39 = .ok (.iconst 0, 1) := by decide +kernel
theorem dX5_become_40 : decode cX5_become 40 = .ok (.bipush 16, 2) := by decide +kernel
theorem dX5_become_42 : decode cX5_become 42 = .ok (.invokestatic 43, 3) := by decide +kernel
theorem dX5_become_45 : decode cX5_become 45 = .ok (.aload_n 0, 1) := by decide +kernel
theorem dX5_become_46 : decode cX5_become 46 = .ok (.aload_n 1, 1) := by decide +kernel
theorem dX5_become_47 : decode cX5_become 47 = .ok (.getfield 40, 3) := by decide +kernel
theorem dX5_become_50 : decode cX5_become 50 = .ok (.putfield 40, 3) := by decide +kernel
theorem dX5_become_53 : decode cX5_become 53 = .ok (.aload_n 0, 1) := by decide +kernel
theorem dX5_become_54 : decode cX5_become 54 = .ok (.aload_n 1, 1) := by decide +kernel
theorem dX5_become_55 : decode cX5_become 55 = .ok (.getfield 21, 3) := by decide +kernel
theorem dX5_become_58 : decode cX5_become 58 = .ok (.putfield 21, 3) := by decide +kernel
theorem dX5_become_61 : decode cX5_become 61 = .ok (.aload_n 0, 1) := by decide +kernel
theorem dX5_become_62 : decode cX5_become 62 = .ok (.aload_n 1, 1) := by decide +kernel
theorem dX5_become_63 : decode cX5_become 63 = .ok (.getfield 49, 3) := by decide +kernel
theorem dX5_become_66 : decode cX5_become 66 = .ok (.putfield 49, 3) := by decide +kernel
theorem dX5_become_69 : decode cX5_become 69 = .ok (.aload_n 0, 1) := by decide +kernel
theorem dX5_become_70 : decode cX5_become 70 = .ok (.aload_n 1, 1) := by decide +kernel
theorem dX5_become_71 : decode cX5_become 71 = .ok (.getfield 25, 3) := by decide +kernel
theorem dX5_become_74 : decode cX5_become 74 = .ok (.putfield 25, 3) := by decide +kernel
theorem dX5_become_77 : decode cX5_become 77 = .ok (.aload_n 0, 1) := by decide +kernel
theorem dX5_become_78 : decode cX5_become 78 = .ok (.aload_n 1, 1) := by decide +kernel
theorem dX5_become_79 : decode cX5_become 79 = .ok (.getfield 34, 3) := by decide +kernel
theorem dX5_become_82 : decode cX5_become 82 = .ok (.putfield 34, 3) := by decide +kernel
theorem dX5_become_85 : decode cX5_become 85 = .ok (.aload_n 0, 1) := by decide +kernel
theorem dX5_become_86 : decode cX5_become 86 = .ok (.aload_n 1, 1) := by decide +kernel
theorem dX5_become_87 : decode cX5_become 87 = .ok (.getfield 37, 3) := by decide +kernel
theorem dX5_become_90 : decode cX5_become 90 = .ok (.putfield 37, 3) := by decide +kernel
theorem dX5_become_93 : decode cX5_become 93 = .ok (.return_, 1) := by decide +kernel
theorem dX5_comeBackTo_0 : decode cX5_comeBackTo 0 = .ok (.aload_n 0, 1) := by decide +kernel
theorem dX5_comeBackTo_1 : decode cX5_comeBackTo 1 = .ok (.getfield 34, 3) := by decide +kernel
theorem dX5_comeBackTo_4 : decode cX5_comeBackTo 4 = .ok (.aload_n 1, 1) := by decide +kernel
theorem dX5_comeBackTo_5 : decode cX5_comeBackTo 5 = .ok (.getfield 34, 3) := by decide +kernel
theorem dX5_comeBackTo_8 : decode cX5_comeBackTo 8 = .ok (.iand, 1) := by decide +kernel
theorem dX5_comeBackTo_9 : decode cX5_comeBackTo 9 = .ok (.istore_n 2, 1) := by decide +kernel
theorem dX5_comeBackTo_10 : decode cX5_comeBackTo 10 = .ok (.iconst 0, 1) := by decide +kernel
theorem dX5_comeBackTo_11 : decode cX5_comeBackTo 11 = .ok (.istore_n 3, 1) := by decide +kernel
theorem dX5_comeBackTo_12 : decode cX5_comeBackTo 12 = .ok (.iload_n 3, 1) := by decide +kernel
theorem dX5_comeBackTo_13 : decode cX5_comeBackTo 13 = .ok (.bipush 16, 2) := by decide +kernel
theorem dX5_comeBackTo_15 : decode cX5_comeBackTo 15 = .ok (.if_icmp .ge 79, 3) := by decide +kernel
theorem dX5_comeBackTo_18 : decode cX5_comeBackTo 18 = .ok (.iload_n 2, 1) := by decide +kernel
theorem dX5_comeBackTo_19 : decode cX5_comeBackTo 19 = .ok (.iload_n 3, 1) := by decide +kernel
theorem dX5_comeBackTo_20 : decode cX5_comeBackTo 20 = .ok (.invokestatic 52, 3) := by decide +kernel
theorem dX5_comeBackTo_23 : decode cX5_comeBackTo 23 = .ok (.istore 4, 2) := by decide +kernel
theorem dX5_comeBackTo_25 : decode cX5_comeBackTo 25 = .ok (.aload_n 0, 1) := by decide +kernel
theorem dX5_comeBackTo_26 : decode cX5_comeBackTo 26 = .ok (.getfield 9, 3) := by decide +kernel
theorem dX5_comeBackTo_29 : decode cX5_comeBackTo 29 = .ok (.iload_n 3, 1) := by decide +kernel
theorem dX5_comeBackTo_30 : decode cX5_comeBackTo 30 = .ok (.iload 4, 2) := by decide +kernel
theorem dX5_comeBackTo_32 : decode cX5_comeBackTo 32 = .ok (.ifCond .eq 12, 3) := by decide +kernel
theorem dX5_comeBackTo_35 : decode cX5_comeBackTo 35 = .ok (.aload_n 1, 1) := by decide +kernel
theorem dX5_comeBackTo_36 : decode cX5_comeBackTo 36 = .ok (.getfield 9, 3) := by decide +kernel
theorem dX5_comeBackTo_39 : decode cX5_comeBackTo 39 = .ok (.iload_n 3, 1) := by decide +kernel
theorem dX5_comeBackTo_40 : decode cX5_comeBackTo 40 = .ok (.iaload, 1) := by decide +kernel
theorem dX5_comeBackTo_41 : decode cX5_comeBackTo 41 = .ok (.goto 4, 3) := by decide +kernel
theorem dX5_comeBackTo_44 : decode cX5_comeBackTo 44 = .ok (.iconst 0, 1) := by decide +kernel
theorem dX5_comeBackTo_45 : decode cX5_comeBackTo 45 = .ok (.iastore, 1) := by decide +kernel
theorem dX5_comeBackTo_46 : decode cX5_comeBackTo 46 = .ok (.aload_n 0, 1) := by decide +kernel
theorem dX5_comeBackTo_47 : decode cX5_comeBackTo 47 = .ok (.getfield 15, 3) := by decide +kernel
theorem dX5_comeBackTo_50 : decode cX5_comeBackTo 50 = .ok (.iload_n 3, 1) := by decide +kernel
theorem dX5_comeBackTo_51 : decode cX5_comeBackTo 51 = .ok (.iload 4, 2) := by decide +kernel
theorem dX5_comeBackTo_53 : decode cX5_comeBackTo 53 = .ok (.ifCond .eq 12, 3) := by decide +kernel
theorem dX5_comeBackTo_56 : decode cX5_comeBackTo 56 = .ok (.aload_n 1, 1) := by decide +kernel
theorem dX5_comeBackTo_57 : decode cX5_comeBackTo 57 = .ok (.getfield 15, 3) := by decide +kernel
theorem dX5_comeBackTo_60 : decode cX5_comeBackTo 60 = .ok (.iload_n 3, 1) := by decide +kernel
theorem dX5_comeBackTo_61 : decode cX5_comeBackTo 61 = .ok (.iaload, 1) := by decide +kernel
theorem dX5_comeBackTo_62 : decode cX5_comeBackTo 62 = .ok (.goto 4, 3) := by decide +kernel
theorem dX5_comeBackTo_65 : decode cX5_comeBackTo 65 = .ok (.iconst 0, 1) := by decide +kernel
theorem dX5_comeBackTo_66 : decode cX5_comeBackTo 66 = .ok (.iastore, 1) := by decide +kernel
theorem dX5_comeBackTo_67 : decode cX5_comeBackTo 67 = .ok (.aload_n 0, 1) := by decide +kernel
theorem dX5_comeBackTo_68 : decode cX5_comeBackTo 68 = .ok (.getfield 18, 3) := by decide +kernel
theorem dX5_comeBackTo_71 : decode cX5_comeBackTo 71 = .ok (.iload_n 3, 1) := by decide +kernel
theorem dX5_comeBackTo_72 : decode cX5_comeBackTo 72 = .ok (.iload 4, 2) := by decide +kernel
theorem dX5_comeBackTo_74 : decode cX5_comeBackTo 74 = .ok (.ifCond .eq 12, 3) := by decide +kernel
theorem dX5_comeBackTo_77 : decode cX5_comeBackTo 77 = .ok (.aload_n 1, 1) := by decide +kernel
theorem dX5_comeBackTo_78 : decode cX5_comeBackTo 78 = .ok (.getfield 18, 3) := by decide +kernel
theorem dX5_comeBackTo_81 : decode cX5_comeBackTo 81 = .ok (.iload_n 3, 1) := by decide +kernel
theorem dX5_comeBackTo_82 : decode cX5_comeBackTo 82 = .ok (.iaload, 1) := by decide +kernel
theorem dX5_comeBackTo_83 : decode cX5_comeBackTo 83 = .ok (.goto 4, 3) := by decide +kernel
theorem dX5_comeBackTo_86 : decode cX5_comeBackTo 86 = .ok (.iconst 0, 1) := by decide +kernel
theorem dX5_comeBackTo_87 : decode cX5_comeBackTo 87 = .ok (.iastore, 1) := by decide +kernel
theorem dX5_comeBackTo_88 : decode cX5_comeBackTo 88 = .ok (.iinc 3 1, 3) := by decide +kernel
theorem dX5_comeBackTo_91 : decode cX5_comeBackTo 91 = .ok (.goto (-79), 3) := by decide +kernel
theorem dX5_comeBackTo_94 : decode cX5_comeBackTo 94 = .ok (.iconst 1, 1) := by decide +kernel
theorem dX5_comeBackTo_95 : decode cX5_comeBackTo 95 = .ok (.aload_n 1, 1) := by decide +kernel
theorem dX5_comeBackTo_96 : decode cX5_comeBackTo 96 = .ok (.getfield 37, 3) := by decide +kernel
theorem dX5_comeBackTo_99 : decode cX5_comeBackTo 99 = .ok (.ishl, 1) := by decide +kernel
theorem dX5_comeBackTo_100 : decode cX5_comeBackTo 100 = .ok (.ineg, 1) := by decide +kernel
theorem dX5_comeBackTo_101 : decode cX5_comeBackTo 101 = .ok (.istore_n 3, 1) := by decide +kernel
theorem dX5_comeBackTo_102 : decode cX5_comeBackTo 102 = .ok (.aload_n 0, 1) := by decide +kernel
theorem dX5_comeBackTo_103 : decode cX5_comeBackTo 103 = .ok (.aload_n 1, 1) := by decide +kernel
theorem dX5_comeBackTo_104 : decode cX5_comeBackTo 104 = .ok (.getfield 40, 3) := by decide +kernel
theorem dX5_comeBackTo_107 : decode cX5_comeBackTo 107 = .ok (.iload_n 3, 1) := by decide +kernel
theorem dX5_comeBackTo_108 : decode cX5_comeBackTo 108 = .ok (.ior, 1) := by decide +kernel
theorem dX5_comeBackTo_109 : decode cX5_comeBackTo 109 = .ok (.iconst 1, 1) := by decide +kernel
theorem dX5_comeBackTo_110 : decode cX5_comeBackTo 110 = .ok (.aload_n 0, 1) := by decide +kernel
theorem dX5_comeBackTo_111 : decode cX5_comeBackTo 111 = .ok (.getfield 37, 3) := by decide +kernel
theorem dX5_comeBackTo_114 : decode cX5_comeBackTo 114 = .ok (.ishl, 1) := by decide +kernel
theorem dX5_comeBackTo_115 : decode cX5_comeBackTo 115 = .ok (.iconst 1, 1) := by decide +kernel
theorem dX5_comeBackTo_116 : decode cX5_comeBackTo 116 = .ok (.isub, 1) := by decide +kernel
theorem dX5_comeBackTo_117 : decode cX5_comeBackTo 117 = .ok (.iand, 1) := by decide +kernel
theorem dX5_comeBackTo_118 : decode cX5_comeBackTo 118 = .ok (.putfield 40, 3) := by decide +kernel
theorem dX5_comeBackTo_121 : decode cX5_comeBackTo 121 = .ok (.aload_n 0, 1) := by decide +kernel
theorem dX5_comeBackTo_122 : decode cX5_comeBackTo 122 = .ok (.aload_n 1, 1) := by decide +kernel
theorem dX5_comeBackTo_123 : decode cX5_comeBackTo 123 = .ok (.getfield 21, 3) := by decide +kernel
theorem dX5_comeBackTo_126 : decode cX5_comeBackTo 126 = .ok (.putfield 21, 3) := by decide +kernel
theorem dX5_comeBackTo_129 : decode cX5_comeBackTo 129 = .ok (.aload_n 0, 1) := by decide +kernel
theorem dX5_comeBackTo_130 : decode cX5_comeBackTo 130 = .ok (.aload_n 1, 1) := by decide +kernel
theorem dX5_comeBackTo_131 : decode cX5_comeBackTo 131 = .ok (.getfield 49, 3) := by decide +kernel
theorem dX5_comeBackTo_134 : decode cX5_comeBackTo 134 = .ok (.putfield 49, 3) := by decide +kernel
theorem dX5_comeBackTo_137 : decode cX5_comeBackTo 137 = .ok (.aload_n 0, 1) := by decide +kernel
theorem dX5_comeBackTo_138 : decode cX5_comeBackTo 138 = .ok (.aload_n 1, 1) := by decide +kernel
theorem dX5_comeBackTo_139 : decode cX5_comeBackTo 139 = .ok (.getfield 25, 3) := by decide +kernel
theorem dX5_comeBackTo_142 : decode cX5_comeBackTo 142 = .ok (.putfield 25, 3) := by decide +kernel
theorem dX5_comeBackTo_145 : decode cX5_comeBackTo 145 = .ok (.return_, 1) := by decide +kernel
theorem dX5_drawNumber_0 : decode cX5_drawNumber 0 = .ok (.aload_n 0, 1) := by decide +kernel
theorem dX5_drawNumber_1 : decode cX5_drawNumber 1 = .ok (.sipush 25173, 3) := by decide +kernel
theorem dX5_drawNumber_4 : decode cX5_drawNumber 4 = .ok (.aload_n 0, 1) := by decide +kernel
theorem dX5_drawNumber_5 : decode cX5_drawNumber 5 = .ok (.getfield 25, 3) := by decide +kernel
theorem dX5_drawNumber_8 : decode cX5_drawNumber 8 = .ok (.imul, 1) := by decide +kernel
theorem dX5_drawNumber_9 : decode cX5_drawNumber 9 = .ok (.sipush 13849, 3) := by decide +kernel
theorem dX5_drawNumber_12 : decode cX5_drawNumber 12 = .ok (.iadd, 1) := by decide +kernel
theorem dX5_drawNumber_13 : decode cX5_drawNumber 13 = .ok (.ldc 56, 2) := by decide +kernel
theorem dX5_drawNumber_15 : decode cX5_drawNumber 15 = .ok (.irem, 1) := by decide +kernel
theorem dX5_drawNumber_16 : decode cX5_drawNumber 16 = .ok (.putfield 25, 3) := by decide +kernel
theorem dX5_drawNumber_19 : decode cX5_drawNumber 19 = .ok (.aload_n 0, 1) := by decide +kernel
theorem dX5_drawNumber_20 : decode cX5_drawNumber 20 = .ok (.getfield 25, 3) := by decide +kernel
theorem dX5_drawNumber_23 : decode cX5_drawNumber 23 = .ok (.bipush 10, 2) := by decide +kernel
theorem dX5_drawNumber_25 : decode cX5_drawNumber 25 = .ok (.irem, 1) := by decide +kernel
theorem dX5_drawNumber_26 : decode cX5_drawNumber 26 = .ok (.ireturn, 1) := by decide +kernel
theorem dX5_allSorrow_0 : decode cX5_allSorrow 0 = .ok (.iconst 0, 1) := by decide +kernel
theorem dX5_allSorrow_1 : decode cX5_allSorrow 1 = .ok (.istore_n 1, 1) := by decide +kernel
theorem dX5_allSorrow_2 : decode cX5_allSorrow 2 = .ok (.iconst 0, 1) := by decide +kernel
theorem dX5_allSorrow_3 : decode cX5_allSorrow 3 = .ok (.istore_n 2, 1) := by decide +kernel
theorem dX5_allSorrow_4 : decode cX5_allSorrow 4 = .ok (.iload_n 2, 1) := by decide +kernel
theorem dX5_allSorrow_5 : decode cX5_allSorrow 5 = .ok (.bipush 16, 2) := by decide +kernel
theorem dX5_allSorrow_7 : decode cX5_allSorrow 7 = .ok (.if_icmp .ge 18, 3) := by decide +kernel
theorem dX5_allSorrow_10 : decode cX5_allSorrow 10 = .ok (.iload_n 1, 1) := by decide +kernel
theorem dX5_allSorrow_11 : decode cX5_allSorrow 11 = .ok (.aload_n 0, 1) := by decide +kernel
theorem dX5_allSorrow_12 : decode cX5_allSorrow 12 = .ok (.getfield 9, 3) := by decide +kernel
theorem dX5_allSorrow_15 : decode cX5_allSorrow 15 = .ok (.iload_n 2, 1) := by decide +kernel
theorem dX5_allSorrow_16 : decode cX5_allSorrow 16 = .ok (.iaload, 1) := by decide +kernel
theorem dX5_allSorrow_17 : decode cX5_allSorrow 17 = .ok (.iadd, 1) := by decide +kernel
theorem dX5_allSorrow_18 : decode cX5_allSorrow 18 = .ok (.istore_n 1, 1) := by decide +kernel
theorem dX5_allSorrow_19 : decode cX5_allSorrow 19 = .ok (.iinc 2 1, 3) := by decide +kernel
theorem dX5_allSorrow_22 : decode cX5_allSorrow 22 = .ok (.goto (-18), 3) := by decide +kernel
theorem dX5_allSorrow_25 : decode cX5_allSorrow 25 = .ok (.iload_n 1, 1) := by decide +kernel
theorem dX5_allSorrow_26 : decode cX5_allSorrow 26 = .ok (.ireturn, 1) := by decide +kernel
theorem dX5_allWept_0 : decode cX5_allWept 0 = .ok (.iconst 0, 1) := by decide +kernel
theorem dX5_allWept_1 : decode cX5_allWept 1 = .ok (.istore_n 1, 1) := by decide +kernel
theorem dX5_allWept_2 : decode cX5_allWept 2 = .ok (.iconst 0, 1) := by decide +kernel
theorem dX5_allWept_3 : decode cX5_allWept 3 = .ok (.istore_n 2, 1) := by decide +kernel
theorem dX5_allWept_4 : decode cX5_allWept 4 = .ok (.iload_n 2, 1) := by decide +kernel
theorem dX5_allWept_5 : decode cX5_allWept 5 = .ok (.bipush 16, 2) := by decide +kernel
theorem dX5_allWept_7 : decode cX5_allWept 7 = .ok (.if_icmp .ge 18, 3) := by decide +kernel
theorem dX5_allWept_10 : decode cX5_allWept 10 = .ok (.iload_n 1, 1) := by decide +kernel
theorem dX5_allWept_11 : decode cX5_allWept 11 = .ok (.aload_n 0, 1) := by decide +kernel
theorem dX5_allWept_12 : decode cX5_allWept 12 = .ok (.getfield 18, 3) := by decide +kernel
theorem dX5_allWept_15 : decode cX5_allWept 15 = .ok (.iload_n 2, 1) := by decide +kernel
theorem dX5_allWept_16 : decode cX5_allWept 16 = .ok (.iaload, 1) := by decide +kernel
theorem dX5_allWept_17 : decode cX5_allWept 17 = .ok (.iadd, 1) := by decide +kernel
theorem dX5_allWept_18 : decode cX5_allWept 18 = .ok (.istore_n 1, 1) := by decide +kernel
theorem dX5_allWept_19 : decode cX5_allWept 19 = .ok (.iinc 2 1, 3) := by decide +kernel
theorem dX5_allWept_22 : decode cX5_allWept 22 = .ok (.goto (-18), 3) := by decide +kernel
theorem dX5_allWept_25 : decode cX5_allWept 25 = .ok (.iload_n 1, 1) := by decide +kernel
theorem dX5_allWept_26 : decode cX5_allWept 26 = .ok (.ireturn, 1) := by decide +kernel
theorem dX6_init_0 : decode cX6_init 0 = .ok (.aload_n 0, 1) := by decide +kernel
theorem dX6_init_1 : decode cX6_init 1 = .ok (.invokespecial 3, 3) := by decide +kernel
theorem dX6_init_4 : decode cX6_init 4 = .ok (.aload_n 0, 1) := by decide +kernel
theorem dX6_init_5 : decode cX6_init 5 = .ok (.bipush 16, 2) := by decide +kernel
theorem dX6_init_7 : decode cX6_init 7 = .ok (.newarray .int, 2) := by decide +kernel
theorem dX6_init_9 : decode cX6_init 9 = .ok (.putfield 9, 3) := by decide +kernel
theorem dX6_init_12 : decode cX6_init 12 = .ok (.aload_n 0, 1) := by decide +kernel
theorem dX6_init_13 : decode cX6_init 13 = .ok (.bipush 24, 2) := by decide +kernel
theorem dX6_init_15 : decode cX6_init 15 = .ok (.newarray .int, 2) := by decide +kernel
theorem dX6_init_17 : decode cX6_init 17 = .ok (.putfield 15, 3) := by decide +kernel
theorem dX6_init_20 : decode cX6_init 20 = .ok (.aload_n 0, 1) := by decide +kernel
theorem dX6_init_21 : decode cX6_init 21 = .ok (.bipush 24, 2) := by decide +kernel
theorem dX6_init_23 : decode cX6_init 23 = .ok (.newarray .int, 2) := by decide +kernel
theorem dX6_init_25 : decode cX6_init 25 = .ok (.putfield 18, 3) := by decide +kernel
theorem dX6_init_28 : decode cX6_init 28 = .ok (.aload_n 0, 1) := by decide +kernel
theorem dX6_init_29 : decode cX6_init 29 = .ok (.bipush 24, 2) := by decide +kernel
theorem dX6_init_31 : decode cX6_init 31 = .ok (.newarray .int, 2) := by decide +kernel
theorem dX6_init_33 : decode cX6_init 33 = .ok (.putfield 21, 3) := by decide +kernel
theorem dX6_init_36 : decode cX6_init 36 = .ok (.return_, 1) := by decide +kernel
theorem dX6_isTold_0 : decode cX6_isTold 0 = .ok (.iload_n 1, 1) := by decide +kernel
theorem dX6_isTold_1 : decode cX6_isTold 1 = .ok (.ifCond .lt 24, 3) := by decide +kernel
theorem dX6_isTold_4 : decode cX6_isTold 4 = .ok (.iload_n 1, 1) := by decide +kernel
theorem dX6_isTold_5 : decode cX6_isTold 5 = .ok (.bipush 16, 2) := by decide +kernel
theorem dX6_isTold_7 : decode cX6_isTold 7 = .ok (.if_icmp .ge 18, 3) := by decide +kernel
theorem dX6_isTold_10 : decode cX6_isTold 10 = .ok (.aload_n 0, 1) := by decide +kernel
theorem dX6_isTold_11 : decode cX6_isTold 11 = .ok (.getfield 24, 3) := by decide +kernel
theorem dX6_isTold_14 : decode cX6_isTold 14 = .ok (.iload_n 1, 1) := by decide +kernel
theorem dX6_isTold_15 : decode cX6_isTold 15 = .ok (.invokestatic 28, 3) := by decide +kernel
theorem dX6_isTold_18 : decode cX6_isTold 18 = .ok (.ifCond .eq 7, 3) := by decide +kernel
theorem dX6_isTold_21 : decode cX6_isTold 21 = .ok (.iconst 1, 1) := by decide +kernel
theorem dX6_isTold_22 : decode cX6_isTold 22 = .ok (.goto 4, 3) := by decide +kernel
theorem dX6_isTold_25 : decode cX6_isTold 25 = .ok (.iconst 0, 1) := by decide +kernel
theorem dX6_isTold_26 : decode cX6_isTold 26 = .ok (.ireturn, 1) := by decide +kernel
theorem dX6_across_0 : decode cX6_across 0 = .ok (.aload_n 0, 1) := by decide +kernel
theorem dX6_across_1 : decode cX6_across 1 = .ok (.getfield 15, 3) := by decide +kernel
theorem dX6_across_4 : decode cX6_across 4 = .ok (.iload_n 1, 1) := by decide +kernel
theorem dX6_across_5 : decode cX6_across 5 = .ok (.iaload, 1) := by decide +kernel
theorem dX6_across_6 : decode cX6_across 6 = .ok (.iload_n 2, 1) := by decide +kernel
theorem dX6_across_7 : decode cX6_across 7 = .ok (.if_icmp .ne 10, 3) := by decide +kernel
theorem dX6_across_10 : decode cX6_across 10 = .ok (.aload_n 0, 1) := by decide +kernel
theorem dX6_across_11 : decode cX6_across 11 = .ok (.getfield 18, 3) := by decide +kernel
theorem dX6_across_14 : decode cX6_across 14 = .ok (.iload_n 1, 1) := by decide +kernel
theorem dX6_across_15 : decode cX6_across 15 = .ok (.iaload, 1) := by decide +kernel
theorem dX6_across_16 : decode cX6_across 16 = .ok (.ireturn, 1) := by decide +kernel
theorem dX6_across_17 : decode cX6_across 17 = .ok (.aload_n 0, 1) := by decide +kernel
theorem dX6_across_18 : decode cX6_across 18 = .ok (.getfield 18, 3) := by decide +kernel
theorem dX6_across_21 : decode cX6_across 21 = .ok (.iload_n 1, 1) := by decide +kernel
theorem dX6_across_22 : decode cX6_across 22 = .ok (.iaload, 1) := by decide +kernel
theorem dX6_across_23 : decode cX6_across 23 = .ok (.iload_n 2, 1) := by decide +kernel
theorem dX6_across_24 : decode cX6_across 24 = .ok (.if_icmp .ne 12, 3) := by decide +kernel
theorem dX6_across_27 : decode cX6_across 27 = .ok (.aload_n 0, 1) := by decide +kernel
theorem dX6_across_28 : decode cX6_across 28 = .ok (.getfield 15, 3) := by decide +kernel
theorem dX6_across_31 : decode cX6_across 31 = .ok (.iload_n 1, 1) := by decide +kernel
theorem dX6_across_32 : decode cX6_across 32 = .ok (.iaload, 1) := by decide +kernel
theorem dX6_across_33 : decode cX6_across 33 = .ok (.goto 4, 3) := by decide +kernel
theorem dX6_across_36 : decode cX6_across 36 = .ok (.iconst (-1), 1) := by decide +kernel
theorem dX6_across_37 : decode cX6_across 37 = .ok (.ireturn, 1) := by decide +kernel
theorem dX6_openPipesOf_0 : decode cX6_openPipesOf 0 = .ok (.iconst 0, 1) := by decide +kernel
theorem dX6_openPipesOf_1 : decode cX6_openPipesOf 1 = .ok (.istore_n 3, 1) := by decide +kernel
theorem dX6_openPipesOf_2 : decode cX6_openPipesOf 2 = .ok (.iconst 0, 1) := by decide +kernel
theorem dX6_openPipesOf_3 : decode cX6_openPipesOf 3 = .ok (.istore 4, 2) := by decide +kernel
theorem dX6_openPipesOf_5 : decode cX6_openPipesOf 5 = .ok (.iload 4, 2) := by decide +kernel
theorem dX6_openPipesOf_7 : decode cX6_openPipesOf 7 = .ok (.aload_n 0, 1) := by decide +kernel
theorem dX6_openPipesOf_8 : decode cX6_openPipesOf 8 = .ok (.getfield 32, 3) := by decide +kernel
theorem dX6_openPipesOf_11 : decode cX6_openPipesOf 11 = .ok (.if_icmp .ge 32, 3) := by decide +kernel
theorem dX6_openPipesOf_14 : decode cX6_openPipesOf 14 = .ok (.iload_n 2, 1) := by decide +kernel
theorem dX6_openPipesOf_15 : decode cX6_openPipesOf 15 = .ok (.iload 4, 2) := by decide +kernel
theorem dX6_openPipesOf_17 : decode cX6_openPipesOf 17 = .ok (.invokestatic 28, 3) := by decide +kernel
theorem dX6_openPipesOf_20 : decode cX6_openPipesOf 20 = .ok (.ifCond .eq 17, 3) := by decide +kernel
theorem dX6_openPipesOf_23 : decode cX6_openPipesOf 23 = .ok (.aload_n 0, 1) := by decide +kernel
theorem dX6_openPipesOf_24 : decode cX6_openPipesOf 24 = .ok (.iload 4, 2) := by decide +kernel
theorem dX6_openPipesOf_26 : decode cX6_openPipesOf 26 = .ok (.iload_n 1, 1) := by decide +kernel
theorem dX6_openPipesOf_27 : decode cX6_openPipesOf 27 = .ok (.invokevirtual 35, 3) := by decide +kernel
theorem dX6_openPipesOf_30 : decode cX6_openPipesOf 30 = .ok (.iconst (-1), 1) := by decide +kernel
theorem dX6_openPipesOf_31 : decode cX6_openPipesOf 31 = .ok (.if_icmp .eq 6, 3) := by decide +kernel
theorem dX6_openPipesOf_34 : decode cX6_openPipesOf 34 = .ok (.iinc 3 1, 3) := by decide +kernel
theorem dX6_openPipesOf_37 : decode cX6_openPipesOf 37 = .ok (.iinc 4 1, 3) := by decide +kernel
theorem dX6_openPipesOf_40 : decode cX6_openPipesOf 40 = .ok (.goto (-35), 3) := by decide +kernel
theorem dX6_openPipesOf_43 : decode cX6_openPipesOf 43 = .ok (.iload_n 3, 1) := by decide +kernel
theorem dX6_openPipesOf_44 : decode cX6_openPipesOf 44 = .ok (.ireturn, 1) := by decide +kernel
theorem dX6_besides_0 : decode cX6_besides 0 = .ok (.iconst 0, 1) := by decide +kernel
theorem dX6_besides_1 : decode cX6_besides 1 = .ok (.istore_n 3, 1) := by decide +kernel
theorem dX6_besides_2 : decode cX6_besides 2 = .ok (.iconst 0, 1) := by decide +kernel
theorem dX6_besides_3 : decode cX6_besides 3 = .ok (.istore 4, 2) := by decide +kernel
theorem dX6_besides_5 : decode cX6_besides 5 = .ok (.iload 4, 2) := by decide +kernel
theorem dX6_besides_7 : decode cX6_besides 7 = .ok (.aload_n 0, 1) := by decide +kernel
theorem dX6_besides_8 : decode cX6_besides 8 = .ok (.getfield 32, 3) := by decide +kernel
theorem dX6_besides_11 : decode cX6_besides 11 = .ok (.if_icmp .ge 40, 3) := by decide +kernel
theorem dX6_besides_14 : decode cX6_besides 14 = .ok (.aload_n 0, 1) := by decide +kernel
theorem dX6_besides_15 : decode cX6_besides 15 = .ok (.iload 4, 2) := by decide +kernel
theorem dX6_besides_17 : decode cX6_besides 17 = .ok (.iload_n 1, 1) := by decide +kernel
theorem dX6_besides_18 : decode cX6_besides 18 = .ok (.invokevirtual 35, 3) := by decide +kernel
theorem dX6_besides_21 : decode cX6_besides 21 = .ok (.istore 5, 2) := by decide +kernel
theorem dX6_besides_23 : decode cX6_besides 23 = .ok (.iload_n 2, 1) := by decide +kernel
theorem dX6_besides_24 : decode cX6_besides 24 = .ok (.iload 4, 2) := by decide +kernel
theorem dX6_besides_26 : decode cX6_besides 26 = .ok (.invokestatic 28, 3) := by decide +kernel
theorem dX6_besides_29 : decode cX6_besides 29 = .ok (.ifCond .eq 16, 3) := by decide +kernel
theorem dX6_besides_32 : decode cX6_besides 32 = .ok (.iload 5, 2) := by decide +kernel
theorem dX6_besides_34 : decode cX6_besides 34 = .ok (.iconst (-1), 1) := by decide +kernel
theorem dX6_besides_35 : decode cX6_besides 35 = .ok (.if_icmp .eq 10, 3) := by decide +kernel
theorem dX6_besides_38 : decode cX6_besides 38 = .ok (.iload_n 3, 1) := by decide +kernel
theorem dX6_besides_39 : decode cX6_besides 39 = .ok (.iconst 1, 1) := by decide +kernel
theorem dX6_besides_40 : decode cX6_besides 40 = .ok (.iload 5, 2) := by decide +kernel
theorem dX6_besides_42 : decode cX6_besides 42 = .ok (.ishl, 1) := by decide +kernel
theorem dX6_besides_43 : decode cX6_besides 43 = .ok (.ior, 1) := by decide +kernel
theorem dX6_besides_44 : decode cX6_besides 44 = .ok (.istore_n 3, 1) := by decide +kernel
theorem dX6_besides_45 : decode cX6_besides 45 = .ok (.iinc 4 1, 3) := by decide +kernel
theorem dX6_besides_48 : decode cX6_besides 48 = .ok (.goto (-43), 3) := by decide +kernel
theorem dX6_besides_51 : decode cX6_besides 51 = .ok (.iload_n 3, 1) := by decide +kernel
theorem dX6_besides_52 : decode cX6_besides 52 = .ok (.ireturn, 1) := by decide +kernel
theorem dX6_become_0 : decode cX6_become 0 = .ok (.aload_n 1, 1) := by decide +kernel
theorem dX6_become_1 : decode cX6_become 1 = .ok (.getfield 9, 3) := by decide +kernel
theorem dX6_become_4 : decode cX6_become 4 = .ok (.iconst 0, 1) := by decide +kernel
theorem dX6_become_5 : decode cX6_become 5 = .ok (.aload_n 0, 1) := by decide +kernel
theorem dX6_become_6 : decode cX6_become 6 = .ok (.getfield 9, 3) := by decide +kernel
theorem dX6_become_9 : decode cX6_become 9 = .ok (.iconst 0, 1) := by decide +kernel
theorem dX6_become_10 : decode cX6_become 10 = .ok (.bipush 16, 2) := by decide +kernel
theorem dX6_become_12 : decode cX6_become 12 = .ok (.invokestatic 39, 3) := by decide +kernel
theorem dX6_become_15 : decode cX6_become 15 = .ok (.aload_n 1, 1) := by decide +kernel
theorem dX6_become_16 : decode cX6_become 16 = .ok (.getfield 15, 3) := by decide +kernel
theorem dX6_become_19 : decode cX6_become 19 = .ok (.iconst 0, 1) := by decide +kernel
theorem dX6_become_20 : decode cX6_become 20 = .ok (.aload_n 0, 1) := by decide +kernel
theorem dX6_become_21 : decode cX6_become 21 = .ok (.getfield 15, 3) := by decide +kernel
theorem dX6_become_24 : decode cX6_become 24 = .ok (.iconst 0, 1) := by decide +kernel
theorem dX6_become_25 : decode cX6_become 25 = .ok (.bipush 24, 2) := by decide +kernel
theorem dX6_become_27 : decode cX6_become 27 = .ok (.invokestatic 39, 3) := by decide +kernel
theorem dX6_become_30 : decode cX6_become 30 = .ok (.aload_n 1, 1) := by decide +kernel
theorem dX6_become_31 : decode cX6_become 31 = .ok (.getfield 18, 3) := by decide +kernel
theorem dX6_become_34 : decode cX6_become 34 = .ok (.iconst 0, 1) := by decide +kernel
theorem dX6_become_35 : decode cX6_become 35 = .ok (.aload_n 0, 1) := by decide +kernel
theorem dX6_become_36 : decode cX6_become 36 = .ok (.getfield 18, 3) := by decide +kernel
theorem dX6_become_39 : decode cX6_become 39 = .ok (.iconst 0, 1) := by decide +kernel
theorem dX6_become_40 : decode cX6_become 40 = .ok (.bipush 24, 2) := by decide +kernel
theorem dX6_become_42 : decode cX6_become 42 = .ok (.invokestatic 39, 3) := by decide +kernel
theorem dX6_become_45 : decode cX6_become 45 = .ok (.aload_n 1, 1) := by decide +kernel
theorem dX6_become_46 : decode cX6_become 46 = .ok (.getfield 21, 3) := by decide +kernel
theorem dX6_become_49 : decode cX6_become 49 = .ok (.iconst 0, 1) := by decide +kernel
theorem dX6_become_50 : decode cX6_become 50 = .ok (.aload_n 0, 1) := by decide +kernel
theorem dX6_become_51 : decode cX6_become 51 = .ok (.getfield 21, 3) := by decide +kernel
theorem dX6_become_54 : decode cX6_become 54 = .ok (.iconst 0, 1) := by decide +kernel
theorem dX6_become_55 : decode cX6_become 55 = .ok (.bipush 24, 2) := by decide +kernel
theorem dX6_become_57 : decode cX6_become 57 = .ok (.invokestatic 39, 3) := by decide +kernel
theorem dX6_become_60 : decode cX6_become 60 = .ok (.aload_n 0, 1) := by decide +kernel
theorem dX6_become_61 : decode cX6_become 61 = .ok (.aload_n 1, 1) := by decide +kernel
theorem dX6_become_62 : decode cX6_become 62 = .ok (.getfield 24, 3) := by decide +kernel
theorem dX6_become_65 : decode cX6_become 65 = .ok (.putfield 24, 3) := by decide +kernel
theorem dX6_become_68 : decode cX6_become 68 = .ok (.aload_n 0, 1) := by decide +kernel
theorem dX6_become_69 : decode cX6_become 69 = .ok (.aload_n 1, 1) := by decide +kernel
theorem dX6_become_70 : decode cX6_become 70 = .ok (.getfield 32, 3) := by decide +kernel
theorem dX6_become_73 : decode cX6_become 73 = .ok (.putfield 32, 3) := by decide +kernel
theorem dX6_become_76 : decode cX6_become 76 = .ok (.return_, 1) := by decide +kernel
theorem dX6_readFrom_0 : decode cX6_readFrom 0 = .ok (.aload_n 0, 1) := by decide +kernel
theorem dX6_readFrom_1 : decode cX6_readFrom 1 = .ok (.getfield 9, 3) := by decide +kernel
theorem dX6_readFrom_4 : decode cX6_readFrom 4 = .ok (.iconst 0, 1) := by decide +kernel
theorem dX6_readFrom_5 : decode cX6_readFrom 5 = .ok (.invokestatic 45, 3) := by decide +kernel
theorem dX6_readFrom_8 : decode cX6_readFrom 8 = .ok (.aload_n 0, 1) := by decide +kernel
theorem dX6_readFrom_9 : decode cX6_readFrom 9 = .ok (.iconst 0, 1) := by decide +kernel
theorem dX6_readFrom_10 : decode cX6_readFrom 10 = .ok (.putfield 24, 3) := by decide +kernel
theorem dX6_readFrom_13 : decode cX6_readFrom 13 = .ok (.aload_n 0, 1) := by decide +kernel
theorem dX6_readFrom_14 : decode cX6_readFrom 14 = .ok (.iconst 0, 1) := by decide +kernel
theorem dX6_readFrom_15 : decode cX6_readFrom 15 = .ok (.putfield 32, 3) := by decide +kernel
theorem dX6_readFrom_18 : decode cX6_readFrom 18 = .ok (.iconst 0, 1) := by decide +kernel
theorem dX6_readFrom_19 : decode cX6_readFrom 19 = .ok (.istore_n 2, 1) := by decide +kernel
theorem dX6_readFrom_20 : decode cX6_readFrom 20 = .ok (.iload_n 2, 1) := by decide +kernel
theorem dX6_readFrom_21 : decode cX6_readFrom 21 = .ok (.bipush 24, 2) := by decide +kernel
theorem dX6_readFrom_23 : decode cX6_readFrom 23 = .ok (.if_icmp .gt 72, 3) := by decide +kernel
theorem dX6_readFrom_26 : decode cX6_readFrom 26 = .ok (.aload_n 1, 1) := by decide +kernel
theorem dX6_readFrom_27 : decode cX6_readFrom 27 = .ok (.invokevirtual 51, 3) := by decide +kernel
theorem dX6_readFrom_30 : decode cX6_readFrom 30 = .ok (.ifCond .ne 13, 3) := by decide +kernel
theorem dX6_readFrom_33 : decode cX6_readFrom 33 = .ok (.aload_n 1, 1) := by decide +kernel
theorem dX6_readFrom_34 : decode cX6_readFrom 34 = .ok (.iconst 1, 1) := by decide +kernel
theorem dX6_readFrom_35 : decode cX6_readFrom 35 = .ok (.aload_n 1, 1) := by decide +kernel
theorem dX6_readFrom_36 : decode cX6_readFrom 36 = .ok (.getfield 57, 3) := by decide +kernel
theorem dX6_readFrom_39 : decode cX6_readFrom 39 = .ok (.invokevirtual 60, 3) := by decide +kernel
theorem dX6_readFrom_42 : decode cX6_readFrom 42 = .ok (.ireturn, 1) := by decide +kernel
theorem dX6_readFrom_43 : decode cX6_readFrom 43 = .ok (.iload_n 2, 1) := by decide +kernel
theorem dX6_readFrom_44 : decode cX6_readFrom 44 = .ok (.bipush 24, 2) := by decide +kernel
theorem dX6_readFrom_46 : decode cX6_readFrom 46 = .ok (.if_icmp .ne 13, 3) := by decide +kernel
theorem dX6_readFrom_49 : decode cX6_readFrom 49 = .ok (.aload_n 1, 1) := by decide +kernel
theorem dX6_readFrom_50 : decode cX6_readFrom 50 = .ok (.iconst 4, 1) := by decide +kernel
theorem dX6_readFrom_51 : decode cX6_readFrom 51 = .ok (.aload_n 1, 1) := by decide +kernel
theorem dX6_readFrom_52 : decode cX6_readFrom 52 = .ok (.getfield 57, 3) := by decide +kernel
theorem dX6_readFrom_55 : decode cX6_readFrom 55 = .ok (.invokevirtual 60, 3) := by decide +kernel
theorem dX6_readFrom_58 : decode cX6_readFrom 58 = .ok (.ireturn, 1) := by decide +kernel
theorem dX6_readFrom_59 : decode cX6_readFrom 59 = .ok (.aload_n 0, 1) := by decide +kernel
theorem dX6_readFrom_60 : decode cX6_readFrom 60 = .ok (.aload_n 1, 1) := by decide +kernel
theorem dX6_readFrom_61 : decode cX6_readFrom 61 = .ok (.invokevirtual 63, 3) := by decide +kernel
theorem dX6_readFrom_64 : decode cX6_readFrom 64 = .ok (.ifCond .ne 5, 3) := by decide +kernel
theorem dX6_readFrom_67 : decode cX6_readFrom 67 = .ok (.iconst 0, 1) := by decide +kernel
theorem dX6_readFrom_68 : decode cX6_readFrom 68 = .ok (.ireturn, 1) := by decide +kernel
theorem dX6_readFrom_69 : decode cX6_readFrom 69 = .ok (.aload_n 1, 1) := by decide +kernel
theorem dX6_readFrom_70 : decode cX6_readFrom 70 = .ok (.invokevirtual 67, 3) := by decide +kernel
theorem dX6_readFrom_73 : decode cX6_readFrom 73 = .ok (.ifCond .eq 5, 3) := by decide +kernel
theorem dX6_readFrom_76 : decode cX6_readFrom 76 = .ok (.iconst 1, 1) := by decide +kernel
theorem dX6_readFrom_77 : decode cX6_readFrom 77 = .ok (.ireturn, 1) := by decide +kernel
theorem dX6_readFrom_78 : decode cX6_readFrom 78 = .ok (.aload_n 1, 1) := by decide +kernel
theorem dX6_readFrom_79 : decode cX6_readFrom 79 = .ok (.bipush 59, 2) := by decide +kernel
theorem dX6_readFrom_81 : decode cX6_readFrom 81 = .ok (.invokevirtual 70, 3) := by decide +kernel
theorem dX6_readFrom_84 : decode cX6_readFrom 84 = .ok (.ifCond .ne 5, 3) := by decide +kernel
theorem dX6_readFrom_87 : decode cX6_readFrom 87 = .ok (.iconst 0, 1) := by decide +kernel
theorem dX6_readFrom_88 : decode cX6_readFrom 88 = .ok (.ireturn, 1) := by decide +kernel
theorem dX6_readFrom_89 : decode cX6_readFrom 89 = .ok (.iinc 2 1, 3) := by decide +kernel
theorem dX6_readFrom_92 : decode cX6_readFrom 92 = .ok (.goto (-72), 3) := by decide +kernel
theorem dX6_readFrom_95 : decode cX6_readFrom 95 = .ok (.iconst 0, 1) := by decide +kernel
theorem dX6_readFrom_96 : decode cX6_readFrom 96 = .ok (.ireturn, 1) := by decide +kernel
theorem dX6_readLine_0 : decode cX6_readLine 0 = .ok (.aload_n 0, 1) := by decide +kernel
theorem dX6_readLine_1 : decode cX6_readLine 1 = .ok (.aload_n 1, 1) := by decide +kernel
theorem dX6_readLine_2 : decode cX6_readLine 2 = .ok (.invokevirtual 74, 3) := by decide +kernel
theorem dX6_readLine_5 : decode cX6_readLine 5 = .ok (.istore_n 2, 1) := by decide +kernel
theorem dX6_readLine_6 : decode cX6_readLine 6 = .ok (.aload_n 1, 1) := by decide +kernel
theorem dX6_readLine_7 : decode cX6_readLine 7 = .ok (.bipush 61, 2) := by decide +kernel
theorem dX6_readLine_9 : decode cX6_readLine 9 = .ok (.invokevirtual 78, 3) := by decide +kernel
theorem dX6_readLine_12 : decode cX6_readLine 12 = .ok (.ifCond .eq 25, 3) := by decide +kernel
theorem dX6_readLine_15 : decode cX6_readLine 15 = .ok (.aload_n 1, 1) := by decide +kernel
theorem dX6_readLine_16 : decode cX6_readLine 16 = .ok (.iconst 2, 1) := by decide +kernel
theorem dX6_readLine_17 : decode cX6_readLine 17 = .ok (.invokevirtual 81, 3) := by decide +kernel
theorem dX6_readLine_20 : decode cX6_readLine 20 = .ok (.istore_n 3, 1) := by decide +kernel
theorem dX6_readLine_21 : decode cX6_readLine 21 = .ok (.iload_n 3, 1) := by decide +kernel
theorem dX6_readLine_22 : decode cX6_readLine 22 = .ok (.iconst (-1), 1) := by decide +kernel
theorem dX6_readLine_23 : decode cX6_readLine 23 = .ok (.if_icmp .ne 5, 3) := by decide +kernel
theorem dX6_readLine_26 : decode cX6_readLine 26 = .ok (.iconst 0, 1) := by decide +kernel
theorem dX6_readLine_27 : decode cX6_readLine 27 = .ok (.ireturn, 1) := by decide +kernel
theorem dX6_readLine_28 : decode cX6_readLine 28 = .ok (.aload_n 0, 1) := by decide +kernel
theorem dX6_readLine_29 : decode cX6_readLine 29 = .ok (.getfield 9, 3) := by decide +kernel
theorem dX6_readLine_32 : decode cX6_readLine 32 = .ok (.iload_n 2, 1) := by decide +kernel
theorem dX6_readLine_33 : decode cX6_readLine 33 = .ok (.iload_n 3, 1) := by decide +kernel
theorem dX6_readLine_34 : decode cX6_readLine 34 = .ok (.iastore, 1) := by decide +kernel
theorem dX6_readLine_35 : decode cX6_readLine 35 = .ok (.iconst 1, 1) := by decide +kernel
theorem dX6_readLine_36 : decode cX6_readLine 36 = .ok (.ireturn, 1) := by decide +kernel
theorem dX6_readLine_37 : decode cX6_readLine 37 = .ok (.iconst 0, 1) := by decide +kernel
theorem dX6_readLine_38 : decode cX6_readLine 38 = .ok (.istore_n 3, 1) := by decide +kernel
theorem dX6_readLine_39 : decode cX6_readLine 39 = .ok (.iload_n 3, 1) := by decide +kernel
theorem dX6_readLine_40 : decode cX6_readLine 40 = .ok (.bipush 24, 2) := by decide +kernel
theorem dX6_readLine_42 : decode cX6_readLine 42 = .ok (.if_icmp .gt 41, 3) := by decide +kernel
theorem dX6_readLine_45 : decode cX6_readLine 45 = .ok (.aload_n 1, 1) := by decide +kernel
theorem dX6_readLine_46 : decode cX6_readLine 46 = .ok (.invokevirtual 85, 3) := by decide +kernel
theorem dX6_readLine_49 : decode cX6_readLine 49 = .ok (.bipush 45, 2) := by decide +kernel
theorem dX6_readLine_51 : decode cX6_readLine 51 = .ok (.if_icmp .ne 32, 3) := by decide +kernel
theorem dX6_readLine_54 : decode cX6_readLine 54 = .ok (.aload_n 0, 1) := by decide +kernel
theorem dX6_readLine_55 : decode cX6_readLine 55 = .ok (.aload_n 1, 1) := by decide +kernel
theorem dX6_readLine_56 : decode cX6_readLine 56 = .ok (.iload_n 2, 1) := by decide +kernel
theorem dX6_readLine_57 : decode cX6_readLine 57 = .ok (.invokevirtual 89, 3) := by decide +kernel
theorem dX6_readLine_60 : decode cX6_readLine 60 = .ok (.ifCond .ne 5, 3) := by decide +kernel
theorem dX6_readLine_63 : decode cX6_readLine 63 = .ok (.iconst 0, 1) := by decide +kernel
theorem dX6_readLine_64 : decode cX6_readLine 64 = .ok (.ireturn, 1) := by decide +kernel
theorem dX6_readLine_65 : decode cX6_readLine 65 = .ok (.aload_n 0, 1) := by decide +kernel
theorem dX6_readLine_66 : decode cX6_readLine 66 = .ok (.getfield 18, 3) := by decide +kernel
theorem dX6_readLine_69 : decode cX6_readLine 69 = .ok (.aload_n 0, 1) := by decide +kernel
theorem dX6_readLine_70 : decode cX6_readLine 70 = .ok (.getfield 32, 3) := by decide +kernel
theorem dX6_readLine_73 : decode cX6_readLine 73 = .ok (.iconst 1, 1) := by decide +kernel
theorem dX6_readLine_74 : decode cX6_readLine 74 = .ok (.isub, 1) := by decide +kernel
theorem dX6_readLine_75 : decode cX6_readLine 75 = .ok (.iaload, 1) := by decide +kernel
theorem dX6_readLine_76 : decode cX6_readLine 76 = .ok (.istore_n 2, 1) := by decide +kernel
theorem dX6_readLine_77 : decode cX6_readLine 77 = .ok (.iinc 3 1, 3) := by decide +kernel
theorem dX6_readLine_80 : decode cX6_readLine 80 = .ok (.goto (-41), 3) := by decide +kernel
theorem dX6_readLine_83 : decode cX6_readLine 83 = .ok (.iconst 1, 1) := by decide +kernel
theorem dX6_readLine_84 : decode cX6_readLine 84 = .ok (.ireturn, 1) := by decide +kernel
theorem dX6_readRoad_0 : decode cX6_readRoad 0 = .ok (.aload_n 0, 1) := by decide +kernel
theorem dX6_readRoad_1 : decode cX6_readRoad 1 = .ok (.getfield 32, 3) := by decide +kernel
theorem dX6_readRoad_4 : decode cX6_readRoad 4 = .ok (.bipush 24, 2) := by decide +kernel
theorem dX6_readRoad_6 : decode cX6_readRoad 6 = .ok (.if_icmp .lt 13, 3) := by decide +kernel
theorem dX6_readRoad_9 : decode cX6_readRoad 9 = .ok (.aload_n 1, 1) := by decide +kernel
theorem dX6_readRoad_10 : decode cX6_readRoad 10 = .ok (.iconst 5, 1) := by decide +kernel
theorem dX6_readRoad_11 : decode cX6_readRoad 11 = .ok (.aload_n 1, 1) := by decide +kernel
theorem dX6_readRoad_12 : decode cX6_readRoad 12 = .ok (.getfield 57, 3) := by decide +kernel
theorem dX6_readRoad_15 : decode cX6_readRoad 15 = .ok (.invokevirtual 60, 3) := by decide +kernel
theorem dX6_readRoad_18 : decode cX6_readRoad 18 = .ok (.ireturn, 1) := by decide +kernel
theorem dX6_readRoad_19 : decode cX6_readRoad 19 = .ok (.aload_n 1, 1) := by decide +kernel
theorem dX6_readRoad_20 : decode cX6_readRoad 20 = .ok (.dup, 1) := by decide +kernel
theorem dX6_readRoad_21 : decode cX6_readRoad 21 = .ok (.getfield 57, 3) := by decide +kernel
theorem dX6_readRoad_24 : decode cX6_readRoad 24 = .ok (.iconst 1, 1) := by decide +kernel
theorem dX6_readRoad_25 : decode cX6_readRoad 25 = .ok (.iadd, 1) := by decide +kernel
theorem dX6_readRoad_26 : decode cX6_readRoad 26 = .ok (.putfield 57, 3) := by decide +kernel
theorem dX6_readRoad_29 : decode cX6_readRoad 29 = .ok (.aload_n 1, 1) := by decide +kernel
theorem dX6_readRoad_30 : decode cX6_readRoad 30 = .ok (.invokevirtual 51, 3) := by decide +kernel
theorem dX6_readRoad_33 : decode cX6_readRoad 33 = .ok (.ifCond .ne 13, 3) := by decide +kernel
theorem dX6_readRoad_36 : decode cX6_readRoad 36 = .ok (.aload_n 1, 1) := by decide +kernel
theorem dX6_readRoad_37 : decode cX6_readRoad 37 = .ok (.iconst 1, 1) := by decide +kernel
theorem dX6_readRoad_38 : decode cX6_readRoad 38 = .ok (.aload_n 1, 1) := by decide +kernel
theorem dX6_readRoad_39 : decode cX6_readRoad 39 = .ok (.getfield 57, 3) := by decide +kernel
theorem dX6_readRoad_42 : decode cX6_readRoad 42 = .ok (.invokevirtual 60, 3) := by decide +kernel
theorem dX6_readRoad_45 : decode cX6_readRoad 45 = .ok (.ireturn, 1) := by decide +kernel
theorem dX6_readRoad_46 : decode cX6_readRoad 46 = .ok (.aload_n 1, 1) := by decide +kernel
theorem dX6_readRoad_47 : decode cX6_readRoad 47 = .ok (.invokevirtual 85, 3) := by decide +kernel
theorem dX6_readRoad_50 : decode cX6_readRoad 50 = .ok (.bipush 97, 2) := by decide +kernel
theorem dX6_readRoad_52 : decode cX6_readRoad 52 = .ok (.isub, 1) := by decide +kernel
theorem dX6_readRoad_53 : decode cX6_readRoad 53 = .ok (.iload_n 2, 1) := by decide +kernel
theorem dX6_readRoad_54 : decode cX6_readRoad 54 = .ok (.if_icmp .ne 14, 3) := by decide +kernel
theorem dX6_readRoad_57 : decode cX6_readRoad 57 = .ok (.aload_n 1, 1) := by decide +kernel
theorem dX6_readRoad_58 : decode cX6_readRoad 58 = .ok (.bipush 6, 2) := by decide +kernel
theorem dX6_readRoad_60 : decode cX6_readRoad 60 = .ok (.aload_n 1, 1) := by decide +kernel
theorem dX6_readRoad_61 : decode cX6_readRoad 61 = .ok (.getfield 57, 3) := by decide +kernel
theorem dX6_readRoad_64 : decode cX6_readRoad 64 = .ok (.invokevirtual 60, 3) := by decide +kernel
theorem dX6_readRoad_67 : decode cX6_readRoad 67 = .ok (.ireturn, 1) := by decide +kernel
theorem dX6_readRoad_68 : decode cX6_readRoad 68 = .ok (.aload_n 0, 1) := by decide +kernel
theorem dX6_readRoad_69 : decode cX6_readRoad 69 = .ok (.aload_n 1, 1) := by decide +kernel
theorem dX6_readRoad_70 : decode cX6_readRoad 70 = .ok (.invokevirtual 74, 3) := by decide +kernel
theorem dX6_readRoad_73 : decode cX6_readRoad 73 = .ok (.istore_n 3, 1) := by decide +kernel
theorem dX6_readRoad_74 : decode cX6_readRoad 74 = .ok (.aload_n 1, 1) := by decide +kernel
theorem dX6_readRoad_75 : decode cX6_readRoad 75 = .ok (.getfield 57, 3) := by decide +kernel
theorem dX6_readRoad_78 : decode cX6_readRoad 78 = .ok (.istore 4, 2) := by decide +kernel
theorem dX6_readRoad_80 : decode cX6_readRoad 80 = .ok (.aload_n 1, 1) := by decide +kernel
theorem dX6_readRoad_81 : decode cX6_readRoad 81 = .ok (.iconst 2, 1) := by decide +kernel
theorem dX6_readRoad_82 : decode cX6_readRoad 82 = .ok (.invokevirtual 81, 3) := by decide +kernel
theorem dX6_readRoad_85 : decode cX6_readRoad 85 = .ok (.istore 5, 2) := by decide +kernel
theorem dX6_readRoad_87 : decode cX6_readRoad 87 = .ok (.iload 5, 2) := by decide +kernel
theorem dX6_readRoad_89 : decode cX6_readRoad 89 = .ok (.iconst (-1), 1) := by decide +kernel
theorem dX6_readRoad_90 : decode cX6_readRoad 90 = .ok (.if_icmp .ne 5, 3) := by decide +kernel
theorem dX6_readRoad_93 : decode cX6_readRoad 93 = .ok (.iconst 0, 1) := by decide +kernel
theorem dX6_readRoad_94 : decode cX6_readRoad 94 = .ok (.ireturn, 1) := by decide +kernel
theorem dX6_readRoad_95 : decode cX6_readRoad 95 = .ok (.iload 5, 2) := by decide +kernel
theorem dX6_readRoad_97 : decode cX6_readRoad 97 = .ok (.ifCond .ne 11, 3) := by decide +kernel
theorem dX6_readRoad_100 : decode cX6_readRoad 100 = .ok (.aload_n 1, 1) := by decide +kernel
theorem dX6_readRoad_101 : decode cX6_readRoad 101 = .ok (.iconst 3, 1) := by decide +kernel
theorem dX6_readRoad_102 : decode cX6_readRoad 102 = .ok (.iload 4, 2) := by decide +kernel
theorem dX6_readRoad_104 : decode cX6_readRoad 104 = .ok (.invokevirtual 60, 3) := by decide +kernel
theorem dX6_readRoad_107 : decode cX6_readRoad 107 = .ok (.ireturn, 1) := by decide +kernel
theorem dX6_readRoad_108 : decode cX6_readRoad 108 = .ok (.aload_n 0, 1) := by decide +kernel
theorem dX6_readRoad_109 : decode cX6_readRoad 109 = .ok (.getfield 15, 3) := by decide +kernel
theorem dX6_readRoad_112 : decode cX6_readRoad 112 = .ok (.aload_n 0, 1) := by decide +kernel
theorem dX6_readRoad_113 : decode cX6_readRoad 113 = .ok (.getfield 32, 3) := by decide +kernel
theorem dX6_readRoad_116 : decode cX6_readRoad 116 = .ok (.iload_n 2, 1) := by decide +kernel
theorem dX6_readRoad_117 : decode cX6_readRoad 117 = .ok (.iastore, 1) := by decide +kernel
theorem dX6_readRoad_118 : decode cX6_readRoad 118 = .ok (.aload_n 0, 1) := by decide +kernel
theorem dX6_readRoad_119 : decode cX6_readRoad 119 = .ok (.getfield 18, 3) := by decide +kernel
theorem dX6_readRoad_122 : decode cX6_readRoad 122 = .ok (.aload_n 0, 1) := by decide +kernel
theorem dX6_readRoad_123 : decode cX6_readRoad 123 = .ok (.getfield 32, 3) := by decide +kernel
theorem dX6_readRoad_126 : decode cX6_readRoad 126 = .ok (.iload_n 3, 1) := by decide +kernel
theorem dX6_readRoad_127 : decode cX6_readRoad 127 = .ok (.iastore, 1) := by decide +kernel
theorem dX6_readRoad_128 : decode cX6_readRoad 128 = .ok (.aload_n 0, 1) := by decide +kernel
theorem dX6_readRoad_129 : decode cX6_readRoad 129 = .ok (.getfield 21, 3) := by decide +kernel
theorem dX6_readRoad_132 : decode cX6_readRoad 132 = .ok (.aload_n 0, 1) := by decide +kernel
theorem dX6_readRoad_133 : decode cX6_readRoad 133 = .ok (.getfield 32, 3) := by decide +kernel
theorem dX6_readRoad_136 : decode cX6_readRoad 136 = .ok (.iload 5, 2) := by decide +kernel
theorem dX6_readRoad_138 : decode cX6_readRoad 138 = .ok (.iastore, 1) := by decide +kernel
theorem dX6_readRoad_139 : decode cX6_readRoad 139 = .ok (.aload_n 0, 1) := by decide +kernel
theorem dX6_readRoad_140 : decode cX6_readRoad 140 = .ok (.dup, 1) := by decide +kernel
theorem dX6_readRoad_141 : decode cX6_readRoad 141 = .ok (.getfield 32, 3) := by decide +kernel
theorem dX6_readRoad_144 : decode cX6_readRoad 144 = .ok (.iconst 1, 1) := by decide +kernel
theorem dX6_readRoad_145 : decode cX6_readRoad 145 = .ok (.iadd, 1) := by decide +kernel
theorem dX6_readRoad_146 : decode cX6_readRoad 146 = .ok (.putfield 32, 3) := by decide +kernel
theorem dX6_readRoad_149 : decode cX6_readRoad 149 = .ok (.iconst 1, 1) := by decide +kernel
theorem dX6_readRoad_150 : decode cX6_readRoad 150 = .ok (.ireturn, 1) := by decide +kernel
theorem dX6_readCorner_0 : decode cX6_readCorner 0 = .ok (.aload_n 1, 1) := by decide +kernel
theorem dX6_readCorner_1 : decode cX6_readCorner 1 = .ok (.invokevirtual 85, 3) := by decide +kernel
theorem dX6_readCorner_4 : decode cX6_readCorner 4 = .ok (.bipush 97, 2) := by decide +kernel
theorem dX6_readCorner_6 : decode cX6_readCorner 6 = .ok (.isub, 1) := by decide +kernel
theorem dX6_readCorner_7 : decode cX6_readCorner 7 = .ok (.istore_n 2, 1) := by decide +kernel
theorem dX6_readCorner_8 : decode cX6_readCorner 8 = .ok (.aload_n 0, 1) := by decide +kernel
theorem dX6_readCorner_9 : decode cX6_readCorner 9 = .ok (.dup, 1) := by decide +kernel
theorem dX6_readCorner_10 : decode cX6_readCorner 10 = .ok (.getfield 24, 3) := by decide +kernel
theorem dX6_readCorner_13 : decode cX6_readCorner 13 = .ok (.iconst 1, 1) := by decide +kernel
theorem dX6_readCorner_14 : decode cX6_readCorner 14 = .ok (.iload_n 2, 1) := by decide +kernel
theorem dX6_readCorner_15 : decode cX6_readCorner 15 = .ok (.ishl, 1) := by decide +kernel
theorem dX6_readCorner_16 : decode cX6_readCorner 16 = .ok (.ior, 1) := by decide +kernel
theorem dX6_readCorner_17 : decode cX6_readCorner 17 = .ok (.putfield 24, 3) := by decide +kernel
theorem dX6_readCorner_20 : decode cX6_readCorner 20 = .ok (.aload_n 1, 1) := by decide +kernel
theorem dX6_readCorner_21 : decode cX6_readCorner 21 = .ok (.dup, 1) := by decide +kernel
theorem dX6_readCorner_22 : decode cX6_readCorner 22 = .ok (.getfield 57, 3) := by decide +kernel
theorem dX6_readCorner_25 : decode cX6_readCorner 25 = .ok (.iconst 1, 1) := by decide +kernel
theorem dX6_readCorner_26 : decode cX6_readCorner 26 = .ok (.iadd, 1) := by decide +kernel
theorem dX6_readCorner_27 : decode cX6_readCorner 27 = .ok (.putfield 57, 3) := by decide +kernel
theorem dX6_readCorner_30 : decode cX6_readCorner 30 = .ok (.iload_n 2, 1) := by decide +kernel
theorem dX6_readCorner_31 : decode cX6_readCorner 31 = .ok (.ireturn, 1) := by decide +kernel
theorem dX7_init_0 : decode cX7_init 0 = .ok (.aload_n 0, 1) := by decide +kernel
theorem dX7_init_1 : decode cX7_init 1 = .ok (.invokespecial 3, 3) := by decide +kernel
theorem dX7_init_4 : decode cX7_init 4 = .ok (.aload_n 0, 1) := by decide +kernel
theorem dX7_init_5 : decode cX7_init 5 = .ok (.sipush 260, 3) := by decide +kernel
theorem dX7_init_8 : decode cX7_init 8 = .ok (.newarray .int, 2) := by decide +kernel
theorem dX7_init_10 : decode cX7_init 10 = .ok (.putfield 9, 3) := by decide +kernel
theorem dX7_init_13 : decode cX7_init 13 = .ok (.return_, 1) := by decide +kernel
theorem dX7_put_0 : decode cX7_put 0 = .ok (.bipush 24, 2) := by decide +kernel
theorem dX7_put_2 : decode cX7_put 2 = .ok (.istore_n 2, 1) := by decide +kernel
theorem dX7_put_3 : decode cX7_put 3 = .ok (.iload_n 2, 1) := by decide +kernel
theorem dX7_put_4 : decode cX7_put 4 = .ok (.ifCond .lt 47, 3) := by decide +kernel
theorem dX7_put_7 : decode cX7_put 7 = .ok (.aload_n 0, 1) := by decide +kernel
theorem dX7_put_8 : decode cX7_put 8 = .ok (.getfield 15, 3) := by decide +kernel
theorem dX7_put_11 : decode cX7_put 11 = .ok (.aload_n 0, 1) := by decide +kernel
theorem dX7_put_12 : decode cX7_put 12 = .ok (.getfield 9, 3) := by decide +kernel
theorem dX7_put_15 : decode cX7_put 15 = .ok (.arraylength, 1) := by decide +kernel
theorem dX7_put_16 : decode cX7_put 16 = .ok (.if_icmp .ge 29, 3) := by decide +kernel
theorem dX7_put_19 : decode cX7_put 19 = .ok (.aload_n 0, 1) := by decide +kernel
theorem dX7_put_20 : decode cX7_put 20 = .ok (.getfield 9, 3) := by decide +kernel
theorem dX7_put_23 : decode cX7_put 23 = .ok (.aload_n 0, 1) := by decide +kernel
theorem dX7_put_24 : decode cX7_put 24 = .ok (.getfield 15, 3) := by decide +kernel
theorem dX7_put_27 : decode cX7_put 27 = .ok (.iload_n 1, 1) := by decide +kernel
theorem dX7_put_28 : decode cX7_put 28 = .ok (.iload_n 2, 1) := by decide +kernel
theorem dX7_put_29 : decode cX7_put 29 = .ok (.iushr, 1) := by decide +kernel
theorem dX7_put_30 : decode cX7_put 30 = .ok (.sipush 255, 3) := by decide +kernel
theorem dX7_put_33 : decode cX7_put 33 = .ok (.iand, 1) := by decide +kernel
theorem dX7_put_34 : decode cX7_put 34 = .ok (.iastore, 1) := by decide +kernel
theorem dX7_put_35 : decode cX7_put 35 = .ok (.aload_n 0, 1) := by decide +kernel
theorem dX7_put_36 : decode cX7_put 36 = .ok (.dup, 1) := by decide +kernel
theorem dX7_put_37 : decode cX7_put 37 = .ok (.getfield 15, 3) := by decide +kernel
theorem dX7_put_40 : decode cX7_put 40 = .ok (.iconst 1, 1) := by decide +kernel
theorem dX7_put_41 : decode cX7_put 41 = .ok (.iadd, 1) := by decide +kernel
theorem dX7_put_42 : decode cX7_put 42 = .ok (.putfield 15, 3) := by decide +kernel
theorem dX7_put_45 : decode cX7_put 45 = .ok (.iinc 2 (-8), 3) := by decide +kernel
theorem dX7_put_48 : decode cX7_put 48 = .ok (.goto (-45), 3) := by decide +kernel
theorem dX7_put_51 : decode cX7_put 51 = .ok (.return_, 1) := by decide +kernel
theorem dX7_gives_0 : decode cX7_gives 0 = .ok (.iload_n 1, 1) := by decide +kernel
theorem dX7_gives_1 : decode cX7_gives 1 = .ok (.iload_n 2, 1) := by decide +kernel
theorem dX7_gives_2 : decode cX7_gives 2 = .ok (.if_icmp .lt 16, 3) := by decide +kernel
