theorem dX11_beyond_30 : decode cX11_beyond 30 = .ok (.getfield 25, 3) := by decide +kernel
theorem dX11_beyond_33 : decode cX11_beyond 33 = .ok (.iload_n 1, 1) := by decide +kernel
theorem dX11_beyond_34 : decode cX11_beyond 34 = .ok (.iaload, 1) := by decide +kernel
theorem dX11_beyond_35 : decode cX11_beyond 35 = .ok (.iload_n 2, 1) := by decide +kernel
theorem dX11_beyond_36 : decode cX11_beyond 36 = .ok (.if_icmp .ne 12, 3) := by decide +kernel
theorem dX11_beyond_39 : decode cX11_beyond 39 = .ok (.aload_n 0, 1) := by decide +kernel
theorem dX11_beyond_40 : decode cX11_beyond 40 = .ok (.getfield 22, 3) := by decide +kernel
theorem dX11_beyond_43 : decode cX11_beyond 43 = .ok (.iload_n 1, 1) := by decide +kernel
theorem dX11_beyond_44 : decode cX11_beyond 44 = .ok (.iaload, 1) := by decide +kernel
theorem dX11_beyond_45 : decode cX11_beyond 45 = .ok (.goto 4, 3) := by decide +kernel
theorem dX11_beyond_48 : decode cX11_beyond 48 = .ok (.iconst (-1), 1) := by decide +kernel
theorem dX11_beyond_49 : decode cX11_beyond 49 = .ok (.ireturn, 1) := by decide +kernel
theorem dX11_nextTo_0 : decode cX11_nextTo 0 = .ok (.iconst 0, 1) := by decide +kernel
theorem dX11_nextTo_1 : decode cX11_nextTo 1 = .ok (.istore_n 2, 1) := by decide +kernel
theorem dX11_nextTo_2 : decode cX11_nextTo 2 = .ok (.iconst 0, 1) := by decide +kernel
theorem dX11_nextTo_3 : decode cX11_nextTo 3 = .ok (.istore_n 3, 1) := by decide +kernel
theorem dX11_nextTo_4 : decode cX11_nextTo 4 = .ok (.iload_n 3, 1) := by decide +kernel
theorem dX11_nextTo_5 : decode cX11_nextTo 5 = .ok (.aload_n 0, 1) := by decide +kernel
theorem dX11_nextTo_6 : decode cX11_nextTo 6 = .ok (.getfield 145, 3) := by decide +kernel
theorem dX11_nextTo_9 : decode cX11_nextTo 9 = .ok (.if_icmp .ge 30, 3) := by decide +kernel
theorem dX11_nextTo_12 : decode cX11_nextTo 12 = .ok (.aload_n 0, 1) := by decide +kernel
theorem dX11_nextTo_13 : decode cX11_nextTo 13 = .ok (.iload_n 3, 1) := by decide +kernel
theorem dX11_nextTo_14 : decode cX11_nextTo 14 = .ok (.iload_n 1, 1) := by decide +kernel
theorem dX11_nextTo_15 : decode cX11_nextTo 15 = .ok (.invokevirtual 151, 3) := by decide +kernel
theorem dX11_nextTo_18 : decode cX11_nextTo 18 = .ok (.iconst (-1), 1) := by decide +kernel
theorem dX11_nextTo_19 : decode cX11_nextTo 19 = .ok (.if_icmp .eq 14, 3) := by decide +kernel
theorem dX11_nextTo_22 : decode cX11_nextTo 22 = .ok (.iload_n 2, 1) := by decide +kernel
theorem dX11_nextTo_23 : decode cX11_nextTo 23 = .ok (.iconst 1, 1) := by decide +kernel
theorem dX11_nextTo_24 : decode cX11_nextTo 24 = .ok (.aload_n 0, 1) := by decide +kernel
theorem dX11_nextTo_25 : decode cX11_nextTo 25 = .ok (.iload_n 3, 1) := by decide +kernel
theorem dX11_nextTo_26 : decode cX11_nextTo 26 = .ok (.iload_n 1, 1) := by decide +kernel
theorem dX11_nextTo_27 : decode cX11_nextTo 27 = .ok (.invokevirtual 151, 3) := by decide +kernel
theorem dX11_nextTo_30 : decode cX11_nextTo 30 = .ok (.ishl, 1) := by decide +kernel
theorem dX11_nextTo_31 : decode cX11_nextTo 31 = .ok (.ior, 1) := by decide +kernel
theorem dX11_nextTo_32 : decode cX11_nextTo 32 = .ok (.istore_n 2, 1) := by decide +kernel
theorem dX11_nextTo_33 : decode cX11_nextTo 33 = .ok (.iinc 3 1, 3) := by decide +kernel
theorem dX11_nextTo_36 : decode cX11_nextTo 36 = .ok (.goto (-32), 3) := by decide +kernel
theorem dX11_nextTo_39 : decode cX11_nextTo 39 = .ok (.iload_n 2, 1) := by decide +kernel
theorem dX11_nextTo_40 : decode cX11_nextTo 40 = .ok (.ireturn, 1) := by decide +kernel
theorem dX11_openOf_0 : decode cX11_openOf 0 = .ok (.iconst 0, 1) := by decide +kernel
theorem dX11_openOf_1 : decode cX11_openOf 1 = .ok (.istore_n 2, 1) := by decide +kernel
theorem dX11_openOf_2 : decode cX11_openOf 2 = .ok (.iconst 0, 1) := by decide +kernel
theorem dX11_openOf_3 : decode cX11_openOf 3 = .ok (.istore_n 3, 1) := by decide +kernel
theorem dX11_openOf_4 : decode cX11_openOf 4 = .ok (.iload_n 3, 1) := by decide +kernel
theorem dX11_openOf_5 : decode cX11_openOf 5 = .ok (.aload_n 0, 1) := by decide +kernel
theorem dX11_openOf_6 : decode cX11_openOf 6 = .ok (.getfield 145, 3) := by decide +kernel
theorem dX11_openOf_9 : decode cX11_openOf 9 = .ok (.if_icmp .ge 23, 3) := by decide +kernel
theorem dX11_openOf_12 : decode cX11_openOf 12 = .ok (.aload_n 0, 1) := by decide +kernel
theorem dX11_openOf_13 : decode cX11_openOf 13 = .ok (.iload_n 3, 1) := by decide +kernel
theorem dX11_openOf_14 : decode cX11_openOf 14 = .ok (.iload_n 1, 1) := by decide +kernel
theorem dX11_openOf_15 : decode cX11_openOf 15 = .ok (.invokevirtual 151, 3) := by decide +kernel
theorem dX11_openOf_18 : decode cX11_openOf 18 = .ok (.iconst (-1), 1) := by decide +kernel
theorem dX11_openOf_19 : decode cX11_openOf 19 = .ok (.if_icmp .eq 7, 3) := by decide +kernel
theorem dX11_openOf_22 : decode cX11_openOf 22 = .ok (.iload_n 2, 1) := by decide +kernel
theorem dX11_openOf_23 : decode cX11_openOf 23 = .ok (.iconst 1, 1) := by decide +kernel
theorem dX11_openOf_24 : decode cX11_openOf 24 = .ok (.iadd, 1) := by decide +kernel
theorem dX11_openOf_25 : decode cX11_openOf 25 = .ok (.istore_n 2, 1) := by decide +kernel
theorem dX11_openOf_26 : decode cX11_openOf 26 = .ok (.iinc 3 1, 3) := by decide +kernel
theorem dX11_openOf_29 : decode cX11_openOf 29 = .ok (.goto (-25), 3) := by decide +kernel
theorem dX11_openOf_32 : decode cX11_openOf 32 = .ok (.iload_n 2, 1) := by decide +kernel
theorem dX11_openOf_33 : decode cX11_openOf 33 = .ok (.ireturn, 1) := by decide +kernel
theorem dX11_types_0 : decode cX11_types 0 = .ok (.iconst 3, 1) := by decide +kernel
theorem dX11_types_1 : decode cX11_types 1 = .ok (.istore_n 2, 1) := by decide +kernel
theorem dX11_types_2 : decode cX11_types 2 = .ok (.iload_n 2, 1) := by decide +kernel
theorem dX11_types_3 : decode cX11_types 3 = .ok (.ifCond .lt 35, 3) := by decide +kernel
theorem dX11_types_6 : decode cX11_types 6 = .ok (.aload_n 0, 1) := by decide +kernel
theorem dX11_types_7 : decode cX11_types 7 = .ok (.getfield 31, 3) := by decide +kernel
theorem dX11_types_10 : decode cX11_types 10 = .ok (.aload_n 0, 1) := by decide +kernel
theorem dX11_types_11 : decode cX11_types 11 = .ok (.getfield 155, 3) := by decide +kernel
theorem dX11_types_14 : decode cX11_types 14 = .ok (.iload_n 1, 1) := by decide +kernel
theorem dX11_types_15 : decode cX11_types 15 = .ok (.bipush 8, 2) := by decide +kernel
theorem dX11_types_17 : decode cX11_types 17 = .ok (.iload_n 2, 1) := by decide +kernel
theorem dX11_types_18 : decode cX11_types 18 = .ok (.imul, 1) := by decide +kernel
theorem dX11_types_19 : decode cX11_types 19 = .ok (.ishr, 1) := by decide +kernel
theorem dX11_types_20 : decode cX11_types 20 = .ok (.i2b, 1) := by decide +kernel
theorem dX11_types_21 : decode cX11_types 21 = .ok (.bastore, 1) := by decide +kernel
theorem dX11_types_22 : decode cX11_types 22 = .ok (.aload_n 0, 1) := by decide +kernel
theorem dX11_types_23 : decode cX11_types 23 = .ok (.aload_n 0, 1) := by decide +kernel
theorem dX11_types_24 : decode cX11_types 24 = .ok (.getfield 155, 3) := by decide +kernel
theorem dX11_types_27 : decode cX11_types 27 = .ok (.iconst 1, 1) := by decide +kernel
theorem dX11_types_28 : decode cX11_types 28 = .ok (.iadd, 1) := by decide +kernel
theorem dX11_types_29 : decode cX11_types 29 = .ok (.putfield 155, 3) := by decide +kernel
theorem dX11_types_32 : decode cX11_types 32 = .ok (.iinc 2 (-1), 3) := by decide +kernel
theorem dX11_types_35 : decode cX11_types 35 = .ok (.goto (-33), 3) := by decide +kernel
theorem dX11_types_38 : decode cX11_types 38 = .ok (.return_, 1) := by decide +kernel
theorem dX11_feed_0 : decode cX11_feed 0 = .ok (.aload_n 0, 1) := by decide +kernel
theorem dX11_feed_1 : decode cX11_feed 1 = .ok (.getfield 155, 3) := by decide +kernel
theorem dX11_feed_4 : decode cX11_feed 4 = .ok (.bipush 20, 2) := by decide +kernel
theorem dX11_feed_6 : decode cX11_feed 6 = .ok (.iadd, 1) := by decide +kernel
theorem dX11_feed_7 : decode cX11_feed 7 = .ok (.sipush 260, 3) := by decide +kernel
theorem dX11_feed_10 : decode cX11_feed 10 = .ok (.if_icmp .le 5, 3) := by decide +kernel
theorem dX11_feed_13 : decode cX11_feed 13 = .ok (.iconst (-1), 1) := by decide +kernel
theorem dX11_feed_14 : decode cX11_feed 14 = .ok (.ireturn, 1) := by decide +kernel
theorem dX11_feed_15 : decode cX11_feed 15 = .ok (.aload_n 0, 1) := by decide +kernel
theorem dX11_feed_16 : decode cX11_feed 16 = .ok (.iload_n 1, 1) := by decide +kernel
theorem dX11_feed_17 : decode cX11_feed 17 = .ok (.invokevirtual 158, 3) := by decide +kernel
theorem dX11_feed_20 : decode cX11_feed 20 = .ok (.aload_n 0, 1) := by decide +kernel
theorem dX11_feed_21 : decode cX11_feed 21 = .ok (.iload_n 2, 1) := by decide +kernel
theorem dX11_feed_22 : decode cX11_feed 22 = .ok (.invokevirtual 158, 3) := by decide +kernel
theorem dX11_feed_25 : decode cX11_feed 25 = .ok (.aload_n 0, 1) := by decide +kernel
theorem dX11_feed_26 : decode cX11_feed 26 = .ok (.iload_n 3, 1) := by decide +kernel
theorem dX11_feed_27 : decode cX11_feed 27 = .ok (.invokevirtual 158, 3) := by decide +kernel
theorem dX11_feed_30 : decode cX11_feed 30 = .ok (.aload_n 0, 1) := by decide +kernel
theorem dX11_feed_31 : decode cX11_feed 31 = .ok (.iload 4, 2) := by decide +kernel
theorem dX11_feed_33 : decode cX11_feed 33 = .ok (.invokevirtual 158, 3) := by decide +kernel
theorem dX11_feed_36 : decode cX11_feed 36 = .ok (.aload_n 0, 1) := by decide +kernel
theorem dX11_feed_37 : decode cX11_feed 37 = .ok (.iload 5, 2) := by decide +kernel
theorem dX11_feed_39 : decode cX11_feed 39 = .ok (.invokevirtual 158, 3) := by decide +kernel
theorem dX11_feed_42 : decode cX11_feed 42 = .ok (.aload_n 0, 1) := by decide +kernel
theorem dX11_feed_43 : decode cX11_feed 43 = .ok (.getfield 155, 3) := by decide +kernel
theorem dX11_feed_46 : decode cX11_feed 46 = .ok (.ireturn, 1) := by decide +kernel
theorem dX11_octet_0 : decode cX11_octet 0 = .ok (.aload_n 0, 1) := by decide +kernel
theorem dX11_octet_1 : decode cX11_octet 1 = .ok (.getfield 31, 3) := by decide +kernel
theorem dX11_octet_4 : decode cX11_octet 4 = .ok (.iload_n 1, 1) := by decide +kernel
theorem dX11_octet_5 : decode cX11_octet 5 = .ok (.baload, 1) := by decide +kernel
theorem dX11_octet_6 : decode cX11_octet 6 = .ok (.sipush 255, 3) := by decide +kernel
theorem dX11_octet_9 : decode cX11_octet 9 = .ok (.iand, 1) := by decide +kernel
theorem dX11_octet_10 : decode cX11_octet 10 = .ok (.ireturn, 1) := by decide +kernel
theorem dX11_here_0 : decode cX11_here 0 = .ok (.aload_n 0, 1) := by decide +kernel
theorem dX11_here_1 : decode cX11_here 1 = .ok (.getfield 162, 3) := by decide +kernel
theorem dX11_here_4 : decode cX11_here 4 = .ok (.aload_n 0, 1) := by decide +kernel
theorem dX11_here_5 : decode cX11_here 5 = .ok (.getfield 165, 3) := by decide +kernel
theorem dX11_here_8 : decode cX11_here 8 = .ok (.if_icmp .ge 19, 3) := by decide +kernel
theorem dX11_here_11 : decode cX11_here 11 = .ok (.aload_n 0, 1) := by decide +kernel
theorem dX11_here_12 : decode cX11_here 12 = .ok (.getfield 31, 3) := by decide +kernel
theorem dX11_here_15 : decode cX11_here 15 = .ok (.aload_n 0, 1) := by decide +kernel
theorem dX11_here_16 : decode cX11_here 16 = .ok (.getfield 162, 3) := by decide +kernel
theorem dX11_here_19 : decode cX11_here 19 = .ok (.baload, 1) := by decide +kernel
theorem dX11_here_20 : decode cX11_here 20 = .ok (.sipush 255, 3) := by decide +kernel
theorem dX11_here_23 : decode cX11_here 23 = .ok (.iand, 1) := by decide +kernel
theorem dX11_here_24 : decode cX11_here 24 = .ok (.goto 4, 3) := by decide +kernel
theorem dX11_here_27 : decode cX11_here 27 = .ok (.iconst (-1), 1) := by decide +kernel
theorem dX11_here_28 : decode cX11_here 28 = .ok (.ireturn, 1) := by decide +kernel
theorem dX11_isDigit_0 : decode cX11_isDigit 0 = .ok (.aload_n 0, 1) := by decide +kernel
theorem dX11_isDigit_1 : decode cX11_isDigit 1 = .ok (.invokevirtual 168, 3) := by decide +kernel
theorem dX11_isDigit_4 : decode cX11_isDigit 4 = .ok (.bipush 48, 2) := by decide +kernel
theorem dX11_isDigit_6 : decode cX11_isDigit 6 = .ok (.if_icmp .lt 16, 3) := by decide +kernel
theorem dX11_isDigit_9 : decode cX11_isDigit 9 = .ok (.aload_n 0, 1) := by decide +kernel
theorem dX11_isDigit_10 : decode cX11_isDigit 10 = .ok (.invokevirtual 168, 3) := by decide +kernel
theorem dX11_isDigit_13 : decode cX11_isDigit 13 = .ok (.bipush 57, 2) := by decide +kernel
theorem dX11_isDigit_15 : decode cX11_isDigit 15 = .ok (.if_icmp .gt 7, 3) := by decide +kernel
theorem dX11_isDigit_18 : decode cX11_isDigit 18 = .ok (.iconst 1, 1) := by decide +kernel
theorem dX11_isDigit_19 : decode cX11_isDigit 19 = .ok (.goto 4, 3) := by decide +kernel
theorem dX11_isDigit_22 : decode cX11_isDigit 22 = .ok (.iconst 0, 1) := by decide +kernel
theorem dX11_isDigit_23 : decode cX11_isDigit 23 = .ok (.ireturn, 1) := by decide +kernel
theorem dX11_wrongAt_0 : decode cX11_wrongAt 0 = .ok (.aload_n 0, 1) := by decide +kernel
theorem dX11_wrongAt_1 : decode cX11_wrongAt 1 = .ok (.sipush (-1000), 3) := by decide +kernel
theorem dX11_wrongAt_4 : decode cX11_wrongAt 4 = .ok (.iload_n 1, 1) := by decide +kernel
theorem dX11_wrongAt_5 : decode cX11_wrongAt 5 = .ok (.imul, 1) := by decide +kernel
theorem dX11_wrongAt_6 : decode cX11_wrongAt 6 = .ok (.iload_n 2, 1) := by decide +kernel
theorem dX11_wrongAt_7 : decode cX11_wrongAt 7 = .ok (.isub, 1) := by decide +kernel
theorem dX11_wrongAt_8 : decode cX11_wrongAt 8 = .ok (.putfield 172, 3) := by decide +kernel
theorem dX11_wrongAt_11 : decode cX11_wrongAt 11 = .ok (.iconst 0, 1) := by decide +kernel
theorem dX11_wrongAt_12 : decode cX11_wrongAt 12 = .ok (.ireturn, 1) := by decide +kernel
theorem dX11_takes_0 : decode cX11_takes 0 = .ok (.aload_n 0, 1) := by decide +kernel
theorem dX11_takes_1 : decode cX11_takes 1 = .ok (.invokevirtual 168, 3) := by decide +kernel
theorem dX11_takes_4 : decode cX11_takes 4 = .ok (.iload_n 1, 1) := by decide +kernel
theorem dX11_takes_5 : decode cX11_takes 5 = .ok (.if_icmp .eq 13, 3) := by decide +kernel
theorem dX11_takes_8 : decode cX11_takes 8 = .ok (.aload_n 0, 1) := by decide +kernel
theorem dX11_takes_9 : decode cX11_takes 9 = .ok (.iconst 1, 1) := by decide +kernel
theorem dX11_takes_10 : decode cX11_takes 10 = .ok (.aload_n 0, 1) := by decide +kernel
theorem dX11_takes_11 : decode cX11_takes 11 = .ok (.getfield 162, 3) := by decide +kernel
theorem dX11_takes_14 : decode cX11_takes 14 = .ok (.invokevirtual 175, 3) := by decide +kernel
theorem dX11_takes_17 : decode cX11_takes 17 = .ok (.ireturn, 1) := by decide +kernel
theorem dX11_takes_18 : decode cX11_takes 18 = .ok (.aload_n 0, 1) := by decide +kernel
theorem dX11_takes_19 : decode cX11_takes 19 = .ok (.aload_n 0, 1) := by decide +kernel
theorem dX11_takes_20 : decode cX11_takes 20 = .ok (.getfield 162, 3) := by decide +kernel
theorem dX11_takes_23 : decode cX11_takes 23 = .ok (.iconst 1, 1) := by decide +kernel
theorem dX11_takes_24 : decode cX11_takes 24 = .ok (.iadd, 1) := by decide +kernel
theorem dX11_takes_25 : decode cX11_takes 25 = .ok (.putfield 162, 3) := by decide +kernel
theorem dX11_takes_28 : decode cX11_takes 28 = .ok (.iconst 1, 1) := by decide +kernel
theorem dX11_takes_29 : decode cX11_takes 29 = .ok (.ireturn, 1) := by decide +kernel
theorem dX11_readsNumber_0 : decode cX11_readsNumber 0 = .ok (.aload_n 0, 1) := by decide +kernel
theorem dX11_readsNumber_1 : decode cX11_readsNumber 1 = .ok (.getfield 162, 3) := by decide +kernel
theorem dX11_readsNumber_4 : decode cX11_readsNumber 4 = .ok (.istore_n 1, 1) := by decide +kernel
theorem dX11_readsNumber_5 : decode cX11_readsNumber 5 = .ok (.aload_n 0, 1) := by decide +kernel
theorem dX11_readsNumber_6 : decode cX11_readsNumber 6 = .ok (.iconst 0, 1) := by decide +kernel
theorem dX11_readsNumber_7 : decode cX11_readsNumber 7 = .ok (.putfield 178, 3) := by decide +kernel
theorem dX11_readsNumber_10 : decode cX11_readsNumber 10 = .ok (.aload_n 0, 1) := by decide +kernel
theorem dX11_readsNumber_11 : decode cX11_readsNumber 11 = .ok (.invokevirtual 181, 3) := by decide +kernel
theorem dX11_readsNumber_14 : decode cX11_readsNumber 14 = .ok (.ifCond .eq 55, 3) := by decide +kernel
theorem dX11_readsNumber_17 : decode cX11_readsNumber 17 = .ok (.aload_n 0, 1) := by decide +kernel
theorem dX11_readsNumber_18 : decode cX11_readsNumber 18 = .ok (.getfield 162, 3) := by decide +kernel
theorem dX11_readsNumber_21 : decode cX11_readsNumber 21 = .ok (.iload_n 1, 1) := by decide +kernel
theorem dX11_readsNumber_22 : decode cX11_readsNumber 22 = .ok (.iconst 5, 1) := by decide +kernel
theorem dX11_readsNumber_23 : decode cX11_readsNumber 23 = .ok (.iadd, 1) := by decide +kernel
theorem dX11_readsNumber_24 : decode cX11_readsNumber 24 = .ok (.if_icmp .ne 13, 3) := by decide +kernel
theorem dX11_readsNumber_27 : decode cX11_readsNumber 27 = .ok (.aload_n 0, 1) := by decide +kernel
theorem dX11_readsNumber_28 : decode cX11_readsNumber 28 = .ok (.iconst 2, 1) := by decide +kernel
theorem dX11_readsNumber_29 : decode cX11_readsNumber 29 = .ok (.aload_n 0, 1) := by decide +kernel
theorem dX11_readsNumber_30 : decode cX11_readsNumber 30 = .ok (.getfield 162, 3) := by decide +kernel
theorem dX11_readsNumber_33 : decode cX11_readsNumber 33 = .ok (.invokevirtual 175, 3) := by decide +kernel
theorem dX11_readsNumber_36 : decode cX11_readsNumber 36 = .ok (.ireturn, 1) := by decide +kernel
theorem dX11_readsNumber_37 : decode cX11_readsNumber 37 = .ok (.aload_n 0, 1) := by decide +kernel
theorem dX11_readsNumber_38 : decode cX11_readsNumber 38 = .ok (.bipush 10, 2) := by decide +kernel
theorem dX11_readsNumber_40 : decode cX11_readsNumber 40 = .ok (.aload_n 0, 1) := by decide +kernel
theorem dX11_readsNumber_41 : decode cX11_readsNumber 41 = .ok (.getfield 178, 3) := by decide +kernel
theorem dX11_readsNumber_44 : decode cX11_readsNumber 44 = .ok (.imul, 1) := by decide +kernel
theorem dX11_readsNumber_45 : decode cX11_readsNumber 45 = .ok (.aload_n 0, 1) := by decide +kernel
theorem dX11_readsNumber_46 : decode cX11_readsNumber 46 = .ok (.invokevirtual 168, 3) := by decide +kernel
theorem dX11_readsNumber_49 : decode cX11_readsNumber 49 = .ok (.iadd, 1) := by decide +kernel
theorem dX11_readsNumber_50 : decode cX11_readsNumber 50 = .ok (.bipush 48, 2) := by decide +kernel
theorem dX11_readsNumber_52 : decode cX11_readsNumber 52 = .ok (.isub, 1) := by decide +kernel
theorem dX11_readsNumber_53 : decode cX11_readsNumber 53 = .ok (.putfield 178, 3) := by decide +kernel
theorem dX11_readsNumber_56 : decode cX11_readsNumber 56 = .ok (.aload_n 0, 1) := by decide +kernel
theorem dX11_readsNumber_57 : decode cX11_readsNumber 57 = .ok (.aload_n 0, 1) := by decide +kernel
theorem dX11_readsNumber_58 : decode cX11_readsNumber 58 = .ok (.getfield 162, 3) := by decide +kernel
theorem dX11_readsNumber_61 : decode cX11_readsNumber 61 = .ok (.iconst 1, 1) := by decide +kernel
theorem dX11_readsNumber_62 : decode cX11_readsNumber 62 = .ok (.iadd, 1) := by decide +kernel
theorem dX11_readsNumber_63 : decode cX11_readsNumber 63 = .ok (.putfield 162, 3) := by decide +kernel
theorem dX11_readsNumber_66 : decode cX11_readsNumber 66 = .ok (.goto (-56), 3) := by decide +kernel
theorem dX11_readsNumber_69 : decode cX11_readsNumber 69 = .ok (.iconst 1, 1) := by decide +kernel
theorem dX11_readsNumber_70 : decode cX11_readsNumber 70 = .ok (.ireturn, 1) := by decide +kernel
theorem dX11_notes_0 : decode cX11_notes 0 = .ok (.aload_n 0, 1) := by decide +kernel
theorem dX11_notes_1 : decode cX11_notes 1 = .ok (.getfield 35, 3) := by decide +kernel
theorem dX11_notes_4 : decode cX11_notes 4 = .ok (.aload_n 0, 1) := by decide +kernel
theorem dX11_notes_5 : decode cX11_notes 5 = .ok (.getfield 185, 3) := by decide +kernel
theorem dX11_notes_8 : decode cX11_notes 8 = .ok (.ldc 188, 2) := by decide +kernel
theorem dX11_notes_10 : decode cX11_notes 10 = .ok (.iload_n 1, 1) := by decide +kernel
theorem dX11_notes_11 : decode cX11_notes 11 = .ok (.imul, 1) := by decide +kernel
theorem dX11_notes_12 : decode cX11_notes 12 = .ok (.iload_n 2, 1) := by decide +kernel
theorem dX11_notes_13 : decode cX11_notes 13 = .ok (.iadd, 1) := by decide +kernel
theorem dX11_notes_14 : decode cX11_notes 14 = .ok (.iastore, 1) := by decide +kernel
theorem dX11_notes_15 : decode cX11_notes 15 = .ok (.aload_n 0, 1) := by decide +kernel
theorem dX11_notes_16 : decode cX11_notes 16 = .ok (.aload_n 0, 1) := by decide +kernel
theorem dX11_notes_17 : decode cX11_notes 17 = .ok (.getfield 185, 3) := by decide +kernel
theorem dX11_notes_20 : decode cX11_notes 20 = .ok (.iconst 1, 1) := by decide +kernel
theorem dX11_notes_21 : decode cX11_notes 21 = .ok (.iadd, 1) := by decide +kernel
theorem dX11_notes_22 : decode cX11_notes 22 = .ok (.putfield 185, 3) := by decide +kernel
theorem dX11_notes_25 : decode cX11_notes 25 = .ok (.return_, 1) := by decide +kernel
theorem dX11_opens_0 : decode cX11_opens 0 = .ok (.aload_n 0, 1) := by decide +kernel
theorem dX11_opens_1 : decode cX11_opens 1 = .ok (.getfield 189, 3) := by decide +kernel
theorem dX11_opens_4 : decode cX11_opens 4 = .ok (.bipush 6, 2) := by decide +kernel
theorem dX11_opens_6 : decode cX11_opens 6 = .ok (.if_icmp .ne 13, 3) := by decide +kernel
theorem dX11_opens_9 : decode cX11_opens 9 = .ok (.aload_n 0, 1) := by decide +kernel
theorem dX11_opens_10 : decode cX11_opens 10 = .ok (.iconst 5, 1) := by decide +kernel
theorem dX11_opens_11 : decode cX11_opens 11 = .ok (.aload_n 0, 1) := by decide +kernel
theorem dX11_opens_12 : decode cX11_opens 12 = .ok (.getfield 162, 3) := by decide +kernel
theorem dX11_opens_15 : decode cX11_opens 15 = .ok (.invokevirtual 175, 3) := by decide +kernel
theorem dX11_opens_18 : decode cX11_opens 18 = .ok (.ireturn, 1) := by decide +kernel
theorem dX11_opens_19 : decode cX11_opens 19 = .ok (.aload_n 0, 1) := by decide +kernel
theorem dX11_opens_20 : decode cX11_opens 20 = .ok (.aload_n 0, 1) := by decide +kernel
theorem dX11_opens_21 : decode cX11_opens 21 = .ok (.getfield 189, 3) := by decide +kernel
theorem dX11_opens_24 : decode cX11_opens 24 = .ok (.iconst 1, 1) := by decide +kernel
theorem dX11_opens_25 : decode cX11_opens 25 = .ok (.iadd, 1) := by decide +kernel
theorem dX11_opens_26 : decode cX11_opens 26 = .ok (.putfield 189, 3) := by decide +kernel
theorem dX11_opens_29 : decode cX11_opens 29 = .ok (.aload_n 0, 1) := by decide +kernel
theorem dX11_opens_30 : decode cX11_opens 30 = .ok (.getfield 38, 3) := by decide +kernel
theorem dX11_opens_33 : decode cX11_opens 33 = .ok (.aload_n 0, 1) := by decide +kernel
theorem dX11_opens_34 : decode cX11_opens 34 = .ok (.getfield 192, 3) := by decide +kernel
theorem dX11_opens_37 : decode cX11_opens 37 = .ok (.ldc 188, 2) := by decide +kernel
theorem dX11_opens_39 : decode cX11_opens 39 = .ok (.iload_n 1, 1) := by decide +kernel
theorem dX11_opens_40 : decode cX11_opens 40 = .ok (.imul, 1) := by decide +kernel
theorem dX11_opens_41 : decode cX11_opens 41 = .ok (.iastore, 1) := by decide +kernel
theorem dX11_opens_42 : decode cX11_opens 42 = .ok (.aload_n 0, 1) := by decide +kernel
theorem dX11_opens_43 : decode cX11_opens 43 = .ok (.aload_n 0, 1) := by decide +kernel
theorem dX11_opens_44 : decode cX11_opens 44 = .ok (.getfield 192, 3) := by decide +kernel
theorem dX11_opens_47 : decode cX11_opens 47 = .ok (.iconst 1, 1) := by decide +kernel
theorem dX11_opens_48 : decode cX11_opens 48 = .ok (.iadd, 1) := by decide +kernel
theorem dX11_opens_49 : decode cX11_opens 49 = .ok (.putfield 192, 3) := by decide +kernel
theorem dX11_opens_52 : decode cX11_opens 52 = .ok (.aload_n 0, 1) := by decide +kernel
theorem dX11_opens_53 : decode cX11_opens 53 = .ok (.aload_n 0, 1) := by decide +kernel
theorem dX11_opens_54 : decode cX11_opens 54 = .ok (.getfield 162, 3) := by decide +kernel
theorem dX11_opens_57 : decode cX11_opens 57 = .ok (.iconst 1, 1) := by decide +kernel
theorem dX11_opens_58 : decode cX11_opens 58 = .ok (.iadd, 1) := by decide +kernel
theorem dX11_opens_59 : decode cX11_opens 59 = .ok (.putfield 162, 3) := by decide +kernel
theorem dX11_opens_62 : decode cX11_opens 62 = .ok (.iconst 1, 1) := by decide +kernel
theorem dX11_opens_63 : decode cX11_opens 63 = .ok (.ireturn, 1) := by decide +kernel
theorem dX11_waitTop_0 : decode cX11_waitTop 0 = .ok (.aload_n 0, 1) := by decide +kernel
theorem dX11_waitTop_1 : decode cX11_waitTop 1 = .ok (.getfield 192, 3) := by decide +kernel
theorem dX11_waitTop_4 : decode cX11_waitTop 4 = .ok (.ifCond .ne 7, 3) := by decide +kernel
theorem dX11_waitTop_7 : decode cX11_waitTop 7 = .ok (.iconst (-1), 1) := by decide +kernel
theorem dX11_waitTop_8 : decode cX11_waitTop 8 = .ok (.goto 17, 3) := by decide +kernel
theorem dX11_waitTop_11 : decode cX11_waitTop 11 = .ok (.aload_n 0, 1) := by decide +kernel
theorem dX11_waitTop_12 : decode cX11_waitTop 12 = .ok (.getfield 38, 3) := by decide +kernel
theorem dX11_waitTop_15 : decode cX11_waitTop 15 = .ok (.aload_n 0, 1) := by decide +kernel
theorem dX11_waitTop_16 : decode cX11_waitTop 16 = .ok (.getfield 192, 3) := by decide +kernel
theorem dX11_waitTop_19 : decode cX11_waitTop 19 = .ok (.iconst 1, 1) := by decide +kernel
theorem dX11_waitTop_20 : decode cX11_waitTop 20 = .ok (.isub, 1) := by decide +kernel
theorem dX11_waitTop_21 : decode cX11_waitTop 21 = .ok (.iaload, 1) := by decide +kernel
theorem dX11_waitTop_22 : decode cX11_waitTop 22 = .ok (.ldc 188, 2) := by decide +kernel
theorem dX11_waitTop_24 : decode cX11_waitTop 24 = .ok (.idiv, 1) := by decide +kernel
theorem dX11_waitTop_25 : decode cX11_waitTop 25 = .ok (.ireturn, 1) := by decide +kernel
theorem dX11_factOf_0 : decode cX11_factOf 0 = .ok (.iload_n 0, 1) := by decide +kernel
theorem dX11_factOf_1 : decode cX11_factOf 1 = .ok (.tableswitch 131 97 119 #[122, 131, 107, 131, 131, 131, 131, 109, 131, 131, 131, 131, 117, 115, 131, 131, 119, 131, 111, 125, 113, 131, 128], 107) := by decide +kernel
theorem dX11_factOf_108 : decode cX11_factOf 108 = .ok (.iconst 0, 1) := by decide +kernel
theorem dX11_factOf_109 : decode cX11_factOf 109 = .ok (.ireturn, 1) := by decide +kernel
theorem dX11_factOf_110 : decode cX11_factOf 110 = .ok (.iconst 1, 1) := by decide +kernel
theorem dX11_factOf_111 : decode cX11_factOf 111 = .ok (.ireturn, 1) := by decide +kernel
theorem dX11_factOf_112 : decode cX11_factOf 112 = .ok (.iconst 2, 1) := by decide +kernel
theorem dX11_factOf_113 : decode cX11_factOf 113 = .ok (.ireturn, 1) := by decide +kernel
theorem dX11_factOf_114 : decode cX11_factOf 114 = .ok (.iconst 3, 1) := by decide +kernel
theorem dX11_factOf_115 : decode cX11_factOf 115 = .ok (.ireturn, 1) := by decide +kernel
theorem dX11_factOf_116 : decode cX11_factOf 116 = .ok (.iconst 4, 1) := by decide +kernel
theorem dX11_factOf_117 : decode cX11_factOf 117 = .ok (.ireturn, 1) := by decide +kernel
theorem dX11_factOf_118 : decode cX11_factOf 118 = .ok (.iconst 5, 1) := by decide +kernel
theorem dX11_factOf_119 : decode cX11_factOf 119 = .ok (.ireturn, 1) := by decide +kernel
theorem dX11_factOf_120 : decode cX11_factOf 120 = .ok (.bipush 6, 2) := by decide +kernel
theorem dX11_factOf_122 : decode cX11_factOf 122 = .ok (.ireturn, 1) := by decide +kernel
theorem dX11_factOf_123 : decode cX11_factOf 123 = .ok (.bipush 7, 2) := by decide +kernel
theorem dX11_factOf_125 : decode cX11_factOf 125 = .ok (.ireturn, 1) := by decide +kernel
theorem dX11_factOf_126 : decode cX11_factOf 126 = .ok (.bipush 8, 2) := by decide +kernel
theorem dX11_factOf_128 : decode cX11_factOf 128 = .ok (.ireturn, 1) := by decide +kernel
theorem dX11_factOf_129 : decode cX11_factOf 129 = .ok (.bipush 9, 2) := by decide +kernel
theorem dX11_factOf_131 : decode cX11_factOf 131 = .ok (.ireturn, 1) := by decide +kernel
theorem dX11_factOf_132 : decode cX11_factOf 132 = .ok (.iconst (-1), 1) := by decide +kernel
theorem dX11_factOf_133 : decode cX11_factOf 133 = .ok (.ireturn, 1) := by decide +kernel
theorem dX11_sumSign_0 : decode cX11_sumSign 0 = .ok (.iload_n 0, 1) := by decide +kernel
theorem dX11_sumSign_1 : decode cX11_sumSign 1 = .ok (.bipush 43, 2) := by decide +kernel
theorem dX11_sumSign_3 : decode cX11_sumSign 3 = .ok (.if_icmp .ne 7, 3) := by decide +kernel
theorem dX11_sumSign_6 : decode cX11_sumSign 6 = .ok (.iconst 2, 1) := by decide +kernel
theorem dX11_sumSign_7 : decode cX11_sumSign 7 = .ok (.goto 45, 3) := by decide +kernel
theorem dX11_sumSign_10 : decode cX11_sumSign 10 = .ok (.iload_n 0, 1) := by decide +kernel
theorem dX11_sumSign_11 : decode cX11_sumSign 11 = .ok (.bipush 45, 2) := by decide +kernel
theorem dX11_sumSign_13 : decode cX11_sumSign 13 = .ok (.if_icmp .ne 7, 3) := by decide +kernel
theorem dX11_sumSign_16 : decode cX11_sumSign 16 = .ok (.iconst 3, 1) := by decide +kernel
theorem dX11_sumSign_17 : decode cX11_sumSign 17 = .ok (.goto 35, 3) := by decide +kernel
theorem dX11_sumSign_20 : decode cX11_sumSign 20 = .ok (.iload_n 0, 1) := by decide +kernel
theorem dX11_sumSign_21 : decode cX11_sumSign 21 = .ok (.bipush 42, 2) := by decide +kernel
theorem dX11_sumSign_23 : decode cX11_sumSign 23 = .ok (.if_icmp .ne 7, 3) := by decide +kernel
theorem dX11_sumSign_26 : decode cX11_sumSign 26 = .ok (.iconst 4, 1) := by decide +kernel
theorem dX11_sumSign_27 : decode cX11_sumSign 27 = .ok (.goto 25, 3) := by decide +kernel
theorem dX11_sumSign_30 : decode cX11_sumSign 30 = .ok (.iload_n 0, 1) := by decide +kernel
theorem dX11_sumSign_31 : decode cX11_sumSign 31 = .ok (.bipush 47, 2) := by decide +kernel
theorem dX11_sumSign_33 : decode cX11_sumSign 33 = .ok (.if_icmp .ne 7, 3) := by decide +kernel
theorem dX11_sumSign_36 : decode cX11_sumSign 36 = .ok (.iconst 5, 1) := by decide +kernel
theorem dX11_sumSign_37 : decode cX11_sumSign 37 = .ok (.goto 15, 3) := by decide +kernel
theorem dX11_sumSign_40 : decode cX11_sumSign 40 = .ok (.iload_n 0, 1) := by decide +kernel
theorem dX11_sumSign_41 : decode cX11_sumSign 41 = .ok (.bipush 37, 2) := by decide +kernel
theorem dX11_sumSign_43 : decode cX11_sumSign 43 = .ok (.if_icmp .ne 8, 3) := by decide +kernel
theorem dX11_sumSign_46 : decode cX11_sumSign 46 = .ok (.bipush 6, 2) := by decide +kernel
theorem dX11_sumSign_48 : decode cX11_sumSign 48 = .ok (.goto 4, 3) := by decide +kernel
theorem dX11_sumSign_51 : decode cX11_sumSign 51 = .ok (.iconst (-1), 1) := by decide +kernel
theorem dX11_sumSign_52 : decode cX11_sumSign 52 = .ok (.ireturn, 1) := by decide +kernel
theorem dX11_closesSums_0 : decode cX11_closesSums 0 = .ok (.aload_n 0, 1) := by decide +kernel
theorem dX11_closesSums_1 : decode cX11_closesSums 1 = .ok (.invokevirtual 195, 3) := by decide +kernel
theorem dX11_closesSums_4 : decode cX11_closesSums 4 = .ok (.iconst 4, 1) := by decide +kernel
theorem dX11_closesSums_5 : decode cX11_closesSums 5 = .ok (.if_icmp .lt 12, 3) := by decide +kernel
theorem dX11_closesSums_8 : decode cX11_closesSums 8 = .ok (.aload_n 0, 1) := by decide +kernel
theorem dX11_closesSums_9 : decode cX11_closesSums 9 = .ok (.invokevirtual 195, 3) := by decide +kernel
theorem dX11_closesSums_12 : decode cX11_closesSums 12 = .ok (.bipush 6, 2) := by decide +kernel
theorem dX11_closesSums_14 : decode cX11_closesSums 14 = .ok (.if_icmp .le 23, 3) := by decide +kernel
theorem dX11_closesSums_17 : decode cX11_closesSums 17 = .ok (.iload_n 1, 1) := by decide +kernel
theorem dX11_closesSums_18 : decode cX11_closesSums 18 = .ok (.ifCond .eq 41, 3) := by decide +kernel
theorem dX11_closesSums_21 : decode cX11_closesSums 21 = .ok (.aload_n 0, 1) := by decide +kernel
theorem dX11_closesSums_22 : decode cX11_closesSums 22 = .ok (.invokevirtual 195, 3) := by decide +kernel
theorem dX11_closesSums_25 : decode cX11_closesSums 25 = .ok (.iconst 2, 1) := by decide +kernel
theorem dX11_closesSums_26 : decode cX11_closesSums 26 = .ok (.if_icmp .eq 11, 3) := by decide +kernel
theorem dX11_closesSums_29 : decode cX11_closesSums 29 = .ok (.aload_n 0, 1) := by decide +kernel
theorem dX11_closesSums_30 : decode cX11_closesSums 30 = .ok (.invokevirtual 195, 3) := by decide +kernel
theorem dX11_closesSums_33 : decode cX11_closesSums 33 = .ok (.iconst 3, 1) := by decide +kernel
theorem dX11_closesSums_34 : decode cX11_closesSums 34 = .ok (.if_icmp .ne 25, 3) := by decide +kernel
theorem dX11_closesSums_37 : decode cX11_closesSums 37 = .ok (.aload_n 0, 1) := by decide +kernel
theorem dX11_closesSums_38 : decode cX11_closesSums 38 = .ok (.aload_n 0, 1) := by decide +kernel
theorem dX11_closesSums_39 : decode cX11_closesSums 39 = .ok (.invokevirtual 195, 3) := by decide +kernel
theorem dX11_closesSums_42 : decode cX11_closesSums 42 = .ok (.iconst 0, 1) := by decide +kernel
theorem dX11_closesSums_43 : decode cX11_closesSums 43 = .ok (.invokevirtual 198, 3) := by decide +kernel
theorem dX11_closesSums_46 : decode cX11_closesSums 46 = .ok (.aload_n 0, 1) := by decide +kernel
theorem dX11_closesSums_47 : decode cX11_closesSums 47 = .ok (.aload_n 0, 1) := by decide +kernel
theorem dX11_closesSums_48 : decode cX11_closesSums 48 = .ok (.getfield 192, 3) := by decide +kernel
theorem dX11_closesSums_51 : decode cX11_closesSums 51 = .ok (.iconst 1, 1) := by decide +kernel
theorem dX11_closesSums_52 : decode cX11_closesSums 52 = .ok (.isub, 1) := by decide +kernel
theorem dX11_closesSums_53 : decode cX11_closesSums 53 = .ok (.putfield 192, 3) := by decide +kernel
theorem dX11_closesSums_56 : decode cX11_closesSums 56 = .ok (.goto (-56), 3) := by decide +kernel
theorem dX11_closesSums_59 : decode cX11_closesSums 59 = .ok (.return_, 1) := by decide +kernel
theorem dX11_readsFactor_0 : decode cX11_readsFactor 0 = .ok (.aload_n 0, 1) := by decide +kernel
theorem dX11_readsFactor_1 : decode cX11_readsFactor 1 = .ok (.invokevirtual 168, 3) := by decide +kernel
theorem dX11_readsFactor_4 : decode cX11_readsFactor 4 = .ok (.bipush 91, 2) := by decide +kernel
theorem dX11_readsFactor_6 : decode cX11_readsFactor 6 = .ok (.if_icmp .ne 14, 3) := by decide +kernel
theorem dX11_readsFactor_9 : decode cX11_readsFactor 9 = .ok (.aload_n 0, 1) := by decide +kernel
theorem dX11_readsFactor_10 : decode cX11_readsFactor 10 = .ok (.bipush 14, 2) := by decide +kernel
theorem dX11_readsFactor_12 : decode cX11_readsFactor 12 = .ok (.invokevirtual 202, 3) := by decide +kernel
theorem dX11_readsFactor_15 : decode cX11_readsFactor 15 = .ok (.ifCond .ne (-15), 3) := by decide +kernel
theorem dX11_readsFactor_18 : decode cX11_readsFactor 18 = .ok (.iconst 0, 1) := by decide +kernel
theorem dX11_readsFactor_19 : decode cX11_readsFactor 19 = .ok (.ireturn, 1) := by decide +kernel
theorem dX11_readsFactor_20 : decode cX11_readsFactor 20 = .ok (.aload_n 0, 1) := by decide +kernel
theorem dX11_readsFactor_21 : decode cX11_readsFactor 21 = .ok (.invokevirtual 181, 3) := by decide +kernel
theorem dX11_readsFactor_24 : decode cX11_readsFactor 24 = .ok (.ifCond .eq 23, 3) := by decide +kernel
theorem dX11_readsFactor_27 : decode cX11_readsFactor 27 = .ok (.aload_n 0, 1) := by decide +kernel
theorem dX11_readsFactor_28 : decode cX11_readsFactor 28 = .ok (.invokevirtual 205, 3) := by decide +kernel
theorem dX11_readsFactor_31 : decode cX11_readsFactor 31 = .ok (.ifCond .ne 5, 3) := by decide +kernel
theorem dX11_readsFactor_34 : decode cX11_readsFactor 34 = .ok (.iconst 0, 1) := by decide +kernel
theorem dX11_readsFactor_35 : decode cX11_readsFactor 35 = .ok (.ireturn, 1) := by decide +kernel
theorem dX11_readsFactor_36 : decode cX11_readsFactor 36 = .ok (.aload_n 0, 1) := by decide +kernel
theorem dX11_readsFactor_37 : decode cX11_readsFactor 37 = .ok (.iconst 0, 1) := by decide +kernel
theorem dX11_readsFactor_38 : decode cX11_readsFactor 38 = .ok (.aload_n 0, 1) := by decide +kernel
theorem dX11_readsFactor_39 : decode cX11_readsFactor 39 = .ok (.getfield 178, 3) := by decide +kernel
theorem dX11_readsFactor_42 : decode cX11_readsFactor 42 = .ok (.invokevirtual 198, 3) := by decide +kernel
theorem dX11_readsFactor_45 : decode cX11_readsFactor 45 = .ok (.iconst 1, 1) := by decide +kernel
theorem dX11_readsFactor_46 : decode cX11_readsFactor 46 = .ok (.ireturn, 1) := by decide +kernel
theorem dX11_readsFactor_47 : decode cX11_readsFactor 47 = .ok (.aload_n 0, 1) := by decide +kernel
theorem dX11_readsFactor_48 : decode cX11_readsFactor 48 = .ok (.invokevirtual 168, 3) := by decide +kernel
theorem dX11_readsFactor_51 : decode cX11_readsFactor 51 = .ok (.invokestatic 208, 3) := by decide +kernel
theorem dX11_readsFactor_54 : decode cX11_readsFactor 54 = .ok (.istore_n 1, 1) := by decide +kernel
theorem dX11_readsFactor_55 : decode cX11_readsFactor 55 = .ok (.iload_n 1, 1) := by decide +kernel
theorem dX11_readsFactor_56 : decode cX11_readsFactor 56 = .ok (.iconst (-1), 1) := by decide +kernel
theorem dX11_readsFactor_57 : decode cX11_readsFactor 57 = .ok (.if_icmp .ne 13, 3) := by decide +kernel
theorem dX11_readsFactor_60 : decode cX11_readsFactor 60 = .ok (.aload_n 0, 1) := by decide +kernel
theorem dX11_readsFactor_61 : decode cX11_readsFactor 61 = .ok (.iconst 1, 1) := by decide +kernel
theorem dX11_readsFactor_62 : decode cX11_readsFactor 62 = .ok (.aload_n 0, 1) := by decide +kernel
theorem dX11_readsFactor_63 : decode cX11_readsFactor 63 = .ok (.getfield 162, 3) := by decide +kernel
theorem dX11_readsFactor_66 : decode cX11_readsFactor 66 = .ok (.invokevirtual 175, 3) := by decide +kernel
theorem dX11_readsFactor_69 : decode cX11_readsFactor 69 = .ok (.ireturn, 1) := by decide +kernel
theorem dX11_readsFactor_70 : decode cX11_readsFactor 70 = .ok (.aload_n 0, 1) := by decide +kernel
theorem dX11_readsFactor_71 : decode cX11_readsFactor 71 = .ok (.iconst 1, 1) := by decide +kernel
theorem dX11_readsFactor_72 : decode cX11_readsFactor 72 = .ok (.iload_n 1, 1) := by decide +kernel
theorem dX11_readsFactor_73 : decode cX11_readsFactor 73 = .ok (.invokevirtual 198, 3) := by decide +kernel
theorem dX11_readsFactor_76 : decode cX11_readsFactor 76 = .ok (.aload_n 0, 1) := by decide +kernel
theorem dX11_readsFactor_77 : decode cX11_readsFactor 77 = .ok (.aload_n 0, 1) := by decide +kernel
theorem dX11_readsFactor_78 : decode cX11_readsFactor 78 = .ok (.getfield 162, 3) := by decide +kernel
theorem dX11_readsFactor_81 : decode cX11_readsFactor 81 = .ok (.iconst 1, 1) := by decide +kernel
theorem dX11_readsFactor_82 : decode cX11_readsFactor 82 = .ok (.iadd, 1) := by decide +kernel
theorem dX11_readsFactor_83 : decode cX11_readsFactor 83 = .ok (.putfield 162, 3) := by decide +kernel
theorem dX11_readsFactor_86 : decode cX11_readsFactor 86 = .ok (.iconst 1, 1) := by decide +kernel
theorem dX11_readsFactor_87 : decode cX11_readsFactor 87 = .ok (.ireturn, 1) := by decide +kernel
theorem dX11_hasOpenSum_0 : decode cX11_hasOpenSum 0 = .ok (.iload_n 1, 1) := by decide +kernel
theorem dX11_hasOpenSum_1 : decode cX11_hasOpenSum 1 = .ok (.istore_n 2, 1) := by decide +kernel
theorem dX11_hasOpenSum_2 : decode cX11_hasOpenSum 2 = .ok (.iload_n 2, 1) := by decide +kernel
theorem dX11_hasOpenSum_3 : decode cX11_hasOpenSum 3 = .ok (.aload_n 0, 1) := by decide +kernel
theorem dX11_hasOpenSum_4 : decode cX11_hasOpenSum 4 = .ok (.getfield 192, 3) := by decide +kernel
theorem dX11_hasOpenSum_7 : decode cX11_hasOpenSum 7 = .ok (.if_icmp .ge 25, 3) := by decide +kernel
theorem dX11_hasOpenSum_10 : decode cX11_hasOpenSum 10 = .ok (.aload_n 0, 1) := by decide +kernel
theorem dX11_hasOpenSum_11 : decode cX11_hasOpenSum 11 = .ok (.getfield 38, 3) := by decide +kernel
theorem dX11_hasOpenSum_14 : decode cX11_hasOpenSum 14 = .ok (.iload_n 2, 1) := by decide +kernel
theorem dX11_hasOpenSum_15 : decode cX11_hasOpenSum 15 = .ok (.iaload, 1) := by decide +kernel
theorem dX11_hasOpenSum_16 : decode cX11_hasOpenSum 16 = .ok (.ldc 188, 2) := by decide +kernel
theorem dX11_hasOpenSum_18 : decode cX11_hasOpenSum 18 = .ok (.idiv, 1) := by decide +kernel
theorem dX11_hasOpenSum_19 : decode cX11_hasOpenSum 19 = .ok (.bipush 14, 2) := by decide +kernel
theorem dX11_hasOpenSum_21 : decode cX11_hasOpenSum 21 = .ok (.if_icmp .ne 5, 3) := by decide +kernel
theorem dX11_hasOpenSum_24 : decode cX11_hasOpenSum 24 = .ok (.iconst 1, 1) := by decide +kernel
theorem dX11_hasOpenSum_25 : decode cX11_hasOpenSum 25 = .ok (.ireturn, 1) := by decide +kernel
theorem dX11_hasOpenSum_26 : decode cX11_hasOpenSum 26 = .ok (.iinc 2 1, 3) := by decide +kernel
theorem dX11_hasOpenSum_29 : decode cX11_hasOpenSum 29 = .ok (.goto (-27), 3) := by decide +kernel
theorem dX11_hasOpenSum_32 : decode cX11_hasOpenSum 32 = .ok (.iconst 0, 1) := by decide +kernel
theorem dX11_hasOpenSum_33 : decode cX11_hasOpenSum 33 = .ok (.ireturn, 1) := by decide +kernel
theorem dX11_readsSum_0 : decode cX11_readsSum 0 = .ok (.aload_n 0, 1) := by decide +kernel
theorem dX11_readsSum_1 : decode cX11_readsSum 1 = .ok (.getfield 192, 3) := by decide +kernel
theorem dX11_readsSum_4 : decode cX11_readsSum 4 = .ok (.istore_n 1, 1) := by decide +kernel
theorem dX11_readsSum_5 : decode cX11_readsSum 5 = .ok (.aload_n 0, 1) := by decide +kernel
theorem dX11_readsSum_6 : decode cX11_readsSum 6 = .ok (.invokevirtual 212, 3) := by decide +kernel
theorem dX11_readsSum_9 : decode cX11_readsSum 9 = .ok (.ifCond .ne 5, 3) := by decide +kernel
theorem dX11_readsSum_12 : decode cX11_readsSum 12 = .ok (.iconst 0, 1) := by decide +kernel
theorem dX11_readsSum_13 : decode cX11_readsSum 13 = .ok (.ireturn, 1) := by decide +kernel
theorem dX11_readsSum_14 : decode cX11_readsSum 14 = .ok (.aload_n 0, 1) := by decide +kernel
theorem dX11_readsSum_15 : decode cX11_readsSum 15 = .ok (.invokevirtual 168, 3) := by decide +kernel
theorem dX11_readsSum_18 : decode cX11_readsSum 18 = .ok (.invokestatic 215, 3) := by decide +kernel
theorem dX11_readsSum_21 : decode cX11_readsSum 21 = .ok (.istore_n 2, 1) := by decide +kernel
theorem dX11_readsSum_22 : decode cX11_readsSum 22 = .ok (.iload_n 2, 1) := by decide +kernel
theorem dX11_readsSum_23 : decode cX11_readsSum 23 = .ok (.iconst (-1), 1) := by decide +kernel
theorem dX11_readsSum_24 : decode cX11_readsSum 24 = .ok (.if_icmp .eq 59, 3) := by decide +kernel
theorem dX11_readsSum_27 : decode cX11_readsSum 27 = .ok (.aload_n 0, 1) := by decide +kernel
theorem dX11_readsSum_28 : decode cX11_readsSum 28 = .ok (.iload_n 2, 1) := by decide +kernel
theorem dX11_readsSum_29 : decode cX11_readsSum 29 = .ok (.iconst 4, 1) := by decide +kernel
theorem dX11_readsSum_30 : decode cX11_readsSum 30 = .ok (.if_icmp .ge 7, 3) := by decide +kernel
theorem dX11_readsSum_33 : decode cX11_readsSum 33 = .ok (.iconst 1, 1) := by decide +kernel
theorem dX11_readsSum_34 : decode cX11_readsSum 34 = .ok (.goto 4, 3) := by decide +kernel
theorem dX11_readsSum_37 : decode cX11_readsSum 37 = .ok (.iconst 0, 1) := by decide +kernel
theorem dX11_readsSum_38 : decode cX11_readsSum 38 = .ok (.invokevirtual 218, 3) := by decide +kernel
theorem dX11_readsSum_41 : decode cX11_readsSum 41 = .ok (.aload_n 0, 1) := by decide +kernel
theorem dX11_readsSum_42 : decode cX11_readsSum 42 = .ok (.getfield 38, 3) := by decide +kernel
theorem dX11_readsSum_45 : decode cX11_readsSum 45 = .ok (.aload_n 0, 1) := by decide +kernel
theorem dX11_readsSum_46 : decode cX11_readsSum 46 = .ok (.getfield 192, 3) := by decide +kernel
theorem dX11_readsSum_49 : decode cX11_readsSum 49 = .ok (.ldc 188, 2) := by decide +kernel
theorem dX11_readsSum_51 : decode cX11_readsSum 51 = .ok (.iload_n 2, 1) := by decide +kernel
theorem dX11_readsSum_52 : decode cX11_readsSum 52 = .ok (.imul, 1) := by decide +kernel
theorem dX11_readsSum_53 : decode cX11_readsSum 53 = .ok (.iastore, 1) := by decide +kernel
theorem dX11_readsSum_54 : decode cX11_readsSum 54 = .ok (.aload_n 0, 1) := by decide +kernel
theorem dX11_readsSum_55 : decode cX11_readsSum 55 = .ok (.aload_n 0, 1) := by decide +kernel
theorem dX11_readsSum_56 : decode cX11_readsSum 56 = .ok (.getfield 192, 3) := by decide +kernel
theorem dX11_readsSum_59 : decode cX11_readsSum 59 = .ok (.iconst 1, 1) := by decide +kernel
theorem dX11_readsSum_60 : decode cX11_readsSum 60 = .ok (.iadd, 1) := by decide +kernel
theorem dX11_readsSum_61 : decode cX11_readsSum 61 = .ok (.putfield 192, 3) := by decide +kernel
theorem dX11_readsSum_64 : decode cX11_readsSum 64 = .ok (.aload_n 0, 1) := by decide +kernel
theorem dX11_readsSum_65 : decode cX11_readsSum 65 = .ok (.aload_n 0, 1) := by decide +kernel
theorem dX11_readsSum_66 : decode cX11_readsSum 66 = .ok (.getfield 162, 3) := by decide +kernel
theorem dX11_readsSum_69 : decode cX11_readsSum 69 = .ok (.iconst 1, 1) := by decide +kernel
theorem dX11_readsSum_70 : decode cX11_readsSum 70 = .ok (.iadd, 1) := by decide +kernel
theorem dX11_readsSum_71 : decode cX11_readsSum 71 = .ok (.putfield 162, 3) := by decide +kernel
theorem dX11_readsSum_74 : decode cX11_readsSum 74 = .ok (.aload_n 0, 1) := by decide +kernel
theorem dX11_readsSum_75 : decode cX11_readsSum 75 = .ok (.invokevirtual 212, 3) := by decide +kernel
theorem dX11_readsSum_78 : decode cX11_readsSum 78 = .ok (.ifCond .ne 85, 3) := by decide +kernel
theorem dX11_readsSum_81 : decode cX11_readsSum 81 = .ok (.iconst 0, 1) := by decide +kernel
theorem dX11_readsSum_82 : decode cX11_readsSum 82 = .ok (.ireturn, 1) := by decide +kernel
theorem dX11_readsSum_83 : decode cX11_readsSum 83 = .ok (.aload_n 0, 1) := by decide +kernel
theorem dX11_readsSum_84 : decode cX11_readsSum 84 = .ok (.invokevirtual 168, 3) := by decide +kernel
theorem dX11_readsSum_87 : decode cX11_readsSum 87 = .ok (.bipush 93, 2) := by decide +kernel
theorem dX11_readsSum_89 : decode cX11_readsSum 89 = .ok (.if_icmp .ne 49, 3) := by decide +kernel
theorem dX11_readsSum_92 : decode cX11_readsSum 92 = .ok (.aload_n 0, 1) := by decide +kernel
theorem dX11_readsSum_93 : decode cX11_readsSum 93 = .ok (.iload_n 1, 1) := by decide +kernel
theorem dX11_readsSum_94 : decode cX11_readsSum 94 = .ok (.invokevirtual 222, 3) := by decide +kernel
theorem dX11_readsSum_97 : decode cX11_readsSum 97 = .ok (.ifCond .eq 41, 3) := by decide +kernel
theorem dX11_readsSum_100 : decode cX11_readsSum 100 = .ok (.aload_n 0, 1) := by decide +kernel
theorem dX11_readsSum_101 : decode cX11_readsSum 101 = .ok (.iconst 1, 1) := by decide +kernel
theorem dX11_readsSum_102 : decode cX11_readsSum 102 = .ok (.invokevirtual 218, 3) := by decide +kernel
theorem dX11_readsSum_105 : decode cX11_readsSum 105 = .ok (.aload_n 0, 1) := by decide +kernel
theorem dX11_readsSum_106 : decode cX11_readsSum 106 = .ok (.aload_n 0, 1) := by decide +kernel
theorem dX11_readsSum_107 : decode cX11_readsSum 107 = .ok (.getfield 192, 3) := by decide +kernel
theorem dX11_readsSum_110 : decode cX11_readsSum 110 = .ok (.iconst 1, 1) := by decide +kernel
theorem dX11_readsSum_111 : decode cX11_readsSum 111 = .ok (.isub, 1) := by decide +kernel
theorem dX11_readsSum_112 : decode cX11_readsSum 112 = .ok (.putfield 192, 3) := by decide +kernel
theorem dX11_readsSum_115 : decode cX11_readsSum 115 = .ok (.aload_n 0, 1) := by decide +kernel
theorem dX11_readsSum_116 : decode cX11_readsSum 116 = .ok (.aload_n 0, 1) := by decide +kernel
theorem dX11_readsSum_117 : decode cX11_readsSum 117 = .ok (.getfield 189, 3) := by decide +kernel
theorem dX11_readsSum_120 : decode cX11_readsSum 120 = .ok (.iconst 1, 1) := by decide +kernel
theorem dX11_readsSum_121 : decode cX11_readsSum 121 = .ok (.isub, 1) := by decide +kernel
theorem dX11_readsSum_122 : decode cX11_readsSum 122 = .ok (.putfield 189, 3) := by decide +kernel
theorem dX11_readsSum_125 : decode cX11_readsSum 125 = .ok (.aload_n 0, 1) := by decide +kernel
theorem dX11_readsSum_126 : decode cX11_readsSum 126 = .ok (.aload_n 0, 1) := by decide +kernel
theorem dX11_readsSum_127 : decode cX11_readsSum 127 = .ok (.getfield 162, 3) := by decide +kernel
theorem dX11_readsSum_130 : decode cX11_readsSum 130 = .ok (.iconst 1, 1) := by decide +kernel
theorem dX11_readsSum_131 : decode cX11_readsSum 131 = .ok (.iadd, 1) := by decide +kernel
theorem dX11_readsSum_132 : decode cX11_readsSum 132 = .ok (.putfield 162, 3) := by decide +kernel
theorem dX11_readsSum_135 : decode cX11_readsSum 135 = .ok (.goto 28, 3) := by decide +kernel
theorem dX11_readsSum_138 : decode cX11_readsSum 138 = .ok (.aload_n 0, 1) := by decide +kernel
theorem dX11_readsSum_139 : decode cX11_readsSum 139 = .ok (.iload_n 1, 1) := by decide +kernel
theorem dX11_readsSum_140 : decode cX11_readsSum 140 = .ok (.invokevirtual 222, 3) := by decide +kernel
theorem dX11_readsSum_143 : decode cX11_readsSum 143 = .ok (.ifCond .eq 13, 3) := by decide +kernel
theorem dX11_readsSum_146 : decode cX11_readsSum 146 = .ok (.aload_n 0, 1) := by decide +kernel
theorem dX11_readsSum_147 : decode cX11_readsSum 147 = .ok (.iconst 1, 1) := by decide +kernel
theorem dX11_readsSum_148 : decode cX11_readsSum 148 = .ok (.aload_n 0, 1) := by decide +kernel
theorem dX11_readsSum_149 : decode cX11_readsSum 149 = .ok (.getfield 162, 3) := by decide +kernel
theorem dX11_readsSum_152 : decode cX11_readsSum 152 = .ok (.invokevirtual 175, 3) := by decide +kernel
theorem dX11_readsSum_155 : decode cX11_readsSum 155 = .ok (.ireturn, 1) := by decide +kernel
theorem dX11_readsSum_156 : decode cX11_readsSum 156 = .ok (.aload_n 0, 1) := by decide +kernel
theorem dX11_readsSum_157 : decode cX11_readsSum 157 = .ok (.iconst 1, 1) := by decide +kernel
theorem dX11_readsSum_158 : decode cX11_readsSum 158 = .ok (.invokevirtual 218, 3) := by decide +kernel
theorem dX11_readsSum_161 : decode cX11_readsSum 161 = .ok (.iconst 1, 1) := by decide +kernel
theorem dX11_readsSum_162 : decode cX11_readsSum 162 = .ok (.ireturn, 1) := by decide +kernel
theorem dX11_readsSum_163 : decode cX11_readsSum 163 = .ok (.goto (-149), 3) := by decide +kernel
theorem dX11_endsPiece_0 : decode cX11_endsPiece 0 = .ok (.aload_n 0, 1) := by decide +kernel
theorem dX11_endsPiece_1 : decode cX11_endsPiece 1 = .ok (.invokevirtual 195, 3) := by decide +kernel
theorem dX11_endsPiece_4 : decode cX11_endsPiece 4 = .ok (.bipush 10, 2) := by decide +kernel
theorem dX11_endsPiece_6 : decode cX11_endsPiece 6 = .ok (.if_icmp .ne 33, 3) := by decide +kernel
theorem dX11_endsPiece_9 : decode cX11_endsPiece 9 = .ok (.aload_n 0, 1) := by decide +kernel
theorem dX11_endsPiece_10 : decode cX11_endsPiece 10 = .ok (.bipush 10, 2) := by decide +kernel
theorem dX11_endsPiece_12 : decode cX11_endsPiece 12 = .ok (.iconst 0, 1) := by decide +kernel
theorem dX11_endsPiece_13 : decode cX11_endsPiece 13 = .ok (.invokevirtual 198, 3) := by decide +kernel
theorem dX11_endsPiece_16 : decode cX11_endsPiece 16 = .ok (.aload_n 0, 1) := by decide +kernel
theorem dX11_endsPiece_17 : decode cX11_endsPiece 17 = .ok (.aload_n 0, 1) := by decide +kernel
theorem dX11_endsPiece_18 : decode cX11_endsPiece 18 = .ok (.getfield 192, 3) := by decide +kernel
theorem dX11_endsPiece_21 : decode cX11_endsPiece 21 = .ok (.iconst 1, 1) := by decide +kernel
theorem dX11_endsPiece_22 : decode cX11_endsPiece 22 = .ok (.isub, 1) := by decide +kernel
theorem dX11_endsPiece_23 : decode cX11_endsPiece 23 = .ok (.putfield 192, 3) := by decide +kernel
theorem dX11_endsPiece_26 : decode cX11_endsPiece 26 = .ok (.aload_n 0, 1) := by decide +kernel
theorem dX11_endsPiece_27 : decode cX11_endsPiece 27 = .ok (.aload_n 0, 1) := by decide +kernel
theorem dX11_endsPiece_28 : decode cX11_endsPiece 28 = .ok (.getfield 189, 3) := by decide +kernel
theorem dX11_endsPiece_31 : decode cX11_endsPiece 31 = .ok (.iconst 1, 1) := by decide +kernel
theorem dX11_endsPiece_32 : decode cX11_endsPiece 32 = .ok (.isub, 1) := by decide +kernel
theorem dX11_endsPiece_33 : decode cX11_endsPiece 33 = .ok (.putfield 189, 3) := by decide +kernel
theorem dX11_endsPiece_36 : decode cX11_endsPiece 36 = .ok (.goto (-36), 3) := by decide +kernel
theorem dX11_endsPiece_39 : decode cX11_endsPiece 39 = .ok (.return_, 1) := by decide +kernel
theorem dX11_lands_0 : decode cX11_lands 0 = .ok (.aload_n 0, 1) := by decide +kernel
theorem dX11_lands_1 : decode cX11_lands 1 = .ok (.invokevirtual 195, 3) := by decide +kernel
theorem dX11_lands_4 : decode cX11_lands 4 = .ok (.bipush 11, 2) := by decide +kernel
theorem dX11_lands_6 : decode cX11_lands 6 = .ok (.if_icmp .eq 16, 3) := by decide +kernel
theorem dX11_lands_9 : decode cX11_lands 9 = .ok (.iload_n 1, 1) := by decide +kernel
theorem dX11_lands_10 : decode cX11_lands 10 = .ok (.ifCond .eq 63, 3) := by decide +kernel
theorem dX11_lands_13 : decode cX11_lands 13 = .ok (.aload_n 0, 1) := by decide +kernel
theorem dX11_lands_14 : decode cX11_lands 14 = .ok (.invokevirtual 195, 3) := by decide +kernel
theorem dX11_lands_17 : decode cX11_lands 17 = .ok (.bipush 12, 2) := by decide +kernel
theorem dX11_lands_19 : decode cX11_lands 19 = .ok (.if_icmp .ne 54, 3) := by decide +kernel
theorem dX11_lands_22 : decode cX11_lands 22 = .ok (.aload_n 0, 1) := by decide +kernel
theorem dX11_lands_23 : decode cX11_lands 23 = .ok (.getfield 38, 3) := by decide +kernel
theorem dX11_lands_26 : decode cX11_lands 26 = .ok (.aload_n 0, 1) := by decide +kernel
theorem dX11_lands_27 : decode cX11_lands 27 = .ok (.getfield 192, 3) := by decide +kernel
theorem dX11_lands_30 : decode cX11_lands 30 = .ok (.iconst 1, 1) := by decide +kernel
theorem dX11_lands_31 : decode cX11_lands 31 = .ok (.isub, 1) := by decide +kernel
theorem dX11_lands_32 : decode cX11_lands 32 = .ok (.iaload, 1) := by decide +kernel
theorem dX11_lands_33 : decode cX11_lands 33 = .ok (.ldc 188, 2) := by decide +kernel
theorem dX11_lands_35 : decode cX11_lands 35 = .ok (.irem, 1) := by decide +kernel
theorem dX11_lands_36 : decode cX11_lands 36 = .ok (.istore_n 2, 1) := by decide +kernel
theorem dX11_lands_37 : decode cX11_lands 37 = .ok (.aload_n 0, 1) := by decide +kernel
theorem dX11_lands_38 : decode cX11_lands 38 = .ok (.getfield 35, 3) := by decide +kernel
theorem dX11_lands_41 : decode cX11_lands 41 = .ok (.iload_n 2, 1) := by decide +kernel
theorem dX11_lands_42 : decode cX11_lands 42 = .ok (.ldc 188, 2) := by decide +kernel
theorem dX11_lands_44 : decode cX11_lands 44 = .ok (.aload_n 0, 1) := by decide +kernel
theorem dX11_lands_45 : decode cX11_lands 45 = .ok (.getfield 35, 3) := by decide +kernel
theorem dX11_lands_48 : decode cX11_lands 48 = .ok (.iload_n 2, 1) := by decide +kernel
theorem dX11_lands_49 : decode cX11_lands 49 = .ok (.iaload, 1) := by decide +kernel
theorem dX11_lands_50 : decode cX11_lands 50 = .ok (.ldc 188, 2) := by decide +kernel
theorem dX11_lands_52 : decode cX11_lands 52 = .ok (.idiv, 1) := by decide +kernel
theorem dX11_lands_53 : decode cX11_lands 53 = .ok (.imul, 1) := by decide +kernel
theorem dX11_lands_54 : decode cX11_lands 54 = .ok (.aload_n 0, 1) := by decide +kernel
theorem dX11_lands_55 : decode cX11_lands 55 = .ok (.getfield 185, 3) := by decide +kernel
theorem dX11_lands_58 : decode cX11_lands 58 = .ok (.iadd, 1) := by decide +kernel
theorem dX11_lands_59 : decode cX11_lands 59 = .ok (.iastore, 1) := by decide +kernel
theorem dX11_lands_60 : decode cX11_lands 60 = .ok (.aload_n 0, 1) := by decide +kernel
theorem dX11_lands_61 : decode cX11_lands 61 = .ok (.aload_n 0, 1) := by decide +kernel
theorem dX11_lands_62 : decode cX11_lands 62 = .ok (.getfield 192, 3) := by decide +kernel
theorem dX11_lands_65 : decode cX11_lands 65 = .ok (.iconst 1, 1) := by decide +kernel
theorem dX11_lands_66 : decode cX11_lands 66 = .ok (.isub, 1) := by decide +kernel
theorem dX11_lands_67 : decode cX11_lands 67 = .ok (.putfield 192, 3) := by decide +kernel
theorem dX11_lands_70 : decode cX11_lands 70 = .ok (.goto (-70), 3) := by decide +kernel
theorem dX11_lands_73 : decode cX11_lands 73 = .ok (.return_, 1) := by decide +kernel
theorem dX11_jumps_0 : decode cX11_jumps 0 = .ok (.aload_n 0, 1) := by decide +kernel
theorem dX11_jumps_1 : decode cX11_jumps 1 = .ok (.getfield 38, 3) := by decide +kernel
theorem dX11_jumps_4 : decode cX11_jumps 4 = .ok (.aload_n 0, 1) := by decide +kernel
theorem dX11_jumps_5 : decode cX11_jumps 5 = .ok (.getfield 192, 3) := by decide +kernel
theorem dX11_jumps_8 : decode cX11_jumps 8 = .ok (.ldc 188, 2) := by decide +kernel
theorem dX11_jumps_10 : decode cX11_jumps 10 = .ok (.iload_n 1, 1) := by decide +kernel
theorem dX11_jumps_11 : decode cX11_jumps 11 = .ok (.imul, 1) := by decide +kernel
theorem dX11_jumps_12 : decode cX11_jumps 12 = .ok (.aload_n 0, 1) := by decide +kernel
theorem dX11_jumps_13 : decode cX11_jumps 13 = .ok (.getfield 185, 3) := by decide +kernel
theorem dX11_jumps_16 : decode cX11_jumps 16 = .ok (.iadd, 1) := by decide +kernel
theorem dX11_jumps_17 : decode cX11_jumps 17 = .ok (.iastore, 1) := by decide +kernel
theorem dX11_jumps_18 : decode cX11_jumps 18 = .ok (.aload_n 0, 1) := by decide +kernel
theorem dX11_jumps_19 : decode cX11_jumps 19 = .ok (.aload_n 0, 1) := by decide +kernel
theorem dX11_jumps_20 : decode cX11_jumps 20 = .ok (.getfield 192, 3) := by decide +kernel
theorem dX11_jumps_23 : decode cX11_jumps 23 = .ok (.iconst 1, 1) := by decide +kernel
theorem dX11_jumps_24 : decode cX11_jumps 24 = .ok (.iadd, 1) := by decide +kernel
theorem dX11_jumps_25 : decode cX11_jumps 25 = .ok (.putfield 192, 3) := by decide +kernel
theorem dX11_jumps_28 : decode cX11_jumps 28 = .ok (.aload_n 0, 1) := by decide +kernel
theorem dX11_jumps_29 : decode cX11_jumps 29 = .ok (.iload_n 1, 1) := by decide +kernel
theorem dX11_jumps_30 : decode cX11_jumps 30 = .ok (.iconst 0, 1) := by decide +kernel
theorem dX11_jumps_31 : decode cX11_jumps 31 = .ok (.invokevirtual 198, 3) := by decide +kernel
theorem dX11_jumps_34 : decode cX11_jumps 34 = .ok (.aload_n 0, 1) := by decide +kernel
theorem dX11_jumps_35 : decode cX11_jumps 35 = .ok (.aload_n 0, 1) := by decide +kernel
theorem dX11_jumps_36 : decode cX11_jumps 36 = .ok (.getfield 162, 3) := by decide +kernel
theorem dX11_jumps_39 : decode cX11_jumps 39 = .ok (.iconst 1, 1) := by decide +kernel
theorem dX11_jumps_40 : decode cX11_jumps 40 = .ok (.iadd, 1) := by decide +kernel
theorem dX11_jumps_41 : decode cX11_jumps 41 = .ok (.putfield 162, 3) := by decide +kernel
theorem dX11_jumps_44 : decode cX11_jumps 44 = .ok (.return_, 1) := by decide +kernel
theorem dX11_readsCompared_0 : decode cX11_readsCompared 0 = .ok (.aload_n 0, 1) := by decide +kernel
theorem dX11_readsCompared_1 : decode cX11_readsCompared 1 = .ok (.invokevirtual 225, 3) := by decide +kernel
theorem dX11_readsCompared_4 : decode cX11_readsCompared 4 = .ok (.ifCond .ne 5, 3) := by decide +kernel
theorem dX11_readsCompared_7 : decode cX11_readsCompared 7 = .ok (.iconst 0, 1) := by decide +kernel
theorem dX11_readsCompared_8 : decode cX11_readsCompared 8 = .ok (.ireturn, 1) := by decide +kernel
theorem dX11_readsCompared_9 : decode cX11_readsCompared 9 = .ok (.aload_n 0, 1) := by decide +kernel
theorem dX11_readsCompared_10 : decode cX11_readsCompared 10 = .ok (.invokevirtual 168, 3) := by decide +kernel
theorem dX11_readsCompared_13 : decode cX11_readsCompared 13 = .ok (.bipush 60, 2) := by decide +kernel
theorem dX11_readsCompared_15 : decode cX11_readsCompared 15 = .ok (.if_icmp .ne 8, 3) := by decide +kernel
theorem dX11_readsCompared_18 : decode cX11_readsCompared 18 = .ok (.bipush 7, 2) := by decide +kernel
theorem dX11_readsCompared_20 : decode cX11_readsCompared 20 = .ok (.goto 32, 3) := by decide +kernel
theorem dX11_readsCompared_23 : decode cX11_readsCompared 23 = .ok (.aload_n 0, 1) := by decide +kernel
theorem dX11_readsCompared_24 : decode cX11_readsCompared 24 = .ok (.invokevirtual 168, 3) := by decide +kernel
theorem dX11_readsCompared_27 : decode cX11_readsCompared 27 = .ok (.bipush 62, 2) := by decide +kernel
theorem dX11_readsCompared_29 : decode cX11_readsCompared 29 = .ok (.if_icmp .ne 8, 3) := by decide +kernel
theorem dX11_readsCompared_32 : decode cX11_readsCompared 32 = .ok (.bipush 8, 2) := by decide +kernel
theorem dX11_readsCompared_34 : decode cX11_readsCompared 34 = .ok (.goto 18, 3) := by decide +kernel
theorem dX11_readsCompared_37 : decode cX11_readsCompared 37 = .ok (.aload_n 0, 1) := by decide +kernel
theorem dX11_readsCompared_38 : decode cX11_readsCompared 38 = .ok (.invokevirtual 168, 3) := by decide +kernel
theorem dX11_readsCompared_41 : decode cX11_readsCompared 41 = .ok (.bipush 61, 2) := by decide +kernel
theorem dX11_readsCompared_43 : decode cX11_readsCompared 43 = .ok (.if_icmp .ne 8, 3) := by decide +kernel
theorem dX11_readsCompared_46 : decode cX11_readsCompared 46 = .ok (.bipush 9, 2) := by decide +kernel
theorem dX11_readsCompared_48 : decode cX11_readsCompared 48 = .ok (.goto 4, 3) := by decide +kernel
theorem dX11_readsCompared_51 : decode cX11_readsCompared 51 = .ok (.iconst (-1), 1) := by decide +kernel
theorem dX11_readsCompared_52 : decode cX11_readsCompared 52 = .ok (.istore_n 1, 1) := by decide +kernel
theorem dX11_readsCompared_53 : decode cX11_readsCompared 53 = .ok (.iload_n 1, 1) := by decide +kernel
theorem dX11_readsCompared_54 : decode cX11_readsCompared 54 = .ok (.iconst (-1), 1) := by decide +kernel
theorem dX11_readsCompared_55 : decode cX11_readsCompared 55 = .ok (.if_icmp .ne 13, 3) := by decide +kernel
theorem dX11_readsCompared_58 : decode cX11_readsCompared 58 = .ok (.aload_n 0, 1) := by decide +kernel
theorem dX11_readsCompared_59 : decode cX11_readsCompared 59 = .ok (.iconst 1, 1) := by decide +kernel
theorem dX11_readsCompared_60 : decode cX11_readsCompared 60 = .ok (.aload_n 0, 1) := by decide +kernel
theorem dX11_readsCompared_61 : decode cX11_readsCompared 61 = .ok (.getfield 162, 3) := by decide +kernel
theorem dX11_readsCompared_64 : decode cX11_readsCompared 64 = .ok (.invokevirtual 175, 3) := by decide +kernel
theorem dX11_readsCompared_67 : decode cX11_readsCompared 67 = .ok (.ireturn, 1) := by decide +kernel
theorem dX11_readsCompared_68 : decode cX11_readsCompared 68 = .ok (.aload_n 0, 1) := by decide +kernel
theorem dX11_readsCompared_69 : decode cX11_readsCompared 69 = .ok (.aload_n 0, 1) := by decide +kernel
theorem dX11_readsCompared_70 : decode cX11_readsCompared 70 = .ok (.getfield 162, 3) := by decide +kernel
theorem dX11_readsCompared_73 : decode cX11_readsCompared 73 = .ok (.iconst 1, 1) := by decide +kernel
theorem dX11_readsCompared_74 : decode cX11_readsCompared 74 = .ok (.iadd, 1) := by decide +kernel
theorem dX11_readsCompared_75 : decode cX11_readsCompared 75 = .ok (.putfield 162, 3) := by decide +kernel
theorem dX11_readsCompared_78 : decode cX11_readsCompared 78 = .ok (.aload_n 0, 1) := by decide +kernel
theorem dX11_readsCompared_79 : decode cX11_readsCompared 79 = .ok (.invokevirtual 225, 3) := by decide +kernel
theorem dX11_readsCompared_82 : decode cX11_readsCompared 82 = .ok (.ifCond .ne 5, 3) := by decide +kernel
theorem dX11_readsCompared_85 : decode cX11_readsCompared 85 = .ok (.iconst 0, 1) := by decide +kernel
theorem dX11_readsCompared_86 : decode cX11_readsCompared 86 = .ok (.ireturn, 1) := by decide +kernel
theorem dX11_readsCompared_87 : decode cX11_readsCompared 87 = .ok (.aload_n 0, 1) := by decide +kernel
theorem dX11_readsCompared_88 : decode cX11_readsCompared 88 = .ok (.iload_n 1, 1) := by decide +kernel
theorem dX11_readsCompared_89 : decode cX11_readsCompared 89 = .ok (.iconst 0, 1) := by decide +kernel
theorem dX11_readsCompared_90 : decode cX11_readsCompared 90 = .ok (.invokevirtual 198, 3) := by decide +kernel
theorem dX11_readsCompared_93 : decode cX11_readsCompared 93 = .ok (.aload_n 0, 1) := by decide +kernel
theorem dX11_readsCompared_94 : decode cX11_readsCompared 94 = .ok (.invokevirtual 228, 3) := by decide +kernel
theorem dX11_readsCompared_97 : decode cX11_readsCompared 97 = .ok (.iconst 1, 1) := by decide +kernel
theorem dX11_readsCompared_98 : decode cX11_readsCompared 98 = .ok (.ireturn, 1) := by decide +kernel
theorem dX11_readsCondition_0 : decode cX11_readsCondition 0 = .ok (.aload_n 0, 1) := by decide +kernel
theorem dX11_readsCondition_1 : decode cX11_readsCondition 1 = .ok (.invokevirtual 168, 3) := by decide +kernel
theorem dX11_readsCondition_4 : decode cX11_readsCondition 4 = .ok (.bipush 40, 2) := by decide +kernel
theorem dX11_readsCondition_6 : decode cX11_readsCondition 6 = .ok (.if_icmp .eq 13, 3) := by decide +kernel
theorem dX11_readsCondition_9 : decode cX11_readsCondition 9 = .ok (.aload_n 0, 1) := by decide +kernel
theorem dX11_readsCondition_10 : decode cX11_readsCondition 10 = .ok (.iconst 1, 1) := by decide +kernel
theorem dX11_readsCondition_11 : decode cX11_readsCondition 11 = .ok (.aload_n 0, 1) := by decide +kernel
theorem dX11_readsCondition_12 : decode cX11_readsCondition 12 = .ok (.getfield 162, 3) := by decide +kernel
theorem dX11_readsCondition_15 : decode cX11_readsCondition 15 = .ok (.invokevirtual 175, 3) := by decide +kernel
theorem dX11_readsCondition_18 : decode cX11_readsCondition 18 = .ok (.ireturn, 1) := by decide +kernel
theorem dX11_readsCondition_19 : decode cX11_readsCondition 19 = .ok (.aload_n 0, 1) := by decide +kernel
theorem dX11_readsCondition_20 : decode cX11_readsCondition 20 = .ok (.iconst 0, 1) := by decide +kernel
theorem dX11_readsCondition_21 : decode cX11_readsCondition 21 = .ok (.putfield 189, 3) := by decide +kernel
theorem dX11_readsCondition_24 : decode cX11_readsCondition 24 = .ok (.aload_n 0, 1) := by decide +kernel
theorem dX11_readsCondition_25 : decode cX11_readsCondition 25 = .ok (.iconst 0, 1) := by decide +kernel
theorem dX11_readsCondition_26 : decode cX11_readsCondition 26 = .ok (.putfield 192, 3) := by decide +kernel
theorem dX11_readsCondition_29 : decode cX11_readsCondition 29 = .ok (.aload_n 0, 1) := by decide +kernel
theorem dX11_readsCondition_30 : decode cX11_readsCondition 30 = .ok (.bipush 13, 2) := by decide +kernel
theorem dX11_readsCondition_32 : decode cX11_readsCondition 32 = .ok (.invokevirtual 202, 3) := by decide +kernel
theorem dX11_readsCondition_35 : decode cX11_readsCondition 35 = .ok (.ifCond .ne 5, 3) := by decide +kernel
theorem dX11_readsCondition_38 : decode cX11_readsCondition 38 = .ok (.iconst 0, 1) := by decide +kernel
theorem dX11_readsCondition_39 : decode cX11_readsCondition 39 = .ok (.ireturn, 1) := by decide +kernel
theorem dX11_readsCondition_40 : decode cX11_readsCondition 40 = .ok (.aload_n 0, 1) := by decide +kernel
theorem dX11_readsCondition_41 : decode cX11_readsCondition 41 = .ok (.invokevirtual 168, 3) := by decide +kernel
theorem dX11_readsCondition_44 : decode cX11_readsCondition 44 = .ok (.bipush 33, 2) := by decide +kernel
theorem dX11_readsCondition_46 : decode cX11_readsCondition 46 = .ok (.if_icmp .eq 12, 3) := by decide +kernel
theorem dX11_readsCondition_49 : decode cX11_readsCondition 49 = .ok (.aload_n 0, 1) := by decide +kernel
theorem dX11_readsCondition_50 : decode cX11_readsCondition 50 = .ok (.invokevirtual 168, 3) := by decide +kernel
theorem dX11_readsCondition_53 : decode cX11_readsCondition 53 = .ok (.bipush 40, 2) := by decide +kernel
theorem dX11_readsCondition_55 : decode cX11_readsCondition 55 = .ok (.if_icmp .ne 28, 3) := by decide +kernel
theorem dX11_readsCondition_58 : decode cX11_readsCondition 58 = .ok (.aload_n 0, 1) := by decide +kernel
theorem dX11_readsCondition_59 : decode cX11_readsCondition 59 = .ok (.aload_n 0, 1) := by decide +kernel
theorem dX11_readsCondition_60 : decode cX11_readsCondition 60 = .ok (.invokevirtual 168, 3) := by decide +kernel
theorem dX11_readsCondition_63 : decode cX11_readsCondition 63 = .ok (.bipush 33, 2) := by decide +kernel
theorem dX11_readsCondition_65 : decode cX11_readsCondition 65 = .ok (.if_icmp .ne 8, 3) := by decide +kernel
theorem dX11_readsCondition_68 : decode cX11_readsCondition 68 = .ok (.bipush 10, 2) := by decide +kernel
theorem dX11_readsCondition_70 : decode cX11_readsCondition 70 = .ok (.goto 5, 3) := by decide +kernel
theorem dX11_readsCondition_73 : decode cX11_readsCondition 73 = .ok (.bipush 13, 2) := by decide +kernel
theorem dX11_readsCondition_75 : decode cX11_readsCondition 75 = .ok (.invokevirtual 202, 3) := by decide +kernel
theorem dX11_readsCondition_78 : decode cX11_readsCondition 78 = .ok (.ifCond .ne (-38), 3) := by decide +kernel
theorem dX11_readsCondition_81 : decode cX11_readsCondition 81 = .ok (.iconst 0, 1) := by decide +kernel
theorem dX11_readsCondition_82 : decode cX11_readsCondition 82 = .ok (.ireturn, 1) := by decide +kernel
theorem dX11_readsCondition_83 : decode cX11_readsCondition 83 = .ok (.aload_n 0, 1) := by decide +kernel
theorem dX11_readsCondition_84 : decode cX11_readsCondition 84 = .ok (.invokevirtual 231, 3) := by decide +kernel
theorem dX11_readsCondition_87 : decode cX11_readsCondition 87 = .ok (.ifCond .ne 5, 3) := by decide +kernel
theorem dX11_readsCondition_90 : decode cX11_readsCondition 90 = .ok (.iconst 0, 1) := by decide +kernel
theorem dX11_readsCondition_91 : decode cX11_readsCondition 91 = .ok (.ireturn, 1) := by decide +kernel
theorem dX11_readsCondition_92 : decode cX11_readsCondition 92 = .ok (.aload_n 0, 1) := by decide +kernel
theorem dX11_readsCondition_93 : decode cX11_readsCondition 93 = .ok (.invokevirtual 168, 3) := by decide +kernel
theorem dX11_readsCondition_96 : decode cX11_readsCondition 96 = .ok (.bipush 41, 2) := by decide +kernel
theorem dX11_readsCondition_98 : decode cX11_readsCondition 98 = .ok (.if_icmp .ne 54, 3) := by decide +kernel
theorem dX11_readsCondition_101 : decode cX11_readsCondition 101 = .ok (.aload_n 0, 1) := by decide +kernel
theorem dX11_readsCondition_102 : decode cX11_readsCondition 102 = .ok (.iconst 1, 1) := by decide +kernel
theorem dX11_readsCondition_103 : decode cX11_readsCondition 103 = .ok (.invokevirtual 234, 3) := by decide +kernel
theorem dX11_readsCondition_106 : decode cX11_readsCondition 106 = .ok (.aload_n 0, 1) := by decide +kernel
theorem dX11_readsCondition_107 : decode cX11_readsCondition 107 = .ok (.aload_n 0, 1) := by decide +kernel
theorem dX11_readsCondition_108 : decode cX11_readsCondition 108 = .ok (.getfield 192, 3) := by decide +kernel
theorem dX11_readsCondition_111 : decode cX11_readsCondition 111 = .ok (.iconst 1, 1) := by decide +kernel
theorem dX11_readsCondition_112 : decode cX11_readsCondition 112 = .ok (.isub, 1) := by decide +kernel
theorem dX11_readsCondition_113 : decode cX11_readsCondition 113 = .ok (.putfield 192, 3) := by decide +kernel
theorem dX11_readsCondition_116 : decode cX11_readsCondition 116 = .ok (.aload_n 0, 1) := by decide +kernel
theorem dX11_readsCondition_117 : decode cX11_readsCondition 117 = .ok (.aload_n 0, 1) := by decide +kernel
theorem dX11_readsCondition_118 : decode cX11_readsCondition 118 = .ok (.getfield 189, 3) := by decide +kernel
theorem dX11_readsCondition_121 : decode cX11_readsCondition 121 = .ok (.iconst 1, 1) := by decide +kernel
theorem dX11_readsCondition_122 : decode cX11_readsCondition 122 = .ok (.isub, 1) := by decide +kernel
theorem dX11_readsCondition_123 : decode cX11_readsCondition 123 = .ok (.putfield 189, 3) := by decide +kernel
theorem dX11_readsCondition_126 : decode cX11_readsCondition 126 = .ok (.aload_n 0, 1) := by decide +kernel
theorem dX11_readsCondition_127 : decode cX11_readsCondition 127 = .ok (.aload_n 0, 1) := by decide +kernel
theorem dX11_readsCondition_128 : decode cX11_readsCondition 128 = .ok (.getfield 162, 3) := by decide +kernel
theorem dX11_readsCondition_131 : decode cX11_readsCondition 131 = .ok (.iconst 1, 1) := by decide +kernel
theorem dX11_readsCondition_132 : decode cX11_readsCondition 132 = .ok (.iadd, 1) := by decide +kernel
theorem dX11_readsCondition_133 : decode cX11_readsCondition 133 = .ok (.putfield 162, 3) := by decide +kernel
theorem dX11_readsCondition_136 : decode cX11_readsCondition 136 = .ok (.aload_n 0, 1) := by decide +kernel
theorem dX11_readsCondition_137 : decode cX11_readsCondition 137 = .ok (.getfield 192, 3) := by decide +kernel
theorem dX11_readsCondition_140 : decode cX11_readsCondition 140 = .ok (.ifCond .ne 5, 3) := by decide +kernel
theorem dX11_readsCondition_143 : decode cX11_readsCondition 143 = .ok (.iconst 1, 1) := by decide +kernel
theorem dX11_readsCondition_144 : decode cX11_readsCondition 144 = .ok (.ireturn, 1) := by decide +kernel
theorem dX11_readsCondition_145 : decode cX11_readsCondition 145 = .ok (.aload_n 0, 1) := by decide +kernel
theorem dX11_readsCondition_146 : decode cX11_readsCondition 146 = .ok (.invokevirtual 228, 3) := by decide +kernel
theorem dX11_readsCondition_149 : decode cX11_readsCondition 149 = .ok (.goto (-57), 3) := by decide +kernel
theorem dX11_readsCondition_152 : decode cX11_readsCondition 152 = .ok (.aload_n 0, 1) := by decide +kernel
theorem dX11_readsCondition_153 : decode cX11_readsCondition 153 = .ok (.invokevirtual 168, 3) := by decide +kernel
theorem dX11_readsCondition_156 : decode cX11_readsCondition 156 = .ok (.bipush 38, 2) := by decide +kernel
theorem dX11_readsCondition_158 : decode cX11_readsCondition 158 = .ok (.if_icmp .eq 22, 3) := by decide +kernel
theorem dX11_readsCondition_161 : decode cX11_readsCondition 161 = .ok (.aload_n 0, 1) := by decide +kernel
theorem dX11_readsCondition_162 : decode cX11_readsCondition 162 = .ok (.invokevirtual 168, 3) := by decide +kernel
theorem dX11_readsCondition_165 : decode cX11_readsCondition 165 = .ok (.bipush 124, 2) := by decide +kernel
theorem dX11_readsCondition_167 : decode cX11_readsCondition 167 = .ok (.if_icmp .eq 13, 3) := by decide +kernel
theorem dX11_readsCondition_170 : decode cX11_readsCondition 170 = .ok (.aload_n 0, 1) := by decide +kernel
theorem dX11_readsCondition_171 : decode cX11_readsCondition 171 = .ok (.iconst 1, 1) := by decide +kernel
theorem dX11_readsCondition_172 : decode cX11_readsCondition 172 = .ok (.aload_n 0, 1) := by decide +kernel
theorem dX11_readsCondition_173 : decode cX11_readsCondition 173 = .ok (.getfield 162, 3) := by decide +kernel
theorem dX11_readsCondition_176 : decode cX11_readsCondition 176 = .ok (.invokevirtual 175, 3) := by decide +kernel
theorem dX11_readsCondition_179 : decode cX11_readsCondition 179 = .ok (.ireturn, 1) := by decide +kernel
theorem dX11_readsCondition_180 : decode cX11_readsCondition 180 = .ok (.aload_n 0, 1) := by decide +kernel
theorem dX11_readsCondition_181 : decode cX11_readsCondition 181 = .ok (.aload_n 0, 1) := by decide +kernel
theorem dX11_readsCondition_182 : decode cX11_readsCondition 182 = .ok (.invokevirtual 168, 3) := by decide +kernel
theorem dX11_readsCondition_185 : decode cX11_readsCondition 185 = .ok (.bipush 124, 2) := by decide +kernel
theorem dX11_readsCondition_187 : decode cX11_readsCondition 187 = .ok (.if_icmp .ne 7, 3) := by decide +kernel
theorem dX11_readsCondition_190 : decode cX11_readsCondition 190 = .ok (.iconst 1, 1) := by decide +kernel
theorem dX11_readsCondition_191 : decode cX11_readsCondition 191 = .ok (.goto 4, 3) := by decide +kernel
theorem dX11_readsCondition_194 : decode cX11_readsCondition 194 = .ok (.iconst 0, 1) := by decide +kernel
theorem dX11_readsCondition_195 : decode cX11_readsCondition 195 = .ok (.invokevirtual 234, 3) := by decide +kernel
theorem dX11_readsCondition_198 : decode cX11_readsCondition 198 = .ok (.aload_n 0, 1) := by decide +kernel
theorem dX11_readsCondition_199 : decode cX11_readsCondition 199 = .ok (.aload_n 0, 1) := by decide +kernel
theorem dX11_readsCondition_200 : decode cX11_readsCondition 200 = .ok (.invokevirtual 168, 3) := by decide +kernel
theorem dX11_readsCondition_203 : decode cX11_readsCondition 203 = .ok (.bipush 38, 2) := by decide +kernel
theorem dX11_readsCondition_205 : decode cX11_readsCondition 205 = .ok (.if_icmp .ne 8, 3) := by decide +kernel
theorem dX11_readsCondition_208 : decode cX11_readsCondition 208 = .ok (.bipush 11, 2) := by decide +kernel
theorem dX11_readsCondition_210 : decode cX11_readsCondition 210 = .ok (.goto 5, 3) := by decide +kernel
theorem dX11_readsCondition_213 : decode cX11_readsCondition 213 = .ok (.bipush 12, 2) := by decide +kernel
theorem dX11_readsCondition_215 : decode cX11_readsCondition 215 = .ok (.invokevirtual 237, 3) := by decide +kernel
theorem dX11_readsCondition_218 : decode cX11_readsCondition 218 = .ok (.goto (-178), 3) := by decide +kernel
theorem dX11_readsRule_0 : decode cX11_readsRule 0 = .ok (.aload_n 0, 1) := by decide +kernel
theorem dX11_readsRule_1 : decode cX11_readsRule 1 = .ok (.invokevirtual 168, 3) := by decide +kernel
theorem dX11_readsRule_4 : decode cX11_readsRule 4 = .ok (.istore_n 1, 1) := by decide +kernel
theorem dX11_readsRule_5 : decode cX11_readsRule 5 = .ok (.iload_n 1, 1) := by decide +kernel
theorem dX11_readsRule_6 : decode cX11_readsRule 6 = .ok (.bipush 114, 2) := by decide +kernel
theorem dX11_readsRule_8 : decode cX11_readsRule 8 = .ok (.if_icmp .eq 25, 3) := by decide +kernel
theorem dX11_readsRule_11 : decode cX11_readsRule 11 = .ok (.iload_n 1, 1) := by decide +kernel
theorem dX11_readsRule_12 : decode cX11_readsRule 12 = .ok (.bipush 111, 2) := by decide +kernel
theorem dX11_readsRule_14 : decode cX11_readsRule 14 = .ok (.if_icmp .eq 19, 3) := by decide +kernel
theorem dX11_readsRule_17 : decode cX11_readsRule 17 = .ok (.iload_n 1, 1) := by decide +kernel
theorem dX11_readsRule_18 : decode cX11_readsRule 18 = .ok (.bipush 120, 2) := by decide +kernel
theorem dX11_readsRule_20 : decode cX11_readsRule 20 = .ok (.if_icmp .eq 13, 3) := by decide +kernel
theorem dX11_readsRule_23 : decode cX11_readsRule 23 = .ok (.aload_n 0, 1) := by decide +kernel
theorem dX11_readsRule_24 : decode cX11_readsRule 24 = .ok (.iconst 1, 1) := by decide +kernel
theorem dX11_readsRule_25 : decode cX11_readsRule 25 = .ok (.aload_n 0, 1) := by decide +kernel
theorem dX11_readsRule_26 : decode cX11_readsRule 26 = .ok (.getfield 162, 3) := by decide +kernel
theorem dX11_readsRule_29 : decode cX11_readsRule 29 = .ok (.invokevirtual 175, 3) := by decide +kernel
theorem dX11_readsRule_32 : decode cX11_readsRule 32 = .ok (.ireturn, 1) := by decide +kernel
theorem dX11_readsRule_33 : decode cX11_readsRule 33 = .ok (.aload_n 0, 1) := by decide +kernel
theorem dX11_readsRule_34 : decode cX11_readsRule 34 = .ok (.getfield 240, 3) := by decide +kernel
theorem dX11_readsRule_37 : decode cX11_readsRule 37 = .ok (.bipush 16, 2) := by decide +kernel
theorem dX11_readsRule_39 : decode cX11_readsRule 39 = .ok (.if_icmp .ne 13, 3) := by decide +kernel
theorem dX11_readsRule_42 : decode cX11_readsRule 42 = .ok (.aload_n 0, 1) := by decide +kernel
theorem dX11_readsRule_43 : decode cX11_readsRule 43 = .ok (.iconst 4, 1) := by decide +kernel
theorem dX11_readsRule_44 : decode cX11_readsRule 44 = .ok (.aload_n 0, 1) := by decide +kernel
theorem dX11_readsRule_45 : decode cX11_readsRule 45 = .ok (.getfield 162, 3) := by decide +kernel
theorem dX11_readsRule_48 : decode cX11_readsRule 48 = .ok (.invokevirtual 175, 3) := by decide +kernel
theorem dX11_readsRule_51 : decode cX11_readsRule 51 = .ok (.ireturn, 1) := by decide +kernel
theorem dX11_readsRule_52 : decode cX11_readsRule 52 = .ok (.aload_n 0, 1) := by decide +kernel
theorem dX11_readsRule_53 : decode cX11_readsRule 53 = .ok (.getfield 41, 3) := by decide +kernel
theorem dX11_readsRule_56 : decode cX11_readsRule 56 = .ok (.aload_n 0, 1) := by decide +kernel
theorem dX11_readsRule_57 : decode cX11_readsRule 57 = .ok (.getfield 240, 3) := by decide +kernel
theorem dX11_readsRule_60 : decode cX11_readsRule 60 = .ok (.iload_n 1, 1) := by decide +kernel
theorem dX11_readsRule_61 : decode cX11_readsRule 61 = .ok (.iastore, 1) := by decide +kernel
theorem dX11_readsRule_62 : decode cX11_readsRule 62 = .ok (.aload_n 0, 1) := by decide +kernel
theorem dX11_readsRule_63 : decode cX11_readsRule 63 = .ok (.aload_n 0, 1) := by decide +kernel
theorem dX11_readsRule_64 : decode cX11_readsRule 64 = .ok (.getfield 162, 3) := by decide +kernel
theorem dX11_readsRule_67 : decode cX11_readsRule 67 = .ok (.iconst 1, 1) := by decide +kernel
theorem dX11_readsRule_68 : decode cX11_readsRule 68 = .ok (.iadd, 1) := by decide +kernel
theorem dX11_readsRule_69 : decode cX11_readsRule 69 = .ok (.putfield 162, 3) := by decide +kernel
theorem dX11_readsRule_72 : decode cX11_readsRule 72 = .ok (.aload_n 0, 1) := by decide +kernel
theorem dX11_readsRule_73 : decode cX11_readsRule 73 = .ok (.getfield 44, 3) := by decide +kernel
theorem dX11_readsRule_76 : decode cX11_readsRule 76 = .ok (.aload_n 0, 1) := by decide +kernel
theorem dX11_readsRule_77 : decode cX11_readsRule 77 = .ok (.getfield 240, 3) := by decide +kernel
theorem dX11_readsRule_80 : decode cX11_readsRule 80 = .ok (.aload_n 0, 1) := by decide +kernel
theorem dX11_readsRule_81 : decode cX11_readsRule 81 = .ok (.getfield 185, 3) := by decide +kernel
theorem dX11_readsRule_84 : decode cX11_readsRule 84 = .ok (.iastore, 1) := by decide +kernel
theorem dX11_readsRule_85 : decode cX11_readsRule 85 = .ok (.aload_n 0, 1) := by decide +kernel
theorem dX11_readsRule_86 : decode cX11_readsRule 86 = .ok (.iconst 0, 1) := by decide +kernel
theorem dX11_readsRule_87 : decode cX11_readsRule 87 = .ok (.putfield 189, 3) := by decide +kernel
theorem dX11_readsRule_90 : decode cX11_readsRule 90 = .ok (.aload_n 0, 1) := by decide +kernel
theorem dX11_readsRule_91 : decode cX11_readsRule 91 = .ok (.iconst 0, 1) := by decide +kernel
theorem dX11_readsRule_92 : decode cX11_readsRule 92 = .ok (.putfield 192, 3) := by decide +kernel
theorem dX11_readsRule_95 : decode cX11_readsRule 95 = .ok (.iload_n 1, 1) := by decide +kernel
theorem dX11_readsRule_96 : decode cX11_readsRule 96 = .ok (.bipush 120, 2) := by decide +kernel
theorem dX11_readsRule_98 : decode cX11_readsRule 98 = .ok (.if_icmp .eq 12, 3) := by decide +kernel
theorem dX11_readsRule_101 : decode cX11_readsRule 101 = .ok (.aload_n 0, 1) := by decide +kernel
theorem dX11_readsRule_102 : decode cX11_readsRule 102 = .ok (.invokevirtual 225, 3) := by decide +kernel
theorem dX11_readsRule_105 : decode cX11_readsRule 105 = .ok (.ifCond .ne 5, 3) := by decide +kernel
theorem dX11_readsRule_108 : decode cX11_readsRule 108 = .ok (.iconst 0, 1) := by decide +kernel
theorem dX11_readsRule_109 : decode cX11_readsRule 109 = .ok (.ireturn, 1) := by decide +kernel
theorem dX11_readsRule_110 : decode cX11_readsRule 110 = .ok (.aload_n 0, 1) := by decide +kernel
theorem dX11_readsRule_111 : decode cX11_readsRule 111 = .ok (.getfield 47, 3) := by decide +kernel
theorem dX11_readsRule_114 : decode cX11_readsRule 114 = .ok (.aload_n 0, 1) := by decide +kernel
theorem dX11_readsRule_115 : decode cX11_readsRule 115 = .ok (.getfield 240, 3) := by decide +kernel
theorem dX11_readsRule_118 : decode cX11_readsRule 118 = .ok (.aload_n 0, 1) := by decide +kernel
theorem dX11_readsRule_119 : decode cX11_readsRule 119 = .ok (.getfield 185, 3) := by decide +kernel
theorem dX11_readsRule_122 : decode cX11_readsRule 122 = .ok (.iastore, 1) := by decide +kernel
theorem dX11_readsRule_123 : decode cX11_readsRule 123 = .ok (.aload_n 0, 1) := by decide +kernel
theorem dX11_readsRule_124 : decode cX11_readsRule 124 = .ok (.invokevirtual 243, 3) := by decide +kernel
theorem dX11_readsRule_127 : decode cX11_readsRule 127 = .ok (.ifCond .ne 5, 3) := by decide +kernel
theorem dX11_readsRule_130 : decode cX11_readsRule 130 = .ok (.iconst 0, 1) := by decide +kernel
theorem dX11_readsRule_131 : decode cX11_readsRule 131 = .ok (.ireturn, 1) := by decide +kernel
theorem dX11_readsRule_132 : decode cX11_readsRule 132 = .ok (.aload_n 0, 1) := by decide +kernel
theorem dX11_readsRule_133 : decode cX11_readsRule 133 = .ok (.getfield 50, 3) := by decide +kernel
theorem dX11_readsRule_136 : decode cX11_readsRule 136 = .ok (.aload_n 0, 1) := by decide +kernel
theorem dX11_readsRule_137 : decode cX11_readsRule 137 = .ok (.getfield 240, 3) := by decide +kernel
theorem dX11_readsRule_140 : decode cX11_readsRule 140 = .ok (.aload_n 0, 1) := by decide +kernel
theorem dX11_readsRule_141 : decode cX11_readsRule 141 = .ok (.getfield 185, 3) := by decide +kernel
theorem dX11_readsRule_144 : decode cX11_readsRule 144 = .ok (.iastore, 1) := by decide +kernel
theorem dX11_readsRule_145 : decode cX11_readsRule 145 = .ok (.aload_n 0, 1) := by decide +kernel
theorem dX11_readsRule_146 : decode cX11_readsRule 146 = .ok (.aload_n 0, 1) := by decide +kernel
theorem dX11_readsRule_147 : decode cX11_readsRule 147 = .ok (.getfield 240, 3) := by decide +kernel
theorem dX11_readsRule_150 : decode cX11_readsRule 150 = .ok (.iconst 1, 1) := by decide +kernel
theorem dX11_readsRule_151 : decode cX11_readsRule 151 = .ok (.iadd, 1) := by decide +kernel
theorem dX11_readsRule_152 : decode cX11_readsRule 152 = .ok (.putfield 240, 3) := by decide +kernel
theorem dX11_readsRule_155 : decode cX11_readsRule 155 = .ok (.iconst 1, 1) := by decide +kernel
theorem dX11_readsRule_156 : decode cX11_readsRule 156 = .ok (.ireturn, 1) := by decide +kernel
theorem dX11_beginsText_0 : decode cX11_beginsText 0 = .ok (.aload_n 0, 1) := by decide +kernel
theorem dX11_beginsText_1 : decode cX11_beginsText 1 = .ok (.iconst 0, 1) := by decide +kernel
theorem dX11_beginsText_2 : decode cX11_beginsText 2 = .ok (.putfield 162, 3) := by decide +kernel
theorem dX11_beginsText_5 : decode cX11_beginsText 5 = .ok (.aload_n 0, 1) := by decide +kernel
theorem dX11_beginsText_6 : decode cX11_beginsText 6 = .ok (.iload_n 1, 1) := by decide +kernel
theorem dX11_beginsText_7 : decode cX11_beginsText 7 = .ok (.putfield 165, 3) := by decide +kernel
theorem dX11_beginsText_10 : decode cX11_beginsText 10 = .ok (.aload_n 0, 1) := by decide +kernel
theorem dX11_beginsText_11 : decode cX11_beginsText 11 = .ok (.iconst 0, 1) := by decide +kernel
theorem dX11_beginsText_12 : decode cX11_beginsText 12 = .ok (.putfield 185, 3) := by decide +kernel
theorem dX11_beginsText_15 : decode cX11_beginsText 15 = .ok (.aload_n 0, 1) := by decide +kernel
theorem dX11_beginsText_16 : decode cX11_beginsText 16 = .ok (.iconst 0, 1) := by decide +kernel
theorem dX11_beginsText_17 : decode cX11_beginsText 17 = .ok (.putfield 240, 3) := by decide +kernel
theorem dX11_beginsText_20 : decode cX11_beginsText 20 = .ok (.return_, 1) := by decide +kernel
theorem dX11_law_0 : decode cX11_law 0 = .ok (.iload_n 1, 1) := by decide +kernel
theorem dX11_law_1 : decode cX11_law 1 = .ok (.iconst 1, 1) := by decide +kernel
theorem dX11_law_2 : decode cX11_law 2 = .ok (.sipush 240, 3) := by decide +kernel
theorem dX11_law_5 : decode cX11_law 5 = .ok (.invokestatic 129, 3) := by decide +kernel
theorem dX11_law_8 : decode cX11_law 8 = .ok (.ifCond .eq 11, 3) := by decide +kernel
theorem dX11_law_11 : decode cX11_law 11 = .ok (.iload_n 1, 1) := by decide +kernel
theorem dX11_law_12 : decode cX11_law 12 = .ok (.aload_n 0, 1) := by decide +kernel
theorem dX11_law_13 : decode cX11_law 13 = .ok (.getfield 155, 3) := by decide +kernel
theorem dX11_law_16 : decode cX11_law 16 = .ok (.if_icmp .le 5, 3) := by decide +kernel
theorem dX11_law_19 : decode cX11_law 19 = .ok (.iconst (-1), 1) := by decide +kernel
theorem dX11_law_20 : decode cX11_law 20 = .ok (.ireturn, 1) := by decide +kernel
theorem dX11_law_21 : decode cX11_law 21 = .ok (.aload_n 0, 1) := by decide +kernel
theorem dX11_law_22 : decode cX11_law 22 = .ok (.iload_n 1, 1) := by decide +kernel
theorem dX11_law_23 : decode cX11_law 23 = .ok (.invokevirtual 246, 3) := by decide +kernel
theorem dX11_law_26 : decode cX11_law 26 = .ok (.aload_n 0, 1) := by decide +kernel
theorem dX11_law_27 : decode cX11_law 27 = .ok (.invokevirtual 249, 3) := by decide +kernel
theorem dX11_law_30 : decode cX11_law 30 = .ok (.istore_n 2, 1) := by decide +kernel
theorem dX11_law_31 : decode cX11_law 31 = .ok (.iload_n 2, 1) := by decide +kernel
theorem dX11_law_32 : decode cX11_law 32 = .ok (.ifCond .eq 39, 3) := by decide +kernel
theorem dX11_law_35 : decode cX11_law 35 = .ok (.aload_n 0, 1) := by decide +kernel
theorem dX11_law_36 : decode cX11_law 36 = .ok (.getfield 162, 3) := by decide +kernel
theorem dX11_law_39 : decode cX11_law 39 = .ok (.aload_n 0, 1) := by decide +kernel
theorem dX11_law_40 : decode cX11_law 40 = .ok (.getfield 165, 3) := by decide +kernel
theorem dX11_law_43 : decode cX11_law 43 = .ok (.if_icmp .ge 28, 3) := by decide +kernel
theorem dX11_law_46 : decode cX11_law 46 = .ok (.aload_n 0, 1) := by decide +kernel
theorem dX11_law_47 : decode cX11_law 47 = .ok (.bipush 59, 2) := by decide +kernel
theorem dX11_law_49 : decode cX11_law 49 = .ok (.invokevirtual 252, 3) := by decide +kernel
theorem dX11_law_52 : decode cX11_law 52 = .ok (.ifCond .eq 14, 3) := by decide +kernel
theorem dX11_law_55 : decode cX11_law 55 = .ok (.aload_n 0, 1) := by decide +kernel
theorem dX11_law_56 : decode cX11_law 56 = .ok (.invokevirtual 249, 3) := by decide +kernel
theorem dX11_law_59 : decode cX11_law 59 = .ok (.ifCond .eq 7, 3) := by decide +kernel
theorem dX11_law_62 : decode cX11_law 62 = .ok (.iconst 1, 1) := by decide +kernel
theorem dX11_law_63 : decode cX11_law 63 = .ok (.goto 4, 3) := by decide +kernel
theorem dX11_law_66 : decode cX11_law 66 = .ok (.iconst 0, 1) := by decide +kernel
theorem dX11_law_67 : decode cX11_law 67 = .ok (.istore_n 2, 1) := by decide +kernel
theorem dX11_law_68 : decode cX11_law 68 = .ok (.goto (-37), 3) := by decide +kernel
theorem dX11_law_71 : decode cX11_law 71 = .ok (.aload_n 0, 1) := by decide +kernel
theorem dX11_law_72 : decode cX11_law 72 = .ok (.iconst 0, 1) := by decide +kernel
theorem dX11_law_73 : decode cX11_law 73 = .ok (.putfield 155, 3) := by decide +kernel
theorem dX11_law_76 : decode cX11_law 76 = .ok (.iload_n 2, 1) := by decide +kernel
theorem dX11_law_77 : decode cX11_law 77 = .ok (.ifCond .ne 8, 3) := by decide +kernel
theorem dX11_law_80 : decode cX11_law 80 = .ok (.aload_n 0, 1) := by decide +kernel
theorem dX11_law_81 : decode cX11_law 81 = .ok (.getfield 172, 3) := by decide +kernel
theorem dX11_law_84 : decode cX11_law 84 = .ok (.ireturn, 1) := by decide +kernel
theorem dX11_law_85 : decode cX11_law 85 = .ok (.aload_n 0, 1) := by decide +kernel
theorem dX11_law_86 : decode cX11_law 86 = .ok (.aload_n 0, 1) := by decide +kernel
theorem dX11_law_87 : decode cX11_law 87 = .ok (.getfield 240, 3) := by decide +kernel
theorem dX11_law_90 : decode cX11_law 90 = .ok (.putfield 255, 3) := by decide +kernel
theorem dX11_law_93 : decode cX11_law 93 = .ok (.iconst 0, 1) := by decide +kernel
theorem dX11_law_94 : decode cX11_law 94 = .ok (.istore_n 3, 1) := by decide +kernel
theorem dX11_law_95 : decode cX11_law 95 = .ok (.iload_n 3, 1) := by decide +kernel
theorem dX11_law_96 : decode cX11_law 96 = .ok (.aload_n 0, 1) := by decide +kernel
theorem dX11_law_97 : decode cX11_law 97 = .ok (.getfield 185, 3) := by decide +kernel
theorem dX11_law_100 : decode cX11_law 100 = .ok (.if_icmp .ge 21, 3) := by decide +kernel
theorem dX11_law_103 : decode cX11_law 103 = .ok (.aload_n 0, 1) := by decide +kernel
theorem dX11_law_104 : decode cX11_law 104 = .ok (.getfield 53, 3) := by decide +kernel
theorem dX11_law_107 : decode cX11_law 107 = .ok (.iload_n 3, 1) := by decide +kernel
theorem dX11_law_108 : decode cX11_law 108 = .ok (.aload_n 0, 1) := by decide +kernel
theorem dX11_law_109 : decode cX11_law 109 = .ok (.getfield 35, 3) := by decide +kernel
theorem dX11_law_112 : decode cX11_law 112 = .ok (.iload_n 3, 1) := by decide +kernel
theorem dX11_law_113 : decode cX11_law 113 = .ok (.iaload, 1) := by decide +kernel
theorem dX11_law_114 : decode cX11_law 114 = .ok (.iastore, 1) := by decide +kernel
theorem dX11_law_115 : decode cX11_law 115 = .ok (.iinc 3 1, 3) := by decide +kernel
theorem dX11_law_118 : decode cX11_law 118 = .ok (.goto (-23), 3) := by decide +kernel
theorem dX11_law_121 : decode cX11_law 121 = .ok (.iconst 0, 1) := by decide +kernel
theorem dX11_law_122 : decode cX11_law 122 = .ok (.istore_n 3, 1) := by decide +kernel
theorem dX11_law_123 : decode cX11_law 123 = .ok (.iload_n 3, 1) := by decide +kernel
theorem dX11_law_124 : decode cX11_law 124 = .ok (.aload_n 0, 1) := by decide +kernel
theorem dX11_law_125 : decode cX11_law 125 = .ok (.getfield 240, 3) := by decide +kernel
theorem dX11_law_128 : decode cX11_law 128 = .ok (.if_icmp .ge 57, 3) := by decide +kernel
theorem dX11_law_131 : decode cX11_law 131 = .ok (.aload_n 0, 1) := by decide +kernel
theorem dX11_law_132 : decode cX11_law 132 = .ok (.getfield 56, 3) := by decide +kernel
theorem dX11_law_135 : decode cX11_law 135 = .ok (.iload_n 3, 1) := by decide +kernel
theorem dX11_law_136 : decode cX11_law 136 = .ok (.aload_n 0, 1) := by decide +kernel
theorem dX11_law_137 : decode cX11_law 137 = .ok (.getfield 41, 3) := by decide +kernel
theorem dX11_law_140 : decode cX11_law 140 = .ok (.iload_n 3, 1) := by decide +kernel
theorem dX11_law_141 : decode cX11_law 141 = .ok (.iaload, 1) := by decide +kernel
theorem dX11_law_142 : decode cX11_law 142 = .ok (.iastore, 1) := by decide +kernel
theorem dX11_law_143 : decode cX11_law 143 = .ok (.aload_n 0, 1) := by decide +kernel
theorem dX11_law_144 : decode cX11_law 144 = .ok (.getfield 59, 3) := by decide +kernel
theorem dX11_law_147 : decode cX11_law 147 = .ok (.iload_n 3, 1) := by decide +kernel
theorem dX11_law_148 : decode cX11_law 148 = .ok (.aload_n 0, 1) := by decide +kernel
theorem dX11_law_149 : decode cX11_law 149 = .ok (.getfield 44, 3) := by decide +kernel
theorem dX11_law_152 : decode cX11_law 152 = .ok (.iload_n 3, 1) := by decide +kernel
theorem dX11_law_153 : decode cX11_law 153 = .ok (.iaload, 1) := by decide +kernel
theorem dX11_law_154 : decode cX11_law 154 = .ok (.iastore, 1) := by decide +kernel
theorem dX11_law_155 : decode cX11_law 155 = .ok (.aload_n 0, 1) := by decide +kernel
theorem dX11_law_156 : decode cX11_law 156 = .ok (.getfield 62, 3) := by decide +kernel
theorem dX11_law_159 : decode cX11_law 159 = .ok (.iload_n 3, 1) := by decide +kernel
theorem dX11_law_160 : decode cX11_law 160 = .ok (.aload_n 0, 1) := by decide +kernel
theorem dX11_law_161 : decode cX11_law 161 = .ok (.getfield 47, 3) := by decide +kernel
theorem dX11_law_164 : decode cX11_law 164 = .ok (.iload_n 3, 1) := by decide +kernel
theorem dX11_law_165 : decode cX11_law 165 = .ok (.iaload, 1) := by decide +kernel
theorem dX11_law_166 : decode cX11_law 166 = .ok (.iastore, 1) := by decide +kernel
theorem dX11_law_167 : decode cX11_law 167 = .ok (.aload_n 0, 1) := by decide +kernel
theorem dX11_law_168 : decode cX11_law 168 = .ok (.getfield 65, 3) := by decide +kernel
theorem dX11_law_171 : decode cX11_law 171 = .ok (.iload_n 3, 1) := by decide +kernel
theorem dX11_law_172 : decode cX11_law 172 = .ok (.aload_n 0, 1) := by decide +kernel
theorem dX11_law_173 : decode cX11_law 173 = .ok (.getfield 50, 3) := by decide +kernel
theorem dX11_law_176 : decode cX11_law 176 = .ok (.iload_n 3, 1) := by decide +kernel
theorem dX11_law_177 : decode cX11_law 177 = .ok (.iaload, 1) := by decide +kernel
theorem dX11_law_178 : decode cX11_law 178 = .ok (.iastore, 1) := by decide +kernel
theorem dX11_law_179 : decode cX11_law 179 = .ok (.iinc 3 1, 3) := by decide +kernel
theorem dX11_law_182 : decode cX11_law 182 = .ok (.goto (-59), 3) := by decide +kernel
theorem dX11_law_185 : decode cX11_law 185 = .ok (.aload_n 0, 1) := by decide +kernel
theorem dX11_law_186 : decode cX11_law 186 = .ok (.getfield 240, 3) := by decide +kernel
theorem dX11_law_189 : decode cX11_law 189 = .ok (.ireturn, 1) := by decide +kernel
theorem dX11_reckon_0 : decode cX11_reckon 0 = .ok (.iload_n 0, 1) := by decide +kernel
theorem dX11_reckon_1 : decode cX11_reckon 1 = .ok (.tableswitch 85 2 8 #[43, 47, 51, 55, 59, 63, 74], 43) := by decide +kernel
theorem dX11_reckon_44 : decode cX11_reckon 44 = .ok (.iload_n 1, 1) := by decide +kernel
theorem dX11_reckon_45 : decode cX11_reckon 45 = .ok (.iload_n 2, 1) := by decide +kernel
theorem dX11_reckon_46 : decode cX11_reckon 46 = .ok (.iadd, 1) := by decide +kernel
theorem dX11_reckon_47 : decode cX11_reckon 47 = .ok (.ireturn, 1) := by decide +kernel
theorem dX11_reckon_48 : decode cX11_reckon 48 = .ok (.iload_n 1, 1) := by decide +kernel
theorem dX11_reckon_49 : decode cX11_reckon 49 = .ok (.iload_n 2, 1) := by decide +kernel
theorem dX11_reckon_50 : decode cX11_reckon 50 = .ok (.isub, 1) := by decide +kernel
theorem dX11_reckon_51 : decode cX11_reckon 51 = .ok (.ireturn, 1) := by decide +kernel
theorem dX11_reckon_52 : decode cX11_reckon 52 = .ok (.iload_n 1, 1) := by decide +kernel
theorem dX11_reckon_53 : decode cX11_reckon 53 = .ok (.iload_n 2, 1) := by decide +kernel
theorem dX11_reckon_54 : decode cX11_reckon 54 = .ok (.imul, 1) := by decide +kernel
theorem dX11_reckon_55 : decode cX11_reckon 55 = .ok (.ireturn, 1) := by decide +kernel
theorem dX11_reckon_56 : decode cX11_reckon 56 = .ok (.iload_n 1, 1) := by decide +kernel
theorem dX11_reckon_57 : decode cX11_reckon 57 = .ok (.iload_n 2, 1) := by decide +kernel
theorem dX11_reckon_58 : decode cX11_reckon 58 = .ok (.idiv, 1) := by decide +kernel
theorem dX11_reckon_59 : decode cX11_reckon 59 = .ok (.ireturn, 1) := by decide +kernel
theorem dX11_reckon_60 : decode cX11_reckon 60 = .ok (.iload_n 1, 1) := by decide +kernel
theorem dX11_reckon_61 : decode cX11_reckon 61 = .ok (.iload_n 2, 1) := by decide +kernel
theorem dX11_reckon_62 : decode cX11_reckon 62 = .ok (.irem, 1) := by decide +kernel
theorem dX11_reckon_63 : decode cX11_reckon 63 = .ok (.ireturn, 1) := by decide +kernel
theorem dX11_reckon_64 : decode cX11_reckon 64 = .ok (.iload_n 1, 1) := by decide +kernel
theorem dX11_reckon_65 : decode cX11_reckon 65 = .ok (.iload_n 2, 1) := by decide +kernel
theorem dX11_reckon_66 : decode cX11_reckon 66 = .ok (.if_icmp .ge 7, 3) := by decide +kernel
theorem dX11_reckon_69 : decode cX11_reckon 69 = .ok (.iconst 1, 1) := by decide +kernel
theorem dX11_reckon_70 : decode cX11_reckon 70 = .ok (.goto 4, 3) := by decide +kernel
theorem dX11_reckon_73 : decode cX11_reckon 73 = .ok (.iconst 0, 1) := by decide +kernel
theorem dX11_reckon_74 : decode cX11_reckon 74 = .ok (.ireturn, 1) := by decide +kernel
theorem dX11_reckon_75 : decode cX11_reckon 75 = .ok (.iload_n 1, 1) := by decide +kernel
theorem dX11_reckon_76 : decode cX11_reckon 76 = .ok (.iload_n 2, 1) := by decide +kernel
theorem dX11_reckon_77 : decode cX11_reckon 77 = .ok (.if_icmp .le 7, 3) := by decide +kernel
theorem dX11_reckon_80 : decode cX11_reckon 80 = .ok (.iconst 1, 1) := by decide +kernel
theorem dX11_reckon_81 : decode cX11_reckon 81 = .ok (.goto 4, 3) := by decide +kernel
theorem dX11_reckon_84 : decode cX11_reckon 84 = .ok (.iconst 0, 1) := by decide +kernel
theorem dX11_reckon_85 : decode cX11_reckon 85 = .ok (.ireturn, 1) := by decide +kernel
theorem dX11_reckon_86 : decode cX11_reckon 86 = .ok (.iload_n 1, 1) := by decide +kernel
theorem dX11_reckon_87 : decode cX11_reckon 87 = .ok (.iload_n 2, 1) := by decide +kernel
theorem dX11_reckon_88 : decode cX11_reckon 88 = .ok (.if_icmp .ne 7, 3) := by decide +kernel
theorem dX11_reckon_91 : decode cX11_reckon 91 = .ok (.iconst 1, 1) := by decide +kernel
theorem dX11_reckon_92 : decode cX11_reckon 92 = .ok (.goto 4, 3) := by decide +kernel
theorem dX11_reckon_95 : decode cX11_reckon 95 = .ok (.iconst 0, 1) := by decide +kernel
theorem dX11_reckon_96 : decode cX11_reckon 96 = .ok (.ireturn, 1) := by decide +kernel
theorem dX11_reckonsTo_0 : decode cX11_reckonsTo 0 = .ok (.iconst 0, 1) := by decide +kernel
theorem dX11_reckonsTo_1 : decode cX11_reckonsTo 1 = .ok (.istore_n 3, 1) := by decide +kernel
theorem dX11_reckonsTo_2 : decode cX11_reckonsTo 2 = .ok (.sipush 260, 3) := by decide +kernel
theorem dX11_reckonsTo_5 : decode cX11_reckonsTo 5 = .ok (.iload_n 1, 1) := by decide +kernel
theorem dX11_reckonsTo_6 : decode cX11_reckonsTo 6 = .ok (.sipush 260, 3) := by decide +kernel
theorem dX11_reckonsTo_9 : decode cX11_reckonsTo 9 = .ok (.idiv, 1) := by decide +kernel
theorem dX11_reckonsTo_10 : decode cX11_reckonsTo 10 = .ok (.imul, 1) := by decide +kernel
theorem dX11_reckonsTo_11 : decode cX11_reckonsTo 11 = .ok (.istore 4, 2) := by decide +kernel
theorem dX11_reckonsTo_13 : decode cX11_reckonsTo 13 = .ok (.iload_n 1, 1) := by decide +kernel
theorem dX11_reckonsTo_14 : decode cX11_reckonsTo 14 = .ok (.istore 5, 2) := by decide +kernel
theorem dX11_reckonsTo_16 : decode cX11_reckonsTo 16 = .ok (.iload 5, 2) := by decide +kernel
theorem dX11_reckonsTo_18 : decode cX11_reckonsTo 18 = .ok (.iload_n 2, 1) := by decide +kernel
theorem dX11_reckonsTo_19 : decode cX11_reckonsTo 19 = .ok (.if_icmp .ge 214, 3) := by decide +kernel
theorem dX11_reckonsTo_22 : decode cX11_reckonsTo 22 = .ok (.aload_n 0, 1) := by decide +kernel
theorem dX11_reckonsTo_23 : decode cX11_reckonsTo 23 = .ok (.getfield 53, 3) := by decide +kernel
theorem dX11_reckonsTo_26 : decode cX11_reckonsTo 26 = .ok (.iload 5, 2) := by decide +kernel
theorem dX11_reckonsTo_28 : decode cX11_reckonsTo 28 = .ok (.iaload, 1) := by decide +kernel
theorem dX11_reckonsTo_29 : decode cX11_reckonsTo 29 = .ok (.ldc 188, 2) := by decide +kernel
theorem dX11_reckonsTo_31 : decode cX11_reckonsTo 31 = .ok (.idiv, 1) := by decide +kernel
theorem dX11_reckonsTo_32 : decode cX11_reckonsTo 32 = .ok (.istore 6, 2) := by decide +kernel
theorem dX11_reckonsTo_34 : decode cX11_reckonsTo 34 = .ok (.aload_n 0, 1) := by decide +kernel
theorem dX11_reckonsTo_35 : decode cX11_reckonsTo 35 = .ok (.getfield 53, 3) := by decide +kernel
theorem dX11_reckonsTo_38 : decode cX11_reckonsTo 38 = .ok (.iload 5, 2) := by decide +kernel
theorem dX11_reckonsTo_40 : decode cX11_reckonsTo 40 = .ok (.iaload, 1) := by decide +kernel
theorem dX11_reckonsTo_41 : decode cX11_reckonsTo 41 = .ok (.ldc 188, 2) := by decide +kernel
theorem dX11_reckonsTo_43 : decode cX11_reckonsTo 43 = .ok (.irem, 1) := by decide +kernel
theorem dX11_reckonsTo_44 : decode cX11_reckonsTo 44 = .ok (.istore 7, 2) := by decide +kernel
theorem dX11_reckonsTo_46 : decode cX11_reckonsTo 46 = .ok (.iload 5, 2) := by decide +kernel
theorem dX11_reckonsTo_48 : decode cX11_reckonsTo 48 = .ok (.iconst 1, 1) := by decide +kernel
theorem dX11_reckonsTo_49 : decode cX11_reckonsTo 49 = .ok (.iadd, 1) := by decide +kernel
theorem dX11_reckonsTo_50 : decode cX11_reckonsTo 50 = .ok (.istore 5, 2) := by decide +kernel
theorem dX11_reckonsTo_52 : decode cX11_reckonsTo 52 = .ok (.iload 6, 2) := by decide +kernel
theorem dX11_reckonsTo_54 : decode cX11_reckonsTo 54 = .ok (.ifCond .eq 9, 3) := by decide +kernel
theorem dX11_reckonsTo_57 : decode cX11_reckonsTo 57 = .ok (.iload 6, 2) := by decide +kernel
theorem dX11_reckonsTo_59 : decode cX11_reckonsTo 59 = .ok (.iconst 1, 1) := by decide +kernel
theorem dX11_reckonsTo_60 : decode cX11_reckonsTo 60 = .ok (.if_icmp .ne 33, 3) := by decide +kernel
theorem dX11_reckonsTo_63 : decode cX11_reckonsTo 63 = .ok (.aload_n 0, 1) := by decide +kernel
theorem dX11_reckonsTo_64 : decode cX11_reckonsTo 64 = .ok (.getfield 68, 3) := by decide +kernel
theorem dX11_reckonsTo_67 : decode cX11_reckonsTo 67 = .ok (.iload_n 3, 1) := by decide +kernel
theorem dX11_reckonsTo_68 : decode cX11_reckonsTo 68 = .ok (.iload 6, 2) := by decide +kernel
theorem dX11_reckonsTo_70 : decode cX11_reckonsTo 70 = .ok (.ifCond .ne 8, 3) := by decide +kernel
theorem dX11_reckonsTo_73 : decode cX11_reckonsTo 73 = .ok (.iload 7, 2) := by decide +kernel
theorem dX11_reckonsTo_75 : decode cX11_reckonsTo 75 = .ok (.goto 10, 3) := by decide +kernel
theorem dX11_reckonsTo_78 : decode cX11_reckonsTo 78 = .ok (.aload_n 0, 1) := by decide +kernel
theorem dX11_reckonsTo_79 : decode cX11_reckonsTo 79 = .ok (.getfield 71, 3) := by decide +kernel
theorem dX11_reckonsTo_82 : decode cX11_reckonsTo 82 = .ok (.iload 7, 2) := by decide +kernel
theorem dX11_reckonsTo_84 : decode cX11_reckonsTo 84 = .ok (.iaload, 1) := by decide +kernel
theorem dX11_reckonsTo_85 : decode cX11_reckonsTo 85 = .ok (.iastore, 1) := by decide +kernel
theorem dX11_reckonsTo_86 : decode cX11_reckonsTo 86 = .ok (.iload_n 3, 1) := by decide +kernel
theorem dX11_reckonsTo_87 : decode cX11_reckonsTo 87 = .ok (.iconst 1, 1) := by decide +kernel
theorem dX11_reckonsTo_88 : decode cX11_reckonsTo 88 = .ok (.iadd, 1) := by decide +kernel
theorem dX11_reckonsTo_89 : decode cX11_reckonsTo 89 = .ok (.istore_n 3, 1) := by decide +kernel
theorem dX11_reckonsTo_90 : decode cX11_reckonsTo 90 = .ok (.goto 140, 3) := by decide +kernel
theorem dX11_reckonsTo_93 : decode cX11_reckonsTo 93 = .ok (.iload 6, 2) := by decide +kernel
theorem dX11_reckonsTo_95 : decode cX11_reckonsTo 95 = .ok (.bipush 10, 2) := by decide +kernel
theorem dX11_reckonsTo_97 : decode cX11_reckonsTo 97 = .ok (.if_icmp .ne 24, 3) := by decide +kernel
theorem dX11_reckonsTo_100 : decode cX11_reckonsTo 100 = .ok (.aload_n 0, 1) := by decide +kernel
theorem dX11_reckonsTo_101 : decode cX11_reckonsTo 101 = .ok (.getfield 68, 3) := by decide +kernel
theorem dX11_reckonsTo_104 : decode cX11_reckonsTo 104 = .ok (.iload_n 3, 1) := by decide +kernel
theorem dX11_reckonsTo_105 : decode cX11_reckonsTo 105 = .ok (.iconst 1, 1) := by decide +kernel
theorem dX11_reckonsTo_106 : decode cX11_reckonsTo 106 = .ok (.isub, 1) := by decide +kernel
theorem dX11_reckonsTo_107 : decode cX11_reckonsTo 107 = .ok (.iconst 1, 1) := by decide +kernel
theorem dX11_reckonsTo_108 : decode cX11_reckonsTo 108 = .ok (.aload_n 0, 1) := by decide +kernel
theorem dX11_reckonsTo_109 : decode cX11_reckonsTo 109 = .ok (.getfield 68, 3) := by decide +kernel
theorem dX11_reckonsTo_112 : decode cX11_reckonsTo 112 = .ok (.iload_n 3, 1) := by decide +kernel
theorem dX11_reckonsTo_113 : decode cX11_reckonsTo 113 = .ok (.iconst 1, 1) := by decide +kernel
theorem dX11_reckonsTo_114 : decode cX11_reckonsTo 114 = .ok (.isub, 1) := by decide +kernel
theorem dX11_reckonsTo_115 : decode cX11_reckonsTo 115 = .ok (.iaload, 1) := by decide +kernel
theorem dX11_reckonsTo_116 : decode cX11_reckonsTo 116 = .ok (.isub, 1) := by decide +kernel
theorem dX11_reckonsTo_117 : decode cX11_reckonsTo 117 = .ok (.iastore, 1) := by decide +kernel
theorem dX11_reckonsTo_118 : decode cX11_reckonsTo 118 = .ok (.goto 112, 3) := by decide +kernel
theorem dX11_reckonsTo_121 : decode cX11_reckonsTo 121 = .ok (.iload 6, 2) := by decide +kernel
theorem dX11_reckonsTo_123 : decode cX11_reckonsTo 123 = .ok (.bipush 11, 2) := by decide +kernel
theorem dX11_reckonsTo_125 : decode cX11_reckonsTo 125 = .ok (.if_icmp .eq 10, 3) := by decide +kernel
theorem dX11_reckonsTo_128 : decode cX11_reckonsTo 128 = .ok (.iload 6, 2) := by decide +kernel
theorem dX11_reckonsTo_130 : decode cX11_reckonsTo 130 = .ok (.bipush 12, 2) := by decide +kernel
theorem dX11_reckonsTo_132 : decode cX11_reckonsTo 132 = .ok (.if_icmp .ne 43, 3) := by decide +kernel
theorem dX11_reckonsTo_135 : decode cX11_reckonsTo 135 = .ok (.aload_n 0, 1) := by decide +kernel
theorem dX11_reckonsTo_136 : decode cX11_reckonsTo 136 = .ok (.getfield 68, 3) := by decide +kernel
theorem dX11_reckonsTo_139 : decode cX11_reckonsTo 139 = .ok (.iload_n 3, 1) := by decide +kernel
theorem dX11_reckonsTo_140 : decode cX11_reckonsTo 140 = .ok (.iconst 1, 1) := by decide +kernel
theorem dX11_reckonsTo_141 : decode cX11_reckonsTo 141 = .ok (.isub, 1) := by decide +kernel
theorem dX11_reckonsTo_142 : decode cX11_reckonsTo 142 = .ok (.iaload, 1) := by decide +kernel
theorem dX11_reckonsTo_143 : decode cX11_reckonsTo 143 = .ok (.iload 6, 2) := by decide +kernel
theorem dX11_reckonsTo_145 : decode cX11_reckonsTo 145 = .ok (.bipush 12, 2) := by decide +kernel
theorem dX11_reckonsTo_147 : decode cX11_reckonsTo 147 = .ok (.if_icmp .ne 7, 3) := by decide +kernel
theorem dX11_reckonsTo_150 : decode cX11_reckonsTo 150 = .ok (.iconst 1, 1) := by decide +kernel
theorem dX11_reckonsTo_151 : decode cX11_reckonsTo 151 = .ok (.goto 4, 3) := by decide +kernel
theorem dX11_reckonsTo_154 : decode cX11_reckonsTo 154 = .ok (.iconst 0, 1) := by decide +kernel
theorem dX11_reckonsTo_155 : decode cX11_reckonsTo 155 = .ok (.if_icmp .ne 13, 3) := by decide +kernel
theorem dX11_reckonsTo_158 : decode cX11_reckonsTo 158 = .ok (.iload 4, 2) := by decide +kernel
theorem dX11_reckonsTo_160 : decode cX11_reckonsTo 160 = .ok (.iload 7, 2) := by decide +kernel
theorem dX11_reckonsTo_162 : decode cX11_reckonsTo 162 = .ok (.iadd, 1) := by decide +kernel
theorem dX11_reckonsTo_163 : decode cX11_reckonsTo 163 = .ok (.istore 5, 2) := by decide +kernel
theorem dX11_reckonsTo_165 : decode cX11_reckonsTo 165 = .ok (.goto 65, 3) := by decide +kernel
theorem dX11_reckonsTo_168 : decode cX11_reckonsTo 168 = .ok (.iload_n 3, 1) := by decide +kernel
theorem dX11_reckonsTo_169 : decode cX11_reckonsTo 169 = .ok (.iconst 1, 1) := by decide +kernel
theorem dX11_reckonsTo_170 : decode cX11_reckonsTo 170 = .ok (.isub, 1) := by decide +kernel
theorem dX11_reckonsTo_171 : decode cX11_reckonsTo 171 = .ok (.istore_n 3, 1) := by decide +kernel
theorem dX11_reckonsTo_172 : decode cX11_reckonsTo 172 = .ok (.goto 58, 3) := by decide +kernel
theorem dX11_reckonsTo_175 : decode cX11_reckonsTo 175 = .ok (.iload_n 3, 1) := by decide +kernel
theorem dX11_reckonsTo_176 : decode cX11_reckonsTo 176 = .ok (.iconst 1, 1) := by decide +kernel
theorem dX11_reckonsTo_177 : decode cX11_reckonsTo 177 = .ok (.isub, 1) := by decide +kernel
theorem dX11_reckonsTo_178 : decode cX11_reckonsTo 178 = .ok (.istore_n 3, 1) := by decide +kernel
theorem dX11_reckonsTo_179 : decode cX11_reckonsTo 179 = .ok (.iload 6, 2) := by decide +kernel
theorem dX11_reckonsTo_181 : decode cX11_reckonsTo 181 = .ok (.iconst 5, 1) := by decide +kernel
theorem dX11_reckonsTo_182 : decode cX11_reckonsTo 182 = .ok (.if_icmp .eq 10, 3) := by decide +kernel
theorem dX11_reckonsTo_185 : decode cX11_reckonsTo 185 = .ok (.iload 6, 2) := by decide +kernel
theorem dX11_reckonsTo_187 : decode cX11_reckonsTo 187 = .ok (.bipush 6, 2) := by decide +kernel
theorem dX11_reckonsTo_189 : decode cX11_reckonsTo 189 = .ok (.if_icmp .ne 14, 3) := by decide +kernel
theorem dX11_reckonsTo_192 : decode cX11_reckonsTo 192 = .ok (.aload_n 0, 1) := by decide +kernel
theorem dX11_reckonsTo_193 : decode cX11_reckonsTo 193 = .ok (.getfield 68, 3) := by decide +kernel
theorem dX11_reckonsTo_196 : decode cX11_reckonsTo 196 = .ok (.iload_n 3, 1) := by decide +kernel
theorem dX11_reckonsTo_197 : decode cX11_reckonsTo 197 = .ok (.iaload, 1) := by decide +kernel
theorem dX11_reckonsTo_198 : decode cX11_reckonsTo 198 = .ok (.ifCond .ne 5, 3) := by decide +kernel
theorem dX11_reckonsTo_201 : decode cX11_reckonsTo 201 = .ok (.iconst 0, 1) := by decide +kernel
theorem dX11_reckonsTo_202 : decode cX11_reckonsTo 202 = .ok (.ireturn, 1) := by decide +kernel
theorem dX11_reckonsTo_203 : decode cX11_reckonsTo 203 = .ok (.aload_n 0, 1) := by decide +kernel
theorem dX11_reckonsTo_204 : decode cX11_reckonsTo 204 = .ok (.getfield 68, 3) := by decide +kernel
theorem dX11_reckonsTo_207 : decode cX11_reckonsTo 207 = .ok (.iload_n 3, 1) := by decide +kernel
theorem dX11_reckonsTo_208 : decode cX11_reckonsTo 208 = .ok (.iconst 1, 1) := by decide +kernel
theorem dX11_reckonsTo_209 : decode cX11_reckonsTo 209 = .ok (.isub, 1) := by decide +kernel
theorem dX11_reckonsTo_210 : decode cX11_reckonsTo 210 = .ok (.iload 6, 2) := by decide +kernel
theorem dX11_reckonsTo_212 : decode cX11_reckonsTo 212 = .ok (.aload_n 0, 1) := by decide +kernel
theorem dX11_reckonsTo_213 : decode cX11_reckonsTo 213 = .ok (.getfield 68, 3) := by decide +kernel
theorem dX11_reckonsTo_216 : decode cX11_reckonsTo 216 = .ok (.iload_n 3, 1) := by decide +kernel
theorem dX11_reckonsTo_217 : decode cX11_reckonsTo 217 = .ok (.iconst 1, 1) := by decide +kernel
theorem dX11_reckonsTo_218 : decode cX11_reckonsTo 218 = .ok (.isub, 1) := by decide +kernel
theorem dX11_reckonsTo_219 : decode cX11_reckonsTo 219 = .ok (.iaload, 1) := by decide +kernel
theorem dX11_reckonsTo_220 : decode cX11_reckonsTo 220 = .ok (.aload_n 0, 1) := by decide +kernel
theorem dX11_reckonsTo_221 : decode cX11_reckonsTo 221 = .ok (.getfield 68, 3) := by decide +kernel
theorem dX11_reckonsTo_224 : decode cX11_reckonsTo 224 = .ok (.iload_n 3, 1) := by decide +kernel
theorem dX11_reckonsTo_225 : decode cX11_reckonsTo 225 = .ok (.iaload, 1) := by decide +kernel
theorem dX11_reckonsTo_226 : decode cX11_reckonsTo 226 = .ok (.invokestatic 258, 3) := by decide +kernel
theorem dX11_reckonsTo_229 : decode cX11_reckonsTo 229 = .ok (.iastore, 1) := by decide +kernel
theorem dX11_reckonsTo_230 : decode cX11_reckonsTo 230 = .ok (.goto (-214), 3) := by decide +kernel
theorem dX11_reckonsTo_233 : decode cX11_reckonsTo 233 = .ok (.aload_n 0, 1) := by decide +kernel
theorem dX11_reckonsTo_234 : decode cX11_reckonsTo 234 = .ok (.getfield 68, 3) := by decide +kernel
theorem dX11_reckonsTo_237 : decode cX11_reckonsTo 237 = .ok (.iconst 0, 1) := by decide +kernel
theorem dX11_reckonsTo_238 : decode cX11_reckonsTo 238 = .ok (.iaload, 1) := by decide +kernel
theorem dX11_reckonsTo_239 : decode cX11_reckonsTo 239 = .ok (.ireturn, 1) := by decide +kernel
theorem dX11_byLaw_0 : decode cX11_byLaw 0 = .ok (.iconst 0, 1) := by decide +kernel
theorem dX11_byLaw_1 : decode cX11_byLaw 1 = .ok (.istore_n 2, 1) := by decide +kernel
theorem dX11_byLaw_2 : decode cX11_byLaw 2 = .ok (.iload_n 2, 1) := by decide +kernel
theorem dX11_byLaw_3 : decode cX11_byLaw 3 = .ok (.aload_n 0, 1) := by decide +kernel
theorem dX11_byLaw_4 : decode cX11_byLaw 4 = .ok (.getfield 255, 3) := by decide +kernel
theorem dX11_byLaw_7 : decode cX11_byLaw 7 = .ok (.if_icmp .ge 80, 3) := by decide +kernel
theorem dX11_byLaw_10 : decode cX11_byLaw 10 = .ok (.aload_n 0, 1) := by decide +kernel
theorem dX11_byLaw_11 : decode cX11_byLaw 11 = .ok (.getfield 56, 3) := by decide +kernel
theorem dX11_byLaw_14 : decode cX11_byLaw 14 = .ok (.iload_n 2, 1) := by decide +kernel
theorem dX11_byLaw_15 : decode cX11_byLaw 15 = .ok (.iaload, 1) := by decide +kernel
theorem dX11_byLaw_16 : decode cX11_byLaw 16 = .ok (.iload_n 1, 1) := by decide +kernel
theorem dX11_byLaw_17 : decode cX11_byLaw 17 = .ok (.if_icmp .ne 64, 3) := by decide +kernel
theorem dX11_byLaw_20 : decode cX11_byLaw 20 = .ok (.aload_n 0, 1) := by decide +kernel
theorem dX11_byLaw_21 : decode cX11_byLaw 21 = .ok (.aload_n 0, 1) := by decide +kernel
theorem dX11_byLaw_22 : decode cX11_byLaw 22 = .ok (.getfield 62, 3) := by decide +kernel
theorem dX11_byLaw_25 : decode cX11_byLaw 25 = .ok (.iload_n 2, 1) := by decide +kernel
theorem dX11_byLaw_26 : decode cX11_byLaw 26 = .ok (.iaload, 1) := by decide +kernel
theorem dX11_byLaw_27 : decode cX11_byLaw 27 = .ok (.aload_n 0, 1) := by decide +kernel
theorem dX11_byLaw_28 : decode cX11_byLaw 28 = .ok (.getfield 65, 3) := by decide +kernel
theorem dX11_byLaw_31 : decode cX11_byLaw 31 = .ok (.iload_n 2, 1) := by decide +kernel
theorem dX11_byLaw_32 : decode cX11_byLaw 32 = .ok (.iaload, 1) := by decide +kernel
theorem dX11_byLaw_33 : decode cX11_byLaw 33 = .ok (.invokevirtual 262, 3) := by decide +kernel
theorem dX11_byLaw_36 : decode cX11_byLaw 36 = .ok (.iconst 1, 1) := by decide +kernel
theorem dX11_byLaw_37 : decode cX11_byLaw 37 = .ok (.if_icmp .eq 6, 3) := by decide +kernel
theorem dX11_byLaw_40 : decode cX11_byLaw 40 = .ok (.goto 41, 3) := by decide +kernel
theorem dX11_byLaw_43 : decode cX11_byLaw 43 = .ok (.aload_n 0, 1) := by decide +kernel
theorem dX11_byLaw_44 : decode cX11_byLaw 44 = .ok (.aload_n 0, 1) := by decide +kernel
theorem dX11_byLaw_45 : decode cX11_byLaw 45 = .ok (.getfield 59, 3) := by decide +kernel
theorem dX11_byLaw_48 : decode cX11_byLaw 48 = .ok (.iload_n 2, 1) := by decide +kernel
theorem dX11_byLaw_49 : decode cX11_byLaw 49 = .ok (.iaload, 1) := by decide +kernel
theorem dX11_byLaw_50 : decode cX11_byLaw 50 = .ok (.aload_n 0, 1) := by decide +kernel
theorem dX11_byLaw_51 : decode cX11_byLaw 51 = .ok (.getfield 62, 3) := by decide +kernel
theorem dX11_byLaw_54 : decode cX11_byLaw 54 = .ok (.iload_n 2, 1) := by decide +kernel
theorem dX11_byLaw_55 : decode cX11_byLaw 55 = .ok (.iaload, 1) := by decide +kernel
theorem dX11_byLaw_56 : decode cX11_byLaw 56 = .ok (.invokevirtual 262, 3) := by decide +kernel
theorem dX11_byLaw_59 : decode cX11_byLaw 59 = .ok (.istore_n 3, 1) := by decide +kernel
theorem dX11_byLaw_60 : decode cX11_byLaw 60 = .ok (.iload_n 3, 1) := by decide +kernel
theorem dX11_byLaw_61 : decode cX11_byLaw 61 = .ok (.ifCond .ge 7, 3) := by decide +kernel
theorem dX11_byLaw_64 : decode cX11_byLaw 64 = .ok (.iconst 0, 1) := by decide +kernel
theorem dX11_byLaw_65 : decode cX11_byLaw 65 = .ok (.goto 15, 3) := by decide +kernel
theorem dX11_byLaw_68 : decode cX11_byLaw 68 = .ok (.iload_n 3, 1) := by decide +kernel
theorem dX11_byLaw_69 : decode cX11_byLaw 69 = .ok (.bipush 99, 2) := by decide +kernel
theorem dX11_byLaw_71 : decode cX11_byLaw 71 = .ok (.if_icmp .le 8, 3) := by decide +kernel
theorem dX11_byLaw_74 : decode cX11_byLaw 74 = .ok (.bipush 99, 2) := by decide +kernel
theorem dX11_byLaw_76 : decode cX11_byLaw 76 = .ok (.goto 4, 3) := by decide +kernel
theorem dX11_byLaw_79 : decode cX11_byLaw 79 = .ok (.iload_n 3, 1) := by decide +kernel
theorem dX11_byLaw_80 : decode cX11_byLaw 80 = .ok (.ireturn, 1) := by decide +kernel
theorem dX11_byLaw_81 : decode cX11_byLaw 81 = .ok (.iinc 2 1, 3) := by decide +kernel
theorem dX11_byLaw_84 : decode cX11_byLaw 84 = .ok (.goto (-82), 3) := by decide +kernel
theorem dX11_byLaw_87 : decode cX11_byLaw 87 = .ok (.iconst 1, 1) := by decide +kernel
theorem dX11_byLaw_88 : decode cX11_byLaw 88 = .ok (.ireturn, 1) := by decide +kernel
theorem dX11_holdsAny_0 : decode cX11_holdsAny 0 = .ok (.iconst 0, 1) := by decide +kernel
theorem dX11_holdsAny_1 : decode cX11_holdsAny 1 = .ok (.istore_n 2, 1) := by decide +kernel
theorem dX11_holdsAny_2 : decode cX11_holdsAny 2 = .ok (.iload_n 2, 1) := by decide +kernel
theorem dX11_holdsAny_3 : decode cX11_holdsAny 3 = .ok (.aload_n 0, 1) := by decide +kernel
theorem dX11_holdsAny_4 : decode cX11_holdsAny 4 = .ok (.getfield 255, 3) := by decide +kernel
theorem dX11_holdsAny_7 : decode cX11_holdsAny 7 = .ok (.if_icmp .ge 41, 3) := by decide +kernel
theorem dX11_holdsAny_10 : decode cX11_holdsAny 10 = .ok (.aload_n 0, 1) := by decide +kernel
theorem dX11_holdsAny_11 : decode cX11_holdsAny 11 = .ok (.getfield 56, 3) := by decide +kernel
theorem dX11_holdsAny_14 : decode cX11_holdsAny 14 = .ok (.iload_n 2, 1) := by decide +kernel
theorem dX11_holdsAny_15 : decode cX11_holdsAny 15 = .ok (.iaload, 1) := by decide +kernel
theorem dX11_holdsAny_16 : decode cX11_holdsAny 16 = .ok (.iload_n 1, 1) := by decide +kernel
theorem dX11_holdsAny_17 : decode cX11_holdsAny 17 = .ok (.if_icmp .ne 25, 3) := by decide +kernel
theorem dX11_holdsAny_20 : decode cX11_holdsAny 20 = .ok (.aload_n 0, 1) := by decide +kernel
theorem dX11_holdsAny_21 : decode cX11_holdsAny 21 = .ok (.aload_n 0, 1) := by decide +kernel
theorem dX11_holdsAny_22 : decode cX11_holdsAny 22 = .ok (.getfield 62, 3) := by decide +kernel
theorem dX11_holdsAny_25 : decode cX11_holdsAny 25 = .ok (.iload_n 2, 1) := by decide +kernel
theorem dX11_holdsAny_26 : decode cX11_holdsAny 26 = .ok (.iaload, 1) := by decide +kernel
theorem dX11_holdsAny_27 : decode cX11_holdsAny 27 = .ok (.aload_n 0, 1) := by decide +kernel
theorem dX11_holdsAny_28 : decode cX11_holdsAny 28 = .ok (.getfield 65, 3) := by decide +kernel
theorem dX11_holdsAny_31 : decode cX11_holdsAny 31 = .ok (.iload_n 2, 1) := by decide +kernel
theorem dX11_holdsAny_32 : decode cX11_holdsAny 32 = .ok (.iaload, 1) := by decide +kernel
theorem dX11_holdsAny_33 : decode cX11_holdsAny 33 = .ok (.invokevirtual 262, 3) := by decide +kernel
theorem dX11_holdsAny_36 : decode cX11_holdsAny 36 = .ok (.iconst 1, 1) := by decide +kernel
theorem dX11_holdsAny_37 : decode cX11_holdsAny 37 = .ok (.if_icmp .ne 5, 3) := by decide +kernel
theorem dX11_holdsAny_40 : decode cX11_holdsAny 40 = .ok (.iconst 1, 1) := by decide +kernel
theorem dX11_holdsAny_41 : decode cX11_holdsAny 41 = .ok (.ireturn, 1) := by decide +kernel
theorem dX11_holdsAny_42 : decode cX11_holdsAny 42 = .ok (.iinc 2 1, 3) := by decide +kernel
theorem dX11_holdsAny_45 : decode cX11_holdsAny 45 = .ok (.goto (-43), 3) := by decide +kernel
theorem dX11_holdsAny_48 : decode cX11_holdsAny 48 = .ok (.iconst 0, 1) := by decide +kernel
theorem dX11_holdsAny_49 : decode cX11_holdsAny 49 = .ok (.ireturn, 1) := by decide +kernel
theorem dX11_isLetter_0 : decode cX11_isLetter 0 = .ok (.aload_n 0, 1) := by decide +kernel
theorem dX11_isLetter_1 : decode cX11_isLetter 1 = .ok (.invokevirtual 168, 3) := by decide +kernel
theorem dX11_isLetter_4 : decode cX11_isLetter 4 = .ok (.bipush 97, 2) := by decide +kernel
theorem dX11_isLetter_6 : decode cX11_isLetter 6 = .ok (.isub, 1) := by decide +kernel
theorem dX11_isLetter_7 : decode cX11_isLetter 7 = .ok (.iconst 0, 1) := by decide +kernel
theorem dX11_isLetter_8 : decode cX11_isLetter 8 = .ok (.bipush 15, 2) := by decide +kernel
theorem dX11_isLetter_10 : decode cX11_isLetter 10 = .ok (.invokestatic 129, 3) := by decide +kernel
theorem dX11_isLetter_13 : decode cX11_isLetter 13 = .ok (.ireturn, 1) := by decide +kernel
theorem dX11_readsAmount_0 : decode cX11_readsAmount 0 = .ok (.aload_n 0, 1) := by decide +kernel
theorem dX11_readsAmount_1 : decode cX11_readsAmount 1 = .ok (.getfield 162, 3) := by decide +kernel
theorem dX11_readsAmount_4 : decode cX11_readsAmount 4 = .ok (.istore_n 2, 1) := by decide +kernel
theorem dX11_readsAmount_5 : decode cX11_readsAmount 5 = .ok (.aload_n 0, 1) := by decide +kernel
theorem dX11_readsAmount_6 : decode cX11_readsAmount 6 = .ok (.invokevirtual 181, 3) := by decide +kernel
theorem dX11_readsAmount_9 : decode cX11_readsAmount 9 = .ok (.ifCond .ne 13, 3) := by decide +kernel
theorem dX11_readsAmount_12 : decode cX11_readsAmount 12 = .ok (.aload_n 0, 1) := by decide +kernel
theorem dX11_readsAmount_13 : decode cX11_readsAmount 13 = .ok (.iconst 1, 1) := by decide +kernel
theorem dX11_readsAmount_14 : decode cX11_readsAmount 14 = .ok (.aload_n 0, 1) := by decide +kernel
theorem dX11_readsAmount_15 : decode cX11_readsAmount 15 = .ok (.getfield 162, 3) := by decide +kernel
theorem dX11_readsAmount_18 : decode cX11_readsAmount 18 = .ok (.invokevirtual 175, 3) := by decide +kernel
theorem dX11_readsAmount_21 : decode cX11_readsAmount 21 = .ok (.ireturn, 1) := by decide +kernel
theorem dX11_readsAmount_22 : decode cX11_readsAmount 22 = .ok (.aload_n 0, 1) := by decide +kernel
theorem dX11_readsAmount_23 : decode cX11_readsAmount 23 = .ok (.iconst 0, 1) := by decide +kernel
theorem dX11_readsAmount_24 : decode cX11_readsAmount 24 = .ok (.putfield 178, 3) := by decide +kernel
theorem dX11_readsAmount_27 : decode cX11_readsAmount 27 = .ok (.aload_n 0, 1) := by decide +kernel
theorem dX11_readsAmount_28 : decode cX11_readsAmount 28 = .ok (.invokevirtual 181, 3) := by decide +kernel
theorem dX11_readsAmount_31 : decode cX11_readsAmount 31 = .ok (.ifCond .eq 55, 3) := by decide +kernel
theorem dX11_readsAmount_34 : decode cX11_readsAmount 34 = .ok (.aload_n 0, 1) := by decide +kernel
theorem dX11_readsAmount_35 : decode cX11_readsAmount 35 = .ok (.getfield 162, 3) := by decide +kernel
theorem dX11_readsAmount_38 : decode cX11_readsAmount 38 = .ok (.iload_n 2, 1) := by decide +kernel
theorem dX11_readsAmount_39 : decode cX11_readsAmount 39 = .ok (.iload_n 1, 1) := by decide +kernel
theorem dX11_readsAmount_40 : decode cX11_readsAmount 40 = .ok (.iadd, 1) := by decide +kernel
theorem dX11_readsAmount_41 : decode cX11_readsAmount 41 = .ok (.if_icmp .ne 13, 3) := by decide +kernel
theorem dX11_readsAmount_44 : decode cX11_readsAmount 44 = .ok (.aload_n 0, 1) := by decide +kernel
theorem dX11_readsAmount_45 : decode cX11_readsAmount 45 = .ok (.iconst 2, 1) := by decide +kernel
theorem dX11_readsAmount_46 : decode cX11_readsAmount 46 = .ok (.aload_n 0, 1) := by decide +kernel
theorem dX11_readsAmount_47 : decode cX11_readsAmount 47 = .ok (.getfield 162, 3) := by decide +kernel
theorem dX11_readsAmount_50 : decode cX11_readsAmount 50 = .ok (.invokevirtual 175, 3) := by decide +kernel
theorem dX11_readsAmount_53 : decode cX11_readsAmount 53 = .ok (.ireturn, 1) := by decide +kernel
theorem dX11_readsAmount_54 : decode cX11_readsAmount 54 = .ok (.aload_n 0, 1) := by decide +kernel
theorem dX11_readsAmount_55 : decode cX11_readsAmount 55 = .ok (.bipush 10, 2) := by decide +kernel
theorem dX11_readsAmount_57 : decode cX11_readsAmount 57 = .ok (.aload_n 0, 1) := by decide +kernel
theorem dX11_readsAmount_58 : decode cX11_readsAmount 58 = .ok (.getfield 178, 3) := by decide +kernel
theorem dX11_readsAmount_61 : decode cX11_readsAmount 61 = .ok (.imul, 1) := by decide +kernel
theorem dX11_readsAmount_62 : decode cX11_readsAmount 62 = .ok (.aload_n 0, 1) := by decide +kernel
theorem dX11_readsAmount_63 : decode cX11_readsAmount 63 = .ok (.invokevirtual 168, 3) := by decide +kernel
theorem dX11_readsAmount_66 : decode cX11_readsAmount 66 = .ok (.iadd, 1) := by decide +kernel
theorem dX11_readsAmount_67 : decode cX11_readsAmount 67 = .ok (.bipush 48, 2) := by decide +kernel
theorem dX11_readsAmount_69 : decode cX11_readsAmount 69 = .ok (.isub, 1) := by decide +kernel
theorem dX11_readsAmount_70 : decode cX11_readsAmount 70 = .ok (.putfield 178, 3) := by decide +kernel
theorem dX11_readsAmount_73 : decode cX11_readsAmount 73 = .ok (.aload_n 0, 1) := by decide +kernel
theorem dX11_readsAmount_74 : decode cX11_readsAmount 74 = .ok (.aload_n 0, 1) := by decide +kernel
theorem dX11_readsAmount_75 : decode cX11_readsAmount 75 = .ok (.getfield 162, 3) := by decide +kernel
theorem dX11_readsAmount_78 : decode cX11_readsAmount 78 = .ok (.iconst 1, 1) := by decide +kernel
theorem dX11_readsAmount_79 : decode cX11_readsAmount 79 = .ok (.iadd, 1) := by decide +kernel
theorem dX11_readsAmount_80 : decode cX11_readsAmount 80 = .ok (.putfield 162, 3) := by decide +kernel
theorem dX11_readsAmount_83 : decode cX11_readsAmount 83 = .ok (.goto (-56), 3) := by decide +kernel
theorem dX11_readsAmount_86 : decode cX11_readsAmount 86 = .ok (.iconst 1, 1) := by decide +kernel
theorem dX11_readsAmount_87 : decode cX11_readsAmount 87 = .ok (.ireturn, 1) := by decide +kernel
theorem dX11_readsRoad_0 : decode cX11_readsRoad 0 = .ok (.aload_n 0, 1) := by decide +kernel
theorem dX11_readsRoad_1 : decode cX11_readsRoad 1 = .ok (.getfield 265, 3) := by decide +kernel
theorem dX11_readsRoad_4 : decode cX11_readsRoad 4 = .ok (.bipush 24, 2) := by decide +kernel
theorem dX11_readsRoad_6 : decode cX11_readsRoad 6 = .ok (.if_icmp .ne 13, 3) := by decide +kernel
theorem dX11_readsRoad_9 : decode cX11_readsRoad 9 = .ok (.aload_n 0, 1) := by decide +kernel
theorem dX11_readsRoad_10 : decode cX11_readsRoad 10 = .ok (.iconst 5, 1) := by decide +kernel
theorem dX11_readsRoad_11 : decode cX11_readsRoad 11 = .ok (.aload_n 0, 1) := by decide +kernel
theorem dX11_readsRoad_12 : decode cX11_readsRoad 12 = .ok (.getfield 162, 3) := by decide +kernel
theorem dX11_readsRoad_15 : decode cX11_readsRoad 15 = .ok (.invokevirtual 175, 3) := by decide +kernel
theorem dX11_readsRoad_18 : decode cX11_readsRoad 18 = .ok (.ireturn, 1) := by decide +kernel
theorem dX11_readsRoad_19 : decode cX11_readsRoad 19 = .ok (.aload_n 0, 1) := by decide +kernel
theorem dX11_readsRoad_20 : decode cX11_readsRoad 20 = .ok (.aload_n 0, 1) := by decide +kernel
theorem dX11_readsRoad_21 : decode cX11_readsRoad 21 = .ok (.getfield 162, 3) := by decide +kernel
theorem dX11_readsRoad_24 : decode cX11_readsRoad 24 = .ok (.iconst 1, 1) := by decide +kernel
theorem dX11_readsRoad_25 : decode cX11_readsRoad 25 = .ok (.iadd, 1) := by decide +kernel
theorem dX11_readsRoad_26 : decode cX11_readsRoad 26 = .ok (.putfield 162, 3) := by decide +kernel
theorem dX11_readsRoad_29 : decode cX11_readsRoad 29 = .ok (.aload_n 0, 1) := by decide +kernel
theorem dX11_readsRoad_30 : decode cX11_readsRoad 30 = .ok (.invokevirtual 268, 3) := by decide +kernel
theorem dX11_readsRoad_33 : decode cX11_readsRoad 33 = .ok (.ifCond .ne 13, 3) := by decide +kernel
theorem dX11_readsRoad_36 : decode cX11_readsRoad 36 = .ok (.aload_n 0, 1) := by decide +kernel
theorem dX11_readsRoad_37 : decode cX11_readsRoad 37 = .ok (.iconst 1, 1) := by decide +kernel
theorem dX11_readsRoad_38 : decode cX11_readsRoad 38 = .ok (.aload_n 0, 1) := by decide +kernel
theorem dX11_readsRoad_39 : decode cX11_readsRoad 39 = .ok (.getfield 162, 3) := by decide +kernel
theorem dX11_readsRoad_42 : decode cX11_readsRoad 42 = .ok (.invokevirtual 175, 3) := by decide +kernel
theorem dX11_readsRoad_45 : decode cX11_readsRoad 45 = .ok (.ireturn, 1) := by decide +kernel
theorem dX11_readsRoad_46 : decode cX11_readsRoad 46 = .ok (.aload_n 0, 1) := by decide +kernel
theorem dX11_readsRoad_47 : decode cX11_readsRoad 47 = .ok (.invokevirtual 168, 3) := by decide +kernel
theorem dX11_readsRoad_50 : decode cX11_readsRoad 50 = .ok (.bipush 97, 2) := by decide +kernel
theorem dX11_readsRoad_52 : decode cX11_readsRoad 52 = .ok (.isub, 1) := by decide +kernel
theorem dX11_readsRoad_53 : decode cX11_readsRoad 53 = .ok (.istore_n 2, 1) := by decide +kernel
theorem dX11_readsRoad_54 : decode cX11_readsRoad 54 = .ok (.iload_n 2, 1) := by decide +kernel
theorem dX11_readsRoad_55 : decode cX11_readsRoad 55 = .ok (.iload_n 1, 1) := by decide +kernel
theorem dX11_readsRoad_56 : decode cX11_readsRoad 56 = .ok (.if_icmp .ne 14, 3) := by decide +kernel
theorem dX11_readsRoad_59 : decode cX11_readsRoad 59 = .ok (.aload_n 0, 1) := by decide +kernel
theorem dX11_readsRoad_60 : decode cX11_readsRoad 60 = .ok (.bipush 6, 2) := by decide +kernel
theorem dX11_readsRoad_62 : decode cX11_readsRoad 62 = .ok (.aload_n 0, 1) := by decide +kernel
theorem dX11_readsRoad_63 : decode cX11_readsRoad 63 = .ok (.getfield 162, 3) := by decide +kernel
theorem dX11_readsRoad_66 : decode cX11_readsRoad 66 = .ok (.invokevirtual 175, 3) := by decide +kernel
theorem dX11_readsRoad_69 : decode cX11_readsRoad 69 = .ok (.ireturn, 1) := by decide +kernel
theorem dX11_readsRoad_70 : decode cX11_readsRoad 70 = .ok (.aload_n 0, 1) := by decide +kernel
theorem dX11_readsRoad_71 : decode cX11_readsRoad 71 = .ok (.aload_n 0, 1) := by decide +kernel
theorem dX11_readsRoad_72 : decode cX11_readsRoad 72 = .ok (.getfield 162, 3) := by decide +kernel
theorem dX11_readsRoad_75 : decode cX11_readsRoad 75 = .ok (.iconst 1, 1) := by decide +kernel
theorem dX11_readsRoad_76 : decode cX11_readsRoad 76 = .ok (.iadd, 1) := by decide +kernel
theorem dX11_readsRoad_77 : decode cX11_readsRoad 77 = .ok (.putfield 162, 3) := by decide +kernel
theorem dX11_readsRoad_80 : decode cX11_readsRoad 80 = .ok (.aload_n 0, 1) := by decide +kernel
theorem dX11_readsRoad_81 : decode cX11_readsRoad 81 = .ok (.getfield 162, 3) := by decide +kernel
theorem dX11_readsRoad_84 : decode cX11_readsRoad 84 = .ok (.istore_n 3, 1) := by decide +kernel
theorem dX11_readsRoad_85 : decode cX11_readsRoad 85 = .ok (.aload_n 0, 1) := by decide +kernel
theorem dX11_readsRoad_86 : decode cX11_readsRoad 86 = .ok (.iconst 2, 1) := by decide +kernel
theorem dX11_readsRoad_87 : decode cX11_readsRoad 87 = .ok (.invokevirtual 271, 3) := by decide +kernel
theorem dX11_readsRoad_90 : decode cX11_readsRoad 90 = .ok (.ifCond .ne 5, 3) := by decide +kernel
theorem dX11_readsRoad_93 : decode cX11_readsRoad 93 = .ok (.iconst 0, 1) := by decide +kernel
theorem dX11_readsRoad_94 : decode cX11_readsRoad 94 = .ok (.ireturn, 1) := by decide +kernel
theorem dX11_readsRoad_95 : decode cX11_readsRoad 95 = .ok (.aload_n 0, 1) := by decide +kernel
theorem dX11_readsRoad_96 : decode cX11_readsRoad 96 = .ok (.getfield 178, 3) := by decide +kernel
theorem dX11_readsRoad_99 : decode cX11_readsRoad 99 = .ok (.ifCond .ne 10, 3) := by decide +kernel
theorem dX11_readsRoad_102 : decode cX11_readsRoad 102 = .ok (.aload_n 0, 1) := by decide +kernel
theorem dX11_readsRoad_103 : decode cX11_readsRoad 103 = .ok (.iconst 3, 1) := by decide +kernel
theorem dX11_readsRoad_104 : decode cX11_readsRoad 104 = .ok (.iload_n 3, 1) := by decide +kernel
theorem dX11_readsRoad_105 : decode cX11_readsRoad 105 = .ok (.invokevirtual 175, 3) := by decide +kernel
theorem dX11_readsRoad_108 : decode cX11_readsRoad 108 = .ok (.ireturn, 1) := by decide +kernel
theorem dX11_readsRoad_109 : decode cX11_readsRoad 109 = .ok (.aload_n 0, 1) := by decide +kernel
theorem dX11_readsRoad_110 : decode cX11_readsRoad 110 = .ok (.aload_n 0, 1) := by decide +kernel
theorem dX11_readsRoad_111 : decode cX11_readsRoad 111 = .ok (.getfield 274, 3) := by decide +kernel
theorem dX11_readsRoad_114 : decode cX11_readsRoad 114 = .ok (.iconst 1, 1) := by decide +kernel
theorem dX11_readsRoad_115 : decode cX11_readsRoad 115 = .ok (.iload_n 2, 1) := by decide +kernel
theorem dX11_readsRoad_116 : decode cX11_readsRoad 116 = .ok (.ishl, 1) := by decide +kernel
theorem dX11_readsRoad_117 : decode cX11_readsRoad 117 = .ok (.ior, 1) := by decide +kernel
theorem dX11_readsRoad_118 : decode cX11_readsRoad 118 = .ok (.putfield 274, 3) := by decide +kernel
theorem dX11_readsRoad_121 : decode cX11_readsRoad 121 = .ok (.aload_n 0, 1) := by decide +kernel
theorem dX11_readsRoad_122 : decode cX11_readsRoad 122 = .ok (.getfield 77, 3) := by decide +kernel
theorem dX11_readsRoad_125 : decode cX11_readsRoad 125 = .ok (.aload_n 0, 1) := by decide +kernel
theorem dX11_readsRoad_126 : decode cX11_readsRoad 126 = .ok (.getfield 265, 3) := by decide +kernel
theorem dX11_readsRoad_129 : decode cX11_readsRoad 129 = .ok (.iload_n 1, 1) := by decide +kernel
theorem dX11_readsRoad_130 : decode cX11_readsRoad 130 = .ok (.iastore, 1) := by decide +kernel
theorem dX11_readsRoad_131 : decode cX11_readsRoad 131 = .ok (.aload_n 0, 1) := by decide +kernel
theorem dX11_readsRoad_132 : decode cX11_readsRoad 132 = .ok (.getfield 80, 3) := by decide +kernel
theorem dX11_readsRoad_135 : decode cX11_readsRoad 135 = .ok (.aload_n 0, 1) := by decide +kernel
theorem dX11_readsRoad_136 : decode cX11_readsRoad 136 = .ok (.getfield 265, 3) := by decide +kernel
theorem dX11_readsRoad_139 : decode cX11_readsRoad 139 = .ok (.iload_n 2, 1) := by decide +kernel
theorem dX11_readsRoad_140 : decode cX11_readsRoad 140 = .ok (.iastore, 1) := by decide +kernel
theorem dX11_readsRoad_141 : decode cX11_readsRoad 141 = .ok (.aload_n 0, 1) := by decide +kernel
theorem dX11_readsRoad_142 : decode cX11_readsRoad 142 = .ok (.getfield 83, 3) := by decide +kernel
theorem dX11_readsRoad_145 : decode cX11_readsRoad 145 = .ok (.aload_n 0, 1) := by decide +kernel
theorem dX11_readsRoad_146 : decode cX11_readsRoad 146 = .ok (.getfield 265, 3) := by decide +kernel
theorem dX11_readsRoad_149 : decode cX11_readsRoad 149 = .ok (.aload_n 0, 1) := by decide +kernel
theorem dX11_readsRoad_150 : decode cX11_readsRoad 150 = .ok (.getfield 178, 3) := by decide +kernel
theorem dX11_readsRoad_153 : decode cX11_readsRoad 153 = .ok (.iastore, 1) := by decide +kernel
theorem dX11_readsRoad_154 : decode cX11_readsRoad 154 = .ok (.aload_n 0, 1) := by decide +kernel
theorem dX11_readsRoad_155 : decode cX11_readsRoad 155 = .ok (.aload_n 0, 1) := by decide +kernel
theorem dX11_readsRoad_156 : decode cX11_readsRoad 156 = .ok (.getfield 265, 3) := by decide +kernel
theorem dX11_readsRoad_159 : decode cX11_readsRoad 159 = .ok (.iconst 1, 1) := by decide +kernel
theorem dX11_readsRoad_160 : decode cX11_readsRoad 160 = .ok (.iadd, 1) := by decide +kernel
theorem dX11_readsRoad_161 : decode cX11_readsRoad 161 = .ok (.putfield 265, 3) := by decide +kernel
theorem dX11_readsRoad_164 : decode cX11_readsRoad 164 = .ok (.iconst 1, 1) := by decide +kernel
theorem dX11_readsRoad_165 : decode cX11_readsRoad 165 = .ok (.ireturn, 1) := by decide +kernel
theorem dX11_readsTownLine_0 : decode cX11_readsTownLine 0 = .ok (.aload_n 0, 1) := by decide +kernel
theorem dX11_readsTownLine_1 : decode cX11_readsTownLine 1 = .ok (.invokevirtual 268, 3) := by decide +kernel
theorem dX11_readsTownLine_4 : decode cX11_readsTownLine 4 = .ok (.ifCond .ne 13, 3) := by decide +kernel
theorem dX11_readsTownLine_7 : decode cX11_readsTownLine 7 = .ok (.aload_n 0, 1) := by decide +kernel
theorem dX11_readsTownLine_8 : decode cX11_readsTownLine 8 = .ok (.iconst 1, 1) := by decide +kernel
theorem dX11_readsTownLine_9 : decode cX11_readsTownLine 9 = .ok (.aload_n 0, 1) := by decide +kernel
theorem dX11_readsTownLine_10 : decode cX11_readsTownLine 10 = .ok (.getfield 162, 3) := by decide +kernel
theorem dX11_readsTownLine_13 : decode cX11_readsTownLine 13 = .ok (.invokevirtual 175, 3) := by decide +kernel
theorem dX11_readsTownLine_16 : decode cX11_readsTownLine 16 = .ok (.ireturn, 1) := by decide +kernel
theorem dX11_readsTownLine_17 : decode cX11_readsTownLine 17 = .ok (.aload_n 0, 1) := by decide +kernel
theorem dX11_readsTownLine_18 : decode cX11_readsTownLine 18 = .ok (.getfield 277, 3) := by decide +kernel
theorem dX11_readsTownLine_21 : decode cX11_readsTownLine 21 = .ok (.bipush 24, 2) := by decide +kernel
theorem dX11_readsTownLine_23 : decode cX11_readsTownLine 23 = .ok (.if_icmp .ne 13, 3) := by decide +kernel
theorem dX11_readsTownLine_26 : decode cX11_readsTownLine 26 = .ok (.aload_n 0, 1) := by decide +kernel
theorem dX11_readsTownLine_27 : decode cX11_readsTownLine 27 = .ok (.iconst 4, 1) := by decide +kernel
theorem dX11_readsTownLine_28 : decode cX11_readsTownLine 28 = .ok (.aload_n 0, 1) := by decide +kernel
theorem dX11_readsTownLine_29 : decode cX11_readsTownLine 29 = .ok (.getfield 162, 3) := by decide +kernel
theorem dX11_readsTownLine_32 : decode cX11_readsTownLine 32 = .ok (.invokevirtual 175, 3) := by decide +kernel
theorem dX11_readsTownLine_35 : decode cX11_readsTownLine 35 = .ok (.ireturn, 1) := by decide +kernel
theorem dX11_readsTownLine_36 : decode cX11_readsTownLine 36 = .ok (.aload_n 0, 1) := by decide +kernel
theorem dX11_readsTownLine_37 : decode cX11_readsTownLine 37 = .ok (.aload_n 0, 1) := by decide +kernel
theorem dX11_readsTownLine_38 : decode cX11_readsTownLine 38 = .ok (.getfield 277, 3) := by decide +kernel
theorem dX11_readsTownLine_41 : decode cX11_readsTownLine 41 = .ok (.iconst 1, 1) := by decide +kernel
theorem dX11_readsTownLine_42 : decode cX11_readsTownLine 42 = .ok (.iadd, 1) := by decide +kernel
theorem dX11_readsTownLine_43 : decode cX11_readsTownLine 43 = .ok (.putfield 277, 3) := by decide +kernel
theorem dX11_readsTownLine_46 : decode cX11_readsTownLine 46 = .ok (.aload_n 0, 1) := by decide +kernel
theorem dX11_readsTownLine_47 : decode cX11_readsTownLine 47 = .ok (.invokevirtual 168, 3) := by decide +kernel
theorem dX11_readsTownLine_50 : decode cX11_readsTownLine 50 = .ok (.bipush 97, 2) := by decide +kernel
theorem dX11_readsTownLine_52 : decode cX11_readsTownLine 52 = .ok (.isub, 1) := by decide +kernel
theorem dX11_readsTownLine_53 : decode cX11_readsTownLine 53 = .ok (.istore_n 1, 1) := by decide +kernel
theorem dX11_readsTownLine_54 : decode cX11_readsTownLine 54 = .ok (.aload_n 0, 1) := by decide +kernel
theorem dX11_readsTownLine_55 : decode cX11_readsTownLine 55 = .ok (.aload_n 0, 1) := by decide +kernel
theorem dX11_readsTownLine_56 : decode cX11_readsTownLine 56 = .ok (.getfield 162, 3) := by decide +kernel
theorem dX11_readsTownLine_59 : decode cX11_readsTownLine 59 = .ok (.iconst 1, 1) := by decide +kernel
theorem dX11_readsTownLine_60 : decode cX11_readsTownLine 60 = .ok (.iadd, 1) := by decide +kernel
theorem dX11_readsTownLine_61 : decode cX11_readsTownLine 61 = .ok (.putfield 162, 3) := by decide +kernel
theorem dX11_readsTownLine_64 : decode cX11_readsTownLine 64 = .ok (.aload_n 0, 1) := by decide +kernel
theorem dX11_readsTownLine_65 : decode cX11_readsTownLine 65 = .ok (.aload_n 0, 1) := by decide +kernel
theorem dX11_readsTownLine_66 : decode cX11_readsTownLine 66 = .ok (.getfield 274, 3) := by decide +kernel
theorem dX11_readsTownLine_69 : decode cX11_readsTownLine 69 = .ok (.iconst 1, 1) := by decide +kernel
theorem dX11_readsTownLine_70 : decode cX11_readsTownLine 70 = .ok (.iload_n 1, 1) := by decide +kernel
theorem dX11_readsTownLine_71 : decode cX11_readsTownLine 71 = .ok (.ishl, 1) := by decide +kernel
theorem dX11_readsTownLine_72 : decode cX11_readsTownLine 72 = .ok (.ior, 1) := by decide +kernel
theorem dX11_readsTownLine_73 : decode cX11_readsTownLine 73 = .ok (.putfield 274, 3) := by decide +kernel
theorem dX11_readsTownLine_76 : decode cX11_readsTownLine 76 = .ok (.aload_n 0, 1) := by decide +kernel
theorem dX11_readsTownLine_77 : decode cX11_readsTownLine 77 = .ok (.invokevirtual 168, 3) := by decide +kernel
theorem dX11_readsTownLine_80 : decode cX11_readsTownLine 80 = .ok (.bipush 61, 2) := by decide +kernel
theorem dX11_readsTownLine_82 : decode cX11_readsTownLine 82 = .ok (.if_icmp .ne 35, 3) := by decide +kernel
theorem dX11_readsTownLine_85 : decode cX11_readsTownLine 85 = .ok (.aload_n 0, 1) := by decide +kernel
theorem dX11_readsTownLine_86 : decode cX11_readsTownLine 86 = .ok (.aload_n 0, 1) := by decide +kernel
theorem dX11_readsTownLine_87 : decode cX11_readsTownLine 87 = .ok (.getfield 162, 3) := by decide +kernel
theorem dX11_readsTownLine_90 : decode cX11_readsTownLine 90 = .ok (.iconst 1, 1) := by decide +kernel
theorem dX11_readsTownLine_91 : decode cX11_readsTownLine 91 = .ok (.iadd, 1) := by decide +kernel
theorem dX11_readsTownLine_92 : decode cX11_readsTownLine 92 = .ok (.putfield 162, 3) := by decide +kernel
theorem dX11_readsTownLine_95 : decode cX11_readsTownLine 95 = .ok (.aload_n 0, 1) := by decide +kernel
theorem dX11_readsTownLine_96 : decode cX11_readsTownLine 96 = .ok (.iconst 2, 1) := by decide +kernel
theorem dX11_readsTownLine_97 : decode cX11_readsTownLine 97 = .ok (.invokevirtual 271, 3) := by decide +kernel
theorem dX11_readsTownLine_100 : decode cX11_readsTownLine 100 = .ok (.ifCond .ne 5, 3) := by decide +kernel
theorem dX11_readsTownLine_103 : decode cX11_readsTownLine 103 = .ok (.iconst 0, 1) := by decide +kernel
theorem dX11_readsTownLine_104 : decode cX11_readsTownLine 104 = .ok (.ireturn, 1) := by decide +kernel
theorem dX11_readsTownLine_105 : decode cX11_readsTownLine 105 = .ok (.aload_n 0, 1) := by decide +kernel
theorem dX11_readsTownLine_106 : decode cX11_readsTownLine 106 = .ok (.getfield 74, 3) := by decide +kernel
theorem dX11_readsTownLine_109 : decode cX11_readsTownLine 109 = .ok (.iload_n 1, 1) := by decide +kernel
theorem dX11_readsTownLine_110 : decode cX11_readsTownLine 110 = .ok (.aload_n 0, 1) := by decide +kernel
theorem dX11_readsTownLine_111 : decode cX11_readsTownLine 111 = .ok (.getfield 178, 3) := by decide +kernel
theorem dX11_readsTownLine_114 : decode cX11_readsTownLine 114 = .ok (.iastore, 1) := by decide +kernel
theorem dX11_readsTownLine_115 : decode cX11_readsTownLine 115 = .ok (.iconst 1, 1) := by decide +kernel
theorem dX11_readsTownLine_116 : decode cX11_readsTownLine 116 = .ok (.ireturn, 1) := by decide +kernel
theorem dX11_readsTownLine_117 : decode cX11_readsTownLine 117 = .ok (.aload_n 0, 1) := by decide +kernel
theorem dX11_readsTownLine_118 : decode cX11_readsTownLine 118 = .ok (.invokevirtual 168, 3) := by decide +kernel
theorem dX11_readsTownLine_121 : decode cX11_readsTownLine 121 = .ok (.bipush 45, 2) := by decide +kernel
theorem dX11_readsTownLine_123 : decode cX11_readsTownLine 123 = .ok (.if_icmp .ne 28, 3) := by decide +kernel
theorem dX11_readsTownLine_126 : decode cX11_readsTownLine 126 = .ok (.aload_n 0, 1) := by decide +kernel
theorem dX11_readsTownLine_127 : decode cX11_readsTownLine 127 = .ok (.iload_n 1, 1) := by decide +kernel
theorem dX11_readsTownLine_128 : decode cX11_readsTownLine 128 = .ok (.invokevirtual 280, 3) := by decide +kernel
theorem dX11_readsTownLine_131 : decode cX11_readsTownLine 131 = .ok (.ifCond .ne 5, 3) := by decide +kernel
theorem dX11_readsTownLine_134 : decode cX11_readsTownLine 134 = .ok (.iconst 0, 1) := by decide +kernel
theorem dX11_readsTownLine_135 : decode cX11_readsTownLine 135 = .ok (.ireturn, 1) := by decide +kernel
theorem dX11_readsTownLine_136 : decode cX11_readsTownLine 136 = .ok (.aload_n 0, 1) := by decide +kernel
theorem dX11_readsTownLine_137 : decode cX11_readsTownLine 137 = .ok (.getfield 80, 3) := by decide +kernel
theorem dX11_readsTownLine_140 : decode cX11_readsTownLine 140 = .ok (.aload_n 0, 1) := by decide +kernel
theorem dX11_readsTownLine_141 : decode cX11_readsTownLine 141 = .ok (.getfield 265, 3) := by decide +kernel
theorem dX11_readsTownLine_144 : decode cX11_readsTownLine 144 = .ok (.iconst 1, 1) := by decide +kernel
theorem dX11_readsTownLine_145 : decode cX11_readsTownLine 145 = .ok (.isub, 1) := by decide +kernel
theorem dX11_readsTownLine_146 : decode cX11_readsTownLine 146 = .ok (.iaload, 1) := by decide +kernel
theorem dX11_readsTownLine_147 : decode cX11_readsTownLine 147 = .ok (.istore_n 1, 1) := by decide +kernel
theorem dX11_readsTownLine_148 : decode cX11_readsTownLine 148 = .ok (.goto (-31), 3) := by decide +kernel
theorem dX11_readsTownLine_151 : decode cX11_readsTownLine 151 = .ok (.iconst 1, 1) := by decide +kernel
theorem dX11_readsTownLine_152 : decode cX11_readsTownLine 152 = .ok (.ireturn, 1) := by decide +kernel
theorem dX11_town_0 : decode cX11_town 0 = .ok (.iload_n 1, 1) := by decide +kernel
theorem dX11_town_1 : decode cX11_town 1 = .ok (.iconst 1, 1) := by decide +kernel
theorem dX11_town_2 : decode cX11_town 2 = .ok (.sipush 160, 3) := by decide +kernel
theorem dX11_town_5 : decode cX11_town 5 = .ok (.invokestatic 129, 3) := by decide +kernel
theorem dX11_town_8 : decode cX11_town 8 = .ok (.ifCond .eq 11, 3) := by decide +kernel
theorem dX11_town_11 : decode cX11_town 11 = .ok (.iload_n 1, 1) := by decide +kernel
theorem dX11_town_12 : decode cX11_town 12 = .ok (.aload_n 0, 1) := by decide +kernel
theorem dX11_town_13 : decode cX11_town 13 = .ok (.getfield 155, 3) := by decide +kernel
theorem dX11_town_16 : decode cX11_town 16 = .ok (.if_icmp .le 5, 3) := by decide +kernel
theorem dX11_town_19 : decode cX11_town 19 = .ok (.iconst (-1), 1) := by decide +kernel
theorem dX11_town_20 : decode cX11_town 20 = .ok (.ireturn, 1) := by decide +kernel
theorem dX11_town_21 : decode cX11_town 21 = .ok (.aload_n 0, 1) := by decide +kernel
theorem dX11_town_22 : decode cX11_town 22 = .ok (.iload_n 1, 1) := by decide +kernel
theorem dX11_town_23 : decode cX11_town 23 = .ok (.invokevirtual 246, 3) := by decide +kernel
theorem dX11_town_26 : decode cX11_town 26 = .ok (.aload_n 0, 1) := by decide +kernel
theorem dX11_town_27 : decode cX11_town 27 = .ok (.iconst 0, 1) := by decide +kernel
theorem dX11_town_28 : decode cX11_town 28 = .ok (.putfield 274, 3) := by decide +kernel
theorem dX11_town_31 : decode cX11_town 31 = .ok (.aload_n 0, 1) := by decide +kernel
theorem dX11_town_32 : decode cX11_town 32 = .ok (.iconst 0, 1) := by decide +kernel
theorem dX11_town_33 : decode cX11_town 33 = .ok (.putfield 265, 3) := by decide +kernel
theorem dX11_town_36 : decode cX11_town 36 = .ok (.aload_n 0, 1) := by decide +kernel
theorem dX11_town_37 : decode cX11_town 37 = .ok (.iconst 0, 1) := by decide +kernel
theorem dX11_town_38 : decode cX11_town 38 = .ok (.putfield 277, 3) := by decide +kernel
theorem dX11_town_41 : decode cX11_town 41 = .ok (.iconst 0, 1) := by decide +kernel
theorem dX11_town_42 : decode cX11_town 42 = .ok (.istore_n 2, 1) := by decide +kernel
theorem dX11_town_43 : decode cX11_town 43 = .ok (.iload_n 2, 1) := by decide +kernel
theorem dX11_town_44 : decode cX11_town 44 = .ok (.bipush 16, 2) := by decide +kernel
theorem dX11_town_46 : decode cX11_town 46 = .ok (.if_icmp .ge 16, 3) := by decide +kernel
theorem dX11_town_49 : decode cX11_town 49 = .ok (.aload_n 0, 1) := by decide +kernel
theorem dX11_town_50 : decode cX11_town 50 = .ok (.getfield 74, 3) := by decide +kernel
theorem dX11_town_53 : decode cX11_town 53 = .ok (.iload_n 2, 1) := by decide +kernel
theorem dX11_town_54 : decode cX11_town 54 = .ok (.iconst 0, 1) := by decide +kernel
theorem dX11_town_55 : decode cX11_town 55 = .ok (.iastore, 1) := by decide +kernel
theorem dX11_town_56 : decode cX11_town 56 = .ok (.iinc 2 1, 3) := by decide +kernel
theorem dX11_town_59 : decode cX11_town 59 = .ok (.goto (-16), 3) := by decide +kernel
theorem dX11_town_62 : decode cX11_town 62 = .ok (.aload_n 0, 1) := by decide +kernel
theorem dX11_town_63 : decode cX11_town 63 = .ok (.invokevirtual 283, 3) := by decide +kernel
theorem dX11_town_66 : decode cX11_town 66 = .ok (.istore_n 2, 1) := by decide +kernel
theorem dX11_town_67 : decode cX11_town 67 = .ok (.iload_n 2, 1) := by decide +kernel
theorem dX11_town_68 : decode cX11_town 68 = .ok (.ifCond .eq 39, 3) := by decide +kernel
theorem dX11_town_71 : decode cX11_town 71 = .ok (.aload_n 0, 1) := by decide +kernel
theorem dX11_town_72 : decode cX11_town 72 = .ok (.getfield 162, 3) := by decide +kernel
theorem dX11_town_75 : decode cX11_town 75 = .ok (.aload_n 0, 1) := by decide +kernel
theorem dX11_town_76 : decode cX11_town 76 = .ok (.getfield 165, 3) := by decide +kernel
theorem dX11_town_79 : decode cX11_town 79 = .ok (.if_icmp .ge 28, 3) := by decide +kernel
theorem dX11_town_82 : decode cX11_town 82 = .ok (.aload_n 0, 1) := by decide +kernel
theorem dX11_town_83 : decode cX11_town 83 = .ok (.bipush 59, 2) := by decide +kernel
theorem dX11_town_85 : decode cX11_town 85 = .ok (.invokevirtual 252, 3) := by decide +kernel
theorem dX11_town_88 : decode cX11_town 88 = .ok (.ifCond .eq 14, 3) := by decide +kernel
theorem dX11_town_91 : decode cX11_town 91 = .ok (.aload_n 0, 1) := by decide +kernel
theorem dX11_town_92 : decode cX11_town 92 = .ok (.invokevirtual 283, 3) := by decide +kernel
theorem dX11_town_95 : decode cX11_town 95 = .ok (.ifCond .eq 7, 3) := by decide +kernel
theorem dX11_town_98 : decode cX11_town 98 = .ok (.iconst 1, 1) := by decide +kernel
theorem dX11_town_99 : decode cX11_town 99 = .ok (.goto 4, 3) := by decide +kernel
theorem dX11_town_102 : decode cX11_town 102 = .ok (.iconst 0, 1) := by decide +kernel
theorem dX11_town_103 : decode cX11_town 103 = .ok (.istore_n 2, 1) := by decide +kernel
theorem dX11_town_104 : decode cX11_town 104 = .ok (.goto (-37), 3) := by decide +kernel
theorem dX11_town_107 : decode cX11_town 107 = .ok (.aload_n 0, 1) := by decide +kernel
theorem dX11_town_108 : decode cX11_town 108 = .ok (.iconst 0, 1) := by decide +kernel
theorem dX11_town_109 : decode cX11_town 109 = .ok (.putfield 155, 3) := by decide +kernel
theorem dX11_town_112 : decode cX11_town 112 = .ok (.iload_n 2, 1) := by decide +kernel
theorem dX11_town_113 : decode cX11_town 113 = .ok (.ifCond .ne 8, 3) := by decide +kernel
theorem dX11_town_116 : decode cX11_town 116 = .ok (.aload_n 0, 1) := by decide +kernel
theorem dX11_town_117 : decode cX11_town 117 = .ok (.getfield 172, 3) := by decide +kernel
theorem dX11_town_120 : decode cX11_town 120 = .ok (.ireturn, 1) := by decide +kernel
theorem dX11_town_121 : decode cX11_town 121 = .ok (.aload_n 0, 1) := by decide +kernel
theorem dX11_town_122 : decode cX11_town 122 = .ok (.aload_n 0, 1) := by decide +kernel
theorem dX11_town_123 : decode cX11_town 123 = .ok (.getfield 274, 3) := by decide +kernel
theorem dX11_town_126 : decode cX11_town 126 = .ok (.putfield 133, 3) := by decide +kernel
theorem dX11_town_129 : decode cX11_town 129 = .ok (.aload_n 0, 1) := by decide +kernel
theorem dX11_town_130 : decode cX11_town 130 = .ok (.aload_n 0, 1) := by decide +kernel
theorem dX11_town_131 : decode cX11_town 131 = .ok (.getfield 265, 3) := by decide +kernel
theorem dX11_town_134 : decode cX11_town 134 = .ok (.putfield 145, 3) := by decide +kernel
theorem dX11_town_137 : decode cX11_town 137 = .ok (.iconst 0, 1) := by decide +kernel
theorem dX11_town_138 : decode cX11_town 138 = .ok (.istore_n 3, 1) := by decide +kernel
theorem dX11_town_139 : decode cX11_town 139 = .ok (.iload_n 3, 1) := by decide +kernel
theorem dX11_town_140 : decode cX11_town 140 = .ok (.bipush 16, 2) := by decide +kernel
theorem dX11_town_142 : decode cX11_town 142 = .ok (.if_icmp .ge 50, 3) := by decide +kernel
theorem dX11_town_145 : decode cX11_town 145 = .ok (.aload_n 0, 1) := by decide +kernel
theorem dX11_town_146 : decode cX11_town 146 = .ok (.getfield 19, 3) := by decide +kernel
theorem dX11_town_149 : decode cX11_town 149 = .ok (.iload_n 3, 1) := by decide +kernel
theorem dX11_town_150 : decode cX11_town 150 = .ok (.aload_n 0, 1) := by decide +kernel
theorem dX11_town_151 : decode cX11_town 151 = .ok (.getfield 74, 3) := by decide +kernel
theorem dX11_town_154 : decode cX11_town 154 = .ok (.iload_n 3, 1) := by decide +kernel
theorem dX11_town_155 : decode cX11_town 155 = .ok (.iaload, 1) := by decide +kernel
theorem dX11_town_156 : decode cX11_town 156 = .ok (.iastore, 1) := by decide +kernel
theorem dX11_town_157 : decode cX11_town 157 = .ok (.aload_n 0, 1) := by decide +kernel
theorem dX11_town_158 : decode cX11_town 158 = .ok (.getfield 7, 3) := by decide +kernel
theorem dX11_town_161 : decode cX11_town 161 = .ok (.iconst 0, 1) := by decide +kernel
theorem dX11_town_162 : decode cX11_town 162 = .ok (.iload_n 3, 1) := by decide +kernel
theorem dX11_town_163 : decode cX11_town 163 = .ok (.iadd, 1) := by decide +kernel
theorem dX11_town_164 : decode cX11_town 164 = .ok (.iconst 0, 1) := by decide +kernel
theorem dX11_town_165 : decode cX11_town 165 = .ok (.iastore, 1) := by decide +kernel
theorem dX11_town_166 : decode cX11_town 166 = .ok (.aload_n 0, 1) := by decide +kernel
theorem dX11_town_167 : decode cX11_town 167 = .ok (.getfield 7, 3) := by decide +kernel
theorem dX11_town_170 : decode cX11_town 170 = .ok (.bipush 16, 2) := by decide +kernel
theorem dX11_town_172 : decode cX11_town 172 = .ok (.iload_n 3, 1) := by decide +kernel
theorem dX11_town_173 : decode cX11_town 173 = .ok (.iadd, 1) := by decide +kernel
theorem dX11_town_174 : decode cX11_town 174 = .ok (.iconst 0, 1) := by decide +kernel
theorem dX11_town_175 : decode cX11_town 175 = .ok (.iastore, 1) := by decide +kernel
theorem dX11_town_176 : decode cX11_town 176 = .ok (.aload_n 0, 1) := by decide +kernel
theorem dX11_town_177 : decode cX11_town 177 = .ok (.getfield 7, 3) := by decide +kernel
theorem dX11_town_180 : decode cX11_town 180 = .ok (.bipush 32, 2) := by decide +kernel
theorem dX11_town_182 : decode cX11_town 182 = .ok (.iload_n 3, 1) := by decide +kernel
theorem dX11_town_183 : decode cX11_town 183 = .ok (.iadd, 1) := by decide +kernel
theorem dX11_town_184 : decode cX11_town 184 = .ok (.iconst 0, 1) := by decide +kernel
theorem dX11_town_185 : decode cX11_town 185 = .ok (.iastore, 1) := by decide +kernel
theorem dX11_town_186 : decode cX11_town 186 = .ok (.iinc 3 1, 3) := by decide +kernel
theorem dX11_town_189 : decode cX11_town 189 = .ok (.goto (-50), 3) := by decide +kernel
theorem dX11_town_192 : decode cX11_town 192 = .ok (.iconst 0, 1) := by decide +kernel
theorem dX11_town_193 : decode cX11_town 193 = .ok (.istore_n 3, 1) := by decide +kernel
theorem dX11_town_194 : decode cX11_town 194 = .ok (.iload_n 3, 1) := by decide +kernel
theorem dX11_town_195 : decode cX11_town 195 = .ok (.aload_n 0, 1) := by decide +kernel
theorem dX11_town_196 : decode cX11_town 196 = .ok (.getfield 145, 3) := by decide +kernel
theorem dX11_town_199 : decode cX11_town 199 = .ok (.if_icmp .ge 55, 3) := by decide +kernel
theorem dX11_town_202 : decode cX11_town 202 = .ok (.aload_n 0, 1) := by decide +kernel
theorem dX11_town_203 : decode cX11_town 203 = .ok (.getfield 22, 3) := by decide +kernel
theorem dX11_town_206 : decode cX11_town 206 = .ok (.iload_n 3, 1) := by decide +kernel
theorem dX11_town_207 : decode cX11_town 207 = .ok (.aload_n 0, 1) := by decide +kernel
theorem dX11_town_208 : decode cX11_town 208 = .ok (.getfield 77, 3) := by decide +kernel
theorem dX11_town_211 : decode cX11_town 211 = .ok (.iload_n 3, 1) := by decide +kernel
theorem dX11_town_212 : decode cX11_town 212 = .ok (.iaload, 1) := by decide +kernel
theorem dX11_town_213 : decode cX11_town 213 = .ok (.iastore, 1) := by decide +kernel
theorem dX11_town_214 : decode cX11_town 214 = .ok (.aload_n 0, 1) := by decide +kernel
theorem dX11_town_215 : decode cX11_town 215 = .ok (.getfield 25, 3) := by decide +kernel
theorem dX11_town_218 : decode cX11_town 218 = .ok (.iload_n 3, 1) := by decide +kernel
theorem dX11_town_219 : decode cX11_town 219 = .ok (.aload_n 0, 1) := by decide +kernel
theorem dX11_town_220 : decode cX11_town 220 = .ok (.getfield 80, 3) := by decide +kernel
theorem dX11_town_223 : decode cX11_town 223 = .ok (.iload_n 3, 1) := by decide +kernel
theorem dX11_town_224 : decode cX11_town 224 = .ok (.iaload, 1) := by decide +kernel
theorem dX11_town_225 : decode cX11_town 225 = .ok (.iastore, 1) := by decide +kernel
theorem dX11_town_226 : decode cX11_town 226 = .ok (.aload_n 0, 1) := by decide +kernel
theorem dX11_town_227 : decode cX11_town 227 = .ok (.getfield 28, 3) := by decide +kernel
theorem dX11_town_230 : decode cX11_town 230 = .ok (.iload_n 3, 1) := by decide +kernel
theorem dX11_town_231 : decode cX11_town 231 = .ok (.aload_n 0, 1) := by decide +kernel
theorem dX11_town_232 : decode cX11_town 232 = .ok (.getfield 83, 3) := by decide +kernel
theorem dX11_town_235 : decode cX11_town 235 = .ok (.iload_n 3, 1) := by decide +kernel
theorem dX11_town_236 : decode cX11_town 236 = .ok (.iaload, 1) := by decide +kernel
theorem dX11_town_237 : decode cX11_town 237 = .ok (.iastore, 1) := by decide +kernel
theorem dX11_town_238 : decode cX11_town 238 = .ok (.aload_n 0, 1) := by decide +kernel
theorem dX11_town_239 : decode cX11_town 239 = .ok (.getfield 7, 3) := by decide +kernel
theorem dX11_town_242 : decode cX11_town 242 = .ok (.bipush 48, 2) := by decide +kernel
theorem dX11_town_244 : decode cX11_town 244 = .ok (.iload_n 3, 1) := by decide +kernel
theorem dX11_town_245 : decode cX11_town 245 = .ok (.iadd, 1) := by decide +kernel
theorem dX11_town_246 : decode cX11_town 246 = .ok (.iconst 1, 1) := by decide +kernel
theorem dX11_town_247 : decode cX11_town 247 = .ok (.iastore, 1) := by decide +kernel
theorem dX11_town_248 : decode cX11_town 248 = .ok (.iinc 3 1, 3) := by decide +kernel
theorem dX11_town_251 : decode cX11_town 251 = .ok (.goto (-57), 3) := by decide +kernel
theorem dX11_town_254 : decode cX11_town 254 = .ok (.aload_n 0, 1) := by decide +kernel
theorem dX11_town_255 : decode cX11_town 255 = .ok (.getfield 145, 3) := by decide +kernel
theorem dX11_town_258 : decode cX11_town 258 = .ok (.ireturn, 1) := by decide +kernel
theorem dX11_readsCornerLine_0 : decode cX11_readsCornerLine 0 = .ok (.aload_n 0, 1) := by decide +kernel
theorem dX11_readsCornerLine_1 : decode cX11_readsCornerLine 1 = .ok (.invokevirtual 168, 3) := by decide +kernel
theorem dX11_readsCornerLine_4 : decode cX11_readsCornerLine 4 = .ok (.bipush 97, 2) := by decide +kernel
theorem dX11_readsCornerLine_6 : decode cX11_readsCornerLine 6 = .ok (.isub, 1) := by decide +kernel
theorem dX11_readsCornerLine_7 : decode cX11_readsCornerLine 7 = .ok (.istore_n 1, 1) := by decide +kernel
theorem dX11_readsCornerLine_8 : decode cX11_readsCornerLine 8 = .ok (.aload_n 0, 1) := by decide +kernel
theorem dX11_readsCornerLine_9 : decode cX11_readsCornerLine 9 = .ok (.iload_n 1, 1) := by decide +kernel
theorem dX11_readsCornerLine_10 : decode cX11_readsCornerLine 10 = .ok (.invokevirtual 141, 3) := by decide +kernel
theorem dX11_readsCornerLine_13 : decode cX11_readsCornerLine 13 = .ok (.ifCond .ne 14, 3) := by decide +kernel
theorem dX11_readsCornerLine_16 : decode cX11_readsCornerLine 16 = .ok (.aload_n 0, 1) := by decide +kernel
theorem dX11_readsCornerLine_17 : decode cX11_readsCornerLine 17 = .ok (.bipush 7, 2) := by decide +kernel
theorem dX11_readsCornerLine_19 : decode cX11_readsCornerLine 19 = .ok (.aload_n 0, 1) := by decide +kernel
theorem dX11_readsCornerLine_20 : decode cX11_readsCornerLine 20 = .ok (.getfield 162, 3) := by decide +kernel
theorem dX11_readsCornerLine_23 : decode cX11_readsCornerLine 23 = .ok (.invokevirtual 175, 3) := by decide +kernel
theorem dX11_readsCornerLine_26 : decode cX11_readsCornerLine 26 = .ok (.ireturn, 1) := by decide +kernel
theorem dX11_readsCornerLine_27 : decode cX11_readsCornerLine 27 = .ok (.aload_n 0, 1) := by decide +kernel
theorem dX11_readsCornerLine_28 : decode cX11_readsCornerLine 28 = .ok (.aload_n 0, 1) := by decide +kernel
theorem dX11_readsCornerLine_29 : decode cX11_readsCornerLine 29 = .ok (.getfield 162, 3) := by decide +kernel
theorem dX11_readsCornerLine_32 : decode cX11_readsCornerLine 32 = .ok (.iconst 1, 1) := by decide +kernel
theorem dX11_readsCornerLine_33 : decode cX11_readsCornerLine 33 = .ok (.iadd, 1) := by decide +kernel
theorem dX11_readsCornerLine_34 : decode cX11_readsCornerLine 34 = .ok (.putfield 162, 3) := by decide +kernel
theorem dX11_readsCornerLine_37 : decode cX11_readsCornerLine 37 = .ok (.aload_n 0, 1) := by decide +kernel
theorem dX11_readsCornerLine_38 : decode cX11_readsCornerLine 38 = .ok (.invokevirtual 168, 3) := by decide +kernel
theorem dX11_readsCornerLine_41 : decode cX11_readsCornerLine 41 = .ok (.istore_n 2, 1) := by decide +kernel
theorem dX11_readsCornerLine_42 : decode cX11_readsCornerLine 42 = .ok (.iload_n 2, 1) := by decide +kernel
theorem dX11_readsCornerLine_43 : decode cX11_readsCornerLine 43 = .ok (.bipush 64, 2) := by decide +kernel
theorem dX11_readsCornerLine_45 : decode cX11_readsCornerLine 45 = .ok (.if_icmp .ne 65, 3) := by decide +kernel
theorem dX11_readsCornerLine_48 : decode cX11_readsCornerLine 48 = .ok (.aload_n 0, 1) := by decide +kernel
theorem dX11_readsCornerLine_49 : decode cX11_readsCornerLine 49 = .ok (.aload_n 0, 1) := by decide +kernel
theorem dX11_readsCornerLine_50 : decode cX11_readsCornerLine 50 = .ok (.getfield 162, 3) := by decide +kernel
theorem dX11_readsCornerLine_53 : decode cX11_readsCornerLine 53 = .ok (.iconst 1, 1) := by decide +kernel
theorem dX11_readsCornerLine_54 : decode cX11_readsCornerLine 54 = .ok (.iadd, 1) := by decide +kernel
theorem dX11_readsCornerLine_55 : decode cX11_readsCornerLine 55 = .ok (.putfield 162, 3) := by decide +kernel
theorem dX11_readsCornerLine_58 : decode cX11_readsCornerLine 58 = .ok (.aload_n 0, 1) := by decide +kernel
theorem dX11_readsCornerLine_59 : decode cX11_readsCornerLine 59 = .ok (.invokevirtual 168, 3) := by decide +kernel
theorem dX11_readsCornerLine_62 : decode cX11_readsCornerLine 62 = .ok (.bipush 48, 2) := by decide +kernel
theorem dX11_readsCornerLine_64 : decode cX11_readsCornerLine 64 = .ok (.bipush 56, 2) := by decide +kernel
theorem dX11_readsCornerLine_66 : decode cX11_readsCornerLine 66 = .ok (.invokestatic 129, 3) := by decide +kernel
theorem dX11_readsCornerLine_69 : decode cX11_readsCornerLine 69 = .ok (.ifCond .ne 13, 3) := by decide +kernel
theorem dX11_readsCornerLine_72 : decode cX11_readsCornerLine 72 = .ok (.aload_n 0, 1) := by decide +kernel
theorem dX11_readsCornerLine_73 : decode cX11_readsCornerLine 73 = .ok (.iconst 1, 1) := by decide +kernel
theorem dX11_readsCornerLine_74 : decode cX11_readsCornerLine 74 = .ok (.aload_n 0, 1) := by decide +kernel
theorem dX11_readsCornerLine_75 : decode cX11_readsCornerLine 75 = .ok (.getfield 162, 3) := by decide +kernel
theorem dX11_readsCornerLine_78 : decode cX11_readsCornerLine 78 = .ok (.invokevirtual 175, 3) := by decide +kernel
theorem dX11_readsCornerLine_81 : decode cX11_readsCornerLine 81 = .ok (.ireturn, 1) := by decide +kernel
theorem dX11_readsCornerLine_82 : decode cX11_readsCornerLine 82 = .ok (.aload_n 0, 1) := by decide +kernel
theorem dX11_readsCornerLine_83 : decode cX11_readsCornerLine 83 = .ok (.getfield 7, 3) := by decide +kernel
theorem dX11_readsCornerLine_86 : decode cX11_readsCornerLine 86 = .ok (.bipush 16, 2) := by decide +kernel
theorem dX11_readsCornerLine_88 : decode cX11_readsCornerLine 88 = .ok (.iload_n 1, 1) := by decide +kernel
theorem dX11_readsCornerLine_89 : decode cX11_readsCornerLine 89 = .ok (.iadd, 1) := by decide +kernel
theorem dX11_readsCornerLine_90 : decode cX11_readsCornerLine 90 = .ok (.aload_n 0, 1) := by decide +kernel
theorem dX11_readsCornerLine_91 : decode cX11_readsCornerLine 91 = .ok (.invokevirtual 168, 3) := by decide +kernel
theorem dX11_readsCornerLine_94 : decode cX11_readsCornerLine 94 = .ok (.bipush 48, 2) := by decide +kernel
theorem dX11_readsCornerLine_96 : decode cX11_readsCornerLine 96 = .ok (.isub, 1) := by decide +kernel
theorem dX11_readsCornerLine_97 : decode cX11_readsCornerLine 97 = .ok (.iastore, 1) := by decide +kernel
theorem dX11_readsCornerLine_98 : decode cX11_readsCornerLine 98 = .ok (.aload_n 0, 1) := by decide +kernel
theorem dX11_readsCornerLine_99 : decode cX11_readsCornerLine 99 = .ok (.aload_n 0, 1) := by decide +kernel
theorem dX11_readsCornerLine_100 : decode cX11_readsCornerLine 100 = .ok (.getfield 162, 3) := by decide +kernel
theorem dX11_readsCornerLine_103 : decode cX11_readsCornerLine 103 = .ok (.iconst 1, 1) := by decide +kernel
theorem dX11_readsCornerLine_104 : decode cX11_readsCornerLine 104 = .ok (.iadd, 1) := by decide +kernel
theorem dX11_readsCornerLine_105 : decode cX11_readsCornerLine 105 = .ok (.putfield 162, 3) := by decide +kernel
theorem dX11_readsCornerLine_108 : decode cX11_readsCornerLine 108 = .ok (.iconst 1, 1) := by decide +kernel
theorem dX11_readsCornerLine_109 : decode cX11_readsCornerLine 109 = .ok (.ireturn, 1) := by decide +kernel
theorem dX11_readsCornerLine_110 : decode cX11_readsCornerLine 110 = .ok (.iload_n 2, 1) := by decide +kernel
theorem dX11_readsCornerLine_111 : decode cX11_readsCornerLine 111 = .ok (.bipush 43, 2) := by decide +kernel
theorem dX11_readsCornerLine_113 : decode cX11_readsCornerLine 113 = .ok (.if_icmp .eq 19, 3) := by decide +kernel
theorem dX11_readsCornerLine_116 : decode cX11_readsCornerLine 116 = .ok (.iload_n 2, 1) := by decide +kernel
theorem dX11_readsCornerLine_117 : decode cX11_readsCornerLine 117 = .ok (.bipush 45, 2) := by decide +kernel
theorem dX11_readsCornerLine_119 : decode cX11_readsCornerLine 119 = .ok (.if_icmp .eq 13, 3) := by decide +kernel
theorem dX11_readsCornerLine_122 : decode cX11_readsCornerLine 122 = .ok (.aload_n 0, 1) := by decide +kernel
theorem dX11_readsCornerLine_123 : decode cX11_readsCornerLine 123 = .ok (.iconst 1, 1) := by decide +kernel
theorem dX11_readsCornerLine_124 : decode cX11_readsCornerLine 124 = .ok (.aload_n 0, 1) := by decide +kernel
theorem dX11_readsCornerLine_125 : decode cX11_readsCornerLine 125 = .ok (.getfield 162, 3) := by decide +kernel
theorem dX11_readsCornerLine_128 : decode cX11_readsCornerLine 128 = .ok (.invokevirtual 175, 3) := by decide +kernel
theorem dX11_readsCornerLine_131 : decode cX11_readsCornerLine 131 = .ok (.ireturn, 1) := by decide +kernel
theorem dX11_readsCornerLine_132 : decode cX11_readsCornerLine 132 = .ok (.aload_n 0, 1) := by decide +kernel
theorem dX11_readsCornerLine_133 : decode cX11_readsCornerLine 133 = .ok (.aload_n 0, 1) := by decide +kernel
theorem dX11_readsCornerLine_134 : decode cX11_readsCornerLine 134 = .ok (.getfield 162, 3) := by decide +kernel
theorem dX11_readsCornerLine_137 : decode cX11_readsCornerLine 137 = .ok (.iconst 1, 1) := by decide +kernel
theorem dX11_readsCornerLine_138 : decode cX11_readsCornerLine 138 = .ok (.iadd, 1) := by decide +kernel
theorem dX11_readsCornerLine_139 : decode cX11_readsCornerLine 139 = .ok (.putfield 162, 3) := by decide +kernel
theorem dX11_readsCornerLine_142 : decode cX11_readsCornerLine 142 = .ok (.aload_n 0, 1) := by decide +kernel
theorem dX11_readsCornerLine_143 : decode cX11_readsCornerLine 143 = .ok (.iconst 4, 1) := by decide +kernel
theorem dX11_readsCornerLine_144 : decode cX11_readsCornerLine 144 = .ok (.invokevirtual 271, 3) := by decide +kernel
theorem dX11_readsCornerLine_147 : decode cX11_readsCornerLine 147 = .ok (.ifCond .ne 5, 3) := by decide +kernel
theorem dX11_readsCornerLine_150 : decode cX11_readsCornerLine 150 = .ok (.iconst 0, 1) := by decide +kernel
theorem dX11_readsCornerLine_151 : decode cX11_readsCornerLine 151 = .ok (.ireturn, 1) := by decide +kernel
theorem dX11_readsCornerLine_152 : decode cX11_readsCornerLine 152 = .ok (.aload_n 0, 1) := by decide +kernel
theorem dX11_readsCornerLine_153 : decode cX11_readsCornerLine 153 = .ok (.getfield 7, 3) := by decide +kernel
theorem dX11_readsCornerLine_156 : decode cX11_readsCornerLine 156 = .ok (.iconst 0, 1) := by decide +kernel
theorem dX11_readsCornerLine_157 : decode cX11_readsCornerLine 157 = .ok (.iload_n 1, 1) := by decide +kernel
theorem dX11_readsCornerLine_158 : decode cX11_readsCornerLine 158 = .ok (.iadd, 1) := by decide +kernel
theorem dX11_readsCornerLine_159 : decode cX11_readsCornerLine 159 = .ok (.iconst 0, 1) := by decide +kernel
theorem dX11_readsCornerLine_160 : decode cX11_readsCornerLine 160 = .ok (.sipush 9999, 3) := by decide +kernel
theorem dX11_readsCornerLine_163 : decode cX11_readsCornerLine 163 = .ok (.aload_n 0, 1) := by decide +kernel
theorem dX11_readsCornerLine_164 : decode cX11_readsCornerLine 164 = .ok (.getfield 7, 3) := by decide +kernel
theorem dX11_readsCornerLine_167 : decode cX11_readsCornerLine 167 = .ok (.iconst 0, 1) := by decide +kernel
theorem dX11_readsCornerLine_168 : decode cX11_readsCornerLine 168 = .ok (.iload_n 1, 1) := by decide +kernel
theorem dX11_readsCornerLine_169 : decode cX11_readsCornerLine 169 = .ok (.iadd, 1) := by decide +kernel
theorem dX11_readsCornerLine_170 : decode cX11_readsCornerLine 170 = .ok (.iaload, 1) := by decide +kernel
theorem dX11_readsCornerLine_171 : decode cX11_readsCornerLine 171 = .ok (.iload_n 2, 1) := by decide +kernel
theorem dX11_readsCornerLine_172 : decode cX11_readsCornerLine 172 = .ok (.bipush 43, 2) := by decide +kernel
theorem dX11_readsCornerLine_174 : decode cX11_readsCornerLine 174 = .ok (.if_icmp .ne 10, 3) := by decide +kernel
theorem dX11_readsCornerLine_177 : decode cX11_readsCornerLine 177 = .ok (.aload_n 0, 1) := by decide +kernel
theorem dX11_readsCornerLine_178 : decode cX11_readsCornerLine 178 = .ok (.getfield 178, 3) := by decide +kernel
theorem dX11_readsCornerLine_181 : decode cX11_readsCornerLine 181 = .ok (.goto 8, 3) := by decide +kernel
theorem dX11_readsCornerLine_184 : decode cX11_readsCornerLine 184 = .ok (.aload_n 0, 1) := by decide +kernel
theorem dX11_readsCornerLine_185 : decode cX11_readsCornerLine 185 = .ok (.getfield 178, 3) := by decide +kernel
theorem dX11_readsCornerLine_188 : decode cX11_readsCornerLine 188 = .ok (.ineg, 1) := by decide +kernel
theorem dX11_readsCornerLine_189 : decode cX11_readsCornerLine 189 = .ok (.iadd, 1) := by decide +kernel
theorem dX11_readsCornerLine_190 : decode cX11_readsCornerLine 190 = .ok (.invokestatic 286, 3) := by decide +kernel
theorem dX11_readsCornerLine_193 : decode cX11_readsCornerLine 193 = .ok (.invokestatic 289, 3) := by decide +kernel
theorem dX11_readsCornerLine_196 : decode cX11_readsCornerLine 196 = .ok (.iastore, 1) := by decide +kernel
theorem dX11_readsCornerLine_197 : decode cX11_readsCornerLine 197 = .ok (.iconst 1, 1) := by decide +kernel
theorem dX11_readsCornerLine_198 : decode cX11_readsCornerLine 198 = .ok (.ireturn, 1) := by decide +kernel
theorem dX11_readsPipeLine_0 : decode cX11_readsPipeLine 0 = .ok (.aload_n 0, 1) := by decide +kernel
theorem dX11_readsPipeLine_1 : decode cX11_readsPipeLine 1 = .ok (.getfield 162, 3) := by decide +kernel
theorem dX11_readsPipeLine_4 : decode cX11_readsPipeLine 4 = .ok (.istore_n 1, 1) := by decide +kernel
theorem dX11_readsPipeLine_5 : decode cX11_readsPipeLine 5 = .ok (.aload_n 0, 1) := by decide +kernel
theorem dX11_readsPipeLine_6 : decode cX11_readsPipeLine 6 = .ok (.iconst 2, 1) := by decide +kernel
theorem dX11_readsPipeLine_7 : decode cX11_readsPipeLine 7 = .ok (.invokevirtual 271, 3) := by decide +kernel
theorem dX11_readsPipeLine_10 : decode cX11_readsPipeLine 10 = .ok (.ifCond .ne 5, 3) := by decide +kernel
theorem dX11_readsPipeLine_13 : decode cX11_readsPipeLine 13 = .ok (.iconst 0, 1) := by decide +kernel
theorem dX11_readsPipeLine_14 : decode cX11_readsPipeLine 14 = .ok (.ireturn, 1) := by decide +kernel
theorem dX11_readsPipeLine_15 : decode cX11_readsPipeLine 15 = .ok (.aload_n 0, 1) := by decide +kernel
theorem dX11_readsPipeLine_16 : decode cX11_readsPipeLine 16 = .ok (.getfield 178, 3) := by decide +kernel
theorem dX11_readsPipeLine_19 : decode cX11_readsPipeLine 19 = .ok (.aload_n 0, 1) := by decide +kernel
theorem dX11_readsPipeLine_20 : decode cX11_readsPipeLine 20 = .ok (.getfield 145, 3) := by decide +kernel
theorem dX11_readsPipeLine_23 : decode cX11_readsPipeLine 23 = .ok (.if_icmp .lt 11, 3) := by decide +kernel
theorem dX11_readsPipeLine_26 : decode cX11_readsPipeLine 26 = .ok (.aload_n 0, 1) := by decide +kernel
theorem dX11_readsPipeLine_27 : decode cX11_readsPipeLine 27 = .ok (.bipush 7, 2) := by decide +kernel
theorem dX11_readsPipeLine_29 : decode cX11_readsPipeLine 29 = .ok (.iload_n 1, 1) := by decide +kernel
theorem dX11_readsPipeLine_30 : decode cX11_readsPipeLine 30 = .ok (.invokevirtual 175, 3) := by decide +kernel
theorem dX11_readsPipeLine_33 : decode cX11_readsPipeLine 33 = .ok (.ireturn, 1) := by decide +kernel
theorem dX11_readsPipeLine_34 : decode cX11_readsPipeLine 34 = .ok (.aload_n 0, 1) := by decide +kernel
theorem dX11_readsPipeLine_35 : decode cX11_readsPipeLine 35 = .ok (.invokevirtual 168, 3) := by decide +kernel
theorem dX11_readsPipeLine_38 : decode cX11_readsPipeLine 38 = .ok (.bipush 33, 2) := by decide +kernel
theorem dX11_readsPipeLine_40 : decode cX11_readsPipeLine 40 = .ok (.if_icmp .eq 22, 3) := by decide +kernel
theorem dX11_readsPipeLine_43 : decode cX11_readsPipeLine 43 = .ok (.aload_n 0, 1) := by decide +kernel
theorem dX11_readsPipeLine_44 : decode cX11_readsPipeLine 44 = .ok (.invokevirtual 168, 3) := by decide +kernel
theorem dX11_readsPipeLine_47 : decode cX11_readsPipeLine 47 = .ok (.bipush 63, 2) := by decide +kernel
theorem dX11_readsPipeLine_49 : decode cX11_readsPipeLine 49 = .ok (.if_icmp .eq 13, 3) := by decide +kernel
theorem dX11_readsPipeLine_52 : decode cX11_readsPipeLine 52 = .ok (.aload_n 0, 1) := by decide +kernel
theorem dX11_readsPipeLine_53 : decode cX11_readsPipeLine 53 = .ok (.iconst 1, 1) := by decide +kernel
theorem dX11_readsPipeLine_54 : decode cX11_readsPipeLine 54 = .ok (.aload_n 0, 1) := by decide +kernel
theorem dX11_readsPipeLine_55 : decode cX11_readsPipeLine 55 = .ok (.getfield 162, 3) := by decide +kernel
theorem dX11_readsPipeLine_58 : decode cX11_readsPipeLine 58 = .ok (.invokevirtual 175, 3) := by decide +kernel
theorem dX11_readsPipeLine_61 : decode cX11_readsPipeLine 61 = .ok (.ireturn, 1) := by decide +kernel
theorem dX11_readsPipeLine_62 : decode cX11_readsPipeLine 62 = .ok (.aload_n 0, 1) := by decide +kernel
theorem dX11_readsPipeLine_63 : decode cX11_readsPipeLine 63 = .ok (.getfield 7, 3) := by decide +kernel
theorem dX11_readsPipeLine_66 : decode cX11_readsPipeLine 66 = .ok (.bipush 48, 2) := by decide +kernel
theorem dX11_readsPipeLine_68 : decode cX11_readsPipeLine 68 = .ok (.aload_n 0, 1) := by decide +kernel
theorem dX11_readsPipeLine_69 : decode cX11_readsPipeLine 69 = .ok (.getfield 178, 3) := by decide +kernel
theorem dX11_readsPipeLine_72 : decode cX11_readsPipeLine 72 = .ok (.iadd, 1) := by decide +kernel
theorem dX11_readsPipeLine_73 : decode cX11_readsPipeLine 73 = .ok (.aload_n 0, 1) := by decide +kernel
theorem dX11_readsPipeLine_74 : decode cX11_readsPipeLine 74 = .ok (.invokevirtual 168, 3) := by decide +kernel
theorem dX11_readsPipeLine_77 : decode cX11_readsPipeLine 77 = .ok (.bipush 63, 2) := by decide +kernel
theorem dX11_readsPipeLine_79 : decode cX11_readsPipeLine 79 = .ok (.if_icmp .ne 7, 3) := by decide +kernel
theorem dX11_readsPipeLine_82 : decode cX11_readsPipeLine 82 = .ok (.iconst 1, 1) := by decide +kernel
theorem dX11_readsPipeLine_83 : decode cX11_readsPipeLine 83 = .ok (.goto 4, 3) := by decide +kernel
theorem dX11_readsPipeLine_86 : decode cX11_readsPipeLine 86 = .ok (.iconst 0, 1) := by decide +kernel
theorem dX11_readsPipeLine_87 : decode cX11_readsPipeLine 87 = .ok (.iastore, 1) := by decide +kernel
theorem dX11_readsPipeLine_88 : decode cX11_readsPipeLine 88 = .ok (.aload_n 0, 1) := by decide +kernel
theorem dX11_readsPipeLine_89 : decode cX11_readsPipeLine 89 = .ok (.aload_n 0, 1) := by decide +kernel
theorem dX11_readsPipeLine_90 : decode cX11_readsPipeLine 90 = .ok (.getfield 162, 3) := by decide +kernel
theorem dX11_readsPipeLine_93 : decode cX11_readsPipeLine 93 = .ok (.iconst 1, 1) := by decide +kernel
theorem dX11_readsPipeLine_94 : decode cX11_readsPipeLine 94 = .ok (.iadd, 1) := by decide +kernel
theorem dX11_readsPipeLine_95 : decode cX11_readsPipeLine 95 = .ok (.putfield 162, 3) := by decide +kernel
theorem dX11_readsPipeLine_98 : decode cX11_readsPipeLine 98 = .ok (.iconst 1, 1) := by decide +kernel
theorem dX11_readsPipeLine_99 : decode cX11_readsPipeLine 99 = .ok (.ireturn, 1) := by decide +kernel
theorem dX11_readsOrder_0 : decode cX11_readsOrder 0 = .ok (.aload_n 0, 1) := by decide +kernel
theorem dX11_readsOrder_1 : decode cX11_readsOrder 1 = .ok (.invokevirtual 168, 3) := by decide +kernel
theorem dX11_readsOrder_4 : decode cX11_readsOrder 4 = .ok (.istore_n 1, 1) := by decide +kernel
theorem dX11_readsOrder_5 : decode cX11_readsOrder 5 = .ok (.aload_n 0, 1) := by decide +kernel
theorem dX11_readsOrder_6 : decode cX11_readsOrder 6 = .ok (.invokevirtual 268, 3) := by decide +kernel
theorem dX11_readsOrder_9 : decode cX11_readsOrder 9 = .ok (.ifCond .ne 25, 3) := by decide +kernel
theorem dX11_readsOrder_12 : decode cX11_readsOrder 12 = .ok (.iload_n 1, 1) := by decide +kernel
theorem dX11_readsOrder_13 : decode cX11_readsOrder 13 = .ok (.bipush 35, 2) := by decide +kernel
theorem dX11_readsOrder_15 : decode cX11_readsOrder 15 = .ok (.if_icmp .eq 19, 3) := by decide +kernel
theorem dX11_readsOrder_18 : decode cX11_readsOrder 18 = .ok (.iload_n 1, 1) := by decide +kernel
theorem dX11_readsOrder_19 : decode cX11_readsOrder 19 = .ok (.bipush 126, 2) := by decide +kernel
theorem dX11_readsOrder_21 : decode cX11_readsOrder 21 = .ok (.if_icmp .eq 13, 3) := by decide +kernel
theorem dX11_readsOrder_24 : decode cX11_readsOrder 24 = .ok (.aload_n 0, 1) := by decide +kernel
theorem dX11_readsOrder_25 : decode cX11_readsOrder 25 = .ok (.iconst 1, 1) := by decide +kernel
theorem dX11_readsOrder_26 : decode cX11_readsOrder 26 = .ok (.aload_n 0, 1) := by decide +kernel
theorem dX11_readsOrder_27 : decode cX11_readsOrder 27 = .ok (.getfield 162, 3) := by decide +kernel
theorem dX11_readsOrder_30 : decode cX11_readsOrder 30 = .ok (.invokevirtual 175, 3) := by decide +kernel
theorem dX11_readsOrder_33 : decode cX11_readsOrder 33 = .ok (.ireturn, 1) := by decide +kernel
theorem dX11_readsOrder_34 : decode cX11_readsOrder 34 = .ok (.aload_n 0, 1) := by decide +kernel
theorem dX11_readsOrder_35 : decode cX11_readsOrder 35 = .ok (.getfield 277, 3) := by decide +kernel
theorem dX11_readsOrder_38 : decode cX11_readsOrder 38 = .ok (.bipush 20, 2) := by decide +kernel
theorem dX11_readsOrder_40 : decode cX11_readsOrder 40 = .ok (.if_icmp .ne 13, 3) := by decide +kernel
theorem dX11_readsOrder_43 : decode cX11_readsOrder 43 = .ok (.aload_n 0, 1) := by decide +kernel
theorem dX11_readsOrder_44 : decode cX11_readsOrder 44 = .ok (.iconst 4, 1) := by decide +kernel
theorem dX11_readsOrder_45 : decode cX11_readsOrder 45 = .ok (.aload_n 0, 1) := by decide +kernel
theorem dX11_readsOrder_46 : decode cX11_readsOrder 46 = .ok (.getfield 162, 3) := by decide +kernel
theorem dX11_readsOrder_49 : decode cX11_readsOrder 49 = .ok (.invokevirtual 175, 3) := by decide +kernel
theorem dX11_readsOrder_52 : decode cX11_readsOrder 52 = .ok (.ireturn, 1) := by decide +kernel
theorem dX11_readsOrder_53 : decode cX11_readsOrder 53 = .ok (.aload_n 0, 1) := by decide +kernel
theorem dX11_readsOrder_54 : decode cX11_readsOrder 54 = .ok (.aload_n 0, 1) := by decide +kernel
theorem dX11_readsOrder_55 : decode cX11_readsOrder 55 = .ok (.getfield 277, 3) := by decide +kernel
theorem dX11_readsOrder_58 : decode cX11_readsOrder 58 = .ok (.iconst 1, 1) := by decide +kernel
theorem dX11_readsOrder_59 : decode cX11_readsOrder 59 = .ok (.iadd, 1) := by decide +kernel
theorem dX11_readsOrder_60 : decode cX11_readsOrder 60 = .ok (.putfield 277, 3) := by decide +kernel
theorem dX11_readsOrder_63 : decode cX11_readsOrder 63 = .ok (.aload_n 0, 1) := by decide +kernel
theorem dX11_readsOrder_64 : decode cX11_readsOrder 64 = .ok (.invokevirtual 268, 3) := by decide +kernel
theorem dX11_readsOrder_67 : decode cX11_readsOrder 67 = .ok (.ifCond .eq 8, 3) := by decide +kernel
theorem dX11_readsOrder_70 : decode cX11_readsOrder 70 = .ok (.aload_n 0, 1) := by decide +kernel
theorem dX11_readsOrder_71 : decode cX11_readsOrder 71 = .ok (.invokevirtual 292, 3) := by decide +kernel
theorem dX11_readsOrder_74 : decode cX11_readsOrder 74 = .ok (.ireturn, 1) := by decide +kernel
theorem dX11_readsOrder_75 : decode cX11_readsOrder 75 = .ok (.aload_n 0, 1) := by decide +kernel
theorem dX11_readsOrder_76 : decode cX11_readsOrder 76 = .ok (.aload_n 0, 1) := by decide +kernel
theorem dX11_readsOrder_77 : decode cX11_readsOrder 77 = .ok (.getfield 162, 3) := by decide +kernel
theorem dX11_readsOrder_80 : decode cX11_readsOrder 80 = .ok (.iconst 1, 1) := by decide +kernel
theorem dX11_readsOrder_81 : decode cX11_readsOrder 81 = .ok (.iadd, 1) := by decide +kernel
theorem dX11_readsOrder_82 : decode cX11_readsOrder 82 = .ok (.putfield 162, 3) := by decide +kernel
theorem dX11_readsOrder_85 : decode cX11_readsOrder 85 = .ok (.iload_n 1, 1) := by decide +kernel
theorem dX11_readsOrder_86 : decode cX11_readsOrder 86 = .ok (.bipush 35, 2) := by decide +kernel
theorem dX11_readsOrder_88 : decode cX11_readsOrder 88 = .ok (.if_icmp .ne 8, 3) := by decide +kernel
theorem dX11_readsOrder_91 : decode cX11_readsOrder 91 = .ok (.aload_n 0, 1) := by decide +kernel
theorem dX11_readsOrder_92 : decode cX11_readsOrder 92 = .ok (.invokevirtual 295, 3) := by decide +kernel
theorem dX11_readsOrder_95 : decode cX11_readsOrder 95 = .ok (.ireturn, 1) := by decide +kernel
theorem dX11_readsOrder_96 : decode cX11_readsOrder 96 = .ok (.aload_n 0, 1) := by decide +kernel
theorem dX11_readsOrder_97 : decode cX11_readsOrder 97 = .ok (.bipush 6, 2) := by decide +kernel
theorem dX11_readsOrder_99 : decode cX11_readsOrder 99 = .ok (.invokevirtual 271, 3) := by decide +kernel
theorem dX11_readsOrder_102 : decode cX11_readsOrder 102 = .ok (.ifCond .ne 5, 3) := by decide +kernel
theorem dX11_readsOrder_105 : decode cX11_readsOrder 105 = .ok (.iconst 0, 1) := by decide +kernel
theorem dX11_readsOrder_106 : decode cX11_readsOrder 106 = .ok (.ireturn, 1) := by decide +kernel
theorem dX11_readsOrder_107 : decode cX11_readsOrder 107 = .ok (.aload_n 0, 1) := by decide +kernel
theorem dX11_readsOrder_108 : decode cX11_readsOrder 108 = .ok (.getfield 7, 3) := by decide +kernel
theorem dX11_readsOrder_111 : decode cX11_readsOrder 111 = .ok (.bipush 72, 2) := by decide +kernel
theorem dX11_readsOrder_113 : decode cX11_readsOrder 113 = .ok (.aload_n 0, 1) := by decide +kernel
theorem dX11_readsOrder_114 : decode cX11_readsOrder 114 = .ok (.getfield 178, 3) := by decide +kernel
theorem dX11_readsOrder_117 : decode cX11_readsOrder 117 = .ok (.iastore, 1) := by decide +kernel
theorem dX11_readsOrder_118 : decode cX11_readsOrder 118 = .ok (.iconst 1, 1) := by decide +kernel
theorem dX11_readsOrder_119 : decode cX11_readsOrder 119 = .ok (.ireturn, 1) := by decide +kernel
theorem dX11_orders_0 : decode cX11_orders 0 = .ok (.iload_n 1, 1) := by decide +kernel
theorem dX11_orders_1 : decode cX11_orders 1 = .ok (.iconst 1, 1) := by decide +kernel
theorem dX11_orders_2 : decode cX11_orders 2 = .ok (.bipush 120, 2) := by decide +kernel
theorem dX11_orders_4 : decode cX11_orders 4 = .ok (.invokestatic 129, 3) := by decide +kernel
theorem dX11_orders_7 : decode cX11_orders 7 = .ok (.ifCond .eq 11, 3) := by decide +kernel
theorem dX11_orders_10 : decode cX11_orders 10 = .ok (.iload_n 1, 1) := by decide +kernel
theorem dX11_orders_11 : decode cX11_orders 11 = .ok (.aload_n 0, 1) := by decide +kernel
theorem dX11_orders_12 : decode cX11_orders 12 = .ok (.getfield 155, 3) := by decide +kernel
theorem dX11_orders_15 : decode cX11_orders 15 = .ok (.if_icmp .le 5, 3) := by decide +kernel
theorem dX11_orders_18 : decode cX11_orders 18 = .ok (.iconst (-1), 1) := by decide +kernel
theorem dX11_orders_19 : decode cX11_orders 19 = .ok (.ireturn, 1) := by decide +kernel
theorem dX11_orders_20 : decode cX11_orders 20 = .ok (.aload_n 0, 1) := by decide +kernel
theorem dX11_orders_21 : decode cX11_orders 21 = .ok (.iload_n 1, 1) := by decide +kernel
theorem dX11_orders_22 : decode cX11_orders 22 = .ok (.invokevirtual 246, 3) := by decide +kernel
theorem dX11_orders_25 : decode cX11_orders 25 = .ok (.aload_n 0, 1) := by decide +kernel
theorem dX11_orders_26 : decode cX11_orders 26 = .ok (.iconst 0, 1) := by decide +kernel
theorem dX11_orders_27 : decode cX11_orders 27 = .ok (.putfield 277, 3) := by decide +kernel
theorem dX11_orders_30 : decode cX11_orders 30 = .ok (.aload_n 0, 1) := by decide +kernel
theorem dX11_orders_31 : decode cX11_orders 31 = .ok (.getfield 7, 3) := by decide +kernel
theorem dX11_orders_34 : decode cX11_orders 34 = .ok (.aload_n 0, 1) := by decide +kernel
theorem dX11_orders_35 : decode cX11_orders 35 = .ok (.getfield 13, 3) := by decide +kernel
theorem dX11_orders_38 : decode cX11_orders 38 = .ok (.invokestatic 298, 3) := by decide +kernel
theorem dX11_orders_41 : decode cX11_orders 41 = .ok (.aload_n 0, 1) := by decide +kernel
theorem dX11_orders_42 : decode cX11_orders 42 = .ok (.invokevirtual 302, 3) := by decide +kernel
theorem dX11_orders_45 : decode cX11_orders 45 = .ok (.istore_n 2, 1) := by decide +kernel
theorem dX11_orders_46 : decode cX11_orders 46 = .ok (.iload_n 2, 1) := by decide +kernel
theorem dX11_orders_47 : decode cX11_orders 47 = .ok (.ifCond .eq 39, 3) := by decide +kernel
theorem dX11_orders_50 : decode cX11_orders 50 = .ok (.aload_n 0, 1) := by decide +kernel
theorem dX11_orders_51 : decode cX11_orders 51 = .ok (.getfield 162, 3) := by decide +kernel
theorem dX11_orders_54 : decode cX11_orders 54 = .ok (.aload_n 0, 1) := by decide +kernel
theorem dX11_orders_55 : decode cX11_orders 55 = .ok (.getfield 165, 3) := by decide +kernel
theorem dX11_orders_58 : decode cX11_orders 58 = .ok (.if_icmp .ge 28, 3) := by decide +kernel
theorem dX11_orders_61 : decode cX11_orders 61 = .ok (.aload_n 0, 1) := by decide +kernel
theorem dX11_orders_62 : decode cX11_orders 62 = .ok (.bipush 59, 2) := by decide +kernel
theorem dX11_orders_64 : decode cX11_orders 64 = .ok (.invokevirtual 252, 3) := by decide +kernel
theorem dX11_orders_67 : decode cX11_orders 67 = .ok (.ifCond .eq 14, 3) := by decide +kernel
theorem dX11_orders_70 : decode cX11_orders 70 = .ok (.aload_n 0, 1) := by decide +kernel
theorem dX11_orders_71 : decode cX11_orders 71 = .ok (.invokevirtual 302, 3) := by decide +kernel
theorem dX11_orders_74 : decode cX11_orders 74 = .ok (.ifCond .eq 7, 3) := by decide +kernel
theorem dX11_orders_77 : decode cX11_orders 77 = .ok (.iconst 1, 1) := by decide +kernel
theorem dX11_orders_78 : decode cX11_orders 78 = .ok (.goto 4, 3) := by decide +kernel
theorem dX11_orders_81 : decode cX11_orders 81 = .ok (.iconst 0, 1) := by decide +kernel
theorem dX11_orders_82 : decode cX11_orders 82 = .ok (.istore_n 2, 1) := by decide +kernel
theorem dX11_orders_83 : decode cX11_orders 83 = .ok (.goto (-37), 3) := by decide +kernel
theorem dX11_orders_86 : decode cX11_orders 86 = .ok (.aload_n 0, 1) := by decide +kernel
theorem dX11_orders_87 : decode cX11_orders 87 = .ok (.iconst 0, 1) := by decide +kernel
theorem dX11_orders_88 : decode cX11_orders 88 = .ok (.putfield 155, 3) := by decide +kernel
theorem dX11_orders_91 : decode cX11_orders 91 = .ok (.iload_n 2, 1) := by decide +kernel
theorem dX11_orders_92 : decode cX11_orders 92 = .ok (.ifCond .eq 8, 3) := by decide +kernel
theorem dX11_orders_95 : decode cX11_orders 95 = .ok (.aload_n 0, 1) := by decide +kernel
theorem dX11_orders_96 : decode cX11_orders 96 = .ok (.getfield 277, 3) := by decide +kernel
theorem dX11_orders_99 : decode cX11_orders 99 = .ok (.ireturn, 1) := by decide +kernel
theorem dX11_orders_100 : decode cX11_orders 100 = .ok (.aload_n 0, 1) := by decide +kernel
theorem dX11_orders_101 : decode cX11_orders 101 = .ok (.getfield 13, 3) := by decide +kernel
theorem dX11_orders_104 : decode cX11_orders 104 = .ok (.aload_n 0, 1) := by decide +kernel
theorem dX11_orders_105 : decode cX11_orders 105 = .ok (.getfield 7, 3) := by decide +kernel
theorem dX11_orders_108 : decode cX11_orders 108 = .ok (.invokestatic 298, 3) := by decide +kernel
theorem dX11_orders_111 : decode cX11_orders 111 = .ok (.aload_n 0, 1) := by decide +kernel
theorem dX11_orders_112 : decode cX11_orders 112 = .ok (.getfield 172, 3) := by decide +kernel
theorem dX11_orders_115 : decode cX11_orders 115 = .ok (.ireturn, 1) := by decide +kernel
theorem dX11_mostBeyond_0 : decode cX11_mostBeyond 0 = .ok (.iconst 0, 1) := by decide +kernel
theorem dX11_mostBeyond_1 : decode cX11_mostBeyond 1 = .ok (.istore_n 2, 1) := by decide +kernel
theorem dX11_mostBeyond_2 : decode cX11_mostBeyond 2 = .ok (.iconst 0, 1) := by decide +kernel
theorem dX11_mostBeyond_3 : decode cX11_mostBeyond 3 = .ok (.istore_n 3, 1) := by decide +kernel
theorem dX11_mostBeyond_4 : decode cX11_mostBeyond 4 = .ok (.iload_n 3, 1) := by decide +kernel
theorem dX11_mostBeyond_5 : decode cX11_mostBeyond 5 = .ok (.bipush 16, 2) := by decide +kernel
theorem dX11_mostBeyond_7 : decode cX11_mostBeyond 7 = .ok (.if_icmp .ge 34, 3) := by decide +kernel
theorem dX11_mostBeyond_10 : decode cX11_mostBeyond 10 = .ok (.aload_n 0, 1) := by decide +kernel
theorem dX11_mostBeyond_11 : decode cX11_mostBeyond 11 = .ok (.iload_n 1, 1) := by decide +kernel
theorem dX11_mostBeyond_12 : decode cX11_mostBeyond 12 = .ok (.invokevirtual 305, 3) := by decide +kernel
theorem dX11_mostBeyond_15 : decode cX11_mostBeyond 15 = .ok (.iload_n 3, 1) := by decide +kernel
theorem dX11_mostBeyond_16 : decode cX11_mostBeyond 16 = .ok (.invokestatic 137, 3) := by decide +kernel
theorem dX11_mostBeyond_19 : decode cX11_mostBeyond 19 = .ok (.ifCond .eq 16, 3) := by decide +kernel
theorem dX11_mostBeyond_22 : decode cX11_mostBeyond 22 = .ok (.iload_n 2, 1) := by decide +kernel
theorem dX11_mostBeyond_23 : decode cX11_mostBeyond 23 = .ok (.aload_n 0, 1) := by decide +kernel
theorem dX11_mostBeyond_24 : decode cX11_mostBeyond 24 = .ok (.getfield 7, 3) := by decide +kernel
theorem dX11_mostBeyond_27 : decode cX11_mostBeyond 27 = .ok (.iconst 0, 1) := by decide +kernel
theorem dX11_mostBeyond_28 : decode cX11_mostBeyond 28 = .ok (.iload_n 3, 1) := by decide +kernel
theorem dX11_mostBeyond_29 : decode cX11_mostBeyond 29 = .ok (.iadd, 1) := by decide +kernel
theorem dX11_mostBeyond_30 : decode cX11_mostBeyond 30 = .ok (.iaload, 1) := by decide +kernel
theorem dX11_mostBeyond_31 : decode cX11_mostBeyond 31 = .ok (.invokestatic 289, 3) := by decide +kernel
theorem dX11_mostBeyond_34 : decode cX11_mostBeyond 34 = .ok (.istore_n 2, 1) := by decide +kernel
theorem dX11_mostBeyond_35 : decode cX11_mostBeyond 35 = .ok (.iinc 3 1, 3) := by decide +kernel
theorem dX11_mostBeyond_38 : decode cX11_mostBeyond 38 = .ok (.goto (-34), 3) := by decide +kernel
theorem dX11_mostBeyond_41 : decode cX11_mostBeyond 41 = .ok (.iload_n 2, 1) := by decide +kernel
theorem dX11_mostBeyond_42 : decode cX11_mostBeyond 42 = .ok (.ireturn, 1) := by decide +kernel
theorem dX11_feels_0 : decode cX11_feels 0 = .ok (.aload_n 0, 1) := by decide +kernel
theorem dX11_feels_1 : decode cX11_feels 1 = .ok (.getfield 7, 3) := by decide +kernel
theorem dX11_feels_4 : decode cX11_feels 4 = .ok (.bipush 74, 2) := by decide +kernel
theorem dX11_feels_6 : decode cX11_feels 6 = .ok (.sipush 25173, 3) := by decide +kernel
theorem dX11_feels_9 : decode cX11_feels 9 = .ok (.aload_n 0, 1) := by decide +kernel
theorem dX11_feels_10 : decode cX11_feels 10 = .ok (.getfield 7, 3) := by decide +kernel
theorem dX11_feels_13 : decode cX11_feels 13 = .ok (.bipush 74, 2) := by decide +kernel
theorem dX11_feels_15 : decode cX11_feels 15 = .ok (.iaload, 1) := by decide +kernel
theorem dX11_feels_16 : decode cX11_feels 16 = .ok (.imul, 1) := by decide +kernel
theorem dX11_feels_17 : decode cX11_feels 17 = .ok (.sipush 13849, 3) := by decide +kernel
theorem dX11_feels_20 : decode cX11_feels 20 = .ok (.iadd, 1) := by decide +kernel
theorem dX11_feels_21 : decode cX11_feels 21 = .ok (.ldc 101, 2) := by decide +kernel
theorem dX11_feels_23 : decode cX11_feels 23 = .ok (.irem, 1) := by decide +kernel
theorem dX11_feels_24 : decode cX11_feels 24 = .ok (.iastore, 1) := by decide +kernel
theorem dX11_feels_25 : decode cX11_feels 25 = .ok (.aload_n 0, 1) := by decide +kernel
theorem dX11_feels_26 : decode cX11_feels 26 = .ok (.getfield 71, 3) := by decide +kernel
theorem dX11_feels_29 : decode cX11_feels 29 = .ok (.iconst 0, 1) := by decide +kernel
theorem dX11_feels_30 : decode cX11_feels 30 = .ok (.iload_n 1, 1) := by decide +kernel
theorem dX11_feels_31 : decode cX11_feels 31 = .ok (.iastore, 1) := by decide +kernel
theorem dX11_feels_32 : decode cX11_feels 32 = .ok (.aload_n 0, 1) := by decide +kernel
theorem dX11_feels_33 : decode cX11_feels 33 = .ok (.getfield 71, 3) := by decide +kernel
theorem dX11_feels_36 : decode cX11_feels 36 = .ok (.iconst 1, 1) := by decide +kernel
theorem dX11_feels_37 : decode cX11_feels 37 = .ok (.aload_n 0, 1) := by decide +kernel
theorem dX11_feels_38 : decode cX11_feels 38 = .ok (.getfield 19, 3) := by decide +kernel
theorem dX11_feels_41 : decode cX11_feels 41 = .ok (.iload_n 1, 1) := by decide +kernel
theorem dX11_feels_42 : decode cX11_feels 42 = .ok (.iaload, 1) := by decide +kernel
theorem dX11_feels_43 : decode cX11_feels 43 = .ok (.iastore, 1) := by decide +kernel
theorem dX11_feels_44 : decode cX11_feels 44 = .ok (.aload_n 0, 1) := by decide +kernel
theorem dX11_feels_45 : decode cX11_feels 45 = .ok (.getfield 71, 3) := by decide +kernel
theorem dX11_feels_48 : decode cX11_feels 48 = .ok (.iconst 2, 1) := by decide +kernel
theorem dX11_feels_49 : decode cX11_feels 49 = .ok (.aload_n 0, 1) := by decide +kernel
theorem dX11_feels_50 : decode cX11_feels 50 = .ok (.getfield 7, 3) := by decide +kernel
theorem dX11_feels_53 : decode cX11_feels 53 = .ok (.iconst 0, 1) := by decide +kernel
theorem dX11_feels_54 : decode cX11_feels 54 = .ok (.iload_n 1, 1) := by decide +kernel
theorem dX11_feels_55 : decode cX11_feels 55 = .ok (.iadd, 1) := by decide +kernel
theorem dX11_feels_56 : decode cX11_feels 56 = .ok (.iaload, 1) := by decide +kernel
theorem dX11_feels_57 : decode cX11_feels 57 = .ok (.iastore, 1) := by decide +kernel
theorem dX11_feels_58 : decode cX11_feels 58 = .ok (.aload_n 0, 1) := by decide +kernel
theorem dX11_feels_59 : decode cX11_feels 59 = .ok (.getfield 71, 3) := by decide +kernel
theorem dX11_feels_62 : decode cX11_feels 62 = .ok (.iconst 3, 1) := by decide +kernel
theorem dX11_feels_63 : decode cX11_feels 63 = .ok (.aload_n 0, 1) := by decide +kernel
theorem dX11_feels_64 : decode cX11_feels 64 = .ok (.getfield 7, 3) := by decide +kernel
theorem dX11_feels_67 : decode cX11_feels 67 = .ok (.bipush 16, 2) := by decide +kernel
theorem dX11_feels_69 : decode cX11_feels 69 = .ok (.iload_n 1, 1) := by decide +kernel
theorem dX11_feels_70 : decode cX11_feels 70 = .ok (.iadd, 1) := by decide +kernel
theorem dX11_feels_71 : decode cX11_feels 71 = .ok (.iaload, 1) := by decide +kernel
theorem dX11_feels_72 : decode cX11_feels 72 = .ok (.iastore, 1) := by decide +kernel
theorem dX11_feels_73 : decode cX11_feels 73 = .ok (.aload_n 0, 1) := by decide +kernel
theorem dX11_feels_74 : decode cX11_feels 74 = .ok (.getfield 71, 3) := by decide +kernel
theorem dX11_feels_77 : decode cX11_feels 77 = .ok (.iconst 4, 1) := by decide +kernel
theorem dX11_feels_78 : decode cX11_feels 78 = .ok (.aload_n 0, 1) := by decide +kernel
theorem dX11_feels_79 : decode cX11_feels 79 = .ok (.iload_n 1, 1) := by decide +kernel
theorem dX11_feels_80 : decode cX11_feels 80 = .ok (.invokevirtual 308, 3) := by decide +kernel
theorem dX11_feels_83 : decode cX11_feels 83 = .ok (.iastore, 1) := by decide +kernel
theorem dX11_feels_84 : decode cX11_feels 84 = .ok (.aload_n 0, 1) := by decide +kernel
theorem dX11_feels_85 : decode cX11_feels 85 = .ok (.getfield 71, 3) := by decide +kernel
theorem dX11_feels_88 : decode cX11_feels 88 = .ok (.iconst 5, 1) := by decide +kernel
theorem dX11_feels_89 : decode cX11_feels 89 = .ok (.aload_n 0, 1) := by decide +kernel
theorem dX11_feels_90 : decode cX11_feels 90 = .ok (.iload_n 1, 1) := by decide +kernel
theorem dX11_feels_91 : decode cX11_feels 91 = .ok (.invokevirtual 311, 3) := by decide +kernel
theorem dX11_feels_94 : decode cX11_feels 94 = .ok (.iastore, 1) := by decide +kernel
theorem dX11_feels_95 : decode cX11_feels 95 = .ok (.aload_n 0, 1) := by decide +kernel
theorem dX11_feels_96 : decode cX11_feels 96 = .ok (.getfield 71, 3) := by decide +kernel
theorem dX11_feels_99 : decode cX11_feels 99 = .ok (.bipush 6, 2) := by decide +kernel
theorem dX11_feels_101 : decode cX11_feels 101 = .ok (.aload_n 0, 1) := by decide +kernel
theorem dX11_feels_102 : decode cX11_feels 102 = .ok (.getfield 7, 3) := by decide +kernel
theorem dX11_feels_105 : decode cX11_feels 105 = .ok (.bipush 32, 2) := by decide +kernel
theorem dX11_feels_107 : decode cX11_feels 107 = .ok (.iload_n 1, 1) := by decide +kernel
theorem dX11_feels_108 : decode cX11_feels 108 = .ok (.iadd, 1) := by decide +kernel
theorem dX11_feels_109 : decode cX11_feels 109 = .ok (.iaload, 1) := by decide +kernel
theorem dX11_feels_110 : decode cX11_feels 110 = .ok (.bipush 100, 2) := by decide +kernel
theorem dX11_feels_112 : decode cX11_feels 112 = .ok (.idiv, 1) := by decide +kernel
theorem dX11_feels_113 : decode cX11_feels 113 = .ok (.iastore, 1) := by decide +kernel
theorem dX11_feels_114 : decode cX11_feels 114 = .ok (.aload_n 0, 1) := by decide +kernel
theorem dX11_feels_115 : decode cX11_feels 115 = .ok (.getfield 71, 3) := by decide +kernel
theorem dX11_feels_118 : decode cX11_feels 118 = .ok (.bipush 7, 2) := by decide +kernel
theorem dX11_feels_120 : decode cX11_feels 120 = .ok (.aload_n 0, 1) := by decide +kernel
theorem dX11_feels_121 : decode cX11_feels 121 = .ok (.getfield 7, 3) := by decide +kernel
theorem dX11_feels_124 : decode cX11_feels 124 = .ok (.bipush 72, 2) := by decide +kernel
theorem dX11_feels_126 : decode cX11_feels 126 = .ok (.iaload, 1) := by decide +kernel
theorem dX11_feels_127 : decode cX11_feels 127 = .ok (.bipush 100, 2) := by decide +kernel
theorem dX11_feels_129 : decode cX11_feels 129 = .ok (.idiv, 1) := by decide +kernel
theorem dX11_feels_130 : decode cX11_feels 130 = .ok (.iastore, 1) := by decide +kernel
theorem dX11_feels_131 : decode cX11_feels 131 = .ok (.aload_n 0, 1) := by decide +kernel
theorem dX11_feels_132 : decode cX11_feels 132 = .ok (.getfield 71, 3) := by decide +kernel
theorem dX11_feels_135 : decode cX11_feels 135 = .ok (.bipush 8, 2) := by decide +kernel
theorem dX11_feels_137 : decode cX11_feels 137 = .ok (.aload_n 0, 1) := by decide +kernel
theorem dX11_feels_138 : decode cX11_feels 138 = .ok (.getfield 7, 3) := by decide +kernel
theorem dX11_feels_141 : decode cX11_feels 141 = .ok (.bipush 73, 2) := by decide +kernel
theorem dX11_feels_143 : decode cX11_feels 143 = .ok (.iaload, 1) := by decide +kernel
theorem dX11_feels_144 : decode cX11_feels 144 = .ok (.bipush 100, 2) := by decide +kernel
theorem dX11_feels_146 : decode cX11_feels 146 = .ok (.irem, 1) := by decide +kernel
theorem dX11_feels_147 : decode cX11_feels 147 = .ok (.iastore, 1) := by decide +kernel
theorem dX11_feels_148 : decode cX11_feels 148 = .ok (.aload_n 0, 1) := by decide +kernel
theorem dX11_feels_149 : decode cX11_feels 149 = .ok (.getfield 71, 3) := by decide +kernel
theorem dX11_feels_152 : decode cX11_feels 152 = .ok (.bipush 9, 2) := by decide +kernel
theorem dX11_feels_154 : decode cX11_feels 154 = .ok (.aload_n 0, 1) := by decide +kernel
theorem dX11_feels_155 : decode cX11_feels 155 = .ok (.getfield 7, 3) := by decide +kernel
theorem dX11_feels_158 : decode cX11_feels 158 = .ok (.bipush 74, 2) := by decide +kernel
theorem dX11_feels_160 : decode cX11_feels 160 = .ok (.iaload, 1) := by decide +kernel
theorem dX11_feels_161 : decode cX11_feels 161 = .ok (.bipush 10, 2) := by decide +kernel
theorem dX11_feels_163 : decode cX11_feels 163 = .ok (.irem, 1) := by decide +kernel
theorem dX11_feels_164 : decode cX11_feels 164 = .ok (.iastore, 1) := by decide +kernel
theorem dX11_feels_165 : decode cX11_feels 165 = .ok (.return_, 1) := by decide +kernel
theorem dX11_rises_0 : decode cX11_rises 0 = .ok (.aload_n 0, 1) := by decide +kernel
theorem dX11_rises_1 : decode cX11_rises 1 = .ok (.iload_n 1, 1) := by decide +kernel
theorem dX11_rises_2 : decode cX11_rises 2 = .ok (.invokevirtual 314, 3) := by decide +kernel
theorem dX11_rises_5 : decode cX11_rises 5 = .ok (.aload_n 0, 1) := by decide +kernel
theorem dX11_rises_6 : decode cX11_rises 6 = .ok (.bipush 114, 2) := by decide +kernel
theorem dX11_rises_8 : decode cX11_rises 8 = .ok (.invokevirtual 317, 3) := by decide +kernel
theorem dX11_rises_11 : decode cX11_rises 11 = .ok (.aload_n 0, 1) := by decide +kernel
theorem dX11_rises_12 : decode cX11_rises 12 = .ok (.getfield 7, 3) := by decide +kernel
theorem dX11_rises_15 : decode cX11_rises 15 = .ok (.bipush 72, 2) := by decide +kernel
theorem dX11_rises_17 : decode cX11_rises 17 = .ok (.iaload, 1) := by decide +kernel
theorem dX11_rises_18 : decode cX11_rises 18 = .ok (.sipush 9999, 3) := by decide +kernel
theorem dX11_rises_21 : decode cX11_rises 21 = .ok (.aload_n 0, 1) := by decide +kernel
theorem dX11_rises_22 : decode cX11_rises 22 = .ok (.getfield 7, 3) := by decide +kernel
theorem dX11_rises_25 : decode cX11_rises 25 = .ok (.iconst 0, 1) := by decide +kernel
theorem dX11_rises_26 : decode cX11_rises 26 = .ok (.iload_n 1, 1) := by decide +kernel
theorem dX11_rises_27 : decode cX11_rises 27 = .ok (.iadd, 1) := by decide +kernel
theorem dX11_rises_28 : decode cX11_rises 28 = .ok (.iaload, 1) := by decide +kernel
theorem dX11_rises_29 : decode cX11_rises 29 = .ok (.isub, 1) := by decide +kernel
theorem dX11_rises_30 : decode cX11_rises 30 = .ok (.invokestatic 286, 3) := by decide +kernel
theorem dX11_rises_33 : decode cX11_rises 33 = .ok (.invokestatic 286, 3) := by decide +kernel
theorem dX11_rises_36 : decode cX11_rises 36 = .ok (.istore_n 2, 1) := by decide +kernel
theorem dX11_rises_37 : decode cX11_rises 37 = .ok (.aload_n 0, 1) := by decide +kernel
theorem dX11_rises_38 : decode cX11_rises 38 = .ok (.getfield 7, 3) := by decide +kernel
theorem dX11_rises_41 : decode cX11_rises 41 = .ok (.iconst 0, 1) := by decide +kernel
theorem dX11_rises_42 : decode cX11_rises 42 = .ok (.iload_n 1, 1) := by decide +kernel
theorem dX11_rises_43 : decode cX11_rises 43 = .ok (.iadd, 1) := by decide +kernel
theorem dX11_rises_44 : decode cX11_rises 44 = .ok (.aload_n 0, 1) := by decide +kernel
theorem dX11_rises_45 : decode cX11_rises 45 = .ok (.getfield 7, 3) := by decide +kernel
theorem dX11_rises_48 : decode cX11_rises 48 = .ok (.iconst 0, 1) := by decide +kernel
theorem dX11_rises_49 : decode cX11_rises 49 = .ok (.iload_n 1, 1) := by decide +kernel
theorem dX11_rises_50 : decode cX11_rises 50 = .ok (.iadd, 1) := by decide +kernel
theorem dX11_rises_51 : decode cX11_rises 51 = .ok (.iaload, 1) := by decide +kernel
theorem dX11_rises_52 : decode cX11_rises 52 = .ok (.iload_n 2, 1) := by decide +kernel
theorem dX11_rises_53 : decode cX11_rises 53 = .ok (.iadd, 1) := by decide +kernel
theorem dX11_rises_54 : decode cX11_rises 54 = .ok (.iastore, 1) := by decide +kernel
theorem dX11_rises_55 : decode cX11_rises 55 = .ok (.aload_n 0, 1) := by decide +kernel
theorem dX11_rises_56 : decode cX11_rises 56 = .ok (.getfield 7, 3) := by decide +kernel
theorem dX11_rises_59 : decode cX11_rises 59 = .ok (.bipush 72, 2) := by decide +kernel
theorem dX11_rises_61 : decode cX11_rises 61 = .ok (.aload_n 0, 1) := by decide +kernel
theorem dX11_rises_62 : decode cX11_rises 62 = .ok (.getfield 7, 3) := by decide +kernel
theorem dX11_rises_65 : decode cX11_rises 65 = .ok (.bipush 72, 2) := by decide +kernel
theorem dX11_rises_67 : decode cX11_rises 67 = .ok (.iaload, 1) := by decide +kernel
theorem dX11_rises_68 : decode cX11_rises 68 = .ok (.iload_n 2, 1) := by decide +kernel
theorem dX11_rises_69 : decode cX11_rises 69 = .ok (.isub, 1) := by decide +kernel
theorem dX11_rises_70 : decode cX11_rises 70 = .ok (.iastore, 1) := by decide +kernel
theorem dX11_rises_71 : decode cX11_rises 71 = .ok (.return_, 1) := by decide +kernel
theorem dX11_levelOf_0 : decode cX11_levelOf 0 = .ok (.aload_n 0, 1) := by decide +kernel
theorem dX11_levelOf_1 : decode cX11_levelOf 1 = .ok (.getfield 19, 3) := by decide +kernel
theorem dX11_levelOf_4 : decode cX11_levelOf 4 = .ok (.iload_n 1, 1) := by decide +kernel
theorem dX11_levelOf_5 : decode cX11_levelOf 5 = .ok (.iaload, 1) := by decide +kernel
theorem dX11_levelOf_6 : decode cX11_levelOf 6 = .ok (.aload_n 0, 1) := by decide +kernel
theorem dX11_levelOf_7 : decode cX11_levelOf 7 = .ok (.getfield 7, 3) := by decide +kernel
theorem dX11_levelOf_10 : decode cX11_levelOf 10 = .ok (.iconst 0, 1) := by decide +kernel
theorem dX11_levelOf_11 : decode cX11_levelOf 11 = .ok (.iload_n 1, 1) := by decide +kernel
theorem dX11_levelOf_12 : decode cX11_levelOf 12 = .ok (.iadd, 1) := by decide +kernel
theorem dX11_levelOf_13 : decode cX11_levelOf 13 = .ok (.iaload, 1) := by decide +kernel
theorem dX11_levelOf_14 : decode cX11_levelOf 14 = .ok (.iadd, 1) := by decide +kernel
theorem dX11_levelOf_15 : decode cX11_levelOf 15 = .ok (.ireturn, 1) := by decide +kernel
theorem dX11_levels_0 : decode cX11_levels 0 = .ok (.aload_n 0, 1) := by decide +kernel
theorem dX11_levels_1 : decode cX11_levels 1 = .ok (.aload_n 0, 1) := by decide +kernel
theorem dX11_levels_2 : decode cX11_levels 2 = .ok (.getfield 22, 3) := by decide +kernel
theorem dX11_levels_5 : decode cX11_levels 5 = .ok (.iload_n 1, 1) := by decide +kernel
theorem dX11_levels_6 : decode cX11_levels 6 = .ok (.iaload, 1) := by decide +kernel
theorem dX11_levels_7 : decode cX11_levels 7 = .ok (.invokevirtual 320, 3) := by decide +kernel
theorem dX11_levels_10 : decode cX11_levels 10 = .ok (.aload_n 0, 1) := by decide +kernel
theorem dX11_levels_11 : decode cX11_levels 11 = .ok (.aload_n 0, 1) := by decide +kernel
theorem dX11_levels_12 : decode cX11_levels 12 = .ok (.getfield 25, 3) := by decide +kernel
theorem dX11_levels_15 : decode cX11_levels 15 = .ok (.iload_n 1, 1) := by decide +kernel
theorem dX11_levels_16 : decode cX11_levels 16 = .ok (.iaload, 1) := by decide +kernel
theorem dX11_levels_17 : decode cX11_levels 17 = .ok (.invokevirtual 320, 3) := by decide +kernel
theorem dX11_levels_20 : decode cX11_levels 20 = .ok (.if_icmp .lt 12, 3) := by decide +kernel
theorem dX11_levels_23 : decode cX11_levels 23 = .ok (.aload_n 0, 1) := by decide +kernel
theorem dX11_levels_24 : decode cX11_levels 24 = .ok (.getfield 22, 3) := by decide +kernel
theorem dX11_levels_27 : decode cX11_levels 27 = .ok (.iload_n 1, 1) := by decide +kernel
theorem dX11_levels_28 : decode cX11_levels 28 = .ok (.iaload, 1) := by decide +kernel
theorem dX11_levels_29 : decode cX11_levels 29 = .ok (.goto 9, 3) := by decide +kernel
theorem dX11_levels_32 : decode cX11_levels 32 = .ok (.aload_n 0, 1) := by decide +kernel
theorem dX11_levels_33 : decode cX11_levels 33 = .ok (.getfield 25, 3) := by decide +kernel
theorem dX11_levels_36 : decode cX11_levels 36 = .ok (.iload_n 1, 1) := by decide +kernel
theorem dX11_levels_37 : decode cX11_levels 37 = .ok (.iaload, 1) := by decide +kernel
theorem dX11_levels_38 : decode cX11_levels 38 = .ok (.istore_n 2, 1) := by decide +kernel
theorem dX11_levels_39 : decode cX11_levels 39 = .ok (.aload_n 0, 1) := by decide +kernel
theorem dX11_levels_40 : decode cX11_levels 40 = .ok (.getfield 22, 3) := by decide +kernel
theorem dX11_levels_43 : decode cX11_levels 43 = .ok (.iload_n 1, 1) := by decide +kernel
theorem dX11_levels_44 : decode cX11_levels 44 = .ok (.iaload, 1) := by decide +kernel
theorem dX11_levels_45 : decode cX11_levels 45 = .ok (.aload_n 0, 1) := by decide +kernel
theorem dX11_levels_46 : decode cX11_levels 46 = .ok (.getfield 25, 3) := by decide +kernel
theorem dX11_levels_49 : decode cX11_levels 49 = .ok (.iload_n 1, 1) := by decide +kernel
theorem dX11_levels_50 : decode cX11_levels 50 = .ok (.iaload, 1) := by decide +kernel
theorem dX11_levels_51 : decode cX11_levels 51 = .ok (.iadd, 1) := by decide +kernel
theorem dX11_levels_52 : decode cX11_levels 52 = .ok (.iload_n 2, 1) := by decide +kernel
theorem dX11_levels_53 : decode cX11_levels 53 = .ok (.isub, 1) := by decide +kernel
theorem dX11_levels_54 : decode cX11_levels 54 = .ok (.istore_n 3, 1) := by decide +kernel
theorem dX11_levels_55 : decode cX11_levels 55 = .ok (.aload_n 0, 1) := by decide +kernel
theorem dX11_levels_56 : decode cX11_levels 56 = .ok (.iload_n 2, 1) := by decide +kernel
theorem dX11_levels_57 : decode cX11_levels 57 = .ok (.invokevirtual 320, 3) := by decide +kernel
theorem dX11_levels_60 : decode cX11_levels 60 = .ok (.aload_n 0, 1) := by decide +kernel
theorem dX11_levels_61 : decode cX11_levels 61 = .ok (.iload_n 3, 1) := by decide +kernel
theorem dX11_levels_62 : decode cX11_levels 62 = .ok (.invokevirtual 320, 3) := by decide +kernel
theorem dX11_levels_65 : decode cX11_levels 65 = .ok (.isub, 1) := by decide +kernel
theorem dX11_levels_66 : decode cX11_levels 66 = .ok (.iconst 2, 1) := by decide +kernel
theorem dX11_levels_67 : decode cX11_levels 67 = .ok (.idiv, 1) := by decide +kernel
theorem dX11_levels_68 : decode cX11_levels 68 = .ok (.istore 4, 2) := by decide +kernel
theorem dX11_levels_70 : decode cX11_levels 70 = .ok (.aload_n 0, 1) := by decide +kernel
theorem dX11_levels_71 : decode cX11_levels 71 = .ok (.getfield 28, 3) := by decide +kernel
theorem dX11_levels_74 : decode cX11_levels 74 = .ok (.iload_n 1, 1) := by decide +kernel
theorem dX11_levels_75 : decode cX11_levels 75 = .ok (.iaload, 1) := by decide +kernel
theorem dX11_levels_76 : decode cX11_levels 76 = .ok (.iload 4, 2) := by decide +kernel
theorem dX11_levels_78 : decode cX11_levels 78 = .ok (.invokestatic 286, 3) := by decide +kernel
theorem dX11_levels_81 : decode cX11_levels 81 = .ok (.aload_n 0, 1) := by decide +kernel
theorem dX11_levels_82 : decode cX11_levels 82 = .ok (.getfield 7, 3) := by decide +kernel
theorem dX11_levels_85 : decode cX11_levels 85 = .ok (.iconst 0, 1) := by decide +kernel
theorem dX11_levels_86 : decode cX11_levels 86 = .ok (.iload_n 2, 1) := by decide +kernel
theorem dX11_levels_87 : decode cX11_levels 87 = .ok (.iadd, 1) := by decide +kernel
theorem dX11_levels_88 : decode cX11_levels 88 = .ok (.iaload, 1) := by decide +kernel
theorem dX11_levels_89 : decode cX11_levels 89 = .ok (.sipush 9999, 3) := by decide +kernel
theorem dX11_levels_92 : decode cX11_levels 92 = .ok (.aload_n 0, 1) := by decide +kernel
theorem dX11_levels_93 : decode cX11_levels 93 = .ok (.getfield 7, 3) := by decide +kernel
theorem dX11_levels_96 : decode cX11_levels 96 = .ok (.iconst 0, 1) := by decide +kernel
theorem dX11_levels_97 : decode cX11_levels 97 = .ok (.iload_n 3, 1) := by decide +kernel
theorem dX11_levels_98 : decode cX11_levels 98 = .ok (.iadd, 1) := by decide +kernel
theorem dX11_levels_99 : decode cX11_levels 99 = .ok (.iaload, 1) := by decide +kernel
theorem dX11_levels_100 : decode cX11_levels 100 = .ok (.isub, 1) := by decide +kernel
theorem dX11_levels_101 : decode cX11_levels 101 = .ok (.invokestatic 286, 3) := by decide +kernel
theorem dX11_levels_104 : decode cX11_levels 104 = .ok (.invokestatic 286, 3) := by decide +kernel
theorem dX11_levels_107 : decode cX11_levels 107 = .ok (.istore 5, 2) := by decide +kernel
theorem dX11_levels_109 : decode cX11_levels 109 = .ok (.aload_n 0, 1) := by decide +kernel
theorem dX11_levels_110 : decode cX11_levels 110 = .ok (.getfield 7, 3) := by decide +kernel
theorem dX11_levels_113 : decode cX11_levels 113 = .ok (.iconst 0, 1) := by decide +kernel
theorem dX11_levels_114 : decode cX11_levels 114 = .ok (.iload_n 2, 1) := by decide +kernel
theorem dX11_levels_115 : decode cX11_levels 115 = .ok (.iadd, 1) := by decide +kernel
theorem dX11_levels_116 : decode cX11_levels 116 = .ok (.aload_n 0, 1) := by decide +kernel
theorem dX11_levels_117 : decode cX11_levels 117 = .ok (.getfield 7, 3) := by decide +kernel
theorem dX11_levels_120 : decode cX11_levels 120 = .ok (.iconst 0, 1) := by decide +kernel
theorem dX11_levels_121 : decode cX11_levels 121 = .ok (.iload_n 2, 1) := by decide +kernel
theorem dX11_levels_122 : decode cX11_levels 122 = .ok (.iadd, 1) := by decide +kernel
theorem dX11_levels_123 : decode cX11_levels 123 = .ok (.iaload, 1) := by decide +kernel
theorem dX11_levels_124 : decode cX11_levels 124 = .ok (.iload 5, 2) := by decide +kernel
theorem dX11_levels_126 : decode cX11_levels 126 = .ok (.isub, 1) := by decide +kernel
theorem dX11_levels_127 : decode cX11_levels 127 = .ok (.iastore, 1) := by decide +kernel
theorem dX11_levels_128 : decode cX11_levels 128 = .ok (.aload_n 0, 1) := by decide +kernel
theorem dX11_levels_129 : decode cX11_levels 129 = .ok (.getfield 7, 3) := by decide +kernel
theorem dX11_levels_132 : decode cX11_levels 132 = .ok (.iconst 0, 1) := by decide +kernel
theorem dX11_levels_133 : decode cX11_levels 133 = .ok (.iload_n 3, 1) := by decide +kernel
theorem dX11_levels_134 : decode cX11_levels 134 = .ok (.iadd, 1) := by decide +kernel
theorem dX11_levels_135 : decode cX11_levels 135 = .ok (.aload_n 0, 1) := by decide +kernel
theorem dX11_levels_136 : decode cX11_levels 136 = .ok (.getfield 7, 3) := by decide +kernel
theorem dX11_levels_139 : decode cX11_levels 139 = .ok (.iconst 0, 1) := by decide +kernel
theorem dX11_levels_140 : decode cX11_levels 140 = .ok (.iload_n 3, 1) := by decide +kernel
theorem dX11_levels_141 : decode cX11_levels 141 = .ok (.iadd, 1) := by decide +kernel
theorem dX11_levels_142 : decode cX11_levels 142 = .ok (.iaload, 1) := by decide +kernel
theorem dX11_levels_143 : decode cX11_levels 143 = .ok (.iload 5, 2) := by decide +kernel
theorem dX11_levels_145 : decode cX11_levels 145 = .ok (.iadd, 1) := by decide +kernel
theorem dX11_levels_146 : decode cX11_levels 146 = .ok (.iastore, 1) := by decide +kernel
theorem dX11_levels_147 : decode cX11_levels 147 = .ok (.return_, 1) := by decide +kernel
theorem dX11_weeps_0 : decode cX11_weeps 0 = .ok (.aload_n 0, 1) := by decide +kernel
theorem dX11_weeps_1 : decode cX11_weeps 1 = .ok (.iload_n 1, 1) := by decide +kernel
theorem dX11_weeps_2 : decode cX11_weeps 2 = .ok (.invokevirtual 314, 3) := by decide +kernel
theorem dX11_weeps_5 : decode cX11_weeps 5 = .ok (.aload_n 0, 1) := by decide +kernel
theorem dX11_weeps_6 : decode cX11_weeps 6 = .ok (.bipush 120, 2) := by decide +kernel
theorem dX11_weeps_8 : decode cX11_weeps 8 = .ok (.invokevirtual 323, 3) := by decide +kernel
theorem dX11_weeps_11 : decode cX11_weeps 11 = .ok (.ifCond .eq 4, 3) := by decide +kernel
theorem dX11_weeps_14 : decode cX11_weeps 14 = .ok (.return_, 1) := by decide +kernel
theorem dX11_weeps_15 : decode cX11_weeps 15 = .ok (.aload_n 0, 1) := by decide +kernel
theorem dX11_weeps_16 : decode cX11_weeps 16 = .ok (.getfield 7, 3) := by decide +kernel
theorem dX11_weeps_19 : decode cX11_weeps 19 = .ok (.bipush 16, 2) := by decide +kernel
theorem dX11_weeps_21 : decode cX11_weeps 21 = .ok (.iload_n 1, 1) := by decide +kernel
theorem dX11_weeps_22 : decode cX11_weeps 22 = .ok (.iadd, 1) := by decide +kernel
theorem dX11_weeps_23 : decode cX11_weeps 23 = .ok (.iaload, 1) := by decide +kernel
theorem dX11_weeps_24 : decode cX11_weeps 24 = .ok (.aload_n 0, 1) := by decide +kernel
theorem dX11_weeps_25 : decode cX11_weeps 25 = .ok (.bipush 111, 2) := by decide +kernel
theorem dX11_weeps_27 : decode cX11_weeps 27 = .ok (.invokevirtual 317, 3) := by decide +kernel
theorem dX11_weeps_30 : decode cX11_weeps 30 = .ok (.imul, 1) := by decide +kernel
theorem dX11_weeps_31 : decode cX11_weeps 31 = .ok (.aload_n 0, 1) := by decide +kernel
theorem dX11_weeps_32 : decode cX11_weeps 32 = .ok (.getfield 7, 3) := by decide +kernel
theorem dX11_weeps_35 : decode cX11_weeps 35 = .ok (.iconst 0, 1) := by decide +kernel
theorem dX11_weeps_36 : decode cX11_weeps 36 = .ok (.iload_n 1, 1) := by decide +kernel
theorem dX11_weeps_37 : decode cX11_weeps 37 = .ok (.iadd, 1) := by decide +kernel
theorem dX11_weeps_38 : decode cX11_weeps 38 = .ok (.iaload, 1) := by decide +kernel
theorem dX11_weeps_39 : decode cX11_weeps 39 = .ok (.invokestatic 286, 3) := by decide +kernel
theorem dX11_weeps_42 : decode cX11_weeps 42 = .ok (.istore_n 2, 1) := by decide +kernel
theorem dX11_weeps_43 : decode cX11_weeps 43 = .ok (.aload_n 0, 1) := by decide +kernel
theorem dX11_weeps_44 : decode cX11_weeps 44 = .ok (.getfield 7, 3) := by decide +kernel
theorem dX11_weeps_47 : decode cX11_weeps 47 = .ok (.bipush 32, 2) := by decide +kernel
theorem dX11_weeps_49 : decode cX11_weeps 49 = .ok (.iload_n 1, 1) := by decide +kernel
theorem dX11_weeps_50 : decode cX11_weeps 50 = .ok (.iadd, 1) := by decide +kernel
theorem dX11_weeps_51 : decode cX11_weeps 51 = .ok (.ldc_w 326, 3) := by decide +kernel
theorem dX11_weeps_54 : decode cX11_weeps 54 = .ok (.aload_n 0, 1) := by decide +kernel
theorem dX11_weeps_55 : decode cX11_weeps 55 = .ok (.getfield 7, 3) := by decide +kernel
theorem dX11_weeps_58 : decode cX11_weeps 58 = .ok (.bipush 32, 2) := by decide +kernel
theorem dX11_weeps_60 : decode cX11_weeps 60 = .ok (.iload_n 1, 1) := by decide +kernel
theorem dX11_weeps_61 : decode cX11_weeps 61 = .ok (.iadd, 1) := by decide +kernel
theorem dX11_weeps_62 : decode cX11_weeps 62 = .ok (.iaload, 1) := by decide +kernel
theorem dX11_weeps_63 : decode cX11_weeps 63 = .ok (.iload_n 2, 1) := by decide +kernel
theorem dX11_weeps_64 : decode cX11_weeps 64 = .ok (.iadd, 1) := by decide +kernel
theorem dX11_weeps_65 : decode cX11_weeps 65 = .ok (.invokestatic 286, 3) := by decide +kernel
theorem dX11_weeps_68 : decode cX11_weeps 68 = .ok (.iastore, 1) := by decide +kernel
theorem dX11_weeps_69 : decode cX11_weeps 69 = .ok (.aload_n 0, 1) := by decide +kernel
theorem dX11_weeps_70 : decode cX11_weeps 70 = .ok (.getfield 7, 3) := by decide +kernel
theorem dX11_weeps_73 : decode cX11_weeps 73 = .ok (.iconst 0, 1) := by decide +kernel
theorem dX11_weeps_74 : decode cX11_weeps 74 = .ok (.iload_n 1, 1) := by decide +kernel
theorem dX11_weeps_75 : decode cX11_weeps 75 = .ok (.iadd, 1) := by decide +kernel
theorem dX11_weeps_76 : decode cX11_weeps 76 = .ok (.aload_n 0, 1) := by decide +kernel
theorem dX11_weeps_77 : decode cX11_weeps 77 = .ok (.getfield 7, 3) := by decide +kernel
theorem dX11_weeps_80 : decode cX11_weeps 80 = .ok (.iconst 0, 1) := by decide +kernel
theorem dX11_weeps_81 : decode cX11_weeps 81 = .ok (.iload_n 1, 1) := by decide +kernel
theorem dX11_weeps_82 : decode cX11_weeps 82 = .ok (.iadd, 1) := by decide +kernel
theorem dX11_weeps_83 : decode cX11_weeps 83 = .ok (.iaload, 1) := by decide +kernel
theorem dX11_weeps_84 : decode cX11_weeps 84 = .ok (.iload_n 2, 1) := by decide +kernel
theorem dX11_weeps_85 : decode cX11_weeps 85 = .ok (.isub, 1) := by decide +kernel
theorem dX11_weeps_86 : decode cX11_weeps 86 = .ok (.iastore, 1) := by decide +kernel
theorem dX11_weeps_87 : decode cX11_weeps 87 = .ok (.aload_n 0, 1) := by decide +kernel
theorem dX11_weeps_88 : decode cX11_weeps 88 = .ok (.aload_n 0, 1) := by decide +kernel
theorem dX11_weeps_89 : decode cX11_weeps 89 = .ok (.getfield 327, 3) := by decide +kernel
theorem dX11_weeps_92 : decode cX11_weeps 92 = .ok (.iload_n 2, 1) := by decide +kernel
theorem dX11_weeps_93 : decode cX11_weeps 93 = .ok (.iadd, 1) := by decide +kernel
theorem dX11_weeps_94 : decode cX11_weeps 94 = .ok (.putfield 327, 3) := by decide +kernel
theorem dX11_weeps_97 : decode cX11_weeps 97 = .ok (.return_, 1) := by decide +kernel
theorem dX11_minuteGoes_0 : decode cX11_minuteGoes 0 = .ok (.iconst 0, 1) := by decide +kernel
theorem dX11_minuteGoes_1 : decode cX11_minuteGoes 1 = .ok (.istore_n 1, 1) := by decide +kernel
theorem dX11_minuteGoes_2 : decode cX11_minuteGoes 2 = .ok (.iload_n 1, 1) := by decide +kernel
theorem dX11_minuteGoes_3 : decode cX11_minuteGoes 3 = .ok (.bipush 16, 2) := by decide +kernel
theorem dX11_minuteGoes_5 : decode cX11_minuteGoes 5 = .ok (.if_icmp .ge 22, 3) := by decide +kernel
theorem dX11_minuteGoes_8 : decode cX11_minuteGoes 8 = .ok (.aload_n 0, 1) := by decide +kernel
theorem dX11_minuteGoes_9 : decode cX11_minuteGoes 9 = .ok (.iload_n 1, 1) := by decide +kernel
theorem dX11_minuteGoes_10 : decode cX11_minuteGoes 10 = .ok (.invokevirtual 141, 3) := by decide +kernel
theorem dX11_minuteGoes_13 : decode cX11_minuteGoes 13 = .ok (.ifCond .eq 8, 3) := by decide +kernel
theorem dX11_minuteGoes_16 : decode cX11_minuteGoes 16 = .ok (.aload_n 0, 1) := by decide +kernel
theorem dX11_minuteGoes_17 : decode cX11_minuteGoes 17 = .ok (.iload_n 1, 1) := by decide +kernel
theorem dX11_minuteGoes_18 : decode cX11_minuteGoes 18 = .ok (.invokevirtual 330, 3) := by decide +kernel
theorem dX11_minuteGoes_21 : decode cX11_minuteGoes 21 = .ok (.iinc 1 1, 3) := by decide +kernel
theorem dX11_minuteGoes_24 : decode cX11_minuteGoes 24 = .ok (.goto (-22), 3) := by decide +kernel
theorem dX11_minuteGoes_27 : decode cX11_minuteGoes 27 = .ok (.iconst 0, 1) := by decide +kernel
theorem dX11_minuteGoes_28 : decode cX11_minuteGoes 28 = .ok (.istore_n 1, 1) := by decide +kernel
theorem dX11_minuteGoes_29 : decode cX11_minuteGoes 29 = .ok (.iload_n 1, 1) := by decide +kernel
theorem dX11_minuteGoes_30 : decode cX11_minuteGoes 30 = .ok (.aload_n 0, 1) := by decide +kernel
theorem dX11_minuteGoes_31 : decode cX11_minuteGoes 31 = .ok (.getfield 145, 3) := by decide +kernel
theorem dX11_minuteGoes_34 : decode cX11_minuteGoes 34 = .ok (.if_icmp .ge 22, 3) := by decide +kernel
theorem dX11_minuteGoes_37 : decode cX11_minuteGoes 37 = .ok (.aload_n 0, 1) := by decide +kernel
theorem dX11_minuteGoes_38 : decode cX11_minuteGoes 38 = .ok (.iload_n 1, 1) := by decide +kernel
theorem dX11_minuteGoes_39 : decode cX11_minuteGoes 39 = .ok (.invokevirtual 148, 3) := by decide +kernel
theorem dX11_minuteGoes_42 : decode cX11_minuteGoes 42 = .ok (.ifCond .eq 8, 3) := by decide +kernel
theorem dX11_minuteGoes_45 : decode cX11_minuteGoes 45 = .ok (.aload_n 0, 1) := by decide +kernel
theorem dX11_minuteGoes_46 : decode cX11_minuteGoes 46 = .ok (.iload_n 1, 1) := by decide +kernel
theorem dX11_minuteGoes_47 : decode cX11_minuteGoes 47 = .ok (.invokevirtual 333, 3) := by decide +kernel
theorem dX11_minuteGoes_50 : decode cX11_minuteGoes 50 = .ok (.iinc 1 1, 3) := by decide +kernel
theorem dX11_minuteGoes_53 : decode cX11_minuteGoes 53 = .ok (.goto (-24), 3) := by decide +kernel
theorem dX11_minuteGoes_56 : decode cX11_minuteGoes 56 = .ok (.iconst 0, 1) := by decide +kernel
theorem dX11_minuteGoes_57 : decode cX11_minuteGoes 57 = .ok (.istore_n 1, 1) := by decide +kernel
theorem dX11_minuteGoes_58 : decode cX11_minuteGoes 58 = .ok (.iload_n 1, 1) := by decide +kernel
theorem dX11_minuteGoes_59 : decode cX11_minuteGoes 59 = .ok (.bipush 16, 2) := by decide +kernel
theorem dX11_minuteGoes_61 : decode cX11_minuteGoes 61 = .ok (.if_icmp .ge 34, 3) := by decide +kernel
theorem dX11_minuteGoes_64 : decode cX11_minuteGoes 64 = .ok (.aload_n 0, 1) := by decide +kernel
theorem dX11_minuteGoes_65 : decode cX11_minuteGoes 65 = .ok (.iload_n 1, 1) := by decide +kernel
theorem dX11_minuteGoes_66 : decode cX11_minuteGoes 66 = .ok (.invokevirtual 141, 3) := by decide +kernel
theorem dX11_minuteGoes_69 : decode cX11_minuteGoes 69 = .ok (.ifCond .eq 20, 3) := by decide +kernel
theorem dX11_minuteGoes_72 : decode cX11_minuteGoes 72 = .ok (.aload_n 0, 1) := by decide +kernel
theorem dX11_minuteGoes_73 : decode cX11_minuteGoes 73 = .ok (.getfield 7, 3) := by decide +kernel
theorem dX11_minuteGoes_76 : decode cX11_minuteGoes 76 = .ok (.bipush 16, 2) := by decide +kernel
theorem dX11_minuteGoes_78 : decode cX11_minuteGoes 78 = .ok (.iload_n 1, 1) := by decide +kernel
theorem dX11_minuteGoes_79 : decode cX11_minuteGoes 79 = .ok (.iadd, 1) := by decide +kernel
theorem dX11_minuteGoes_80 : decode cX11_minuteGoes 80 = .ok (.iaload, 1) := by decide +kernel
theorem dX11_minuteGoes_81 : decode cX11_minuteGoes 81 = .ok (.ifCond .le 8, 3) := by decide +kernel
theorem dX11_minuteGoes_84 : decode cX11_minuteGoes 84 = .ok (.aload_n 0, 1) := by decide +kernel
theorem dX11_minuteGoes_85 : decode cX11_minuteGoes 85 = .ok (.iload_n 1, 1) := by decide +kernel
theorem dX11_minuteGoes_86 : decode cX11_minuteGoes 86 = .ok (.invokevirtual 336, 3) := by decide +kernel
theorem dX11_minuteGoes_89 : decode cX11_minuteGoes 89 = .ok (.iinc 1 1, 3) := by decide +kernel
theorem dX11_minuteGoes_92 : decode cX11_minuteGoes 92 = .ok (.goto (-34), 3) := by decide +kernel
theorem dX11_minuteGoes_95 : decode cX11_minuteGoes 95 = .ok (.aload_n 0, 1) := by decide +kernel
theorem dX11_minuteGoes_96 : decode cX11_minuteGoes 96 = .ok (.getfield 7, 3) := by decide +kernel
theorem dX11_minuteGoes_99 : decode cX11_minuteGoes 99 = .ok (.bipush 73, 2) := by decide +kernel
theorem dX11_minuteGoes_101 : decode cX11_minuteGoes 101 = .ok (.aload_n 0, 1) := by decide +kernel
theorem dX11_minuteGoes_102 : decode cX11_minuteGoes 102 = .ok (.getfield 7, 3) := by decide +kernel
theorem dX11_minuteGoes_105 : decode cX11_minuteGoes 105 = .ok (.bipush 73, 2) := by decide +kernel
theorem dX11_minuteGoes_107 : decode cX11_minuteGoes 107 = .ok (.iaload, 1) := by decide +kernel
theorem dX11_minuteGoes_108 : decode cX11_minuteGoes 108 = .ok (.iconst 1, 1) := by decide +kernel
theorem dX11_minuteGoes_109 : decode cX11_minuteGoes 109 = .ok (.iadd, 1) := by decide +kernel
theorem dX11_minuteGoes_110 : decode cX11_minuteGoes 110 = .ok (.iastore, 1) := by decide +kernel
theorem dX11_minuteGoes_111 : decode cX11_minuteGoes 111 = .ok (.return_, 1) := by decide +kernel
theorem dX11_minutesGo_0 : decode cX11_minutesGo 0 = .ok (.aload_n 0, 1) := by decide +kernel
theorem dX11_minutesGo_1 : decode cX11_minutesGo 1 = .ok (.iconst 0, 1) := by decide +kernel
theorem dX11_minutesGo_2 : decode cX11_minutesGo 2 = .ok (.putfield 327, 3) := by decide +kernel
theorem dX11_minutesGo_5 : decode cX11_minutesGo 5 = .ok (.iconst 0, 1) := by decide +kernel
theorem dX11_minutesGo_6 : decode cX11_minutesGo 6 = .ok (.istore_n 2, 1) := by decide +kernel
theorem dX11_minutesGo_7 : decode cX11_minutesGo 7 = .ok (.iload_n 2, 1) := by decide +kernel
theorem dX11_minutesGo_8 : decode cX11_minutesGo 8 = .ok (.iload_n 1, 1) := by decide +kernel
theorem dX11_minutesGo_9 : decode cX11_minutesGo 9 = .ok (.if_icmp .ge 26, 3) := by decide +kernel
theorem dX11_minutesGo_12 : decode cX11_minutesGo 12 = .ok (.aload_n 0, 1) := by decide +kernel
theorem dX11_minutesGo_13 : decode cX11_minutesGo 13 = .ok (.getfield 7, 3) := by decide +kernel
theorem dX11_minutesGo_16 : decode cX11_minutesGo 16 = .ok (.bipush 73, 2) := by decide +kernel
theorem dX11_minutesGo_18 : decode cX11_minutesGo 18 = .ok (.iaload, 1) := by decide +kernel
theorem dX11_minutesGo_19 : decode cX11_minutesGo 19 = .ok (.sipush 9999, 3) := by decide +kernel
theorem dX11_minutesGo_22 : decode cX11_minutesGo 22 = .ok (.if_icmp .ge 13, 3) := by decide +kernel
theorem dX11_minutesGo_25 : decode cX11_minutesGo 25 = .ok (.aload_n 0, 1) := by decide +kernel
theorem dX11_minutesGo_26 : decode cX11_minutesGo 26 = .ok (.invokevirtual 339, 3) := by decide +kernel
theorem dX11_minutesGo_29 : decode cX11_minutesGo 29 = .ok (.iinc 2 1, 3) := by decide +kernel
theorem dX11_minutesGo_32 : decode cX11_minutesGo 32 = .ok (.goto (-25), 3) := by decide +kernel
theorem dX11_minutesGo_35 : decode cX11_minutesGo 35 = .ok (.return_, 1) := by decide +kernel
theorem dX11_minutes_0 : decode cX11_minutes 0 = .ok (.iload_n 1, 1) := by decide +kernel
theorem dX11_minutes_1 : decode cX11_minutes 1 = .ok (.iconst 1, 1) := by decide +kernel
theorem dX11_minutes_2 : decode cX11_minutes 2 = .ok (.bipush 100, 2) := by decide +kernel
theorem dX11_minutes_4 : decode cX11_minutes 4 = .ok (.invokestatic 129, 3) := by decide +kernel
theorem dX11_minutes_7 : decode cX11_minutes 7 = .ok (.ifCond .ne 5, 3) := by decide +kernel
theorem dX11_minutes_10 : decode cX11_minutes 10 = .ok (.iconst (-1), 1) := by decide +kernel
theorem dX11_minutes_11 : decode cX11_minutes 11 = .ok (.ireturn, 1) := by decide +kernel
theorem dX11_minutes_12 : decode cX11_minutes 12 = .ok (.aload_n 0, 1) := by decide +kernel
theorem dX11_minutes_13 : decode cX11_minutes 13 = .ok (.iload_n 1, 1) := by decide +kernel
theorem dX11_minutes_14 : decode cX11_minutes 14 = .ok (.invokevirtual 342, 3) := by decide +kernel
theorem dX11_minutes_17 : decode cX11_minutes 17 = .ok (.aload_n 0, 1) := by decide +kernel
theorem dX11_minutes_18 : decode cX11_minutes 18 = .ok (.getfield 327, 3) := by decide +kernel
theorem dX11_minutes_21 : decode cX11_minutes 21 = .ok (.ireturn, 1) := by decide +kernel
theorem dX11_sumOf_0 : decode cX11_sumOf 0 = .ok (.iconst 0, 1) := by decide +kernel
theorem dX11_sumOf_1 : decode cX11_sumOf 1 = .ok (.istore_n 2, 1) := by decide +kernel
theorem dX11_sumOf_2 : decode cX11_sumOf 2 = .ok (.iconst 0, 1) := by decide +kernel
theorem dX11_sumOf_3 : decode cX11_sumOf 3 = .ok (.istore_n 3, 1) := by decide +kernel
theorem dX11_sumOf_4 : decode cX11_sumOf 4 = .ok (.iload_n 3, 1) := by decide +kernel
theorem dX11_sumOf_5 : decode cX11_sumOf 5 = .ok (.bipush 16, 2) := by decide +kernel
theorem dX11_sumOf_7 : decode cX11_sumOf 7 = .ok (.if_icmp .ge 28, 3) := by decide +kernel
theorem dX11_sumOf_10 : decode cX11_sumOf 10 = .ok (.aload_n 0, 1) := by decide +kernel
theorem dX11_sumOf_11 : decode cX11_sumOf 11 = .ok (.iload_n 3, 1) := by decide +kernel
theorem dX11_sumOf_12 : decode cX11_sumOf 12 = .ok (.invokevirtual 141, 3) := by decide +kernel
theorem dX11_sumOf_15 : decode cX11_sumOf 15 = .ok (.ifCond .eq 14, 3) := by decide +kernel
theorem dX11_sumOf_18 : decode cX11_sumOf 18 = .ok (.iload_n 2, 1) := by decide +kernel
theorem dX11_sumOf_19 : decode cX11_sumOf 19 = .ok (.aload_n 0, 1) := by decide +kernel
theorem dX11_sumOf_20 : decode cX11_sumOf 20 = .ok (.getfield 7, 3) := by decide +kernel
theorem dX11_sumOf_23 : decode cX11_sumOf 23 = .ok (.iload_n 1, 1) := by decide +kernel
theorem dX11_sumOf_24 : decode cX11_sumOf 24 = .ok (.iload_n 3, 1) := by decide +kernel
theorem dX11_sumOf_25 : decode cX11_sumOf 25 = .ok (.iadd, 1) := by decide +kernel
theorem dX11_sumOf_26 : decode cX11_sumOf 26 = .ok (.iaload, 1) := by decide +kernel
theorem dX11_sumOf_27 : decode cX11_sumOf 27 = .ok (.iadd, 1) := by decide +kernel
theorem dX11_sumOf_28 : decode cX11_sumOf 28 = .ok (.istore_n 2, 1) := by decide +kernel
theorem dX11_sumOf_29 : decode cX11_sumOf 29 = .ok (.iinc 3 1, 3) := by decide +kernel
theorem dX11_sumOf_32 : decode cX11_sumOf 32 = .ok (.goto (-28), 3) := by decide +kernel
theorem dX11_sumOf_35 : decode cX11_sumOf 35 = .ok (.iload_n 2, 1) := by decide +kernel
theorem dX11_sumOf_36 : decode cX11_sumOf 36 = .ok (.ireturn, 1) := by decide +kernel
theorem dX11_tried_0 : decode cX11_tried 0 = .ok (.iload_n 1, 1) := by decide +kernel
theorem dX11_tried_1 : decode cX11_tried 1 = .ok (.iconst 1, 1) := by decide +kernel
theorem dX11_tried_2 : decode cX11_tried 2 = .ok (.bipush 100, 2) := by decide +kernel
theorem dX11_tried_4 : decode cX11_tried 4 = .ok (.invokestatic 129, 3) := by decide +kernel
theorem dX11_tried_7 : decode cX11_tried 7 = .ok (.ifCond .eq 34, 3) := by decide +kernel
theorem dX11_tried_10 : decode cX11_tried 10 = .ok (.iload_n 2, 1) := by decide +kernel
theorem dX11_tried_11 : decode cX11_tried 11 = .ok (.iconst 0, 1) := by decide +kernel
theorem dX11_tried_12 : decode cX11_tried 12 = .ok (.iconst 2, 1) := by decide +kernel
theorem dX11_tried_13 : decode cX11_tried 13 = .ok (.invokestatic 129, 3) := by decide +kernel
theorem dX11_tried_16 : decode cX11_tried 16 = .ok (.ifCond .ne 27, 3) := by decide +kernel
theorem dX11_tried_19 : decode cX11_tried 19 = .ok (.aload_n 0, 1) := by decide +kernel
theorem dX11_tried_20 : decode cX11_tried 20 = .ok (.iload_n 2, 1) := by decide +kernel
theorem dX11_tried_21 : decode cX11_tried 21 = .ok (.bipush 10, 2) := by decide +kernel
theorem dX11_tried_23 : decode cX11_tried 23 = .ok (.isub, 1) := by decide +kernel
theorem dX11_tried_24 : decode cX11_tried 24 = .ok (.invokevirtual 141, 3) := by decide +kernel
theorem dX11_tried_27 : decode cX11_tried 27 = .ok (.ifCond .ne 16, 3) := by decide +kernel
theorem dX11_tried_30 : decode cX11_tried 30 = .ok (.aload_n 0, 1) := by decide +kernel
theorem dX11_tried_31 : decode cX11_tried 31 = .ok (.iload_n 2, 1) := by decide +kernel
theorem dX11_tried_32 : decode cX11_tried 32 = .ok (.bipush 30, 2) := by decide +kernel
theorem dX11_tried_34 : decode cX11_tried 34 = .ok (.isub, 1) := by decide +kernel
theorem dX11_tried_35 : decode cX11_tried 35 = .ok (.invokevirtual 141, 3) := by decide +kernel
theorem dX11_tried_38 : decode cX11_tried 38 = .ok (.ifCond .ne 5, 3) := by decide +kernel
theorem dX11_tried_41 : decode cX11_tried 41 = .ok (.iconst (-1), 1) := by decide +kernel
theorem dX11_tried_42 : decode cX11_tried 42 = .ok (.ireturn, 1) := by decide +kernel
theorem dX11_tried_43 : decode cX11_tried 43 = .ok (.aload_n 0, 1) := by decide +kernel
theorem dX11_tried_44 : decode cX11_tried 44 = .ok (.getfield 7, 3) := by decide +kernel
theorem dX11_tried_47 : decode cX11_tried 47 = .ok (.aload_n 0, 1) := by decide +kernel
theorem dX11_tried_48 : decode cX11_tried 48 = .ok (.getfield 13, 3) := by decide +kernel
theorem dX11_tried_51 : decode cX11_tried 51 = .ok (.invokestatic 298, 3) := by decide +kernel
theorem dX11_tried_54 : decode cX11_tried 54 = .ok (.aload_n 0, 1) := by decide +kernel
theorem dX11_tried_55 : decode cX11_tried 55 = .ok (.iload_n 1, 1) := by decide +kernel
theorem dX11_tried_56 : decode cX11_tried 56 = .ok (.invokevirtual 342, 3) := by decide +kernel
theorem dX11_tried_59 : decode cX11_tried 59 = .ok (.iload_n 2, 1) := by decide +kernel
theorem dX11_tried_60 : decode cX11_tried 60 = .ok (.tableswitch 56 0 2 #[28, 36, 47], 28) := by decide +kernel
theorem dX11_tried_88 : decode cX11_tried 88 = .ok (.aload_n 0, 1) := by decide +kernel
theorem dX11_tried_89 : decode cX11_tried 89 = .ok (.getfield 327, 3) := by decide +kernel
theorem dX11_tried_92 : decode cX11_tried 92 = .ok (.istore_n 3, 1) := by decide +kernel
theorem dX11_tried_93 : decode cX11_tried 93 = .ok (.goto 56, 3) := by decide +kernel
theorem dX11_tried_96 : decode cX11_tried 96 = .ok (.aload_n 0, 1) := by decide +kernel
theorem dX11_tried_97 : decode cX11_tried 97 = .ok (.getfield 7, 3) := by decide +kernel
theorem dX11_tried_100 : decode cX11_tried 100 = .ok (.bipush 72, 2) := by decide +kernel
theorem dX11_tried_102 : decode cX11_tried 102 = .ok (.iaload, 1) := by decide +kernel
theorem dX11_tried_103 : decode cX11_tried 103 = .ok (.istore_n 3, 1) := by decide +kernel
theorem dX11_tried_104 : decode cX11_tried 104 = .ok (.goto 45, 3) := by decide +kernel
theorem dX11_tried_107 : decode cX11_tried 107 = .ok (.aload_n 0, 1) := by decide +kernel
theorem dX11_tried_108 : decode cX11_tried 108 = .ok (.iconst 0, 1) := by decide +kernel
theorem dX11_tried_109 : decode cX11_tried 109 = .ok (.invokevirtual 345, 3) := by decide +kernel
theorem dX11_tried_112 : decode cX11_tried 112 = .ok (.istore_n 3, 1) := by decide +kernel
theorem dX11_tried_113 : decode cX11_tried 113 = .ok (.goto 36, 3) := by decide +kernel
theorem dX11_tried_116 : decode cX11_tried 116 = .ok (.iload_n 2, 1) := by decide +kernel
theorem dX11_tried_117 : decode cX11_tried 117 = .ok (.bipush 30, 2) := by decide +kernel
theorem dX11_tried_119 : decode cX11_tried 119 = .ok (.if_icmp .ge 17, 3) := by decide +kernel
theorem dX11_tried_122 : decode cX11_tried 122 = .ok (.aload_n 0, 1) := by decide +kernel
theorem dX11_tried_123 : decode cX11_tried 123 = .ok (.getfield 7, 3) := by decide +kernel
theorem dX11_tried_126 : decode cX11_tried 126 = .ok (.iconst 0, 1) := by decide +kernel
theorem dX11_tried_127 : decode cX11_tried 127 = .ok (.iload_n 2, 1) := by decide +kernel
theorem dX11_tried_128 : decode cX11_tried 128 = .ok (.iadd, 1) := by decide +kernel
theorem dX11_tried_129 : decode cX11_tried 129 = .ok (.bipush 10, 2) := by decide +kernel
theorem dX11_tried_131 : decode cX11_tried 131 = .ok (.isub, 1) := by decide +kernel
theorem dX11_tried_132 : decode cX11_tried 132 = .ok (.iaload, 1) := by decide +kernel
theorem dX11_tried_133 : decode cX11_tried 133 = .ok (.goto 15, 3) := by decide +kernel
theorem dX11_tried_136 : decode cX11_tried 136 = .ok (.aload_n 0, 1) := by decide +kernel
theorem dX11_tried_137 : decode cX11_tried 137 = .ok (.getfield 7, 3) := by decide +kernel
theorem dX11_tried_140 : decode cX11_tried 140 = .ok (.bipush 32, 2) := by decide +kernel
theorem dX11_tried_142 : decode cX11_tried 142 = .ok (.iload_n 2, 1) := by decide +kernel
theorem dX11_tried_143 : decode cX11_tried 143 = .ok (.iadd, 1) := by decide +kernel
theorem dX11_tried_144 : decode cX11_tried 144 = .ok (.bipush 30, 2) := by decide +kernel
theorem dX11_tried_146 : decode cX11_tried 146 = .ok (.isub, 1) := by decide +kernel
theorem dX11_tried_147 : decode cX11_tried 147 = .ok (.iaload, 1) := by decide +kernel
theorem dX11_tried_148 : decode cX11_tried 148 = .ok (.istore_n 3, 1) := by decide +kernel
theorem dX11_tried_149 : decode cX11_tried 149 = .ok (.aload_n 0, 1) := by decide +kernel
theorem dX11_tried_150 : decode cX11_tried 150 = .ok (.getfield 13, 3) := by decide +kernel
theorem dX11_tried_153 : decode cX11_tried 153 = .ok (.aload_n 0, 1) := by decide +kernel
theorem dX11_tried_154 : decode cX11_tried 154 = .ok (.getfield 7, 3) := by decide +kernel
theorem dX11_tried_157 : decode cX11_tried 157 = .ok (.invokestatic 298, 3) := by decide +kernel
theorem dX11_tried_160 : decode cX11_tried 160 = .ok (.iload_n 3, 1) := by decide +kernel
theorem dX11_tried_161 : decode cX11_tried 161 = .ok (.ireturn, 1) := by decide +kernel
theorem dX11_dry_0 : decode cX11_dry 0 = .ok (.aload_n 0, 1) := by decide +kernel
theorem dX11_dry_1 : decode cX11_dry 1 = .ok (.iload_n 1, 1) := by decide +kernel
theorem dX11_dry_2 : decode cX11_dry 2 = .ok (.invokevirtual 141, 3) := by decide +kernel
theorem dX11_dry_5 : decode cX11_dry 5 = .ok (.ifCond .eq 13, 3) := by decide +kernel
theorem dX11_dry_8 : decode cX11_dry 8 = .ok (.iload_n 2, 1) := by decide +kernel
theorem dX11_dry_9 : decode cX11_dry 9 = .ok (.iconst 1, 1) := by decide +kernel
theorem dX11_dry_10 : decode cX11_dry 10 = .ok (.bipush 100, 2) := by decide +kernel
theorem dX11_dry_12 : decode cX11_dry 12 = .ok (.invokestatic 129, 3) := by decide +kernel
theorem dX11_dry_15 : decode cX11_dry 15 = .ok (.ifCond .ne 5, 3) := by decide +kernel
theorem dX11_dry_18 : decode cX11_dry 18 = .ok (.iconst (-1), 1) := by decide +kernel
theorem dX11_dry_19 : decode cX11_dry 19 = .ok (.ireturn, 1) := by decide +kernel
theorem dX11_dry_20 : decode cX11_dry 20 = .ok (.aload_n 0, 1) := by decide +kernel
theorem dX11_dry_21 : decode cX11_dry 21 = .ok (.getfield 7, 3) := by decide +kernel
theorem dX11_dry_24 : decode cX11_dry 24 = .ok (.aload_n 0, 1) := by decide +kernel
theorem dX11_dry_25 : decode cX11_dry 25 = .ok (.getfield 13, 3) := by decide +kernel
theorem dX11_dry_28 : decode cX11_dry 28 = .ok (.invokestatic 298, 3) := by decide +kernel
theorem dX11_dry_31 : decode cX11_dry 31 = .ok (.iconst 0, 1) := by decide +kernel
theorem dX11_dry_32 : decode cX11_dry 32 = .ok (.istore_n 3, 1) := by decide +kernel
theorem dX11_dry_33 : decode cX11_dry 33 = .ok (.aload_n 0, 1) := by decide +kernel
theorem dX11_dry_34 : decode cX11_dry 34 = .ok (.getfield 7, 3) := by decide +kernel
theorem dX11_dry_37 : decode cX11_dry 37 = .ok (.iconst 0, 1) := by decide +kernel
theorem dX11_dry_38 : decode cX11_dry 38 = .ok (.iload_n 1, 1) := by decide +kernel
theorem dX11_dry_39 : decode cX11_dry 39 = .ok (.iadd, 1) := by decide +kernel
theorem dX11_dry_40 : decode cX11_dry 40 = .ok (.iaload, 1) := by decide +kernel
theorem dX11_dry_41 : decode cX11_dry 41 = .ok (.ifCond .le 32, 3) := by decide +kernel
theorem dX11_dry_44 : decode cX11_dry 44 = .ok (.iload_n 3, 1) := by decide +kernel
theorem dX11_dry_45 : decode cX11_dry 45 = .ok (.iload_n 2, 1) := by decide +kernel
theorem dX11_dry_46 : decode cX11_dry 46 = .ok (.if_icmp .ge 27, 3) := by decide +kernel
theorem dX11_dry_49 : decode cX11_dry 49 = .ok (.aload_n 0, 1) := by decide +kernel
theorem dX11_dry_50 : decode cX11_dry 50 = .ok (.getfield 7, 3) := by decide +kernel
theorem dX11_dry_53 : decode cX11_dry 53 = .ok (.bipush 73, 2) := by decide +kernel
theorem dX11_dry_55 : decode cX11_dry 55 = .ok (.iaload, 1) := by decide +kernel
theorem dX11_dry_56 : decode cX11_dry 56 = .ok (.sipush 9999, 3) := by decide +kernel
theorem dX11_dry_59 : decode cX11_dry 59 = .ok (.if_icmp .ge 14, 3) := by decide +kernel
theorem dX11_dry_62 : decode cX11_dry 62 = .ok (.aload_n 0, 1) := by decide +kernel
theorem dX11_dry_63 : decode cX11_dry 63 = .ok (.invokevirtual 339, 3) := by decide +kernel
theorem dX11_dry_66 : decode cX11_dry 66 = .ok (.iload_n 3, 1) := by decide +kernel
theorem dX11_dry_67 : decode cX11_dry 67 = .ok (.iconst 1, 1) := by decide +kernel
theorem dX11_dry_68 : decode cX11_dry 68 = .ok (.iadd, 1) := by decide +kernel
theorem dX11_dry_69 : decode cX11_dry 69 = .ok (.istore_n 3, 1) := by decide +kernel
theorem dX11_dry_70 : decode cX11_dry 70 = .ok (.goto (-37), 3) := by decide +kernel
theorem dX11_dry_73 : decode cX11_dry 73 = .ok (.aload_n 0, 1) := by decide +kernel
theorem dX11_dry_74 : decode cX11_dry 74 = .ok (.getfield 7, 3) := by decide +kernel
theorem dX11_dry_77 : decode cX11_dry 77 = .ok (.iconst 0, 1) := by decide +kernel
theorem dX11_dry_78 : decode cX11_dry 78 = .ok (.iload_n 1, 1) := by decide +kernel
theorem dX11_dry_79 : decode cX11_dry 79 = .ok (.iadd, 1) := by decide +kernel
theorem dX11_dry_80 : decode cX11_dry 80 = .ok (.iaload, 1) := by decide +kernel
theorem dX11_dry_81 : decode cX11_dry 81 = .ok (.ifCond .ne 7, 3) := by decide +kernel
theorem dX11_dry_84 : decode cX11_dry 84 = .ok (.iconst 1, 1) := by decide +kernel
theorem dX11_dry_85 : decode cX11_dry 85 = .ok (.goto 4, 3) := by decide +kernel
theorem dX11_dry_88 : decode cX11_dry 88 = .ok (.iconst 0, 1) := by decide +kernel
theorem dX11_dry_89 : decode cX11_dry 89 = .ok (.istore 4, 2) := by decide +kernel
theorem dX11_dry_91 : decode cX11_dry 91 = .ok (.aload_n 0, 1) := by decide +kernel
theorem dX11_dry_92 : decode cX11_dry 92 = .ok (.getfield 13, 3) := by decide +kernel
theorem dX11_dry_95 : decode cX11_dry 95 = .ok (.aload_n 0, 1) := by decide +kernel
theorem dX11_dry_96 : decode cX11_dry 96 = .ok (.getfield 7, 3) := by decide +kernel
theorem dX11_dry_99 : decode cX11_dry 99 = .ok (.invokestatic 298, 3) := by decide +kernel
theorem dX11_dry_102 : decode cX11_dry 102 = .ok (.iload 4, 2) := by decide +kernel
theorem dX11_dry_104 : decode cX11_dry 104 = .ok (.ifCond .eq 7, 3) := by decide +kernel
theorem dX11_dry_107 : decode cX11_dry 107 = .ok (.iload_n 3, 1) := by decide +kernel
theorem dX11_dry_108 : decode cX11_dry 108 = .ok (.goto 5, 3) := by decide +kernel
theorem dX11_dry_111 : decode cX11_dry 111 = .ok (.bipush (-2), 2) := by decide +kernel
theorem dX11_dry_113 : decode cX11_dry 113 = .ok (.ireturn, 1) := by decide +kernel
theorem dX11_cornerIs_0 : decode cX11_cornerIs 0 = .ok (.aload_n 0, 1) := by decide +kernel
theorem dX11_cornerIs_1 : decode cX11_cornerIs 1 = .ok (.iload_n 1, 1) := by decide +kernel
theorem dX11_cornerIs_2 : decode cX11_cornerIs 2 = .ok (.invokevirtual 141, 3) := by decide +kernel
theorem dX11_cornerIs_5 : decode cX11_cornerIs 5 = .ok (.ifCond .ne 5, 3) := by decide +kernel
theorem dX11_cornerIs_8 : decode cX11_cornerIs 8 = .ok (.iconst (-1), 1) := by decide +kernel
theorem dX11_cornerIs_9 : decode cX11_cornerIs 9 = .ok (.ireturn, 1) := by decide +kernel
theorem dX11_cornerIs_10 : decode cX11_cornerIs 10 = .ok (.iload_n 2, 1) := by decide +kernel
theorem dX11_cornerIs_11 : decode cX11_cornerIs 11 = .ok (.tableswitch 85 0 5 #[37, 44, 53, 63, 73, 79], 37) := by decide +kernel
theorem dX11_cornerIs_48 : decode cX11_cornerIs 48 = .ok (.aload_n 0, 1) := by decide +kernel
theorem dX11_cornerIs_49 : decode cX11_cornerIs 49 = .ok (.getfield 19, 3) := by decide +kernel
theorem dX11_cornerIs_52 : decode cX11_cornerIs 52 = .ok (.iload_n 1, 1) := by decide +kernel
theorem dX11_cornerIs_53 : decode cX11_cornerIs 53 = .ok (.iaload, 1) := by decide +kernel
theorem dX11_cornerIs_54 : decode cX11_cornerIs 54 = .ok (.ireturn, 1) := by decide +kernel
theorem dX11_cornerIs_55 : decode cX11_cornerIs 55 = .ok (.aload_n 0, 1) := by decide +kernel
theorem dX11_cornerIs_56 : decode cX11_cornerIs 56 = .ok (.getfield 7, 3) := by decide +kernel
theorem dX11_cornerIs_59 : decode cX11_cornerIs 59 = .ok (.iconst 0, 1) := by decide +kernel
theorem dX11_cornerIs_60 : decode cX11_cornerIs 60 = .ok (.iload_n 1, 1) := by decide +kernel
theorem dX11_cornerIs_61 : decode cX11_cornerIs 61 = .ok (.iadd, 1) := by decide +kernel
theorem dX11_cornerIs_62 : decode cX11_cornerIs 62 = .ok (.iaload, 1) := by decide +kernel
theorem dX11_cornerIs_63 : decode cX11_cornerIs 63 = .ok (.ireturn, 1) := by decide +kernel
theorem dX11_cornerIs_64 : decode cX11_cornerIs 64 = .ok (.aload_n 0, 1) := by decide +kernel
theorem dX11_cornerIs_65 : decode cX11_cornerIs 65 = .ok (.getfield 7, 3) := by decide +kernel
theorem dX11_cornerIs_68 : decode cX11_cornerIs 68 = .ok (.bipush 16, 2) := by decide +kernel
theorem dX11_cornerIs_70 : decode cX11_cornerIs 70 = .ok (.iload_n 1, 1) := by decide +kernel
theorem dX11_cornerIs_71 : decode cX11_cornerIs 71 = .ok (.iadd, 1) := by decide +kernel
theorem dX11_cornerIs_72 : decode cX11_cornerIs 72 = .ok (.iaload, 1) := by decide +kernel
theorem dX11_cornerIs_73 : decode cX11_cornerIs 73 = .ok (.ireturn, 1) := by decide +kernel
theorem dX11_cornerIs_74 : decode cX11_cornerIs 74 = .ok (.aload_n 0, 1) := by decide +kernel
theorem dX11_cornerIs_75 : decode cX11_cornerIs 75 = .ok (.getfield 7, 3) := by decide +kernel
theorem dX11_cornerIs_78 : decode cX11_cornerIs 78 = .ok (.bipush 32, 2) := by decide +kernel
theorem dX11_cornerIs_80 : decode cX11_cornerIs 80 = .ok (.iload_n 1, 1) := by decide +kernel
theorem dX11_cornerIs_81 : decode cX11_cornerIs 81 = .ok (.iadd, 1) := by decide +kernel
theorem dX11_cornerIs_82 : decode cX11_cornerIs 82 = .ok (.iaload, 1) := by decide +kernel
theorem dX11_cornerIs_83 : decode cX11_cornerIs 83 = .ok (.ireturn, 1) := by decide +kernel
theorem dX11_cornerIs_84 : decode cX11_cornerIs 84 = .ok (.aload_n 0, 1) := by decide +kernel
theorem dX11_cornerIs_85 : decode cX11_cornerIs 85 = .ok (.iload_n 1, 1) := by decide +kernel
theorem dX11_cornerIs_86 : decode cX11_cornerIs 86 = .ok (.invokevirtual 308, 3) := by decide +kernel
theorem dX11_cornerIs_89 : decode cX11_cornerIs 89 = .ok (.ireturn, 1) := by decide +kernel
theorem dX11_cornerIs_90 : decode cX11_cornerIs 90 = .ok (.aload_n 0, 1) := by decide +kernel
theorem dX11_cornerIs_91 : decode cX11_cornerIs 91 = .ok (.iload_n 1, 1) := by decide +kernel
theorem dX11_cornerIs_92 : decode cX11_cornerIs 92 = .ok (.invokevirtual 305, 3) := by decide +kernel
theorem dX11_cornerIs_95 : decode cX11_cornerIs 95 = .ok (.ireturn, 1) := by decide +kernel
theorem dX11_cornerIs_96 : decode cX11_cornerIs 96 = .ok (.iconst (-1), 1) := by decide +kernel
theorem dX11_cornerIs_97 : decode cX11_cornerIs 97 = .ok (.ireturn, 1) := by decide +kernel
theorem dX11_pipeIs_0 : decode cX11_pipeIs 0 = .ok (.iload_n 1, 1) := by decide +kernel
theorem dX11_pipeIs_1 : decode cX11_pipeIs 1 = .ok (.iconst 0, 1) := by decide +kernel
theorem dX11_pipeIs_2 : decode cX11_pipeIs 2 = .ok (.aload_n 0, 1) := by decide +kernel
theorem dX11_pipeIs_3 : decode cX11_pipeIs 3 = .ok (.getfield 145, 3) := by decide +kernel
theorem dX11_pipeIs_6 : decode cX11_pipeIs 6 = .ok (.iconst 1, 1) := by decide +kernel
theorem dX11_pipeIs_7 : decode cX11_pipeIs 7 = .ok (.isub, 1) := by decide +kernel
theorem dX11_pipeIs_8 : decode cX11_pipeIs 8 = .ok (.invokestatic 129, 3) := by decide +kernel
theorem dX11_pipeIs_11 : decode cX11_pipeIs 11 = .ok (.ifCond .ne 5, 3) := by decide +kernel
theorem dX11_pipeIs_14 : decode cX11_pipeIs 14 = .ok (.iconst (-1), 1) := by decide +kernel
theorem dX11_pipeIs_15 : decode cX11_pipeIs 15 = .ok (.ireturn, 1) := by decide +kernel
theorem dX11_pipeIs_16 : decode cX11_pipeIs 16 = .ok (.iload_n 2, 1) := by decide +kernel
theorem dX11_pipeIs_17 : decode cX11_pipeIs 17 = .ok (.ifCond .ne 12, 3) := by decide +kernel
theorem dX11_pipeIs_20 : decode cX11_pipeIs 20 = .ok (.aload_n 0, 1) := by decide +kernel
theorem dX11_pipeIs_21 : decode cX11_pipeIs 21 = .ok (.getfield 22, 3) := by decide +kernel
theorem dX11_pipeIs_24 : decode cX11_pipeIs 24 = .ok (.iload_n 1, 1) := by decide +kernel
theorem dX11_pipeIs_25 : decode cX11_pipeIs 25 = .ok (.iaload, 1) := by decide +kernel
theorem dX11_pipeIs_26 : decode cX11_pipeIs 26 = .ok (.goto 49, 3) := by decide +kernel
theorem dX11_pipeIs_29 : decode cX11_pipeIs 29 = .ok (.iload_n 2, 1) := by decide +kernel
theorem dX11_pipeIs_30 : decode cX11_pipeIs 30 = .ok (.iconst 1, 1) := by decide +kernel
theorem dX11_pipeIs_31 : decode cX11_pipeIs 31 = .ok (.if_icmp .ne 12, 3) := by decide +kernel
theorem dX11_pipeIs_34 : decode cX11_pipeIs 34 = .ok (.aload_n 0, 1) := by decide +kernel
theorem dX11_pipeIs_35 : decode cX11_pipeIs 35 = .ok (.getfield 25, 3) := by decide +kernel
theorem dX11_pipeIs_38 : decode cX11_pipeIs 38 = .ok (.iload_n 1, 1) := by decide +kernel
theorem dX11_pipeIs_39 : decode cX11_pipeIs 39 = .ok (.iaload, 1) := by decide +kernel
theorem dX11_pipeIs_40 : decode cX11_pipeIs 40 = .ok (.goto 35, 3) := by decide +kernel
theorem dX11_pipeIs_43 : decode cX11_pipeIs 43 = .ok (.iload_n 2, 1) := by decide +kernel
theorem dX11_pipeIs_44 : decode cX11_pipeIs 44 = .ok (.iconst 2, 1) := by decide +kernel
theorem dX11_pipeIs_45 : decode cX11_pipeIs 45 = .ok (.if_icmp .ne 12, 3) := by decide +kernel
theorem dX11_pipeIs_48 : decode cX11_pipeIs 48 = .ok (.aload_n 0, 1) := by decide +kernel
theorem dX11_pipeIs_49 : decode cX11_pipeIs 49 = .ok (.getfield 28, 3) := by decide +kernel
theorem dX11_pipeIs_52 : decode cX11_pipeIs 52 = .ok (.iload_n 1, 1) := by decide +kernel
theorem dX11_pipeIs_53 : decode cX11_pipeIs 53 = .ok (.iaload, 1) := by decide +kernel
theorem dX11_pipeIs_54 : decode cX11_pipeIs 54 = .ok (.goto 21, 3) := by decide +kernel
theorem dX11_pipeIs_57 : decode cX11_pipeIs 57 = .ok (.iload_n 2, 1) := by decide +kernel
theorem dX11_pipeIs_58 : decode cX11_pipeIs 58 = .ok (.iconst 3, 1) := by decide +kernel
theorem dX11_pipeIs_59 : decode cX11_pipeIs 59 = .ok (.if_icmp .ne 15, 3) := by decide +kernel
theorem dX11_pipeIs_62 : decode cX11_pipeIs 62 = .ok (.aload_n 0, 1) := by decide +kernel
theorem dX11_pipeIs_63 : decode cX11_pipeIs 63 = .ok (.getfield 7, 3) := by decide +kernel
theorem dX11_pipeIs_66 : decode cX11_pipeIs 66 = .ok (.bipush 48, 2) := by decide +kernel
theorem dX11_pipeIs_68 : decode cX11_pipeIs 68 = .ok (.iload_n 1, 1) := by decide +kernel
theorem dX11_pipeIs_69 : decode cX11_pipeIs 69 = .ok (.iadd, 1) := by decide +kernel
theorem dX11_pipeIs_70 : decode cX11_pipeIs 70 = .ok (.iaload, 1) := by decide +kernel
theorem dX11_pipeIs_71 : decode cX11_pipeIs 71 = .ok (.goto 4, 3) := by decide +kernel
theorem dX11_pipeIs_74 : decode cX11_pipeIs 74 = .ok (.iconst (-1), 1) := by decide +kernel
theorem dX11_pipeIs_75 : decode cX11_pipeIs 75 = .ok (.ireturn, 1) := by decide +kernel
theorem dX11_restOf_0 : decode cX11_restOf 0 = .ok (.iload_n 3, 1) := by decide +kernel
theorem dX11_restOf_1 : decode cX11_restOf 1 = .ok (.ifCond .eq 7, 3) := by decide +kernel
theorem dX11_restOf_4 : decode cX11_restOf 4 = .ok (.iconst 1, 1) := by decide +kernel
theorem dX11_restOf_5 : decode cX11_restOf 5 = .ok (.goto 9, 3) := by decide +kernel
theorem dX11_restOf_8 : decode cX11_restOf 8 = .ok (.aload_n 0, 1) := by decide +kernel
theorem dX11_restOf_9 : decode cX11_restOf 9 = .ok (.getfield 28, 3) := by decide +kernel
theorem dX11_restOf_12 : decode cX11_restOf 12 = .ok (.iload_n 1, 1) := by decide +kernel
theorem dX11_restOf_13 : decode cX11_restOf 13 = .ok (.iaload, 1) := by decide +kernel
theorem dX11_restOf_14 : decode cX11_restOf 14 = .ok (.istore 4, 2) := by decide +kernel
theorem dX11_restOf_16 : decode cX11_restOf 16 = .ok (.aload_n 0, 1) := by decide +kernel
theorem dX11_restOf_17 : decode cX11_restOf 17 = .ok (.getfield 22, 3) := by decide +kernel
theorem dX11_restOf_20 : decode cX11_restOf 20 = .ok (.iload_n 1, 1) := by decide +kernel
theorem dX11_restOf_21 : decode cX11_restOf 21 = .ok (.iaload, 1) := by decide +kernel
theorem dX11_restOf_22 : decode cX11_restOf 22 = .ok (.iload_n 2, 1) := by decide +kernel
theorem dX11_restOf_23 : decode cX11_restOf 23 = .ok (.if_icmp .ne 15, 3) := by decide +kernel
theorem dX11_restOf_26 : decode cX11_restOf 26 = .ok (.iload 4, 2) := by decide +kernel
theorem dX11_restOf_28 : decode cX11_restOf 28 = .ok (.aload_n 0, 1) := by decide +kernel
theorem dX11_restOf_29 : decode cX11_restOf 29 = .ok (.getfield 86, 3) := by decide +kernel
theorem dX11_restOf_32 : decode cX11_restOf 32 = .ok (.iload_n 1, 1) := by decide +kernel
theorem dX11_restOf_33 : decode cX11_restOf 33 = .ok (.iaload, 1) := by decide +kernel
theorem dX11_restOf_34 : decode cX11_restOf 34 = .ok (.isub, 1) := by decide +kernel
theorem dX11_restOf_35 : decode cX11_restOf 35 = .ok (.goto 12, 3) := by decide +kernel
theorem dX11_restOf_38 : decode cX11_restOf 38 = .ok (.iload 4, 2) := by decide +kernel
theorem dX11_restOf_40 : decode cX11_restOf 40 = .ok (.aload_n 0, 1) := by decide +kernel
theorem dX11_restOf_41 : decode cX11_restOf 41 = .ok (.getfield 86, 3) := by decide +kernel
theorem dX11_restOf_44 : decode cX11_restOf 44 = .ok (.iload_n 1, 1) := by decide +kernel
theorem dX11_restOf_45 : decode cX11_restOf 45 = .ok (.iaload, 1) := by decide +kernel
theorem dX11_restOf_46 : decode cX11_restOf 46 = .ok (.iadd, 1) := by decide +kernel
theorem dX11_restOf_47 : decode cX11_restOf 47 = .ok (.ireturn, 1) := by decide +kernel
theorem dX11_comesOn_0 : decode cX11_comesOn 0 = .ok (.iconst 1, 1) := by decide +kernel
theorem dX11_comesOn_1 : decode cX11_comesOn 1 = .ok (.iload_n 1, 1) := by decide +kernel
theorem dX11_comesOn_2 : decode cX11_comesOn 2 = .ok (.ishl, 1) := by decide +kernel
theorem dX11_comesOn_3 : decode cX11_comesOn 3 = .ok (.istore_n 3, 1) := by decide +kernel
theorem dX11_comesOn_4 : decode cX11_comesOn 4 = .ok (.aload_n 0, 1) := by decide +kernel
theorem dX11_comesOn_5 : decode cX11_comesOn 5 = .ok (.getfield 92, 3) := by decide +kernel
theorem dX11_comesOn_8 : decode cX11_comesOn 8 = .ok (.iconst 0, 1) := by decide +kernel
theorem dX11_comesOn_9 : decode cX11_comesOn 9 = .ok (.iload_n 1, 1) := by decide +kernel
theorem dX11_comesOn_10 : decode cX11_comesOn 10 = .ok (.iastore, 1) := by decide +kernel
theorem dX11_comesOn_11 : decode cX11_comesOn 11 = .ok (.aload_n 0, 1) := by decide +kernel
theorem dX11_comesOn_12 : decode cX11_comesOn 12 = .ok (.iconst 1, 1) := by decide +kernel
theorem dX11_comesOn_13 : decode cX11_comesOn 13 = .ok (.putfield 348, 3) := by decide +kernel
theorem dX11_comesOn_16 : decode cX11_comesOn 16 = .ok (.iconst 0, 1) := by decide +kernel
theorem dX11_comesOn_17 : decode cX11_comesOn 17 = .ok (.istore 4, 2) := by decide +kernel
theorem dX11_comesOn_19 : decode cX11_comesOn 19 = .ok (.iload 4, 2) := by decide +kernel
theorem dX11_comesOn_21 : decode cX11_comesOn 21 = .ok (.aload_n 0, 1) := by decide +kernel
theorem dX11_comesOn_22 : decode cX11_comesOn 22 = .ok (.getfield 348, 3) := by decide +kernel
theorem dX11_comesOn_25 : decode cX11_comesOn 25 = .ok (.if_icmp .ge 114, 3) := by decide +kernel
theorem dX11_comesOn_28 : decode cX11_comesOn 28 = .ok (.iconst 0, 1) := by decide +kernel
theorem dX11_comesOn_29 : decode cX11_comesOn 29 = .ok (.istore 5, 2) := by decide +kernel
theorem dX11_comesOn_31 : decode cX11_comesOn 31 = .ok (.iload 5, 2) := by decide +kernel
theorem dX11_comesOn_33 : decode cX11_comesOn 33 = .ok (.aload_n 0, 1) := by decide +kernel
theorem dX11_comesOn_34 : decode cX11_comesOn 34 = .ok (.getfield 145, 3) := by decide +kernel
theorem dX11_comesOn_37 : decode cX11_comesOn 37 = .ok (.if_icmp .ge 96, 3) := by decide +kernel
theorem dX11_comesOn_40 : decode cX11_comesOn 40 = .ok (.aload_n 0, 1) := by decide +kernel
theorem dX11_comesOn_41 : decode cX11_comesOn 41 = .ok (.iload 5, 2) := by decide +kernel
theorem dX11_comesOn_43 : decode cX11_comesOn 43 = .ok (.aload_n 0, 1) := by decide +kernel
theorem dX11_comesOn_44 : decode cX11_comesOn 44 = .ok (.getfield 92, 3) := by decide +kernel
theorem dX11_comesOn_47 : decode cX11_comesOn 47 = .ok (.iload 4, 2) := by decide +kernel
theorem dX11_comesOn_49 : decode cX11_comesOn 49 = .ok (.iaload, 1) := by decide +kernel
theorem dX11_comesOn_50 : decode cX11_comesOn 50 = .ok (.invokevirtual 151, 3) := by decide +kernel
theorem dX11_comesOn_53 : decode cX11_comesOn 53 = .ok (.istore 6, 2) := by decide +kernel
theorem dX11_comesOn_55 : decode cX11_comesOn 55 = .ok (.iload 6, 2) := by decide +kernel
theorem dX11_comesOn_57 : decode cX11_comesOn 57 = .ok (.iconst (-1), 1) := by decide +kernel
theorem dX11_comesOn_58 : decode cX11_comesOn 58 = .ok (.if_icmp .eq 69, 3) := by decide +kernel
theorem dX11_comesOn_61 : decode cX11_comesOn 61 = .ok (.iload_n 3, 1) := by decide +kernel
theorem dX11_comesOn_62 : decode cX11_comesOn 62 = .ok (.iload 6, 2) := by decide +kernel
theorem dX11_comesOn_64 : decode cX11_comesOn 64 = .ok (.invokestatic 137, 3) := by decide +kernel
theorem dX11_comesOn_67 : decode cX11_comesOn 67 = .ok (.ifCond .ne 60, 3) := by decide +kernel
theorem dX11_comesOn_70 : decode cX11_comesOn 70 = .ok (.aload_n 0, 1) := by decide +kernel
theorem dX11_comesOn_71 : decode cX11_comesOn 71 = .ok (.iload 5, 2) := by decide +kernel
theorem dX11_comesOn_73 : decode cX11_comesOn 73 = .ok (.aload_n 0, 1) := by decide +kernel
theorem dX11_comesOn_74 : decode cX11_comesOn 74 = .ok (.getfield 92, 3) := by decide +kernel
theorem dX11_comesOn_77 : decode cX11_comesOn 77 = .ok (.iload 4, 2) := by decide +kernel
theorem dX11_comesOn_79 : decode cX11_comesOn 79 = .ok (.iaload, 1) := by decide +kernel
theorem dX11_comesOn_80 : decode cX11_comesOn 80 = .ok (.iload_n 2, 1) := by decide +kernel
theorem dX11_comesOn_81 : decode cX11_comesOn 81 = .ok (.invokevirtual 351, 3) := by decide +kernel
theorem dX11_comesOn_84 : decode cX11_comesOn 84 = .ok (.ifCond .ne 6, 3) := by decide +kernel
theorem dX11_comesOn_87 : decode cX11_comesOn 87 = .ok (.goto 40, 3) := by decide +kernel
theorem dX11_comesOn_90 : decode cX11_comesOn 90 = .ok (.iload_n 3, 1) := by decide +kernel
theorem dX11_comesOn_91 : decode cX11_comesOn 91 = .ok (.iconst 1, 1) := by decide +kernel
theorem dX11_comesOn_92 : decode cX11_comesOn 92 = .ok (.iload 6, 2) := by decide +kernel
theorem dX11_comesOn_94 : decode cX11_comesOn 94 = .ok (.ishl, 1) := by decide +kernel
theorem dX11_comesOn_95 : decode cX11_comesOn 95 = .ok (.ior, 1) := by decide +kernel
theorem dX11_comesOn_96 : decode cX11_comesOn 96 = .ok (.istore_n 3, 1) := by decide +kernel
theorem dX11_comesOn_97 : decode cX11_comesOn 97 = .ok (.aload_n 0, 1) := by decide +kernel
theorem dX11_comesOn_98 : decode cX11_comesOn 98 = .ok (.getfield 89, 3) := by decide +kernel
theorem dX11_comesOn_101 : decode cX11_comesOn 101 = .ok (.iload 6, 2) := by decide +kernel
theorem dX11_comesOn_103 : decode cX11_comesOn 103 = .ok (.iload 5, 2) := by decide +kernel
theorem dX11_comesOn_105 : decode cX11_comesOn 105 = .ok (.iastore, 1) := by decide +kernel
theorem dX11_comesOn_106 : decode cX11_comesOn 106 = .ok (.aload_n 0, 1) := by decide +kernel
theorem dX11_comesOn_107 : decode cX11_comesOn 107 = .ok (.getfield 92, 3) := by decide +kernel
theorem dX11_comesOn_110 : decode cX11_comesOn 110 = .ok (.aload_n 0, 1) := by decide +kernel
theorem dX11_comesOn_111 : decode cX11_comesOn 111 = .ok (.getfield 348, 3) := by decide +kernel
theorem dX11_comesOn_114 : decode cX11_comesOn 114 = .ok (.iload 6, 2) := by decide +kernel
theorem dX11_comesOn_116 : decode cX11_comesOn 116 = .ok (.iastore, 1) := by decide +kernel
theorem dX11_comesOn_117 : decode cX11_comesOn 117 = .ok (.aload_n 0, 1) := by decide +kernel
theorem dX11_comesOn_118 : decode cX11_comesOn 118 = .ok (.aload_n 0, 1) := by decide +kernel
theorem dX11_comesOn_119 : decode cX11_comesOn 119 = .ok (.getfield 348, 3) := by decide +kernel
theorem dX11_comesOn_122 : decode cX11_comesOn 122 = .ok (.iconst 1, 1) := by decide +kernel
theorem dX11_comesOn_123 : decode cX11_comesOn 123 = .ok (.iadd, 1) := by decide +kernel
theorem dX11_comesOn_124 : decode cX11_comesOn 124 = .ok (.putfield 348, 3) := by decide +kernel
theorem dX11_comesOn_127 : decode cX11_comesOn 127 = .ok (.iinc 5 1, 3) := by decide +kernel
theorem dX11_comesOn_130 : decode cX11_comesOn 130 = .ok (.goto (-99), 3) := by decide +kernel
theorem dX11_comesOn_133 : decode cX11_comesOn 133 = .ok (.iinc 4 1, 3) := by decide +kernel
theorem dX11_comesOn_136 : decode cX11_comesOn 136 = .ok (.goto (-117), 3) := by decide +kernel
theorem dX11_comesOn_139 : decode cX11_comesOn 139 = .ok (.iload_n 3, 1) := by decide +kernel
theorem dX11_comesOn_140 : decode cX11_comesOn 140 = .ok (.ireturn, 1) := by decide +kernel
theorem dX11_carries_0 : decode cX11_carries 0 = .ok (.ldc_w 355, 3) := by decide +kernel
theorem dX11_carries_3 : decode cX11_carries 3 = .ok (.istore 4, 2) := by decide +kernel
theorem dX11_carries_5 : decode cX11_carries 5 = .ok (.iload_n 2, 1) := by decide +kernel
theorem dX11_carries_6 : decode cX11_carries 6 = .ok (.istore 5, 2) := by decide +kernel
theorem dX11_carries_8 : decode cX11_carries 8 = .ok (.iload 5, 2) := by decide +kernel
theorem dX11_carries_10 : decode cX11_carries 10 = .ok (.iload_n 1, 1) := by decide +kernel
theorem dX11_carries_11 : decode cX11_carries 11 = .ok (.if_icmp .eq 53, 3) := by decide +kernel
theorem dX11_carries_14 : decode cX11_carries 14 = .ok (.iload 4, 2) := by decide +kernel
theorem dX11_carries_16 : decode cX11_carries 16 = .ok (.aload_n 0, 1) := by decide +kernel
theorem dX11_carries_17 : decode cX11_carries 17 = .ok (.aload_n 0, 1) := by decide +kernel
theorem dX11_carries_18 : decode cX11_carries 18 = .ok (.getfield 89, 3) := by decide +kernel
theorem dX11_carries_21 : decode cX11_carries 21 = .ok (.iload 5, 2) := by decide +kernel
theorem dX11_carries_23 : decode cX11_carries 23 = .ok (.iaload, 1) := by decide +kernel
theorem dX11_carries_24 : decode cX11_carries 24 = .ok (.aload_n 0, 1) := by decide +kernel
theorem dX11_carries_25 : decode cX11_carries 25 = .ok (.aload_n 0, 1) := by decide +kernel
theorem dX11_carries_26 : decode cX11_carries 26 = .ok (.getfield 89, 3) := by decide +kernel
theorem dX11_carries_29 : decode cX11_carries 29 = .ok (.iload 5, 2) := by decide +kernel
theorem dX11_carries_31 : decode cX11_carries 31 = .ok (.iaload, 1) := by decide +kernel
theorem dX11_carries_32 : decode cX11_carries 32 = .ok (.iload 5, 2) := by decide +kernel
theorem dX11_carries_34 : decode cX11_carries 34 = .ok (.invokevirtual 151, 3) := by decide +kernel
theorem dX11_carries_37 : decode cX11_carries 37 = .ok (.iload_n 3, 1) := by decide +kernel
theorem dX11_carries_38 : decode cX11_carries 38 = .ok (.invokevirtual 351, 3) := by decide +kernel
theorem dX11_carries_41 : decode cX11_carries 41 = .ok (.invokestatic 286, 3) := by decide +kernel
theorem dX11_carries_44 : decode cX11_carries 44 = .ok (.istore 4, 2) := by decide +kernel
theorem dX11_carries_46 : decode cX11_carries 46 = .ok (.aload_n 0, 1) := by decide +kernel
theorem dX11_carries_47 : decode cX11_carries 47 = .ok (.aload_n 0, 1) := by decide +kernel
theorem dX11_carries_48 : decode cX11_carries 48 = .ok (.getfield 89, 3) := by decide +kernel
