/-! the instructions, one by one -/
theorem d_MM_begins_0 : decode b_MM_begins 0 = .ok (.iconst 0, 1) := by decide +kernel
theorem d_MM_begins_1 : decode b_MM_begins 1 = .ok (.istore_n 1, 1) := by decide +kernel
theorem d_MM_begins_2 : decode b_MM_begins 2 = .ok (.iload_n 1, 1) := by decide +kernel
theorem d_MM_begins_3 : decode b_MM_begins 3 = .ok (.sipush 302, 3) := by decide +kernel
theorem d_MM_begins_6 : decode b_MM_begins 6 = .ok (.if_icmp .ge 13, 3) := by decide +kernel
theorem d_MM_begins_9 : decode b_MM_begins 9 = .ok (.aload_n 0, 1) := by decide +kernel
theorem d_MM_begins_10 : decode b_MM_begins 10 = .ok (.iload_n 1, 1) := by decide +kernel
theorem d_MM_begins_11 : decode b_MM_begins 11 = .ok (.iconst 0, 1) := by decide +kernel
theorem d_MM_begins_12 : decode b_MM_begins 12 = .ok (.iastore, 1) := by decide +kernel
theorem d_MM_begins_13 : decode b_MM_begins 13 = .ok (.iinc 1 1, 3) := by decide +kernel
theorem d_MM_begins_16 : decode b_MM_begins 16 = .ok (.goto (-14), 3) := by decide +kernel
theorem d_MM_begins_19 : decode b_MM_begins 19 = .ok (.aload_n 0, 1) := by decide +kernel
theorem d_MM_begins_20 : decode b_MM_begins 20 = .ok (.iconst 3, 1) := by decide +kernel
theorem d_MM_begins_21 : decode b_MM_begins 21 = .ok (.iconst 1, 1) := by decide +kernel
theorem d_MM_begins_22 : decode b_MM_begins 22 = .ok (.iastore, 1) := by decide +kernel
theorem d_MM_begins_23 : decode b_MM_begins 23 = .ok (.aload_n 0, 1) := by decide +kernel
theorem d_MM_begins_24 : decode b_MM_begins 24 = .ok (.iconst 5, 1) := by decide +kernel
theorem d_MM_begins_25 : decode b_MM_begins 25 = .ok (.iconst 2, 1) := by decide +kernel
theorem d_MM_begins_26 : decode b_MM_begins 26 = .ok (.iastore, 1) := by decide +kernel
theorem d_MM_begins_27 : decode b_MM_begins 27 = .ok (.return_, 1) := by decide +kernel
theorem d_MM_puts_0 : decode b_MM_puts 0 = .ok (.bipush 24, 2) := by decide +kernel
theorem d_MM_puts_2 : decode b_MM_puts 2 = .ok (.istore_n 2, 1) := by decide +kernel
theorem d_MM_puts_3 : decode b_MM_puts 3 = .ok (.iload_n 2, 1) := by decide +kernel
theorem d_MM_puts_4 : decode b_MM_puts 4 = .ok (.ifCond .lt 32, 3) := by decide +kernel
theorem d_MM_puts_7 : decode b_MM_puts 7 = .ok (.aload_n 0, 1) := by decide +kernel
theorem d_MM_puts_8 : decode b_MM_puts 8 = .ok (.getfield 29, 3) := by decide +kernel
theorem d_MM_puts_11 : decode b_MM_puts 11 = .ok (.aload_n 0, 1) := by decide +kernel
theorem d_MM_puts_12 : decode b_MM_puts 12 = .ok (.getfield 80, 3) := by decide +kernel
theorem d_MM_puts_15 : decode b_MM_puts 15 = .ok (.iload_n 1, 1) := by decide +kernel
theorem d_MM_puts_16 : decode b_MM_puts 16 = .ok (.iload_n 2, 1) := by decide +kernel
theorem d_MM_puts_17 : decode b_MM_puts 17 = .ok (.ishr, 1) := by decide +kernel
theorem d_MM_puts_18 : decode b_MM_puts 18 = .ok (.i2b, 1) := by decide +kernel
theorem d_MM_puts_19 : decode b_MM_puts 19 = .ok (.bastore, 1) := by decide +kernel
theorem d_MM_puts_20 : decode b_MM_puts 20 = .ok (.aload_n 0, 1) := by decide +kernel
theorem d_MM_puts_21 : decode b_MM_puts 21 = .ok (.dup, 1) := by decide +kernel
theorem d_MM_puts_22 : decode b_MM_puts 22 = .ok (.getfield 80, 3) := by decide +kernel
theorem d_MM_puts_25 : decode b_MM_puts 25 = .ok (.iconst 1, 1) := by decide +kernel
theorem d_MM_puts_26 : decode b_MM_puts 26 = .ok (.iadd, 1) := by decide +kernel
theorem d_MM_puts_27 : decode b_MM_puts 27 = .ok (.putfield 80, 3) := by decide +kernel
theorem d_MM_puts_30 : decode b_MM_puts 30 = .ok (.iinc 2 (-8), 3) := by decide +kernel
theorem d_MM_puts_33 : decode b_MM_puts 33 = .ok (.goto (-30), 3) := by decide +kernel
theorem d_MM_puts_36 : decode b_MM_puts 36 = .ok (.return_, 1) := by decide +kernel
theorem d_MM_feed_0 : decode b_MM_feed 0 = .ok (.aload_n 0, 1) := by decide +kernel
theorem d_MM_feed_1 : decode b_MM_feed 1 = .ok (.getfield 80, 3) := by decide +kernel
theorem d_MM_feed_4 : decode b_MM_feed 4 = .ok (.bipush 20, 2) := by decide +kernel
theorem d_MM_feed_6 : decode b_MM_feed 6 = .ok (.iadd, 1) := by decide +kernel
theorem d_MM_feed_7 : decode b_MM_feed 7 = .ok (.sipush 400, 3) := by decide +kernel
theorem d_MM_feed_10 : decode b_MM_feed 10 = .ok (.if_icmp .le 5, 3) := by decide +kernel
theorem d_MM_feed_13 : decode b_MM_feed 13 = .ok (.iconst (-1), 1) := by decide +kernel
theorem d_MM_feed_14 : decode b_MM_feed 14 = .ok (.ireturn, 1) := by decide +kernel
theorem d_MM_feed_15 : decode b_MM_feed 15 = .ok (.aload_n 0, 1) := by decide +kernel
theorem d_MM_feed_16 : decode b_MM_feed 16 = .ok (.iload_n 1, 1) := by decide +kernel
theorem d_MM_feed_17 : decode b_MM_feed 17 = .ok (.invokevirtual 83, 3) := by decide +kernel
theorem d_MM_feed_20 : decode b_MM_feed 20 = .ok (.aload_n 0, 1) := by decide +kernel
theorem d_MM_feed_21 : decode b_MM_feed 21 = .ok (.iload_n 2, 1) := by decide +kernel
theorem d_MM_feed_22 : decode b_MM_feed 22 = .ok (.invokevirtual 83, 3) := by decide +kernel
theorem d_MM_feed_25 : decode b_MM_feed 25 = .ok (.aload_n 0, 1) := by decide +kernel
theorem d_MM_feed_26 : decode b_MM_feed 26 = .ok (.iload_n 3, 1) := by decide +kernel
theorem d_MM_feed_27 : decode b_MM_feed 27 = .ok (.invokevirtual 83, 3) := by decide +kernel
theorem d_MM_feed_30 : decode b_MM_feed 30 = .ok (.aload_n 0, 1) := by decide +kernel
theorem d_MM_feed_31 : decode b_MM_feed 31 = .ok (.iload 4, 2) := by decide +kernel
theorem d_MM_feed_33 : decode b_MM_feed 33 = .ok (.invokevirtual 83, 3) := by decide +kernel
theorem d_MM_feed_36 : decode b_MM_feed 36 = .ok (.aload_n 0, 1) := by decide +kernel
theorem d_MM_feed_37 : decode b_MM_feed 37 = .ok (.iload 5, 2) := by decide +kernel
theorem d_MM_feed_39 : decode b_MM_feed 39 = .ok (.invokevirtual 83, 3) := by decide +kernel
theorem d_MM_feed_42 : decode b_MM_feed 42 = .ok (.aload_n 0, 1) := by decide +kernel
theorem d_MM_feed_43 : decode b_MM_feed 43 = .ok (.getfield 80, 3) := by decide +kernel
theorem d_MM_feed_46 : decode b_MM_feed 46 = .ok (.ireturn, 1) := by decide +kernel
theorem d_MM_end_0 : decode b_MM_end 0 = .ok (.iload_n 1, 1) := by decide +kernel
theorem d_MM_end_1 : decode b_MM_end 1 = .ok (.ifCond .lt 11, 3) := by decide +kernel
theorem d_MM_end_4 : decode b_MM_end 4 = .ok (.iload_n 1, 1) := by decide +kernel
theorem d_MM_end_5 : decode b_MM_end 5 = .ok (.aload_n 0, 1) := by decide +kernel
theorem d_MM_end_6 : decode b_MM_end 6 = .ok (.getfield 80, 3) := by decide +kernel
theorem d_MM_end_9 : decode b_MM_end 9 = .ok (.if_icmp .le 5, 3) := by decide +kernel
theorem d_MM_end_12 : decode b_MM_end 12 = .ok (.iconst (-1), 1) := by decide +kernel
theorem d_MM_end_13 : decode b_MM_end 13 = .ok (.ireturn, 1) := by decide +kernel
theorem d_MM_end_14 : decode b_MM_end 14 = .ok (.aload_n 0, 1) := by decide +kernel
theorem d_MM_end_15 : decode b_MM_end 15 = .ok (.iload_n 1, 1) := by decide +kernel
theorem d_MM_end_16 : decode b_MM_end 16 = .ok (.putfield 80, 3) := by decide +kernel
theorem d_MM_end_19 : decode b_MM_end 19 = .ok (.iload_n 1, 1) := by decide +kernel
theorem d_MM_end_20 : decode b_MM_end 20 = .ok (.ireturn, 1) := by decide +kernel
theorem d_MM_sign_0 : decode b_MM_sign 0 = .ok (.aload_n 0, 1) := by decide +kernel
theorem d_MM_sign_1 : decode b_MM_sign 1 = .ok (.getfield 87, 3) := by decide +kernel
theorem d_MM_sign_4 : decode b_MM_sign 4 = .ok (.aload_n 0, 1) := by decide +kernel
theorem d_MM_sign_5 : decode b_MM_sign 5 = .ok (.getfield 80, 3) := by decide +kernel
theorem d_MM_sign_8 : decode b_MM_sign 8 = .ok (.if_icmp .ge 19, 3) := by decide +kernel
theorem d_MM_sign_11 : decode b_MM_sign 11 = .ok (.aload_n 0, 1) := by decide +kernel
theorem d_MM_sign_12 : decode b_MM_sign 12 = .ok (.getfield 29, 3) := by decide +kernel
theorem d_MM_sign_15 : decode b_MM_sign 15 = .ok (.aload_n 0, 1) := by decide +kernel
theorem d_MM_sign_16 : decode b_MM_sign 16 = .ok (.getfield 87, 3) := by decide +kernel
theorem d_MM_sign_19 : decode b_MM_sign 19 = .ok (.baload, 1) := by decide +kernel
theorem d_MM_sign_20 : decode b_MM_sign 20 = .ok (.sipush 255, 3) := by decide +kernel
theorem d_MM_sign_23 : decode b_MM_sign 23 = .ok (.iand, 1) := by decide +kernel
theorem d_MM_sign_24 : decode b_MM_sign 24 = .ok (.goto 4, 3) := by decide +kernel
theorem d_MM_sign_27 : decode b_MM_sign 27 = .ok (.iconst (-1), 1) := by decide +kernel
theorem d_MM_sign_28 : decode b_MM_sign 28 = .ok (.ireturn, 1) := by decide +kernel
theorem d_MM_next_0 : decode b_MM_next 0 = .ok (.aload_n 0, 1) := by decide +kernel
theorem d_MM_next_1 : decode b_MM_next 1 = .ok (.invokevirtual 90, 3) := by decide +kernel
theorem d_MM_next_4 : decode b_MM_next 4 = .ok (.bipush 32, 2) := by decide +kernel
theorem d_MM_next_6 : decode b_MM_next 6 = .ok (.if_icmp .ne 16, 3) := by decide +kernel
theorem d_MM_next_9 : decode b_MM_next 9 = .ok (.aload_n 0, 1) := by decide +kernel
theorem d_MM_next_10 : decode b_MM_next 10 = .ok (.dup, 1) := by decide +kernel
theorem d_MM_next_11 : decode b_MM_next 11 = .ok (.getfield 87, 3) := by decide +kernel
theorem d_MM_next_14 : decode b_MM_next 14 = .ok (.iconst 1, 1) := by decide +kernel
theorem d_MM_next_15 : decode b_MM_next 15 = .ok (.iadd, 1) := by decide +kernel
theorem d_MM_next_16 : decode b_MM_next 16 = .ok (.putfield 87, 3) := by decide +kernel
theorem d_MM_next_19 : decode b_MM_next 19 = .ok (.goto (-19), 3) := by decide +kernel
theorem d_MM_next_22 : decode b_MM_next 22 = .ok (.aload_n 0, 1) := by decide +kernel
theorem d_MM_next_23 : decode b_MM_next 23 = .ok (.invokevirtual 90, 3) := by decide +kernel
theorem d_MM_next_26 : decode b_MM_next 26 = .ok (.ireturn, 1) := by decide +kernel
theorem d_MM_in_0 : decode b_MM_in 0 = .ok (.lload_n 0, 1) := by decide +kernel
theorem d_MM_in_1 : decode b_MM_in 1 = .ok (.lload_n 2, 1) := by decide +kernel
theorem d_MM_in_2 : decode b_MM_in 2 = .ok (.lcmp, 1) := by decide +kernel
theorem d_MM_in_3 : decode b_MM_in 3 = .ok (.ifCond .lt 14, 3) := by decide +kernel
theorem d_MM_in_6 : decode b_MM_in 6 = .ok (.lload_n 0, 1) := by decide +kernel
theorem d_MM_in_7 : decode b_MM_in 7 = .ok (.lload 4, 2) := by decide +kernel
theorem d_MM_in_9 : decode b_MM_in 9 = .ok (.lcmp, 1) := by decide +kernel
theorem d_MM_in_10 : decode b_MM_in 10 = .ok (.ifCond .gt 7, 3) := by decide +kernel
theorem d_MM_in_13 : decode b_MM_in 13 = .ok (.iconst 1, 1) := by decide +kernel
theorem d_MM_in_14 : decode b_MM_in 14 = .ok (.goto 4, 3) := by decide +kernel
theorem d_MM_in_17 : decode b_MM_in 17 = .ok (.iconst 0, 1) := by decide +kernel
theorem d_MM_in_18 : decode b_MM_in 18 = .ok (.ireturn, 1) := by decide +kernel
theorem d_MM_takes_0 : decode b_MM_takes 0 = .ok (.aload_n 0, 1) := by decide +kernel
theorem d_MM_takes_1 : decode b_MM_takes 1 = .ok (.invokevirtual 101, 3) := by decide +kernel
theorem d_MM_takes_4 : decode b_MM_takes 4 = .ok (.pop, 1) := by decide +kernel
theorem d_MM_takes_5 : decode b_MM_takes 5 = .ok (.iconst 0, 1) := by decide +kernel
theorem d_MM_takes_6 : decode b_MM_takes 6 = .ok (.istore_n 2, 1) := by decide +kernel
theorem d_MM_takes_7 : decode b_MM_takes 7 = .ok (.aload_n 0, 1) := by decide +kernel
theorem d_MM_takes_8 : decode b_MM_takes 8 = .ok (.getfield 87, 3) := by decide +kernel
theorem d_MM_takes_11 : decode b_MM_takes 11 = .ok (.iload_n 2, 1) := by decide +kernel
theorem d_MM_takes_12 : decode b_MM_takes 12 = .ok (.iadd, 1) := by decide +kernel
theorem d_MM_takes_13 : decode b_MM_takes 13 = .ok (.aload_n 0, 1) := by decide +kernel
theorem d_MM_takes_14 : decode b_MM_takes 14 = .ok (.getfield 80, 3) := by decide +kernel
theorem d_MM_takes_17 : decode b_MM_takes 17 = .ok (.if_icmp .ge 33, 3) := by decide +kernel
theorem d_MM_takes_20 : decode b_MM_takes 20 = .ok (.aload_n 0, 1) := by decide +kernel
theorem d_MM_takes_21 : decode b_MM_takes 21 = .ok (.getfield 29, 3) := by decide +kernel
theorem d_MM_takes_24 : decode b_MM_takes 24 = .ok (.aload_n 0, 1) := by decide +kernel
theorem d_MM_takes_25 : decode b_MM_takes 25 = .ok (.getfield 87, 3) := by decide +kernel
theorem d_MM_takes_28 : decode b_MM_takes 28 = .ok (.iload_n 2, 1) := by decide +kernel
theorem d_MM_takes_29 : decode b_MM_takes 29 = .ok (.iadd, 1) := by decide +kernel
theorem d_MM_takes_30 : decode b_MM_takes 30 = .ok (.baload, 1) := by decide +kernel
theorem d_MM_takes_31 : decode b_MM_takes 31 = .ok (.i2l, 1) := by decide +kernel
theorem d_MM_takes_32 : decode b_MM_takes 32 = .ok (.ldc2_w 104, 3) := by decide +kernel
theorem d_MM_takes_35 : decode b_MM_takes 35 = .ok (.ldc2_w 106, 3) := by decide +kernel
theorem d_MM_takes_38 : decode b_MM_takes 38 = .ok (.invokestatic 108, 3) := by decide +kernel
theorem d_MM_takes_41 : decode b_MM_takes 41 = .ok (.ifCond .eq 9, 3) := by decide +kernel
theorem d_MM_takes_44 : decode b_MM_takes 44 = .ok (.iinc 2 1, 3) := by decide +kernel
theorem d_MM_takes_47 : decode b_MM_takes 47 = .ok (.goto (-40), 3) := by decide +kernel
theorem d_MM_takes_50 : decode b_MM_takes 50 = .ok (.iload_n 2, 1) := by decide +kernel
theorem d_MM_takes_51 : decode b_MM_takes 51 = .ok (.aload_n 1, 1) := by decide +kernel
theorem d_MM_takes_52 : decode b_MM_takes 52 = .ok (.invokevirtual 112, 3) := by decide +kernel
theorem d_MM_takes_55 : decode b_MM_takes 55 = .ok (.if_icmp .ne 7, 3) := by decide +kernel
theorem d_MM_takes_58 : decode b_MM_takes 58 = .ok (.iconst 1, 1) := by decide +kernel
theorem d_MM_takes_59 : decode b_MM_takes 59 = .ok (.goto 4, 3) := by decide +kernel
theorem d_MM_takes_62 : decode b_MM_takes 62 = .ok (.iconst 0, 1) := by decide +kernel
theorem d_MM_takes_63 : decode b_MM_takes 63 = .ok (.istore_n 3, 1) := by decide +kernel
theorem d_MM_takes_64 : decode b_MM_takes 64 = .ok (.iconst 0, 1) := by decide +kernel
theorem d_MM_takes_65 : decode b_MM_takes 65 = .ok (.istore 4, 2) := by decide +kernel
theorem d_MM_takes_67 : decode b_MM_takes 67 = .ok (.iload 4, 2) := by decide +kernel
theorem d_MM_takes_69 : decode b_MM_takes 69 = .ok (.iload_n 2, 1) := by decide +kernel
theorem d_MM_takes_70 : decode b_MM_takes 70 = .ok (.if_icmp .ge 40, 3) := by decide +kernel
theorem d_MM_takes_73 : decode b_MM_takes 73 = .ok (.iload_n 3, 1) := by decide +kernel
theorem d_MM_takes_74 : decode b_MM_takes 74 = .ok (.ifCond .eq 36, 3) := by decide +kernel
theorem d_MM_takes_77 : decode b_MM_takes 77 = .ok (.aload_n 0, 1) := by decide +kernel
theorem d_MM_takes_78 : decode b_MM_takes 78 = .ok (.getfield 29, 3) := by decide +kernel
theorem d_MM_takes_81 : decode b_MM_takes 81 = .ok (.aload_n 0, 1) := by decide +kernel
theorem d_MM_takes_82 : decode b_MM_takes 82 = .ok (.getfield 87, 3) := by decide +kernel
theorem d_MM_takes_85 : decode b_MM_takes 85 = .ok (.iload 4, 2) := by decide +kernel
theorem d_MM_takes_87 : decode b_MM_takes 87 = .ok (.iadd, 1) := by decide +kernel
theorem d_MM_takes_88 : decode b_MM_takes 88 = .ok (.baload, 1) := by decide +kernel
theorem d_MM_takes_89 : decode b_MM_takes 89 = .ok (.aload_n 1, 1) := by decide +kernel
theorem d_MM_takes_90 : decode b_MM_takes 90 = .ok (.iload 4, 2) := by decide +kernel
theorem d_MM_takes_92 : decode b_MM_takes 92 = .ok (.invokevirtual 117, 3) := by decide +kernel
theorem d_MM_takes_95 : decode b_MM_takes 95 = .ok (.if_icmp .ne 7, 3) := by decide +kernel
theorem d_MM_takes_98 : decode b_MM_takes 98 = .ok (.iconst 1, 1) := by decide +kernel
theorem d_MM_takes_99 : decode b_MM_takes 99 = .ok (.goto 4, 3) := by decide +kernel
theorem d_MM_takes_102 : decode b_MM_takes 102 = .ok (.iconst 0, 1) := by decide +kernel
theorem d_MM_takes_103 : decode b_MM_takes 103 = .ok (.istore_n 3, 1) := by decide +kernel
theorem d_MM_takes_104 : decode b_MM_takes 104 = .ok (.iinc 4 1, 3) := by decide +kernel
theorem d_MM_takes_107 : decode b_MM_takes 107 = .ok (.goto (-40), 3) := by decide +kernel
theorem d_MM_takes_110 : decode b_MM_takes 110 = .ok (.aload_n 0, 1) := by decide +kernel
theorem d_MM_takes_111 : decode b_MM_takes 111 = .ok (.dup, 1) := by decide +kernel
theorem d_MM_takes_112 : decode b_MM_takes 112 = .ok (.getfield 87, 3) := by decide +kernel
theorem d_MM_takes_115 : decode b_MM_takes 115 = .ok (.iload_n 3, 1) := by decide +kernel
theorem d_MM_takes_116 : decode b_MM_takes 116 = .ok (.ifCond .eq 7, 3) := by decide +kernel
theorem d_MM_takes_119 : decode b_MM_takes 119 = .ok (.iload_n 2, 1) := by decide +kernel
theorem d_MM_takes_120 : decode b_MM_takes 120 = .ok (.goto 4, 3) := by decide +kernel
theorem d_MM_takes_123 : decode b_MM_takes 123 = .ok (.iconst 0, 1) := by decide +kernel
theorem d_MM_takes_124 : decode b_MM_takes 124 = .ok (.iadd, 1) := by decide +kernel
theorem d_MM_takes_125 : decode b_MM_takes 125 = .ok (.putfield 87, 3) := by decide +kernel
theorem d_MM_takes_128 : decode b_MM_takes 128 = .ok (.iload_n 3, 1) := by decide +kernel
theorem d_MM_takes_129 : decode b_MM_takes 129 = .ok (.ireturn, 1) := by decide +kernel
theorem d_MM_isRight_0 : decode b_MM_isRight 0 = .ok (.aload_n 0, 1) := by decide +kernel
theorem d_MM_isRight_1 : decode b_MM_isRight 1 = .ok (.getfield 94, 3) := by decide +kernel
theorem d_MM_isRight_4 : decode b_MM_isRight 4 = .ok (.iconst (-1), 1) := by decide +kernel
theorem d_MM_isRight_5 : decode b_MM_isRight 5 = .ok (.if_icmp .ne 7, 3) := by decide +kernel
theorem d_MM_isRight_8 : decode b_MM_isRight 8 = .ok (.iconst 1, 1) := by decide +kernel
theorem d_MM_isRight_9 : decode b_MM_isRight 9 = .ok (.goto 4, 3) := by decide +kernel
theorem d_MM_isRight_12 : decode b_MM_isRight 12 = .ok (.iconst 0, 1) := by decide +kernel
theorem d_MM_isRight_13 : decode b_MM_isRight 13 = .ok (.ireturn, 1) := by decide +kernel
theorem d_MM_fails_0 : decode b_MM_fails 0 = .ok (.aload_n 0, 1) := by decide +kernel
theorem d_MM_fails_1 : decode b_MM_fails 1 = .ok (.invokevirtual 97, 3) := by decide +kernel
theorem d_MM_fails_4 : decode b_MM_fails 4 = .ok (.ifCond .eq 13, 3) := by decide +kernel
theorem d_MM_fails_7 : decode b_MM_fails 7 = .ok (.aload_n 0, 1) := by decide +kernel
theorem d_MM_fails_8 : decode b_MM_fails 8 = .ok (.bipush 8, 2) := by decide +kernel
theorem d_MM_fails_10 : decode b_MM_fails 10 = .ok (.iload_n 2, 1) := by decide +kernel
theorem d_MM_fails_11 : decode b_MM_fails 11 = .ok (.imul, 1) := by decide +kernel
theorem d_MM_fails_12 : decode b_MM_fails 12 = .ok (.iload_n 1, 1) := by decide +kernel
theorem d_MM_fails_13 : decode b_MM_fails 13 = .ok (.iadd, 1) := by decide +kernel
theorem d_MM_fails_14 : decode b_MM_fails 14 = .ok (.putfield 94, 3) := by decide +kernel
theorem d_MM_fails_17 : decode b_MM_fails 17 = .ok (.return_, 1) := by decide +kernel
theorem d_MM_isDigit_0 : decode b_MM_isDigit 0 = .ok (.aload_n 0, 1) := by decide +kernel
theorem d_MM_isDigit_1 : decode b_MM_isDigit 1 = .ok (.invokevirtual 101, 3) := by decide +kernel
theorem d_MM_isDigit_4 : decode b_MM_isDigit 4 = .ok (.i2l, 1) := by decide +kernel
theorem d_MM_isDigit_5 : decode b_MM_isDigit 5 = .ok (.ldc2_w 121, 3) := by decide +kernel
theorem d_MM_isDigit_8 : decode b_MM_isDigit 8 = .ok (.ldc2_w 123, 3) := by decide +kernel
theorem d_MM_isDigit_11 : decode b_MM_isDigit 11 = .ok (.invokestatic 108, 3) := by decide +kernel
theorem d_MM_isDigit_14 : decode b_MM_isDigit 14 = .ok (.ireturn, 1) := by decide +kernel
theorem d_MM_number_0 : decode b_MM_number 0 = .ok (.aload_n 0, 1) := by decide +kernel
theorem d_MM_number_1 : decode b_MM_number 1 = .ok (.invokevirtual 97, 3) := by decide +kernel
theorem d_MM_number_4 : decode b_MM_number 4 = .ok (.ifCond .eq 10, 3) := by decide +kernel
theorem d_MM_number_7 : decode b_MM_number 7 = .ok (.aload_n 0, 1) := by decide +kernel
theorem d_MM_number_8 : decode b_MM_number 8 = .ok (.invokevirtual 125, 3) := by decide +kernel
theorem d_MM_number_11 : decode b_MM_number 11 = .ok (.ifCond .ne 14, 3) := by decide +kernel
theorem d_MM_number_14 : decode b_MM_number 14 = .ok (.aload_n 0, 1) := by decide +kernel
theorem d_MM_number_15 : decode b_MM_number 15 = .ok (.iconst 1, 1) := by decide +kernel
theorem d_MM_number_16 : decode b_MM_number 16 = .ok (.aload_n 0, 1) := by decide +kernel
theorem d_MM_number_17 : decode b_MM_number 17 = .ok (.getfield 87, 3) := by decide +kernel
theorem d_MM_number_20 : decode b_MM_number 20 = .ok (.invokevirtual 128, 3) := by decide +kernel
theorem d_MM_number_23 : decode b_MM_number 23 = .ok (.iconst 0, 1) := by decide +kernel
theorem d_MM_number_24 : decode b_MM_number 24 = .ok (.ireturn, 1) := by decide +kernel
theorem d_MM_number_25 : decode b_MM_number 25 = .ok (.aload_n 0, 1) := by decide +kernel
theorem d_MM_number_26 : decode b_MM_number 26 = .ok (.aload_n 0, 1) := by decide +kernel
theorem d_MM_number_27 : decode b_MM_number 27 = .ok (.getfield 87, 3) := by decide +kernel
theorem d_MM_number_30 : decode b_MM_number 30 = .ok (.putfield 132, 3) := by decide +kernel
theorem d_MM_number_33 : decode b_MM_number 33 = .ok (.iconst 0, 1) := by decide +kernel
theorem d_MM_number_34 : decode b_MM_number 34 = .ok (.istore_n 3, 1) := by decide +kernel
theorem d_MM_number_35 : decode b_MM_number 35 = .ok (.aload_n 0, 1) := by decide +kernel
theorem d_MM_number_36 : decode b_MM_number 36 = .ok (.invokevirtual 90, 3) := by decide +kernel
theorem d_MM_number_39 : decode b_MM_number 39 = .ok (.i2l, 1) := by decide +kernel
theorem d_MM_number_40 : decode b_MM_number 40 = .ok (.ldc2_w 121, 3) := by decide +kernel
theorem d_MM_number_43 : decode b_MM_number 43 = .ok (.ldc2_w 123, 3) := by decide +kernel
theorem d_MM_number_46 : decode b_MM_number 46 = .ok (.invokestatic 108, 3) := by decide +kernel
theorem d_MM_number_49 : decode b_MM_number 49 = .ok (.ifCond .eq 35, 3) := by decide +kernel
theorem d_MM_number_52 : decode b_MM_number 52 = .ok (.sipush 1000, 3) := by decide +kernel
theorem d_MM_number_55 : decode b_MM_number 55 = .ok (.bipush 10, 2) := by decide +kernel
theorem d_MM_number_57 : decode b_MM_number 57 = .ok (.iload_n 3, 1) := by decide +kernel
theorem d_MM_number_58 : decode b_MM_number 58 = .ok (.imul, 1) := by decide +kernel
theorem d_MM_number_59 : decode b_MM_number 59 = .ok (.aload_n 0, 1) := by decide +kernel
theorem d_MM_number_60 : decode b_MM_number 60 = .ok (.invokevirtual 90, 3) := by decide +kernel
theorem d_MM_number_63 : decode b_MM_number 63 = .ok (.iadd, 1) := by decide +kernel
theorem d_MM_number_64 : decode b_MM_number 64 = .ok (.bipush 48, 2) := by decide +kernel
theorem d_MM_number_66 : decode b_MM_number 66 = .ok (.isub, 1) := by decide +kernel
theorem d_MM_number_67 : decode b_MM_number 67 = .ok (.invokestatic 135, 3) := by decide +kernel
theorem d_MM_number_70 : decode b_MM_number 70 = .ok (.istore_n 3, 1) := by decide +kernel
theorem d_MM_number_71 : decode b_MM_number 71 = .ok (.aload_n 0, 1) := by decide +kernel
theorem d_MM_number_72 : decode b_MM_number 72 = .ok (.dup, 1) := by decide +kernel
theorem d_MM_number_73 : decode b_MM_number 73 = .ok (.getfield 87, 3) := by decide +kernel
theorem d_MM_number_76 : decode b_MM_number 76 = .ok (.iconst 1, 1) := by decide +kernel
theorem d_MM_number_77 : decode b_MM_number 77 = .ok (.iadd, 1) := by decide +kernel
theorem d_MM_number_78 : decode b_MM_number 78 = .ok (.putfield 87, 3) := by decide +kernel
theorem d_MM_number_81 : decode b_MM_number 81 = .ok (.goto (-46), 3) := by decide +kernel
theorem d_MM_number_84 : decode b_MM_number 84 = .ok (.iload_n 3, 1) := by decide +kernel
theorem d_MM_number_85 : decode b_MM_number 85 = .ok (.i2l, 1) := by decide +kernel
theorem d_MM_number_86 : decode b_MM_number 86 = .ok (.iload_n 1, 1) := by decide +kernel
theorem d_MM_number_87 : decode b_MM_number 87 = .ok (.i2l, 1) := by decide +kernel
theorem d_MM_number_88 : decode b_MM_number 88 = .ok (.iload_n 2, 1) := by decide +kernel
theorem d_MM_number_89 : decode b_MM_number 89 = .ok (.i2l, 1) := by decide +kernel
theorem d_MM_number_90 : decode b_MM_number 90 = .ok (.invokestatic 108, 3) := by decide +kernel
theorem d_MM_number_93 : decode b_MM_number 93 = .ok (.ifCond .ne 12, 3) := by decide +kernel
theorem d_MM_number_96 : decode b_MM_number 96 = .ok (.aload_n 0, 1) := by decide +kernel
theorem d_MM_number_97 : decode b_MM_number 97 = .ok (.iconst 2, 1) := by decide +kernel
theorem d_MM_number_98 : decode b_MM_number 98 = .ok (.aload_n 0, 1) := by decide +kernel
theorem d_MM_number_99 : decode b_MM_number 99 = .ok (.getfield 132, 3) := by decide +kernel
theorem d_MM_number_102 : decode b_MM_number 102 = .ok (.invokevirtual 128, 3) := by decide +kernel
theorem d_MM_number_105 : decode b_MM_number 105 = .ok (.iload_n 3, 1) := by decide +kernel
theorem d_MM_number_106 : decode b_MM_number 106 = .ok (.ireturn, 1) := by decide +kernel
theorem d_MM_party_0 : decode b_MM_party 0 = .ok (.aload_n 0, 1) := by decide +kernel
theorem d_MM_party_1 : decode b_MM_party 1 = .ok (.iconst 0, 1) := by decide +kernel
theorem d_MM_party_2 : decode b_MM_party 2 = .ok (.aload_n 0, 1) := by decide +kernel
theorem d_MM_party_3 : decode b_MM_party 3 = .ok (.getfield 13, 3) := by decide +kernel
theorem d_MM_party_6 : decode b_MM_party 6 = .ok (.iconst 0, 1) := by decide +kernel
theorem d_MM_party_7 : decode b_MM_party 7 = .ok (.iaload, 1) := by decide +kernel
theorem d_MM_party_8 : decode b_MM_party 8 = .ok (.iconst 1, 1) := by decide +kernel
theorem d_MM_party_9 : decode b_MM_party 9 = .ok (.isub, 1) := by decide +kernel
theorem d_MM_party_10 : decode b_MM_party 10 = .ok (.invokevirtual 141, 3) := by decide +kernel
theorem d_MM_party_13 : decode b_MM_party 13 = .ok (.ireturn, 1) := by decide +kernel
theorem d_MM_readsLiars_0 : decode b_MM_readsLiars 0 = .ok (.iconst 1, 1) := by decide +kernel
theorem d_MM_readsLiars_1 : decode b_MM_readsLiars 1 = .ok (.istore_n 1, 1) := by decide +kernel
theorem d_MM_readsLiars_2 : decode b_MM_readsLiars 2 = .ok (.iload_n 1, 1) := by decide +kernel
theorem d_MM_readsLiars_3 : decode b_MM_readsLiars 3 = .ok (.ifCond .eq 55, 3) := by decide +kernel
theorem d_MM_readsLiars_6 : decode b_MM_readsLiars 6 = .ok (.aload_n 0, 1) := by decide +kernel
theorem d_MM_readsLiars_7 : decode b_MM_readsLiars 7 = .ok (.invokevirtual 144, 3) := by decide +kernel
theorem d_MM_readsLiars_10 : decode b_MM_readsLiars 10 = .ok (.istore_n 2, 1) := by decide +kernel
theorem d_MM_readsLiars_11 : decode b_MM_readsLiars 11 = .ok (.aload_n 0, 1) := by decide +kernel
theorem d_MM_readsLiars_12 : decode b_MM_readsLiars 12 = .ok (.getfield 13, 3) := by decide +kernel
theorem d_MM_readsLiars_15 : decode b_MM_readsLiars 15 = .ok (.bipush 6, 2) := by decide +kernel
theorem d_MM_readsLiars_17 : decode b_MM_readsLiars 17 = .ok (.dup2, 1) := by decide +kernel
theorem d_MM_readsLiars_18 : decode b_MM_readsLiars 18 = .ok (.iaload, 1) := by decide +kernel
theorem d_MM_readsLiars_19 : decode b_MM_readsLiars 19 = .ok (.aload_n 0, 1) := by decide +kernel
theorem d_MM_readsLiars_20 : decode b_MM_readsLiars 20 = .ok (.invokevirtual 97, 3) := by decide +kernel
theorem d_MM_readsLiars_23 : decode b_MM_readsLiars 23 = .ok (.ifCond .eq 9, 3) := by decide +kernel
theorem d_MM_readsLiars_26 : decode b_MM_readsLiars 26 = .ok (.iconst 1, 1) := by decide +kernel
theorem d_MM_readsLiars_27 : decode b_MM_readsLiars 27 = .ok (.iload_n 2, 1) := by decide +kernel
theorem d_MM_readsLiars_28 : decode b_MM_readsLiars 28 = .ok (.ishl, 1) := by decide +kernel
theorem d_MM_readsLiars_29 : decode b_MM_readsLiars 29 = .ok (.goto 4, 3) := by decide +kernel
theorem d_MM_readsLiars_32 : decode b_MM_readsLiars 32 = .ok (.iconst 0, 1) := by decide +kernel
theorem d_MM_readsLiars_33 : decode b_MM_readsLiars 33 = .ok (.ior, 1) := by decide +kernel
theorem d_MM_readsLiars_34 : decode b_MM_readsLiars 34 = .ok (.iastore, 1) := by decide +kernel
theorem d_MM_readsLiars_35 : decode b_MM_readsLiars 35 = .ok (.aload_n 0, 1) := by decide +kernel
theorem d_MM_readsLiars_36 : decode b_MM_readsLiars 36 = .ok (.invokevirtual 97, 3) := by decide +kernel
theorem d_MM_readsLiars_39 : decode b_MM_readsLiars 39 = .ok (.ifCond .eq 14, 3) := by decide +kernel
theorem d_MM_readsLiars_42 : decode b_MM_readsLiars 42 = .ok (.aload_n 0, 1) := by decide +kernel
theorem d_MM_readsLiars_43 : decode b_MM_readsLiars 43 = .ok (.invokevirtual 125, 3) := by decide +kernel
theorem d_MM_readsLiars_46 : decode b_MM_readsLiars 46 = .ok (.ifCond .eq 7, 3) := by decide +kernel
theorem d_MM_readsLiars_49 : decode b_MM_readsLiars 49 = .ok (.iconst 1, 1) := by decide +kernel
theorem d_MM_readsLiars_50 : decode b_MM_readsLiars 50 = .ok (.goto 4, 3) := by decide +kernel
theorem d_MM_readsLiars_53 : decode b_MM_readsLiars 53 = .ok (.iconst 0, 1) := by decide +kernel
theorem d_MM_readsLiars_54 : decode b_MM_readsLiars 54 = .ok (.istore_n 1, 1) := by decide +kernel
theorem d_MM_readsLiars_55 : decode b_MM_readsLiars 55 = .ok (.goto (-53), 3) := by decide +kernel
theorem d_MM_readsLiars_58 : decode b_MM_readsLiars 58 = .ok (.return_, 1) := by decide +kernel
theorem d_MM_readsWay_0 : decode b_MM_readsWay 0 = .ok (.aload_n 0, 1) := by decide +kernel
theorem d_MM_readsWay_1 : decode b_MM_readsWay 1 = .ok (.getfield 13, 3) := by decide +kernel
theorem d_MM_readsWay_4 : decode b_MM_readsWay 4 = .ok (.iload_n 1, 1) := by decide +kernel
theorem d_MM_readsWay_5 : decode b_MM_readsWay 5 = .ok (.aload_n 0, 1) := by decide +kernel
theorem d_MM_readsWay_6 : decode b_MM_readsWay 6 = .ok (.iconst 1, 1) := by decide +kernel
theorem d_MM_readsWay_7 : decode b_MM_readsWay 7 = .ok (.bipush 8, 2) := by decide +kernel
theorem d_MM_readsWay_9 : decode b_MM_readsWay 9 = .ok (.invokevirtual 141, 3) := by decide +kernel
theorem d_MM_readsWay_12 : decode b_MM_readsWay 12 = .ok (.iastore, 1) := by decide +kernel
theorem d_MM_readsWay_13 : decode b_MM_readsWay 13 = .ok (.aload_n 0, 1) := by decide +kernel
theorem d_MM_readsWay_14 : decode b_MM_readsWay 14 = .ok (.getfield 13, 3) := by decide +kernel
theorem d_MM_readsWay_17 : decode b_MM_readsWay 17 = .ok (.iload_n 1, 1) := by decide +kernel
theorem d_MM_readsWay_18 : decode b_MM_readsWay 18 = .ok (.iconst 1, 1) := by decide +kernel
theorem d_MM_readsWay_19 : decode b_MM_readsWay 19 = .ok (.iadd, 1) := by decide +kernel
theorem d_MM_readsWay_20 : decode b_MM_readsWay 20 = .ok (.aload_n 0, 1) := by decide +kernel
theorem d_MM_readsWay_21 : decode b_MM_readsWay 21 = .ok (.invokevirtual 144, 3) := by decide +kernel
theorem d_MM_readsWay_24 : decode b_MM_readsWay 24 = .ok (.iastore, 1) := by decide +kernel
theorem d_MM_readsWay_25 : decode b_MM_readsWay 25 = .ok (.aload_n 0, 1) := by decide +kernel
theorem d_MM_readsWay_26 : decode b_MM_readsWay 26 = .ok (.getfield 13, 3) := by decide +kernel
theorem d_MM_readsWay_29 : decode b_MM_readsWay 29 = .ok (.iload_n 1, 1) := by decide +kernel
theorem d_MM_readsWay_30 : decode b_MM_readsWay 30 = .ok (.iconst 2, 1) := by decide +kernel
theorem d_MM_readsWay_31 : decode b_MM_readsWay 31 = .ok (.iadd, 1) := by decide +kernel
theorem d_MM_readsWay_32 : decode b_MM_readsWay 32 = .ok (.aload_n 0, 1) := by decide +kernel
theorem d_MM_readsWay_33 : decode b_MM_readsWay 33 = .ok (.invokevirtual 144, 3) := by decide +kernel
theorem d_MM_readsWay_36 : decode b_MM_readsWay 36 = .ok (.iastore, 1) := by decide +kernel
theorem d_MM_readsWay_37 : decode b_MM_readsWay 37 = .ok (.aload_n 0, 1) := by decide +kernel
theorem d_MM_readsWay_38 : decode b_MM_readsWay 38 = .ok (.invokevirtual 97, 3) := by decide +kernel
theorem d_MM_readsWay_41 : decode b_MM_readsWay 41 = .ok (.ifCond .eq 31, 3) := by decide +kernel
theorem d_MM_readsWay_44 : decode b_MM_readsWay 44 = .ok (.aload_n 0, 1) := by decide +kernel
theorem d_MM_readsWay_45 : decode b_MM_readsWay 45 = .ok (.getfield 13, 3) := by decide +kernel
theorem d_MM_readsWay_48 : decode b_MM_readsWay 48 = .ok (.iload_n 1, 1) := by decide +kernel
theorem d_MM_readsWay_49 : decode b_MM_readsWay 49 = .ok (.iconst 1, 1) := by decide +kernel
theorem d_MM_readsWay_50 : decode b_MM_readsWay 50 = .ok (.iadd, 1) := by decide +kernel
theorem d_MM_readsWay_51 : decode b_MM_readsWay 51 = .ok (.iaload, 1) := by decide +kernel
theorem d_MM_readsWay_52 : decode b_MM_readsWay 52 = .ok (.aload_n 0, 1) := by decide +kernel
theorem d_MM_readsWay_53 : decode b_MM_readsWay 53 = .ok (.getfield 13, 3) := by decide +kernel
theorem d_MM_readsWay_56 : decode b_MM_readsWay 56 = .ok (.iload_n 1, 1) := by decide +kernel
theorem d_MM_readsWay_57 : decode b_MM_readsWay 57 = .ok (.iconst 2, 1) := by decide +kernel
theorem d_MM_readsWay_58 : decode b_MM_readsWay 58 = .ok (.iadd, 1) := by decide +kernel
theorem d_MM_readsWay_59 : decode b_MM_readsWay 59 = .ok (.iaload, 1) := by decide +kernel
theorem d_MM_readsWay_60 : decode b_MM_readsWay 60 = .ok (.if_icmp .ne 12, 3) := by decide +kernel
theorem d_MM_readsWay_63 : decode b_MM_readsWay 63 = .ok (.aload_n 0, 1) := by decide +kernel
theorem d_MM_readsWay_64 : decode b_MM_readsWay 64 = .ok (.iconst 2, 1) := by decide +kernel
theorem d_MM_readsWay_65 : decode b_MM_readsWay 65 = .ok (.aload_n 0, 1) := by decide +kernel
theorem d_MM_readsWay_66 : decode b_MM_readsWay 66 = .ok (.getfield 132, 3) := by decide +kernel
theorem d_MM_readsWay_69 : decode b_MM_readsWay 69 = .ok (.invokevirtual 128, 3) := by decide +kernel
theorem d_MM_readsWay_72 : decode b_MM_readsWay 72 = .ok (.return_, 1) := by decide +kernel
theorem d_MM_truth_0 : decode b_MM_truth 0 = .ok (.iload_n 0, 1) := by decide +kernel
theorem d_MM_truth_1 : decode b_MM_truth 1 = .ok (.ifCond .eq 7, 3) := by decide +kernel
theorem d_MM_truth_4 : decode b_MM_truth 4 = .ok (.iconst 1, 1) := by decide +kernel
theorem d_MM_truth_5 : decode b_MM_truth 5 = .ok (.goto 4, 3) := by decide +kernel
theorem d_MM_truth_8 : decode b_MM_truth 8 = .ok (.iconst 0, 1) := by decide +kernel
theorem d_MM_truth_9 : decode b_MM_truth 9 = .ok (.ireturn, 1) := by decide +kernel
theorem d_MM_readsLetter_0 : decode b_MM_readsLetter 0 = .ok (.aload_n 0, 1) := by decide +kernel
theorem d_MM_readsLetter_1 : decode b_MM_readsLetter 1 = .ok (.getfield 13, 3) := by decide +kernel
theorem d_MM_readsLetter_4 : decode b_MM_readsLetter 4 = .ok (.bipush 7, 2) := by decide +kernel
theorem d_MM_readsLetter_6 : decode b_MM_readsLetter 6 = .ok (.iaload, 1) := by decide +kernel
theorem d_MM_readsLetter_7 : decode b_MM_readsLetter 7 = .ok (.bipush 16, 2) := by decide +kernel
theorem d_MM_readsLetter_9 : decode b_MM_readsLetter 9 = .ok (.if_icmp .ne 10, 3) := by decide +kernel
theorem d_MM_readsLetter_12 : decode b_MM_readsLetter 12 = .ok (.aload_n 0, 1) := by decide +kernel
theorem d_MM_readsLetter_13 : decode b_MM_readsLetter 13 = .ok (.iconst 3, 1) := by decide +kernel
theorem d_MM_readsLetter_14 : decode b_MM_readsLetter 14 = .ok (.iload_n 1, 1) := by decide +kernel
theorem d_MM_readsLetter_15 : decode b_MM_readsLetter 15 = .ok (.invokevirtual 128, 3) := by decide +kernel
theorem d_MM_readsLetter_18 : decode b_MM_readsLetter 18 = .ok (.return_, 1) := by decide +kernel
theorem d_MM_readsLetter_19 : decode b_MM_readsLetter 19 = .ok (.bipush 10, 2) := by decide +kernel
theorem d_MM_readsLetter_21 : decode b_MM_readsLetter 21 = .ok (.bipush 13, 2) := by decide +kernel
theorem d_MM_readsLetter_23 : decode b_MM_readsLetter 23 = .ok (.aload_n 0, 1) := by decide +kernel
theorem d_MM_readsLetter_24 : decode b_MM_readsLetter 24 = .ok (.getfield 13, 3) := by decide +kernel
theorem d_MM_readsLetter_27 : decode b_MM_readsLetter 27 = .ok (.bipush 7, 2) := by decide +kernel
theorem d_MM_readsLetter_29 : decode b_MM_readsLetter 29 = .ok (.iaload, 1) := by decide +kernel
theorem d_MM_readsLetter_30 : decode b_MM_readsLetter 30 = .ok (.imul, 1) := by decide +kernel
theorem d_MM_readsLetter_31 : decode b_MM_readsLetter 31 = .ok (.iadd, 1) := by decide +kernel
theorem d_MM_readsLetter_32 : decode b_MM_readsLetter 32 = .ok (.istore_n 2, 1) := by decide +kernel
theorem d_MM_readsLetter_33 : decode b_MM_readsLetter 33 = .ok (.aload_n 0, 1) := by decide +kernel
theorem d_MM_readsLetter_34 : decode b_MM_readsLetter 34 = .ok (.iload_n 2, 1) := by decide +kernel
theorem d_MM_readsLetter_35 : decode b_MM_readsLetter 35 = .ok (.invokevirtual 147, 3) := by decide +kernel
theorem d_MM_readsLetter_38 : decode b_MM_readsLetter 38 = .ok (.aload_n 0, 1) := by decide +kernel
theorem d_MM_readsLetter_39 : decode b_MM_readsLetter 39 = .ok (.getfield 13, 3) := by decide +kernel
theorem d_MM_readsLetter_42 : decode b_MM_readsLetter 42 = .ok (.iload_n 2, 1) := by decide +kernel
theorem d_MM_readsLetter_43 : decode b_MM_readsLetter 43 = .ok (.iconst 3, 1) := by decide +kernel
theorem d_MM_readsLetter_44 : decode b_MM_readsLetter 44 = .ok (.iadd, 1) := by decide +kernel
theorem d_MM_readsLetter_45 : decode b_MM_readsLetter 45 = .ok (.aload_n 0, 1) := by decide +kernel
theorem d_MM_readsLetter_46 : decode b_MM_readsLetter 46 = .ok (.iconst 0, 1) := by decide +kernel
theorem d_MM_readsLetter_47 : decode b_MM_readsLetter 47 = .ok (.iconst 3, 1) := by decide +kernel
theorem d_MM_readsLetter_48 : decode b_MM_readsLetter 48 = .ok (.invokevirtual 141, 3) := by decide +kernel
theorem d_MM_readsLetter_51 : decode b_MM_readsLetter 51 = .ok (.iastore, 1) := by decide +kernel
theorem d_MM_readsLetter_52 : decode b_MM_readsLetter 52 = .ok (.aload_n 0, 1) := by decide +kernel
theorem d_MM_readsLetter_53 : decode b_MM_readsLetter 53 = .ok (.invokevirtual 97, 3) := by decide +kernel
theorem d_MM_readsLetter_56 : decode b_MM_readsLetter 56 = .ok (.ifCond .eq 21, 3) := by decide +kernel
theorem d_MM_readsLetter_59 : decode b_MM_readsLetter 59 = .ok (.aload_n 0, 1) := by decide +kernel
theorem d_MM_readsLetter_60 : decode b_MM_readsLetter 60 = .ok (.invokevirtual 101, 3) := by decide +kernel
theorem d_MM_readsLetter_63 : decode b_MM_readsLetter 63 = .ok (.bipush 58, 2) := by decide +kernel
theorem d_MM_readsLetter_65 : decode b_MM_readsLetter 65 = .ok (.if_icmp .eq 12, 3) := by decide +kernel
theorem d_MM_readsLetter_68 : decode b_MM_readsLetter 68 = .ok (.aload_n 0, 1) := by decide +kernel
theorem d_MM_readsLetter_69 : decode b_MM_readsLetter 69 = .ok (.iconst 1, 1) := by decide +kernel
theorem d_MM_readsLetter_70 : decode b_MM_readsLetter 70 = .ok (.aload_n 0, 1) := by decide +kernel
theorem d_MM_readsLetter_71 : decode b_MM_readsLetter 71 = .ok (.getfield 87, 3) := by decide +kernel
theorem d_MM_readsLetter_74 : decode b_MM_readsLetter 74 = .ok (.invokevirtual 128, 3) := by decide +kernel
theorem d_MM_readsLetter_77 : decode b_MM_readsLetter 77 = .ok (.aload_n 0, 1) := by decide +kernel
theorem d_MM_readsLetter_78 : decode b_MM_readsLetter 78 = .ok (.dup, 1) := by decide +kernel
theorem d_MM_readsLetter_79 : decode b_MM_readsLetter 79 = .ok (.getfield 87, 3) := by decide +kernel
theorem d_MM_readsLetter_82 : decode b_MM_readsLetter 82 = .ok (.aload_n 0, 1) := by decide +kernel
theorem d_MM_readsLetter_83 : decode b_MM_readsLetter 83 = .ok (.invokevirtual 97, 3) := by decide +kernel
theorem d_MM_readsLetter_86 : decode b_MM_readsLetter 86 = .ok (.invokestatic 150, 3) := by decide +kernel
theorem d_MM_readsLetter_89 : decode b_MM_readsLetter 89 = .ok (.iadd, 1) := by decide +kernel
theorem d_MM_readsLetter_90 : decode b_MM_readsLetter 90 = .ok (.putfield 87, 3) := by decide +kernel
theorem d_MM_readsLetter_93 : decode b_MM_readsLetter 93 = .ok (.aload_n 0, 1) := by decide +kernel
theorem d_MM_readsLetter_94 : decode b_MM_readsLetter 94 = .ok (.getfield 13, 3) := by decide +kernel
theorem d_MM_readsLetter_97 : decode b_MM_readsLetter 97 = .ok (.iload_n 2, 1) := by decide +kernel
theorem d_MM_readsLetter_98 : decode b_MM_readsLetter 98 = .ok (.iconst 4, 1) := by decide +kernel
theorem d_MM_readsLetter_99 : decode b_MM_readsLetter 99 = .ok (.iadd, 1) := by decide +kernel
theorem d_MM_readsLetter_100 : decode b_MM_readsLetter 100 = .ok (.iconst 0, 1) := by decide +kernel
theorem d_MM_readsLetter_101 : decode b_MM_readsLetter 101 = .ok (.iastore, 1) := by decide +kernel
theorem d_MM_readsLetter_102 : decode b_MM_readsLetter 102 = .ok (.iconst 1, 1) := by decide +kernel
theorem d_MM_readsLetter_103 : decode b_MM_readsLetter 103 = .ok (.istore_n 3, 1) := by decide +kernel
theorem d_MM_readsLetter_104 : decode b_MM_readsLetter 104 = .ok (.iload_n 3, 1) := by decide +kernel
theorem d_MM_readsLetter_105 : decode b_MM_readsLetter 105 = .ok (.ifCond .eq 124, 3) := by decide +kernel
theorem d_MM_readsLetter_108 : decode b_MM_readsLetter 108 = .ok (.aload_n 0, 1) := by decide +kernel
theorem d_MM_readsLetter_109 : decode b_MM_readsLetter 109 = .ok (.invokevirtual 144, 3) := by decide +kernel
theorem d_MM_readsLetter_112 : decode b_MM_readsLetter 112 = .ok (.istore 4, 2) := by decide +kernel
theorem d_MM_readsLetter_114 : decode b_MM_readsLetter 114 = .ok (.iconst 0, 1) := by decide +kernel
theorem d_MM_readsLetter_115 : decode b_MM_readsLetter 115 = .ok (.istore 5, 2) := by decide +kernel
theorem d_MM_readsLetter_117 : decode b_MM_readsLetter 117 = .ok (.iload 5, 2) := by decide +kernel
theorem d_MM_readsLetter_119 : decode b_MM_readsLetter 119 = .ok (.aload_n 0, 1) := by decide +kernel
theorem d_MM_readsLetter_120 : decode b_MM_readsLetter 120 = .ok (.getfield 13, 3) := by decide +kernel
theorem d_MM_readsLetter_123 : decode b_MM_readsLetter 123 = .ok (.iload_n 2, 1) := by decide +kernel
theorem d_MM_readsLetter_124 : decode b_MM_readsLetter 124 = .ok (.iconst 4, 1) := by decide +kernel
theorem d_MM_readsLetter_125 : decode b_MM_readsLetter 125 = .ok (.iadd, 1) := by decide +kernel
theorem d_MM_readsLetter_126 : decode b_MM_readsLetter 126 = .ok (.iaload, 1) := by decide +kernel
theorem d_MM_readsLetter_127 : decode b_MM_readsLetter 127 = .ok (.if_icmp .ge 41, 3) := by decide +kernel
theorem d_MM_readsLetter_130 : decode b_MM_readsLetter 130 = .ok (.aload_n 0, 1) := by decide +kernel
theorem d_MM_readsLetter_131 : decode b_MM_readsLetter 131 = .ok (.invokevirtual 97, 3) := by decide +kernel
theorem d_MM_readsLetter_134 : decode b_MM_readsLetter 134 = .ok (.ifCond .eq 34, 3) := by decide +kernel
theorem d_MM_readsLetter_137 : decode b_MM_readsLetter 137 = .ok (.aload_n 0, 1) := by decide +kernel
theorem d_MM_readsLetter_138 : decode b_MM_readsLetter 138 = .ok (.getfield 13, 3) := by decide +kernel
theorem d_MM_readsLetter_141 : decode b_MM_readsLetter 141 = .ok (.iload_n 2, 1) := by decide +kernel
theorem d_MM_readsLetter_142 : decode b_MM_readsLetter 142 = .ok (.iconst 5, 1) := by decide +kernel
theorem d_MM_readsLetter_143 : decode b_MM_readsLetter 143 = .ok (.iadd, 1) := by decide +kernel
theorem d_MM_readsLetter_144 : decode b_MM_readsLetter 144 = .ok (.iload 5, 2) := by decide +kernel
theorem d_MM_readsLetter_146 : decode b_MM_readsLetter 146 = .ok (.iadd, 1) := by decide +kernel
theorem d_MM_readsLetter_147 : decode b_MM_readsLetter 147 = .ok (.iaload, 1) := by decide +kernel
theorem d_MM_readsLetter_148 : decode b_MM_readsLetter 148 = .ok (.iload 4, 2) := by decide +kernel
theorem d_MM_readsLetter_150 : decode b_MM_readsLetter 150 = .ok (.if_icmp .ne 12, 3) := by decide +kernel
theorem d_MM_readsLetter_153 : decode b_MM_readsLetter 153 = .ok (.aload_n 0, 1) := by decide +kernel
theorem d_MM_readsLetter_154 : decode b_MM_readsLetter 154 = .ok (.iconst 2, 1) := by decide +kernel
theorem d_MM_readsLetter_155 : decode b_MM_readsLetter 155 = .ok (.aload_n 0, 1) := by decide +kernel
theorem d_MM_readsLetter_156 : decode b_MM_readsLetter 156 = .ok (.getfield 132, 3) := by decide +kernel
theorem d_MM_readsLetter_159 : decode b_MM_readsLetter 159 = .ok (.invokevirtual 128, 3) := by decide +kernel
theorem d_MM_readsLetter_162 : decode b_MM_readsLetter 162 = .ok (.iinc 5 1, 3) := by decide +kernel
theorem d_MM_readsLetter_165 : decode b_MM_readsLetter 165 = .ok (.goto (-48), 3) := by decide +kernel
theorem d_MM_readsLetter_168 : decode b_MM_readsLetter 168 = .ok (.aload_n 0, 1) := by decide +kernel
theorem d_MM_readsLetter_169 : decode b_MM_readsLetter 169 = .ok (.invokevirtual 97, 3) := by decide +kernel
theorem d_MM_readsLetter_172 : decode b_MM_readsLetter 172 = .ok (.ifCond .eq 34, 3) := by decide +kernel
theorem d_MM_readsLetter_175 : decode b_MM_readsLetter 175 = .ok (.aload_n 0, 1) := by decide +kernel
theorem d_MM_readsLetter_176 : decode b_MM_readsLetter 176 = .ok (.getfield 13, 3) := by decide +kernel
theorem d_MM_readsLetter_179 : decode b_MM_readsLetter 179 = .ok (.iload_n 2, 1) := by decide +kernel
theorem d_MM_readsLetter_180 : decode b_MM_readsLetter 180 = .ok (.iconst 5, 1) := by decide +kernel
theorem d_MM_readsLetter_181 : decode b_MM_readsLetter 181 = .ok (.iadd, 1) := by decide +kernel
theorem d_MM_readsLetter_182 : decode b_MM_readsLetter 182 = .ok (.aload_n 0, 1) := by decide +kernel
theorem d_MM_readsLetter_183 : decode b_MM_readsLetter 183 = .ok (.getfield 13, 3) := by decide +kernel
theorem d_MM_readsLetter_186 : decode b_MM_readsLetter 186 = .ok (.iload_n 2, 1) := by decide +kernel
theorem d_MM_readsLetter_187 : decode b_MM_readsLetter 187 = .ok (.iconst 4, 1) := by decide +kernel
theorem d_MM_readsLetter_188 : decode b_MM_readsLetter 188 = .ok (.iadd, 1) := by decide +kernel
theorem d_MM_readsLetter_189 : decode b_MM_readsLetter 189 = .ok (.iaload, 1) := by decide +kernel
theorem d_MM_readsLetter_190 : decode b_MM_readsLetter 190 = .ok (.iadd, 1) := by decide +kernel
theorem d_MM_readsLetter_191 : decode b_MM_readsLetter 191 = .ok (.iload 4, 2) := by decide +kernel
theorem d_MM_readsLetter_193 : decode b_MM_readsLetter 193 = .ok (.iastore, 1) := by decide +kernel
theorem d_MM_readsLetter_194 : decode b_MM_readsLetter 194 = .ok (.aload_n 0, 1) := by decide +kernel
theorem d_MM_readsLetter_195 : decode b_MM_readsLetter 195 = .ok (.getfield 13, 3) := by decide +kernel
theorem d_MM_readsLetter_198 : decode b_MM_readsLetter 198 = .ok (.iload_n 2, 1) := by decide +kernel
theorem d_MM_readsLetter_199 : decode b_MM_readsLetter 199 = .ok (.iconst 4, 1) := by decide +kernel
theorem d_MM_readsLetter_200 : decode b_MM_readsLetter 200 = .ok (.iadd, 1) := by decide +kernel
theorem d_MM_readsLetter_201 : decode b_MM_readsLetter 201 = .ok (.dup2, 1) := by decide +kernel
theorem d_MM_readsLetter_202 : decode b_MM_readsLetter 202 = .ok (.iaload, 1) := by decide +kernel
theorem d_MM_readsLetter_203 : decode b_MM_readsLetter 203 = .ok (.iconst 1, 1) := by decide +kernel
theorem d_MM_readsLetter_204 : decode b_MM_readsLetter 204 = .ok (.iadd, 1) := by decide +kernel
theorem d_MM_readsLetter_205 : decode b_MM_readsLetter 205 = .ok (.iastore, 1) := by decide +kernel
theorem d_MM_readsLetter_206 : decode b_MM_readsLetter 206 = .ok (.aload_n 0, 1) := by decide +kernel
theorem d_MM_readsLetter_207 : decode b_MM_readsLetter 207 = .ok (.invokevirtual 97, 3) := by decide +kernel
theorem d_MM_readsLetter_210 : decode b_MM_readsLetter 210 = .ok (.ifCond .eq 14, 3) := by decide +kernel
theorem d_MM_readsLetter_213 : decode b_MM_readsLetter 213 = .ok (.aload_n 0, 1) := by decide +kernel
theorem d_MM_readsLetter_214 : decode b_MM_readsLetter 214 = .ok (.invokevirtual 125, 3) := by decide +kernel
theorem d_MM_readsLetter_217 : decode b_MM_readsLetter 217 = .ok (.ifCond .eq 7, 3) := by decide +kernel
theorem d_MM_readsLetter_220 : decode b_MM_readsLetter 220 = .ok (.iconst 1, 1) := by decide +kernel
theorem d_MM_readsLetter_221 : decode b_MM_readsLetter 221 = .ok (.goto 4, 3) := by decide +kernel
theorem d_MM_readsLetter_224 : decode b_MM_readsLetter 224 = .ok (.iconst 0, 1) := by decide +kernel
theorem d_MM_readsLetter_225 : decode b_MM_readsLetter 225 = .ok (.istore_n 3, 1) := by decide +kernel
theorem d_MM_readsLetter_226 : decode b_MM_readsLetter 226 = .ok (.goto (-122), 3) := by decide +kernel
theorem d_MM_readsLetter_229 : decode b_MM_readsLetter 229 = .ok (.aload_n 0, 1) := by decide +kernel
theorem d_MM_readsLetter_230 : decode b_MM_readsLetter 230 = .ok (.getfield 13, 3) := by decide +kernel
theorem d_MM_readsLetter_233 : decode b_MM_readsLetter 233 = .ok (.bipush 7, 2) := by decide +kernel
theorem d_MM_readsLetter_235 : decode b_MM_readsLetter 235 = .ok (.dup2, 1) := by decide +kernel
theorem d_MM_readsLetter_236 : decode b_MM_readsLetter 236 = .ok (.iaload, 1) := by decide +kernel
theorem d_MM_readsLetter_237 : decode b_MM_readsLetter 237 = .ok (.iconst 1, 1) := by decide +kernel
theorem d_MM_readsLetter_238 : decode b_MM_readsLetter 238 = .ok (.iadd, 1) := by decide +kernel
theorem d_MM_readsLetter_239 : decode b_MM_readsLetter 239 = .ok (.iastore, 1) := by decide +kernel
theorem d_MM_readsLetter_240 : decode b_MM_readsLetter 240 = .ok (.return_, 1) := by decide +kernel
theorem d_MM_readsFault_0 : decode b_MM_readsFault 0 = .ok (.aload_n 0, 1) := by decide +kernel
theorem d_MM_readsFault_1 : decode b_MM_readsFault 1 = .ok (.getfield 13, 3) := by decide +kernel
theorem d_MM_readsFault_4 : decode b_MM_readsFault 4 = .ok (.iload_n 2, 1) := by decide +kernel
theorem d_MM_readsFault_5 : decode b_MM_readsFault 5 = .ok (.iaload, 1) := by decide +kernel
theorem d_MM_readsFault_6 : decode b_MM_readsFault 6 = .ok (.bipush 12, 2) := by decide +kernel
theorem d_MM_readsFault_8 : decode b_MM_readsFault 8 = .ok (.if_icmp .ne 10, 3) := by decide +kernel
theorem d_MM_readsFault_11 : decode b_MM_readsFault 11 = .ok (.aload_n 0, 1) := by decide +kernel
theorem d_MM_readsFault_12 : decode b_MM_readsFault 12 = .ok (.iconst 3, 1) := by decide +kernel
theorem d_MM_readsFault_13 : decode b_MM_readsFault 13 = .ok (.iload_n 1, 1) := by decide +kernel
theorem d_MM_readsFault_14 : decode b_MM_readsFault 14 = .ok (.invokevirtual 128, 3) := by decide +kernel
theorem d_MM_readsFault_17 : decode b_MM_readsFault 17 = .ok (.return_, 1) := by decide +kernel
theorem d_MM_readsFault_18 : decode b_MM_readsFault 18 = .ok (.iload_n 3, 1) := by decide +kernel
theorem d_MM_readsFault_19 : decode b_MM_readsFault 19 = .ok (.iload 4, 2) := by decide +kernel
theorem d_MM_readsFault_21 : decode b_MM_readsFault 21 = .ok (.aload_n 0, 1) := by decide +kernel
theorem d_MM_readsFault_22 : decode b_MM_readsFault 22 = .ok (.getfield 13, 3) := by decide +kernel
theorem d_MM_readsFault_25 : decode b_MM_readsFault 25 = .ok (.iload_n 2, 1) := by decide +kernel
theorem d_MM_readsFault_26 : decode b_MM_readsFault 26 = .ok (.iaload, 1) := by decide +kernel
theorem d_MM_readsFault_27 : decode b_MM_readsFault 27 = .ok (.imul, 1) := by decide +kernel
theorem d_MM_readsFault_28 : decode b_MM_readsFault 28 = .ok (.iadd, 1) := by decide +kernel
theorem d_MM_readsFault_29 : decode b_MM_readsFault 29 = .ok (.istore 5, 2) := by decide +kernel
theorem d_MM_readsFault_31 : decode b_MM_readsFault 31 = .ok (.aload_n 0, 1) := by decide +kernel
theorem d_MM_readsFault_32 : decode b_MM_readsFault 32 = .ok (.iload 5, 2) := by decide +kernel
theorem d_MM_readsFault_34 : decode b_MM_readsFault 34 = .ok (.invokevirtual 147, 3) := by decide +kernel
theorem d_MM_readsFault_37 : decode b_MM_readsFault 37 = .ok (.iload_n 3, 1) := by decide +kernel
theorem d_MM_readsFault_38 : decode b_MM_readsFault 38 = .ok (.istore 6, 2) := by decide +kernel
theorem d_MM_readsFault_40 : decode b_MM_readsFault 40 = .ok (.iload 6, 2) := by decide +kernel
theorem d_MM_readsFault_42 : decode b_MM_readsFault 42 = .ok (.iload 5, 2) := by decide +kernel
theorem d_MM_readsFault_44 : decode b_MM_readsFault 44 = .ok (.if_icmp .ge 88, 3) := by decide +kernel
theorem d_MM_readsFault_47 : decode b_MM_readsFault 47 = .ok (.aload_n 0, 1) := by decide +kernel
theorem d_MM_readsFault_48 : decode b_MM_readsFault 48 = .ok (.invokevirtual 97, 3) := by decide +kernel
theorem d_MM_readsFault_51 : decode b_MM_readsFault 51 = .ok (.ifCond .eq 81, 3) := by decide +kernel
theorem d_MM_readsFault_54 : decode b_MM_readsFault 54 = .ok (.aload_n 0, 1) := by decide +kernel
theorem d_MM_readsFault_55 : decode b_MM_readsFault 55 = .ok (.getfield 13, 3) := by decide +kernel
theorem d_MM_readsFault_58 : decode b_MM_readsFault 58 = .ok (.iload 6, 2) := by decide +kernel
theorem d_MM_readsFault_60 : decode b_MM_readsFault 60 = .ok (.iaload, 1) := by decide +kernel
theorem d_MM_readsFault_61 : decode b_MM_readsFault 61 = .ok (.aload_n 0, 1) := by decide +kernel
theorem d_MM_readsFault_62 : decode b_MM_readsFault 62 = .ok (.getfield 13, 3) := by decide +kernel
theorem d_MM_readsFault_65 : decode b_MM_readsFault 65 = .ok (.iload 5, 2) := by decide +kernel
theorem d_MM_readsFault_67 : decode b_MM_readsFault 67 = .ok (.iaload, 1) := by decide +kernel
theorem d_MM_readsFault_68 : decode b_MM_readsFault 68 = .ok (.if_icmp .ne 54, 3) := by decide +kernel
theorem d_MM_readsFault_71 : decode b_MM_readsFault 71 = .ok (.aload_n 0, 1) := by decide +kernel
theorem d_MM_readsFault_72 : decode b_MM_readsFault 72 = .ok (.getfield 13, 3) := by decide +kernel
theorem d_MM_readsFault_75 : decode b_MM_readsFault 75 = .ok (.iload 6, 2) := by decide +kernel
theorem d_MM_readsFault_77 : decode b_MM_readsFault 77 = .ok (.iconst 1, 1) := by decide +kernel
theorem d_MM_readsFault_78 : decode b_MM_readsFault 78 = .ok (.iadd, 1) := by decide +kernel
theorem d_MM_readsFault_79 : decode b_MM_readsFault 79 = .ok (.iaload, 1) := by decide +kernel
theorem d_MM_readsFault_80 : decode b_MM_readsFault 80 = .ok (.aload_n 0, 1) := by decide +kernel
theorem d_MM_readsFault_81 : decode b_MM_readsFault 81 = .ok (.getfield 13, 3) := by decide +kernel
theorem d_MM_readsFault_84 : decode b_MM_readsFault 84 = .ok (.iload 5, 2) := by decide +kernel
theorem d_MM_readsFault_86 : decode b_MM_readsFault 86 = .ok (.iconst 1, 1) := by decide +kernel
theorem d_MM_readsFault_87 : decode b_MM_readsFault 87 = .ok (.iadd, 1) := by decide +kernel
theorem d_MM_readsFault_88 : decode b_MM_readsFault 88 = .ok (.iaload, 1) := by decide +kernel
theorem d_MM_readsFault_89 : decode b_MM_readsFault 89 = .ok (.if_icmp .ne 33, 3) := by decide +kernel
theorem d_MM_readsFault_92 : decode b_MM_readsFault 92 = .ok (.aload_n 0, 1) := by decide +kernel
theorem d_MM_readsFault_93 : decode b_MM_readsFault 93 = .ok (.getfield 13, 3) := by decide +kernel
theorem d_MM_readsFault_96 : decode b_MM_readsFault 96 = .ok (.iload 6, 2) := by decide +kernel
theorem d_MM_readsFault_98 : decode b_MM_readsFault 98 = .ok (.iconst 2, 1) := by decide +kernel
theorem d_MM_readsFault_99 : decode b_MM_readsFault 99 = .ok (.iadd, 1) := by decide +kernel
theorem d_MM_readsFault_100 : decode b_MM_readsFault 100 = .ok (.iaload, 1) := by decide +kernel
theorem d_MM_readsFault_101 : decode b_MM_readsFault 101 = .ok (.aload_n 0, 1) := by decide +kernel
theorem d_MM_readsFault_102 : decode b_MM_readsFault 102 = .ok (.getfield 13, 3) := by decide +kernel
theorem d_MM_readsFault_105 : decode b_MM_readsFault 105 = .ok (.iload 5, 2) := by decide +kernel
theorem d_MM_readsFault_107 : decode b_MM_readsFault 107 = .ok (.iconst 2, 1) := by decide +kernel
theorem d_MM_readsFault_108 : decode b_MM_readsFault 108 = .ok (.iadd, 1) := by decide +kernel
theorem d_MM_readsFault_109 : decode b_MM_readsFault 109 = .ok (.iaload, 1) := by decide +kernel
theorem d_MM_readsFault_110 : decode b_MM_readsFault 110 = .ok (.if_icmp .ne 12, 3) := by decide +kernel
theorem d_MM_readsFault_113 : decode b_MM_readsFault 113 = .ok (.aload_n 0, 1) := by decide +kernel
theorem d_MM_readsFault_114 : decode b_MM_readsFault 114 = .ok (.iconst 4, 1) := by decide +kernel
theorem d_MM_readsFault_115 : decode b_MM_readsFault 115 = .ok (.aload_n 0, 1) := by decide +kernel
theorem d_MM_readsFault_116 : decode b_MM_readsFault 116 = .ok (.getfield 132, 3) := by decide +kernel
theorem d_MM_readsFault_119 : decode b_MM_readsFault 119 = .ok (.invokevirtual 128, 3) := by decide +kernel
theorem d_MM_readsFault_122 : decode b_MM_readsFault 122 = .ok (.iload 6, 2) := by decide +kernel
theorem d_MM_readsFault_124 : decode b_MM_readsFault 124 = .ok (.iload 4, 2) := by decide +kernel
theorem d_MM_readsFault_126 : decode b_MM_readsFault 126 = .ok (.iadd, 1) := by decide +kernel
theorem d_MM_readsFault_127 : decode b_MM_readsFault 127 = .ok (.istore 6, 2) := by decide +kernel
theorem d_MM_readsFault_129 : decode b_MM_readsFault 129 = .ok (.goto (-89), 3) := by decide +kernel
theorem d_MM_readsFault_132 : decode b_MM_readsFault 132 = .ok (.iload 4, 2) := by decide +kernel
theorem d_MM_readsFault_134 : decode b_MM_readsFault 134 = .ok (.iconst 4, 1) := by decide +kernel
theorem d_MM_readsFault_135 : decode b_MM_readsFault 135 = .ok (.if_icmp .ne 19, 3) := by decide +kernel
theorem d_MM_readsFault_138 : decode b_MM_readsFault 138 = .ok (.aload_n 0, 1) := by decide +kernel
theorem d_MM_readsFault_139 : decode b_MM_readsFault 139 = .ok (.getfield 13, 3) := by decide +kernel
theorem d_MM_readsFault_142 : decode b_MM_readsFault 142 = .ok (.iload 5, 2) := by decide +kernel
theorem d_MM_readsFault_144 : decode b_MM_readsFault 144 = .ok (.iconst 3, 1) := by decide +kernel
theorem d_MM_readsFault_145 : decode b_MM_readsFault 145 = .ok (.iadd, 1) := by decide +kernel
theorem d_MM_readsFault_146 : decode b_MM_readsFault 146 = .ok (.aload_n 0, 1) := by decide +kernel
theorem d_MM_readsFault_147 : decode b_MM_readsFault 147 = .ok (.iconst 1, 1) := by decide +kernel
theorem d_MM_readsFault_148 : decode b_MM_readsFault 148 = .ok (.bipush 7, 2) := by decide +kernel
theorem d_MM_readsFault_150 : decode b_MM_readsFault 150 = .ok (.invokevirtual 141, 3) := by decide +kernel
theorem d_MM_readsFault_153 : decode b_MM_readsFault 153 = .ok (.iastore, 1) := by decide +kernel
theorem d_MM_readsFault_154 : decode b_MM_readsFault 154 = .ok (.aload_n 0, 1) := by decide +kernel
theorem d_MM_readsFault_155 : decode b_MM_readsFault 155 = .ok (.getfield 13, 3) := by decide +kernel
theorem d_MM_readsFault_158 : decode b_MM_readsFault 158 = .ok (.iload_n 2, 1) := by decide +kernel
theorem d_MM_readsFault_159 : decode b_MM_readsFault 159 = .ok (.dup2, 1) := by decide +kernel
theorem d_MM_readsFault_160 : decode b_MM_readsFault 160 = .ok (.iaload, 1) := by decide +kernel
theorem d_MM_readsFault_161 : decode b_MM_readsFault 161 = .ok (.iconst 1, 1) := by decide +kernel
theorem d_MM_readsFault_162 : decode b_MM_readsFault 162 = .ok (.iadd, 1) := by decide +kernel
theorem d_MM_readsFault_163 : decode b_MM_readsFault 163 = .ok (.iastore, 1) := by decide +kernel
theorem d_MM_readsFault_164 : decode b_MM_readsFault 164 = .ok (.return_, 1) := by decide +kernel
theorem d_MM_readsPart_0 : decode b_MM_readsPart 0 = .ok (.aload_n 0, 1) := by decide +kernel
theorem d_MM_readsPart_1 : decode b_MM_readsPart 1 = .ok (.invokevirtual 101, 3) := by decide +kernel
theorem d_MM_readsPart_4 : decode b_MM_readsPart 4 = .ok (.pop, 1) := by decide +kernel
theorem d_MM_readsPart_5 : decode b_MM_readsPart 5 = .ok (.aload_n 0, 1) := by decide +kernel
theorem d_MM_readsPart_6 : decode b_MM_readsPart 6 = .ok (.getfield 87, 3) := by decide +kernel
theorem d_MM_readsPart_9 : decode b_MM_readsPart 9 = .ok (.istore_n 1, 1) := by decide +kernel
theorem d_MM_readsPart_10 : decode b_MM_readsPart 10 = .ok (.aload_n 0, 1) := by decide +kernel
theorem d_MM_readsPart_11 : decode b_MM_readsPart 11 = .ok (.ldc 154, 2) := by decide +kernel
theorem d_MM_readsPart_13 : decode b_MM_readsPart 13 = .ok (.invokevirtual 156, 3) := by decide +kernel
theorem d_MM_readsPart_16 : decode b_MM_readsPart 16 = .ok (.ifCond .eq 16, 3) := by decide +kernel
theorem d_MM_readsPart_19 : decode b_MM_readsPart 19 = .ok (.aload_n 0, 1) := by decide +kernel
theorem d_MM_readsPart_20 : decode b_MM_readsPart 20 = .ok (.getfield 13, 3) := by decide +kernel
theorem d_MM_readsPart_23 : decode b_MM_readsPart 23 = .ok (.iconst 1, 1) := by decide +kernel
theorem d_MM_readsPart_24 : decode b_MM_readsPart 24 = .ok (.aload_n 0, 1) := by decide +kernel
theorem d_MM_readsPart_25 : decode b_MM_readsPart 25 = .ok (.invokevirtual 144, 3) := by decide +kernel
theorem d_MM_readsPart_28 : decode b_MM_readsPart 28 = .ok (.iastore, 1) := by decide +kernel
theorem d_MM_readsPart_29 : decode b_MM_readsPart 29 = .ok (.goto 185, 3) := by decide +kernel
theorem d_MM_readsPart_32 : decode b_MM_readsPart 32 = .ok (.aload_n 0, 1) := by decide +kernel
theorem d_MM_readsPart_33 : decode b_MM_readsPart 33 = .ok (.ldc 160, 2) := by decide +kernel
theorem d_MM_readsPart_35 : decode b_MM_readsPart 35 = .ok (.invokevirtual 156, 3) := by decide +kernel
theorem d_MM_readsPart_38 : decode b_MM_readsPart 38 = .ok (.ifCond .eq 18, 3) := by decide +kernel
theorem d_MM_readsPart_41 : decode b_MM_readsPart 41 = .ok (.aload_n 0, 1) := by decide +kernel
theorem d_MM_readsPart_42 : decode b_MM_readsPart 42 = .ok (.getfield 13, 3) := by decide +kernel
theorem d_MM_readsPart_45 : decode b_MM_readsPart 45 = .ok (.iconst 2, 1) := by decide +kernel
theorem d_MM_readsPart_46 : decode b_MM_readsPart 46 = .ok (.aload_n 0, 1) := by decide +kernel
theorem d_MM_readsPart_47 : decode b_MM_readsPart 47 = .ok (.iconst 0, 1) := by decide +kernel
theorem d_MM_readsPart_48 : decode b_MM_readsPart 48 = .ok (.iconst 3, 1) := by decide +kernel
theorem d_MM_readsPart_49 : decode b_MM_readsPart 49 = .ok (.invokevirtual 141, 3) := by decide +kernel
theorem d_MM_readsPart_52 : decode b_MM_readsPart 52 = .ok (.iastore, 1) := by decide +kernel
theorem d_MM_readsPart_53 : decode b_MM_readsPart 53 = .ok (.goto 161, 3) := by decide +kernel
theorem d_MM_readsPart_56 : decode b_MM_readsPart 56 = .ok (.aload_n 0, 1) := by decide +kernel
theorem d_MM_readsPart_57 : decode b_MM_readsPart 57 = .ok (.ldc 161, 2) := by decide +kernel
theorem d_MM_readsPart_59 : decode b_MM_readsPart 59 = .ok (.invokevirtual 156, 3) := by decide +kernel
theorem d_MM_readsPart_62 : decode b_MM_readsPart 62 = .ok (.ifCond .eq 19, 3) := by decide +kernel
theorem d_MM_readsPart_65 : decode b_MM_readsPart 65 = .ok (.aload_n 0, 1) := by decide +kernel
theorem d_MM_readsPart_66 : decode b_MM_readsPart 66 = .ok (.getfield 13, 3) := by decide +kernel
theorem d_MM_readsPart_69 : decode b_MM_readsPart 69 = .ok (.iconst 3, 1) := by decide +kernel
theorem d_MM_readsPart_70 : decode b_MM_readsPart 70 = .ok (.aload_n 0, 1) := by decide +kernel
theorem d_MM_readsPart_71 : decode b_MM_readsPart 71 = .ok (.iconst 1, 1) := by decide +kernel
theorem d_MM_readsPart_72 : decode b_MM_readsPart 72 = .ok (.bipush 8, 2) := by decide +kernel
theorem d_MM_readsPart_74 : decode b_MM_readsPart 74 = .ok (.invokevirtual 141, 3) := by decide +kernel
theorem d_MM_readsPart_77 : decode b_MM_readsPart 77 = .ok (.iastore, 1) := by decide +kernel
theorem d_MM_readsPart_78 : decode b_MM_readsPart 78 = .ok (.goto 136, 3) := by decide +kernel
theorem d_MM_readsPart_81 : decode b_MM_readsPart 81 = .ok (.aload_n 0, 1) := by decide +kernel
theorem d_MM_readsPart_82 : decode b_MM_readsPart 82 = .ok (.ldc 163, 2) := by decide +kernel
theorem d_MM_readsPart_84 : decode b_MM_readsPart 84 = .ok (.invokevirtual 156, 3) := by decide +kernel
theorem d_MM_readsPart_87 : decode b_MM_readsPart 87 = .ok (.ifCond .eq 18, 3) := by decide +kernel
theorem d_MM_readsPart_90 : decode b_MM_readsPart 90 = .ok (.aload_n 0, 1) := by decide +kernel
theorem d_MM_readsPart_91 : decode b_MM_readsPart 91 = .ok (.getfield 13, 3) := by decide +kernel
theorem d_MM_readsPart_94 : decode b_MM_readsPart 94 = .ok (.iconst 4, 1) := by decide +kernel
theorem d_MM_readsPart_95 : decode b_MM_readsPart 95 = .ok (.aload_n 0, 1) := by decide +kernel
theorem d_MM_readsPart_96 : decode b_MM_readsPart 96 = .ok (.iconst 0, 1) := by decide +kernel
theorem d_MM_readsPart_97 : decode b_MM_readsPart 97 = .ok (.iconst 3, 1) := by decide +kernel
theorem d_MM_readsPart_98 : decode b_MM_readsPart 98 = .ok (.invokevirtual 141, 3) := by decide +kernel
theorem d_MM_readsPart_101 : decode b_MM_readsPart 101 = .ok (.iastore, 1) := by decide +kernel
theorem d_MM_readsPart_102 : decode b_MM_readsPart 102 = .ok (.goto 112, 3) := by decide +kernel
theorem d_MM_readsPart_105 : decode b_MM_readsPart 105 = .ok (.aload_n 0, 1) := by decide +kernel
theorem d_MM_readsPart_106 : decode b_MM_readsPart 106 = .ok (.ldc 165, 2) := by decide +kernel
theorem d_MM_readsPart_108 : decode b_MM_readsPart 108 = .ok (.invokevirtual 156, 3) := by decide +kernel
theorem d_MM_readsPart_111 : decode b_MM_readsPart 111 = .ok (.ifCond .eq 18, 3) := by decide +kernel
theorem d_MM_readsPart_114 : decode b_MM_readsPart 114 = .ok (.aload_n 0, 1) := by decide +kernel
theorem d_MM_readsPart_115 : decode b_MM_readsPart 115 = .ok (.getfield 13, 3) := by decide +kernel
theorem d_MM_readsPart_118 : decode b_MM_readsPart 118 = .ok (.iconst 5, 1) := by decide +kernel
theorem d_MM_readsPart_119 : decode b_MM_readsPart 119 = .ok (.aload_n 0, 1) := by decide +kernel
theorem d_MM_readsPart_120 : decode b_MM_readsPart 120 = .ok (.iconst 1, 1) := by decide +kernel
theorem d_MM_readsPart_121 : decode b_MM_readsPart 121 = .ok (.iconst 4, 1) := by decide +kernel
theorem d_MM_readsPart_122 : decode b_MM_readsPart 122 = .ok (.invokevirtual 141, 3) := by decide +kernel
theorem d_MM_readsPart_125 : decode b_MM_readsPart 125 = .ok (.iastore, 1) := by decide +kernel
theorem d_MM_readsPart_126 : decode b_MM_readsPart 126 = .ok (.goto 88, 3) := by decide +kernel
theorem d_MM_readsPart_129 : decode b_MM_readsPart 129 = .ok (.aload_n 0, 1) := by decide +kernel
theorem d_MM_readsPart_130 : decode b_MM_readsPart 130 = .ok (.ldc 167, 2) := by decide +kernel
theorem d_MM_readsPart_132 : decode b_MM_readsPart 132 = .ok (.invokevirtual 156, 3) := by decide +kernel
theorem d_MM_readsPart_135 : decode b_MM_readsPart 135 = .ok (.ifCond .eq 10, 3) := by decide +kernel
theorem d_MM_readsPart_138 : decode b_MM_readsPart 138 = .ok (.aload_n 0, 1) := by decide +kernel
theorem d_MM_readsPart_139 : decode b_MM_readsPart 139 = .ok (.invokevirtual 169, 3) := by decide +kernel
theorem d_MM_readsPart_142 : decode b_MM_readsPart 142 = .ok (.goto 72, 3) := by decide +kernel
theorem d_MM_readsPart_145 : decode b_MM_readsPart 145 = .ok (.aload_n 0, 1) := by decide +kernel
theorem d_MM_readsPart_146 : decode b_MM_readsPart 146 = .ok (.ldc 172, 2) := by decide +kernel
theorem d_MM_readsPart_148 : decode b_MM_readsPart 148 = .ok (.invokevirtual 156, 3) := by decide +kernel
theorem d_MM_readsPart_151 : decode b_MM_readsPart 151 = .ok (.ifCond .eq 11, 3) := by decide +kernel
theorem d_MM_readsPart_154 : decode b_MM_readsPart 154 = .ok (.aload_n 0, 1) := by decide +kernel
theorem d_MM_readsPart_155 : decode b_MM_readsPart 155 = .ok (.iload_n 1, 1) := by decide +kernel
theorem d_MM_readsPart_156 : decode b_MM_readsPart 156 = .ok (.invokevirtual 174, 3) := by decide +kernel
theorem d_MM_readsPart_159 : decode b_MM_readsPart 159 = .ok (.goto 55, 3) := by decide +kernel
theorem d_MM_readsPart_162 : decode b_MM_readsPart 162 = .ok (.aload_n 0, 1) := by decide +kernel
theorem d_MM_readsPart_163 : decode b_MM_readsPart 163 = .ok (.ldc 177, 2) := by decide +kernel
theorem d_MM_readsPart_165 : decode b_MM_readsPart 165 = .ok (.invokevirtual 156, 3) := by decide +kernel
theorem d_MM_readsPart_168 : decode b_MM_readsPart 168 = .ok (.ifCond .eq 17, 3) := by decide +kernel
theorem d_MM_readsPart_171 : decode b_MM_readsPart 171 = .ok (.aload_n 0, 1) := by decide +kernel
theorem d_MM_readsPart_172 : decode b_MM_readsPart 172 = .ok (.iload_n 1, 1) := by decide +kernel
theorem d_MM_readsPart_173 : decode b_MM_readsPart 173 = .ok (.bipush 8, 2) := by decide +kernel
theorem d_MM_readsPart_175 : decode b_MM_readsPart 175 = .ok (.sipush 218, 3) := by decide +kernel
theorem d_MM_readsPart_178 : decode b_MM_readsPart 178 = .ok (.iconst 3, 1) := by decide +kernel
theorem d_MM_readsPart_179 : decode b_MM_readsPart 179 = .ok (.invokevirtual 179, 3) := by decide +kernel
theorem d_MM_readsPart_182 : decode b_MM_readsPart 182 = .ok (.goto 32, 3) := by decide +kernel
theorem d_MM_readsPart_185 : decode b_MM_readsPart 185 = .ok (.aload_n 0, 1) := by decide +kernel
theorem d_MM_readsPart_186 : decode b_MM_readsPart 186 = .ok (.ldc 183, 2) := by decide +kernel
theorem d_MM_readsPart_188 : decode b_MM_readsPart 188 = .ok (.invokevirtual 156, 3) := by decide +kernel
theorem d_MM_readsPart_191 : decode b_MM_readsPart 191 = .ok (.ifCond .eq 17, 3) := by decide +kernel
theorem d_MM_readsPart_194 : decode b_MM_readsPart 194 = .ok (.aload_n 0, 1) := by decide +kernel
theorem d_MM_readsPart_195 : decode b_MM_readsPart 195 = .ok (.iload_n 1, 1) := by decide +kernel
theorem d_MM_readsPart_196 : decode b_MM_readsPart 196 = .ok (.bipush 9, 2) := by decide +kernel
theorem d_MM_readsPart_198 : decode b_MM_readsPart 198 = .ok (.sipush 254, 3) := by decide +kernel
theorem d_MM_readsPart_201 : decode b_MM_readsPart 201 = .ok (.iconst 4, 1) := by decide +kernel
theorem d_MM_readsPart_202 : decode b_MM_readsPart 202 = .ok (.invokevirtual 179, 3) := by decide +kernel
theorem d_MM_readsPart_205 : decode b_MM_readsPart 205 = .ok (.goto 9, 3) := by decide +kernel
theorem d_MM_readsPart_208 : decode b_MM_readsPart 208 = .ok (.aload_n 0, 1) := by decide +kernel
theorem d_MM_readsPart_209 : decode b_MM_readsPart 209 = .ok (.iconst 1, 1) := by decide +kernel
theorem d_MM_readsPart_210 : decode b_MM_readsPart 210 = .ok (.iload_n 1, 1) := by decide +kernel
theorem d_MM_readsPart_211 : decode b_MM_readsPart 211 = .ok (.invokevirtual 128, 3) := by decide +kernel
theorem d_MM_readsPart_214 : decode b_MM_readsPart 214 = .ok (.return_, 1) := by decide +kernel
theorem d_MM_moves_0 : decode b_MM_moves 0 = .ok (.iconst 0, 1) := by decide +kernel
theorem d_MM_moves_1 : decode b_MM_moves 1 = .ok (.istore 4, 2) := by decide +kernel
theorem d_MM_moves_3 : decode b_MM_moves 3 = .ok (.iload 4, 2) := by decide +kernel
theorem d_MM_moves_5 : decode b_MM_moves 5 = .ok (.sipush 302, 3) := by decide +kernel
theorem d_MM_moves_8 : decode b_MM_moves 8 = .ok (.if_icmp .ge 21, 3) := by decide +kernel
theorem d_MM_moves_11 : decode b_MM_moves 11 = .ok (.aload_n 2, 1) := by decide +kernel
theorem d_MM_moves_12 : decode b_MM_moves 12 = .ok (.iload_n 3, 1) := by decide +kernel
theorem d_MM_moves_13 : decode b_MM_moves 13 = .ok (.iload 4, 2) := by decide +kernel
theorem d_MM_moves_15 : decode b_MM_moves 15 = .ok (.iadd, 1) := by decide +kernel
theorem d_MM_moves_16 : decode b_MM_moves 16 = .ok (.aload_n 0, 1) := by decide +kernel
theorem d_MM_moves_17 : decode b_MM_moves 17 = .ok (.iload_n 1, 1) := by decide +kernel
theorem d_MM_moves_18 : decode b_MM_moves 18 = .ok (.iload 4, 2) := by decide +kernel
theorem d_MM_moves_20 : decode b_MM_moves 20 = .ok (.iadd, 1) := by decide +kernel
theorem d_MM_moves_21 : decode b_MM_moves 21 = .ok (.iaload, 1) := by decide +kernel
theorem d_MM_moves_22 : decode b_MM_moves 22 = .ok (.iastore, 1) := by decide +kernel
theorem d_MM_moves_23 : decode b_MM_moves 23 = .ok (.iinc 4 1, 3) := by decide +kernel
theorem d_MM_moves_26 : decode b_MM_moves 26 = .ok (.goto (-23), 3) := by decide +kernel
theorem d_MM_moves_29 : decode b_MM_moves 29 = .ok (.return_, 1) := by decide +kernel
theorem d_MM_tell_0 : decode b_MM_tell 0 = .ok (.aload_n 0, 1) := by decide +kernel
theorem d_MM_tell_1 : decode b_MM_tell 1 = .ok (.iconst 0, 1) := by decide +kernel
theorem d_MM_tell_2 : decode b_MM_tell 2 = .ok (.putfield 87, 3) := by decide +kernel
theorem d_MM_tell_5 : decode b_MM_tell 5 = .ok (.aload_n 0, 1) := by decide +kernel
theorem d_MM_tell_6 : decode b_MM_tell 6 = .ok (.iconst (-1), 1) := by decide +kernel
theorem d_MM_tell_7 : decode b_MM_tell 7 = .ok (.putfield 94, 3) := by decide +kernel
theorem d_MM_tell_10 : decode b_MM_tell 10 = .ok (.aload_n 0, 1) := by decide +kernel
theorem d_MM_tell_11 : decode b_MM_tell 11 = .ok (.getfield 13, 3) := by decide +kernel
theorem d_MM_tell_14 : decode b_MM_tell 14 = .ok (.invokestatic 76, 3) := by decide +kernel
theorem d_MM_tell_17 : decode b_MM_tell 17 = .ok (.aload_n 0, 1) := by decide +kernel
theorem d_MM_tell_18 : decode b_MM_tell 18 = .ok (.ldc 185, 2) := by decide +kernel
theorem d_MM_tell_20 : decode b_MM_tell 20 = .ok (.invokevirtual 156, 3) := by decide +kernel
theorem d_MM_tell_23 : decode b_MM_tell 23 = .ok (.ifCond .ne 12, 3) := by decide +kernel
theorem d_MM_tell_26 : decode b_MM_tell 26 = .ok (.aload_n 0, 1) := by decide +kernel
theorem d_MM_tell_27 : decode b_MM_tell 27 = .ok (.iconst 1, 1) := by decide +kernel
theorem d_MM_tell_28 : decode b_MM_tell 28 = .ok (.aload_n 0, 1) := by decide +kernel
theorem d_MM_tell_29 : decode b_MM_tell 29 = .ok (.getfield 87, 3) := by decide +kernel
theorem d_MM_tell_32 : decode b_MM_tell 32 = .ok (.invokevirtual 128, 3) := by decide +kernel
theorem d_MM_tell_35 : decode b_MM_tell 35 = .ok (.aload_n 0, 1) := by decide +kernel
theorem d_MM_tell_36 : decode b_MM_tell 36 = .ok (.getfield 13, 3) := by decide +kernel
theorem d_MM_tell_39 : decode b_MM_tell 39 = .ok (.iconst 0, 1) := by decide +kernel
theorem d_MM_tell_40 : decode b_MM_tell 40 = .ok (.aload_n 0, 1) := by decide +kernel
theorem d_MM_tell_41 : decode b_MM_tell 41 = .ok (.iconst 3, 1) := by decide +kernel
theorem d_MM_tell_42 : decode b_MM_tell 42 = .ok (.bipush 8, 2) := by decide +kernel
theorem d_MM_tell_44 : decode b_MM_tell 44 = .ok (.invokevirtual 141, 3) := by decide +kernel
theorem d_MM_tell_47 : decode b_MM_tell 47 = .ok (.iastore, 1) := by decide +kernel
theorem d_MM_tell_48 : decode b_MM_tell 48 = .ok (.aload_n 0, 1) := by decide +kernel
theorem d_MM_tell_49 : decode b_MM_tell 49 = .ok (.invokevirtual 97, 3) := by decide +kernel
theorem d_MM_tell_52 : decode b_MM_tell 52 = .ok (.ifCond .eq 29, 3) := by decide +kernel
theorem d_MM_tell_55 : decode b_MM_tell 55 = .ok (.aload_n 0, 1) := by decide +kernel
theorem d_MM_tell_56 : decode b_MM_tell 56 = .ok (.invokevirtual 101, 3) := by decide +kernel
theorem d_MM_tell_59 : decode b_MM_tell 59 = .ok (.bipush 59, 2) := by decide +kernel
theorem d_MM_tell_61 : decode b_MM_tell 61 = .ok (.if_icmp .ne 20, 3) := by decide +kernel
theorem d_MM_tell_64 : decode b_MM_tell 64 = .ok (.aload_n 0, 1) := by decide +kernel
theorem d_MM_tell_65 : decode b_MM_tell 65 = .ok (.dup, 1) := by decide +kernel
theorem d_MM_tell_66 : decode b_MM_tell 66 = .ok (.getfield 87, 3) := by decide +kernel
theorem d_MM_tell_69 : decode b_MM_tell 69 = .ok (.iconst 1, 1) := by decide +kernel
theorem d_MM_tell_70 : decode b_MM_tell 70 = .ok (.iadd, 1) := by decide +kernel
theorem d_MM_tell_71 : decode b_MM_tell 71 = .ok (.putfield 87, 3) := by decide +kernel
theorem d_MM_tell_74 : decode b_MM_tell 74 = .ok (.aload_n 0, 1) := by decide +kernel
theorem d_MM_tell_75 : decode b_MM_tell 75 = .ok (.invokevirtual 187, 3) := by decide +kernel
theorem d_MM_tell_78 : decode b_MM_tell 78 = .ok (.goto (-30), 3) := by decide +kernel
theorem d_MM_tell_81 : decode b_MM_tell 81 = .ok (.aload_n 0, 1) := by decide +kernel
theorem d_MM_tell_82 : decode b_MM_tell 82 = .ok (.invokevirtual 97, 3) := by decide +kernel
theorem d_MM_tell_85 : decode b_MM_tell 85 = .ok (.ifCond .eq 20, 3) := by decide +kernel
theorem d_MM_tell_88 : decode b_MM_tell 88 = .ok (.aload_n 0, 1) := by decide +kernel
theorem d_MM_tell_89 : decode b_MM_tell 89 = .ok (.invokevirtual 101, 3) := by decide +kernel
theorem d_MM_tell_92 : decode b_MM_tell 92 = .ok (.iconst (-1), 1) := by decide +kernel
theorem d_MM_tell_93 : decode b_MM_tell 93 = .ok (.if_icmp .eq 12, 3) := by decide +kernel
theorem d_MM_tell_96 : decode b_MM_tell 96 = .ok (.aload_n 0, 1) := by decide +kernel
theorem d_MM_tell_97 : decode b_MM_tell 97 = .ok (.iconst 1, 1) := by decide +kernel
theorem d_MM_tell_98 : decode b_MM_tell 98 = .ok (.aload_n 0, 1) := by decide +kernel
theorem d_MM_tell_99 : decode b_MM_tell 99 = .ok (.getfield 87, 3) := by decide +kernel
theorem d_MM_tell_102 : decode b_MM_tell 102 = .ok (.invokevirtual 128, 3) := by decide +kernel
theorem d_MM_tell_105 : decode b_MM_tell 105 = .ok (.aload_n 0, 1) := by decide +kernel
theorem d_MM_tell_106 : decode b_MM_tell 106 = .ok (.iconst 0, 1) := by decide +kernel
theorem d_MM_tell_107 : decode b_MM_tell 107 = .ok (.putfield 80, 3) := by decide +kernel
theorem d_MM_tell_110 : decode b_MM_tell 110 = .ok (.aload_n 0, 1) := by decide +kernel
theorem d_MM_tell_111 : decode b_MM_tell 111 = .ok (.invokevirtual 97, 3) := by decide +kernel
theorem d_MM_tell_114 : decode b_MM_tell 114 = .ok (.ifCond .ne 11, 3) := by decide +kernel
theorem d_MM_tell_117 : decode b_MM_tell 117 = .ok (.bipush (-2), 2) := by decide +kernel
theorem d_MM_tell_119 : decode b_MM_tell 119 = .ok (.aload_n 0, 1) := by decide +kernel
theorem d_MM_tell_120 : decode b_MM_tell 120 = .ok (.getfield 94, 3) := by decide +kernel
theorem d_MM_tell_123 : decode b_MM_tell 123 = .ok (.isub, 1) := by decide +kernel
theorem d_MM_tell_124 : decode b_MM_tell 124 = .ok (.ireturn, 1) := by decide +kernel
theorem d_MM_tell_125 : decode b_MM_tell 125 = .ok (.aload_n 0, 1) := by decide +kernel
theorem d_MM_tell_126 : decode b_MM_tell 126 = .ok (.getfield 13, 3) := by decide +kernel
theorem d_MM_tell_129 : decode b_MM_tell 129 = .ok (.iconst 0, 1) := by decide +kernel
theorem d_MM_tell_130 : decode b_MM_tell 130 = .ok (.aload_n 0, 1) := by decide +kernel
theorem d_MM_tell_131 : decode b_MM_tell 131 = .ok (.getfield 9, 3) := by decide +kernel
theorem d_MM_tell_134 : decode b_MM_tell 134 = .ok (.iconst 0, 1) := by decide +kernel
theorem d_MM_tell_135 : decode b_MM_tell 135 = .ok (.invokestatic 190, 3) := by decide +kernel
theorem d_MM_tell_138 : decode b_MM_tell 138 = .ok (.aload_n 0, 1) := by decide +kernel
theorem d_MM_tell_139 : decode b_MM_tell 139 = .ok (.iconst 0, 1) := by decide +kernel
theorem d_MM_tell_140 : decode b_MM_tell 140 = .ok (.putfield 194, 3) := by decide +kernel
theorem d_MM_tell_143 : decode b_MM_tell 143 = .ok (.aload_n 0, 1) := by decide +kernel
theorem d_MM_tell_144 : decode b_MM_tell 144 = .ok (.getfield 9, 3) := by decide +kernel
theorem d_MM_tell_147 : decode b_MM_tell 147 = .ok (.iconst 0, 1) := by decide +kernel
theorem d_MM_tell_148 : decode b_MM_tell 148 = .ok (.iaload, 1) := by decide +kernel
theorem d_MM_tell_149 : decode b_MM_tell 149 = .ok (.ireturn, 1) := by decide +kernel
theorem d_MM_undo_0 : decode b_MM_undo 0 = .ok (.aload_n 0, 1) := by decide +kernel
theorem d_MM_undo_1 : decode b_MM_undo 1 = .ok (.getfield 194, 3) := by decide +kernel
theorem d_MM_undo_4 : decode b_MM_undo 4 = .ok (.ifCond .ne 5, 3) := by decide +kernel
theorem d_MM_undo_7 : decode b_MM_undo 7 = .ok (.iconst (-1), 1) := by decide +kernel
theorem d_MM_undo_8 : decode b_MM_undo 8 = .ok (.ireturn, 1) := by decide +kernel
theorem d_MM_undo_9 : decode b_MM_undo 9 = .ok (.aload_n 0, 1) := by decide +kernel
theorem d_MM_undo_10 : decode b_MM_undo 10 = .ok (.dup, 1) := by decide +kernel
theorem d_MM_undo_11 : decode b_MM_undo 11 = .ok (.getfield 194, 3) := by decide +kernel
theorem d_MM_undo_14 : decode b_MM_undo 14 = .ok (.iconst 1, 1) := by decide +kernel
theorem d_MM_undo_15 : decode b_MM_undo 15 = .ok (.isub, 1) := by decide +kernel
theorem d_MM_undo_16 : decode b_MM_undo 16 = .ok (.putfield 194, 3) := by decide +kernel
theorem d_MM_undo_19 : decode b_MM_undo 19 = .ok (.aload_n 0, 1) := by decide +kernel
theorem d_MM_undo_20 : decode b_MM_undo 20 = .ok (.getfield 19, 3) := by decide +kernel
theorem d_MM_undo_23 : decode b_MM_undo 23 = .ok (.sipush 302, 3) := by decide +kernel
theorem d_MM_undo_26 : decode b_MM_undo 26 = .ok (.aload_n 0, 1) := by decide +kernel
theorem d_MM_undo_27 : decode b_MM_undo 27 = .ok (.getfield 194, 3) := by decide +kernel
theorem d_MM_undo_30 : decode b_MM_undo 30 = .ok (.imul, 1) := by decide +kernel
theorem d_MM_undo_31 : decode b_MM_undo 31 = .ok (.aload_n 0, 1) := by decide +kernel
theorem d_MM_undo_32 : decode b_MM_undo 32 = .ok (.getfield 9, 3) := by decide +kernel
theorem d_MM_undo_35 : decode b_MM_undo 35 = .ok (.iconst 0, 1) := by decide +kernel
theorem d_MM_undo_36 : decode b_MM_undo 36 = .ok (.invokestatic 190, 3) := by decide +kernel
theorem d_MM_undo_39 : decode b_MM_undo 39 = .ok (.aload_n 0, 1) := by decide +kernel
theorem d_MM_undo_40 : decode b_MM_undo 40 = .ok (.getfield 194, 3) := by decide +kernel
theorem d_MM_undo_43 : decode b_MM_undo 43 = .ok (.ireturn, 1) := by decide +kernel
theorem d_MM_keep_0 : decode b_MM_keep 0 = .ok (.iload_n 1, 1) := by decide +kernel
theorem d_MM_keep_1 : decode b_MM_keep 1 = .ok (.i2l, 1) := by decide +kernel
theorem d_MM_keep_2 : decode b_MM_keep 2 = .ok (.lconst 0, 1) := by decide +kernel
theorem d_MM_keep_3 : decode b_MM_keep 3 = .ok (.lconst 1, 1) := by decide +kernel
theorem d_MM_keep_4 : decode b_MM_keep 4 = .ok (.invokestatic 108, 3) := by decide +kernel
theorem d_MM_keep_7 : decode b_MM_keep 7 = .ok (.ifCond .ne 5, 3) := by decide +kernel
theorem d_MM_keep_10 : decode b_MM_keep 10 = .ok (.iconst (-1), 1) := by decide +kernel
theorem d_MM_keep_11 : decode b_MM_keep 11 = .ok (.ireturn, 1) := by decide +kernel
theorem d_MM_keep_12 : decode b_MM_keep 12 = .ok (.aload_n 0, 1) := by decide +kernel
theorem d_MM_keep_13 : decode b_MM_keep 13 = .ok (.getfield 9, 3) := by decide +kernel
theorem d_MM_keep_16 : decode b_MM_keep 16 = .ok (.iconst 0, 1) := by decide +kernel
theorem d_MM_keep_17 : decode b_MM_keep 17 = .ok (.aload_n 0, 1) := by decide +kernel
theorem d_MM_keep_18 : decode b_MM_keep 18 = .ok (.getfield 22, 3) := by decide +kernel
theorem d_MM_keep_21 : decode b_MM_keep 21 = .ok (.sipush 302, 3) := by decide +kernel
theorem d_MM_keep_24 : decode b_MM_keep 24 = .ok (.iload_n 1, 1) := by decide +kernel
theorem d_MM_keep_25 : decode b_MM_keep 25 = .ok (.imul, 1) := by decide +kernel
theorem d_MM_keep_26 : decode b_MM_keep 26 = .ok (.invokestatic 190, 3) := by decide +kernel
theorem d_MM_keep_29 : decode b_MM_keep 29 = .ok (.aload_n 0, 1) := by decide +kernel
theorem d_MM_keep_30 : decode b_MM_keep 30 = .ok (.getfield 25, 3) := by decide +kernel
theorem d_MM_keep_33 : decode b_MM_keep 33 = .ok (.iload_n 1, 1) := by decide +kernel
theorem d_MM_keep_34 : decode b_MM_keep 34 = .ok (.iconst 1, 1) := by decide +kernel
theorem d_MM_keep_35 : decode b_MM_keep 35 = .ok (.bastore, 1) := by decide +kernel
theorem d_MM_keep_36 : decode b_MM_keep 36 = .ok (.aload_n 0, 1) := by decide +kernel
theorem d_MM_keep_37 : decode b_MM_keep 37 = .ok (.getfield 9, 3) := by decide +kernel
theorem d_MM_keep_40 : decode b_MM_keep 40 = .ok (.bipush 7, 2) := by decide +kernel
theorem d_MM_keep_42 : decode b_MM_keep 42 = .ok (.iaload, 1) := by decide +kernel
theorem d_MM_keep_43 : decode b_MM_keep 43 = .ok (.ireturn, 1) := by decide +kernel
theorem d_MM_back_0 : decode b_MM_back 0 = .ok (.iload_n 1, 1) := by decide +kernel
theorem d_MM_back_1 : decode b_MM_back 1 = .ok (.i2l, 1) := by decide +kernel
theorem d_MM_back_2 : decode b_MM_back 2 = .ok (.lconst 0, 1) := by decide +kernel
theorem d_MM_back_3 : decode b_MM_back 3 = .ok (.lconst 1, 1) := by decide +kernel
theorem d_MM_back_4 : decode b_MM_back 4 = .ok (.invokestatic 108, 3) := by decide +kernel
theorem d_MM_back_7 : decode b_MM_back 7 = .ok (.ifCond .ne 5, 3) := by decide +kernel
theorem d_MM_back_10 : decode b_MM_back 10 = .ok (.iconst (-1), 1) := by decide +kernel
theorem d_MM_back_11 : decode b_MM_back 11 = .ok (.ireturn, 1) := by decide +kernel
theorem d_MM_back_12 : decode b_MM_back 12 = .ok (.aload_n 0, 1) := by decide +kernel
theorem d_MM_back_13 : decode b_MM_back 13 = .ok (.getfield 25, 3) := by decide +kernel
theorem d_MM_back_16 : decode b_MM_back 16 = .ok (.iload_n 1, 1) := by decide +kernel
theorem d_MM_back_17 : decode b_MM_back 17 = .ok (.baload, 1) := by decide +kernel
theorem d_MM_back_18 : decode b_MM_back 18 = .ok (.ifCond .ne 6, 3) := by decide +kernel
theorem d_MM_back_21 : decode b_MM_back 21 = .ok (.bipush (-2), 2) := by decide +kernel
theorem d_MM_back_23 : decode b_MM_back 23 = .ok (.ireturn, 1) := by decide +kernel
theorem d_MM_back_24 : decode b_MM_back 24 = .ok (.aload_n 0, 1) := by decide +kernel
theorem d_MM_back_25 : decode b_MM_back 25 = .ok (.getfield 22, 3) := by decide +kernel
theorem d_MM_back_28 : decode b_MM_back 28 = .ok (.sipush 302, 3) := by decide +kernel
theorem d_MM_back_31 : decode b_MM_back 31 = .ok (.iload_n 1, 1) := by decide +kernel
theorem d_MM_back_32 : decode b_MM_back 32 = .ok (.imul, 1) := by decide +kernel
theorem d_MM_back_33 : decode b_MM_back 33 = .ok (.aload_n 0, 1) := by decide +kernel
theorem d_MM_back_34 : decode b_MM_back 34 = .ok (.getfield 9, 3) := by decide +kernel
theorem d_MM_back_37 : decode b_MM_back 37 = .ok (.iconst 0, 1) := by decide +kernel
theorem d_MM_back_38 : decode b_MM_back 38 = .ok (.invokestatic 190, 3) := by decide +kernel
theorem d_MM_back_41 : decode b_MM_back 41 = .ok (.aload_n 0, 1) := by decide +kernel
theorem d_MM_back_42 : decode b_MM_back 42 = .ok (.iconst 0, 1) := by decide +kernel
theorem d_MM_back_43 : decode b_MM_back 43 = .ok (.putfield 194, 3) := by decide +kernel
theorem d_MM_back_46 : decode b_MM_back 46 = .ok (.aload_n 0, 1) := by decide +kernel
theorem d_MM_back_47 : decode b_MM_back 47 = .ok (.getfield 9, 3) := by decide +kernel
theorem d_MM_back_50 : decode b_MM_back 50 = .ok (.bipush 7, 2) := by decide +kernel
theorem d_MM_back_52 : decode b_MM_back 52 = .ok (.iaload, 1) := by decide +kernel
theorem d_MM_back_53 : decode b_MM_back 53 = .ok (.ireturn, 1) := by decide +kernel
theorem d_MM_isParty_0 : decode b_MM_isParty 0 = .ok (.iload_n 1, 1) := by decide +kernel
theorem d_MM_isParty_1 : decode b_MM_isParty 1 = .ok (.i2l, 1) := by decide +kernel
theorem d_MM_isParty_2 : decode b_MM_isParty 2 = .ok (.lconst 0, 1) := by decide +kernel
theorem d_MM_isParty_3 : decode b_MM_isParty 3 = .ok (.aload_n 0, 1) := by decide +kernel
theorem d_MM_isParty_4 : decode b_MM_isParty 4 = .ok (.getfield 9, 3) := by decide +kernel
theorem d_MM_isParty_7 : decode b_MM_isParty 7 = .ok (.iconst 0, 1) := by decide +kernel
theorem d_MM_isParty_8 : decode b_MM_isParty 8 = .ok (.iaload, 1) := by decide +kernel
theorem d_MM_isParty_9 : decode b_MM_isParty 9 = .ok (.iconst 1, 1) := by decide +kernel
theorem d_MM_isParty_10 : decode b_MM_isParty 10 = .ok (.isub, 1) := by decide +kernel
theorem d_MM_isParty_11 : decode b_MM_isParty 11 = .ok (.i2l, 1) := by decide +kernel
theorem d_MM_isParty_12 : decode b_MM_isParty 12 = .ok (.invokestatic 108, 3) := by decide +kernel
theorem d_MM_isParty_15 : decode b_MM_isParty 15 = .ok (.ireturn, 1) := by decide +kernel
theorem d_MM_canBe_0 : decode b_MM_canBe 0 = .ok (.iload_n 1, 1) := by decide +kernel
theorem d_MM_canBe_1 : decode b_MM_canBe 1 = .ok (.tableswitch 61 0 4 #[35, 61, 41, 61, 51], 35) := by decide +kernel
theorem d_MM_canBe_36 : decode b_MM_canBe 36 = .ok (.aload_n 0, 1) := by decide +kernel
theorem d_MM_canBe_37 : decode b_MM_canBe 37 = .ok (.iload_n 2, 1) := by decide +kernel
theorem d_MM_canBe_38 : decode b_MM_canBe 38 = .ok (.invokevirtual 197, 3) := by decide +kernel
theorem d_MM_canBe_41 : decode b_MM_canBe 41 = .ok (.ireturn, 1) := by decide +kernel
theorem d_MM_canBe_42 : decode b_MM_canBe 42 = .ok (.iload_n 2, 1) := by decide +kernel
theorem d_MM_canBe_43 : decode b_MM_canBe 43 = .ok (.i2l, 1) := by decide +kernel
theorem d_MM_canBe_44 : decode b_MM_canBe 44 = .ok (.lconst 1, 1) := by decide +kernel
theorem d_MM_canBe_45 : decode b_MM_canBe 45 = .ok (.ldc2_w 208, 3) := by decide +kernel
theorem d_MM_canBe_48 : decode b_MM_canBe 48 = .ok (.invokestatic 108, 3) := by decide +kernel
theorem d_MM_canBe_51 : decode b_MM_canBe 51 = .ok (.ireturn, 1) := by decide +kernel
theorem d_MM_canBe_52 : decode b_MM_canBe 52 = .ok (.iload_n 2, 1) := by decide +kernel
theorem d_MM_canBe_53 : decode b_MM_canBe 53 = .ok (.i2l, 1) := by decide +kernel
theorem d_MM_canBe_54 : decode b_MM_canBe 54 = .ok (.lconst 1, 1) := by decide +kernel
theorem d_MM_canBe_55 : decode b_MM_canBe 55 = .ok (.ldc2_w 210, 3) := by decide +kernel
theorem d_MM_canBe_58 : decode b_MM_canBe 58 = .ok (.invokestatic 108, 3) := by decide +kernel
theorem d_MM_canBe_61 : decode b_MM_canBe 61 = .ok (.ireturn, 1) := by decide +kernel
theorem d_MM_canBe_62 : decode b_MM_canBe 62 = .ok (.iload_n 2, 1) := by decide +kernel
theorem d_MM_canBe_63 : decode b_MM_canBe 63 = .ok (.i2l, 1) := by decide +kernel
theorem d_MM_canBe_64 : decode b_MM_canBe 64 = .ok (.lconst 0, 1) := by decide +kernel
theorem d_MM_canBe_65 : decode b_MM_canBe 65 = .ok (.ldc2_w 212, 3) := by decide +kernel
theorem d_MM_canBe_68 : decode b_MM_canBe 68 = .ok (.invokestatic 108, 3) := by decide +kernel
theorem d_MM_canBe_71 : decode b_MM_canBe 71 = .ok (.ireturn, 1) := by decide +kernel
theorem d_MM_keepsPast_0 : decode b_MM_keepsPast 0 = .ok (.aload_n 0, 1) := by decide +kernel
theorem d_MM_keepsPast_1 : decode b_MM_keepsPast 1 = .ok (.getfield 194, 3) := by decide +kernel
theorem d_MM_keepsPast_4 : decode b_MM_keepsPast 4 = .ok (.bipush 10, 2) := by decide +kernel
theorem d_MM_keepsPast_6 : decode b_MM_keepsPast 6 = .ok (.if_icmp .ne 46, 3) := by decide +kernel
theorem d_MM_keepsPast_9 : decode b_MM_keepsPast 9 = .ok (.sipush 302, 3) := by decide +kernel
theorem d_MM_keepsPast_12 : decode b_MM_keepsPast 12 = .ok (.istore_n 1, 1) := by decide +kernel
theorem d_MM_keepsPast_13 : decode b_MM_keepsPast 13 = .ok (.iload_n 1, 1) := by decide +kernel
theorem d_MM_keepsPast_14 : decode b_MM_keepsPast 14 = .ok (.sipush 3020, 3) := by decide +kernel
theorem d_MM_keepsPast_17 : decode b_MM_keepsPast 17 = .ok (.if_icmp .ge 25, 3) := by decide +kernel
theorem d_MM_keepsPast_20 : decode b_MM_keepsPast 20 = .ok (.aload_n 0, 1) := by decide +kernel
theorem d_MM_keepsPast_21 : decode b_MM_keepsPast 21 = .ok (.getfield 19, 3) := by decide +kernel
theorem d_MM_keepsPast_24 : decode b_MM_keepsPast 24 = .ok (.iload_n 1, 1) := by decide +kernel
theorem d_MM_keepsPast_25 : decode b_MM_keepsPast 25 = .ok (.sipush 302, 3) := by decide +kernel
theorem d_MM_keepsPast_28 : decode b_MM_keepsPast 28 = .ok (.isub, 1) := by decide +kernel
theorem d_MM_keepsPast_29 : decode b_MM_keepsPast 29 = .ok (.aload_n 0, 1) := by decide +kernel
theorem d_MM_keepsPast_30 : decode b_MM_keepsPast 30 = .ok (.getfield 19, 3) := by decide +kernel
theorem d_MM_keepsPast_33 : decode b_MM_keepsPast 33 = .ok (.iload_n 1, 1) := by decide +kernel
theorem d_MM_keepsPast_34 : decode b_MM_keepsPast 34 = .ok (.iaload, 1) := by decide +kernel
theorem d_MM_keepsPast_35 : decode b_MM_keepsPast 35 = .ok (.iastore, 1) := by decide +kernel
theorem d_MM_keepsPast_36 : decode b_MM_keepsPast 36 = .ok (.iinc 1 1, 3) := by decide +kernel
theorem d_MM_keepsPast_39 : decode b_MM_keepsPast 39 = .ok (.goto (-26), 3) := by decide +kernel
theorem d_MM_keepsPast_42 : decode b_MM_keepsPast 42 = .ok (.aload_n 0, 1) := by decide +kernel
theorem d_MM_keepsPast_43 : decode b_MM_keepsPast 43 = .ok (.dup, 1) := by decide +kernel
theorem d_MM_keepsPast_44 : decode b_MM_keepsPast 44 = .ok (.getfield 194, 3) := by decide +kernel
theorem d_MM_keepsPast_47 : decode b_MM_keepsPast 47 = .ok (.iconst 1, 1) := by decide +kernel
theorem d_MM_keepsPast_48 : decode b_MM_keepsPast 48 = .ok (.isub, 1) := by decide +kernel
theorem d_MM_keepsPast_49 : decode b_MM_keepsPast 49 = .ok (.putfield 194, 3) := by decide +kernel
theorem d_MM_keepsPast_52 : decode b_MM_keepsPast 52 = .ok (.aload_n 0, 1) := by decide +kernel
theorem d_MM_keepsPast_53 : decode b_MM_keepsPast 53 = .ok (.getfield 9, 3) := by decide +kernel
theorem d_MM_keepsPast_56 : decode b_MM_keepsPast 56 = .ok (.iconst 0, 1) := by decide +kernel
theorem d_MM_keepsPast_57 : decode b_MM_keepsPast 57 = .ok (.aload_n 0, 1) := by decide +kernel
theorem d_MM_keepsPast_58 : decode b_MM_keepsPast 58 = .ok (.getfield 19, 3) := by decide +kernel
theorem d_MM_keepsPast_61 : decode b_MM_keepsPast 61 = .ok (.sipush 302, 3) := by decide +kernel
theorem d_MM_keepsPast_64 : decode b_MM_keepsPast 64 = .ok (.aload_n 0, 1) := by decide +kernel
theorem d_MM_keepsPast_65 : decode b_MM_keepsPast 65 = .ok (.getfield 194, 3) := by decide +kernel
theorem d_MM_keepsPast_68 : decode b_MM_keepsPast 68 = .ok (.imul, 1) := by decide +kernel
theorem d_MM_keepsPast_69 : decode b_MM_keepsPast 69 = .ok (.invokestatic 190, 3) := by decide +kernel
theorem d_MM_keepsPast_72 : decode b_MM_keepsPast 72 = .ok (.aload_n 0, 1) := by decide +kernel
theorem d_MM_keepsPast_73 : decode b_MM_keepsPast 73 = .ok (.dup, 1) := by decide +kernel
theorem d_MM_keepsPast_74 : decode b_MM_keepsPast 74 = .ok (.getfield 194, 3) := by decide +kernel
theorem d_MM_keepsPast_77 : decode b_MM_keepsPast 77 = .ok (.iconst 1, 1) := by decide +kernel
theorem d_MM_keepsPast_78 : decode b_MM_keepsPast 78 = .ok (.iadd, 1) := by decide +kernel
theorem d_MM_keepsPast_79 : decode b_MM_keepsPast 79 = .ok (.putfield 194, 3) := by decide +kernel
theorem d_MM_keepsPast_82 : decode b_MM_keepsPast 82 = .ok (.return_, 1) := by decide +kernel
theorem d_MM_settle_0 : decode b_MM_settle 0 = .ok (.aload_n 0, 1) := by decide +kernel
theorem d_MM_settle_1 : decode b_MM_settle 1 = .ok (.getfield 9, 3) := by decide +kernel
theorem d_MM_settle_4 : decode b_MM_settle 4 = .ok (.iconst 0, 1) := by decide +kernel
theorem d_MM_settle_5 : decode b_MM_settle 5 = .ok (.iaload, 1) := by decide +kernel
theorem d_MM_settle_6 : decode b_MM_settle 6 = .ok (.ifCond .eq 24, 3) := by decide +kernel
theorem d_MM_settle_9 : decode b_MM_settle 9 = .ok (.iload_n 1, 1) := by decide +kernel
theorem d_MM_settle_10 : decode b_MM_settle 10 = .ok (.i2l, 1) := by decide +kernel
theorem d_MM_settle_11 : decode b_MM_settle 11 = .ok (.lconst 0, 1) := by decide +kernel
theorem d_MM_settle_12 : decode b_MM_settle 12 = .ok (.ldc2_w 210, 3) := by decide +kernel
theorem d_MM_settle_15 : decode b_MM_settle 15 = .ok (.invokestatic 108, 3) := by decide +kernel
theorem d_MM_settle_18 : decode b_MM_settle 18 = .ok (.ifCond .eq 12, 3) := by decide +kernel
theorem d_MM_settle_21 : decode b_MM_settle 21 = .ok (.aload_n 0, 1) := by decide +kernel
theorem d_MM_settle_22 : decode b_MM_settle 22 = .ok (.iload_n 1, 1) := by decide +kernel
theorem d_MM_settle_23 : decode b_MM_settle 23 = .ok (.iload_n 2, 1) := by decide +kernel
theorem d_MM_settle_24 : decode b_MM_settle 24 = .ok (.invokevirtual 214, 3) := by decide +kernel
theorem d_MM_settle_27 : decode b_MM_settle 27 = .ok (.ifCond .ne 5, 3) := by decide +kernel
theorem d_MM_settle_30 : decode b_MM_settle 30 = .ok (.iconst (-1), 1) := by decide +kernel
theorem d_MM_settle_31 : decode b_MM_settle 31 = .ok (.ireturn, 1) := by decide +kernel
theorem d_MM_settle_32 : decode b_MM_settle 32 = .ok (.aload_n 0, 1) := by decide +kernel
theorem d_MM_settle_33 : decode b_MM_settle 33 = .ok (.getfield 9, 3) := by decide +kernel
theorem d_MM_settle_36 : decode b_MM_settle 36 = .ok (.iconst 1, 1) := by decide +kernel
theorem d_MM_settle_37 : decode b_MM_settle 37 = .ok (.iload_n 1, 1) := by decide +kernel
theorem d_MM_settle_38 : decode b_MM_settle 38 = .ok (.iadd, 1) := by decide +kernel
theorem d_MM_settle_39 : decode b_MM_settle 39 = .ok (.iaload, 1) := by decide +kernel
theorem d_MM_settle_40 : decode b_MM_settle 40 = .ok (.istore_n 3, 1) := by decide +kernel
theorem d_MM_settle_41 : decode b_MM_settle 41 = .ok (.iload_n 3, 1) := by decide +kernel
theorem d_MM_settle_42 : decode b_MM_settle 42 = .ok (.iload_n 2, 1) := by decide +kernel
theorem d_MM_settle_43 : decode b_MM_settle 43 = .ok (.if_icmp .ne 6, 3) := by decide +kernel
theorem d_MM_settle_46 : decode b_MM_settle 46 = .ok (.bipush (-2), 2) := by decide +kernel
theorem d_MM_settle_48 : decode b_MM_settle 48 = .ok (.ireturn, 1) := by decide +kernel
theorem d_MM_settle_49 : decode b_MM_settle 49 = .ok (.aload_n 0, 1) := by decide +kernel
theorem d_MM_settle_50 : decode b_MM_settle 50 = .ok (.invokevirtual 217, 3) := by decide +kernel
theorem d_MM_settle_53 : decode b_MM_settle 53 = .ok (.aload_n 0, 1) := by decide +kernel
theorem d_MM_settle_54 : decode b_MM_settle 54 = .ok (.getfield 9, 3) := by decide +kernel
theorem d_MM_settle_57 : decode b_MM_settle 57 = .ok (.iconst 1, 1) := by decide +kernel
theorem d_MM_settle_58 : decode b_MM_settle 58 = .ok (.iload_n 1, 1) := by decide +kernel
theorem d_MM_settle_59 : decode b_MM_settle 59 = .ok (.iadd, 1) := by decide +kernel
theorem d_MM_settle_60 : decode b_MM_settle 60 = .ok (.iload_n 2, 1) := by decide +kernel
theorem d_MM_settle_61 : decode b_MM_settle 61 = .ok (.iastore, 1) := by decide +kernel
theorem d_MM_settle_62 : decode b_MM_settle 62 = .ok (.iload_n 3, 1) := by decide +kernel
theorem d_MM_settle_63 : decode b_MM_settle 63 = .ok (.ireturn, 1) := by decide +kernel
theorem d_MM_has_0 : decode b_MM_has 0 = .ok (.iload_n 0, 1) := by decide +kernel
theorem d_MM_has_1 : decode b_MM_has 1 = .ok (.iload_n 1, 1) := by decide +kernel
theorem d_MM_has_2 : decode b_MM_has 2 = .ok (.ishr, 1) := by decide +kernel
theorem d_MM_has_3 : decode b_MM_has 3 = .ok (.iconst 1, 1) := by decide +kernel
theorem d_MM_has_4 : decode b_MM_has 4 = .ok (.iand, 1) := by decide +kernel
theorem d_MM_has_5 : decode b_MM_has 5 = .ok (.iconst 1, 1) := by decide +kernel
theorem d_MM_has_6 : decode b_MM_has 6 = .ok (.if_icmp .ne 7, 3) := by decide +kernel
theorem d_MM_has_9 : decode b_MM_has 9 = .ok (.iconst 1, 1) := by decide +kernel
theorem d_MM_has_10 : decode b_MM_has 10 = .ok (.goto 4, 3) := by decide +kernel
theorem d_MM_has_13 : decode b_MM_has 13 = .ok (.iconst 0, 1) := by decide +kernel
theorem d_MM_has_14 : decode b_MM_has 14 = .ok (.ireturn, 1) := by decide +kernel
theorem d_MM_isLiar_0 : decode b_MM_isLiar 0 = .ok (.aload_n 0, 1) := by decide +kernel
theorem d_MM_isLiar_1 : decode b_MM_isLiar 1 = .ok (.getfield 9, 3) := by decide +kernel
theorem d_MM_isLiar_4 : decode b_MM_isLiar 4 = .ok (.bipush 6, 2) := by decide +kernel
theorem d_MM_isLiar_6 : decode b_MM_isLiar 6 = .ok (.iaload, 1) := by decide +kernel
theorem d_MM_isLiar_7 : decode b_MM_isLiar 7 = .ok (.iload_n 1, 1) := by decide +kernel
theorem d_MM_isLiar_8 : decode b_MM_isLiar 8 = .ok (.invokestatic 201, 3) := by decide +kernel
theorem d_MM_isLiar_11 : decode b_MM_isLiar 11 = .ok (.ireturn, 1) := by decide +kernel
theorem d_MM_lies_0 : decode b_MM_lies 0 = .ok (.aload_n 0, 1) := by decide +kernel
theorem d_MM_lies_1 : decode b_MM_lies 1 = .ok (.iload_n 1, 1) := by decide +kernel
theorem d_MM_lies_2 : decode b_MM_lies 2 = .ok (.invokevirtual 197, 3) := by decide +kernel
theorem d_MM_lies_5 : decode b_MM_lies 5 = .ok (.ifCond .ne 5, 3) := by decide +kernel
theorem d_MM_lies_8 : decode b_MM_lies 8 = .ok (.iconst (-1), 1) := by decide +kernel
theorem d_MM_lies_9 : decode b_MM_lies 9 = .ok (.ireturn, 1) := by decide +kernel
theorem d_MM_lies_10 : decode b_MM_lies 10 = .ok (.aload_n 0, 1) := by decide +kernel
theorem d_MM_lies_11 : decode b_MM_lies 11 = .ok (.invokevirtual 217, 3) := by decide +kernel
theorem d_MM_lies_14 : decode b_MM_lies 14 = .ok (.aload_n 0, 1) := by decide +kernel
theorem d_MM_lies_15 : decode b_MM_lies 15 = .ok (.getfield 9, 3) := by decide +kernel
theorem d_MM_lies_18 : decode b_MM_lies 18 = .ok (.bipush 6, 2) := by decide +kernel
theorem d_MM_lies_20 : decode b_MM_lies 20 = .ok (.dup2, 1) := by decide +kernel
theorem d_MM_lies_21 : decode b_MM_lies 21 = .ok (.iaload, 1) := by decide +kernel
theorem d_MM_lies_22 : decode b_MM_lies 22 = .ok (.iconst 1, 1) := by decide +kernel
theorem d_MM_lies_23 : decode b_MM_lies 23 = .ok (.iload_n 1, 1) := by decide +kernel
theorem d_MM_lies_24 : decode b_MM_lies 24 = .ok (.ishl, 1) := by decide +kernel
theorem d_MM_lies_25 : decode b_MM_lies 25 = .ok (.ixor, 1) := by decide +kernel
theorem d_MM_lies_26 : decode b_MM_lies 26 = .ok (.iastore, 1) := by decide +kernel
theorem d_MM_lies_27 : decode b_MM_lies 27 = .ok (.aload_n 0, 1) := by decide +kernel
theorem d_MM_lies_28 : decode b_MM_lies 28 = .ok (.iload_n 1, 1) := by decide +kernel
theorem d_MM_lies_29 : decode b_MM_lies 29 = .ok (.invokevirtual 205, 3) := by decide +kernel
theorem d_MM_lies_32 : decode b_MM_lies 32 = .ok (.invokestatic 150, 3) := by decide +kernel
theorem d_MM_lies_35 : decode b_MM_lies 35 = .ok (.ireturn, 1) := by decide +kernel
theorem d_MM_laysTold_0 : decode b_MM_laysTold 0 = .ok (.iconst 0, 1) := by decide +kernel
theorem d_MM_laysTold_1 : decode b_MM_laysTold 1 = .ok (.istore_n 2, 1) := by decide +kernel
theorem d_MM_laysTold_2 : decode b_MM_laysTold 2 = .ok (.iconst 1, 1) := by decide +kernel
theorem d_MM_laysTold_3 : decode b_MM_laysTold 3 = .ok (.istore_n 3, 1) := by decide +kernel
theorem d_MM_laysTold_4 : decode b_MM_laysTold 4 = .ok (.iload_n 2, 1) := by decide +kernel
theorem d_MM_laysTold_5 : decode b_MM_laysTold 5 = .ok (.bipush 9, 2) := by decide +kernel
theorem d_MM_laysTold_7 : decode b_MM_laysTold 7 = .ok (.if_icmp .ge 30, 3) := by decide +kernel
theorem d_MM_laysTold_10 : decode b_MM_laysTold 10 = .ok (.iload_n 1, 1) := by decide +kernel
theorem d_MM_laysTold_11 : decode b_MM_laysTold 11 = .ok (.iload_n 3, 1) := by decide +kernel
theorem d_MM_laysTold_12 : decode b_MM_laysTold 12 = .ok (.idiv, 1) := by decide +kernel
theorem d_MM_laysTold_13 : decode b_MM_laysTold 13 = .ok (.ifCond .le 24, 3) := by decide +kernel
theorem d_MM_laysTold_16 : decode b_MM_laysTold 16 = .ok (.iinc 2 1, 3) := by decide +kernel
theorem d_MM_laysTold_19 : decode b_MM_laysTold 19 = .ok (.iload_n 2, 1) := by decide +kernel
theorem d_MM_laysTold_20 : decode b_MM_laysTold 20 = .ok (.bipush 9, 2) := by decide +kernel
theorem d_MM_laysTold_22 : decode b_MM_laysTold 22 = .ok (.if_icmp .ge 10, 3) := by decide +kernel
theorem d_MM_laysTold_25 : decode b_MM_laysTold 25 = .ok (.iload_n 3, 1) := by decide +kernel
theorem d_MM_laysTold_26 : decode b_MM_laysTold 26 = .ok (.bipush 10, 2) := by decide +kernel
theorem d_MM_laysTold_28 : decode b_MM_laysTold 28 = .ok (.imul, 1) := by decide +kernel
theorem d_MM_laysTold_29 : decode b_MM_laysTold 29 = .ok (.goto 4, 3) := by decide +kernel
theorem d_MM_laysTold_32 : decode b_MM_laysTold 32 = .ok (.iload_n 3, 1) := by decide +kernel
theorem d_MM_laysTold_33 : decode b_MM_laysTold 33 = .ok (.istore_n 3, 1) := by decide +kernel
theorem d_MM_laysTold_34 : decode b_MM_laysTold 34 = .ok (.goto (-30), 3) := by decide +kernel
theorem d_MM_laysTold_37 : decode b_MM_laysTold 37 = .ok (.iload_n 2, 1) := by decide +kernel
theorem d_MM_laysTold_38 : decode b_MM_laysTold 38 = .ok (.i2l, 1) := by decide +kernel
theorem d_MM_laysTold_39 : decode b_MM_laysTold 39 = .ok (.lconst 1, 1) := by decide +kernel
theorem d_MM_laysTold_40 : decode b_MM_laysTold 40 = .ok (.ldc2_w 208, 3) := by decide +kernel
theorem d_MM_laysTold_43 : decode b_MM_laysTold 43 = .ok (.invokestatic 108, 3) := by decide +kernel
theorem d_MM_laysTold_46 : decode b_MM_laysTold 46 = .ok (.ifCond .ne 5, 3) := by decide +kernel
theorem d_MM_laysTold_49 : decode b_MM_laysTold 49 = .ok (.iconst (-1), 1) := by decide +kernel
theorem d_MM_laysTold_50 : decode b_MM_laysTold 50 = .ok (.ireturn, 1) := by decide +kernel
theorem d_MM_laysTold_51 : decode b_MM_laysTold 51 = .ok (.iload_n 1, 1) := by decide +kernel
theorem d_MM_laysTold_52 : decode b_MM_laysTold 52 = .ok (.istore 4, 2) := by decide +kernel
theorem d_MM_laysTold_54 : decode b_MM_laysTold 54 = .ok (.iconst 0, 1) := by decide +kernel
theorem d_MM_laysTold_55 : decode b_MM_laysTold 55 = .ok (.istore 5, 2) := by decide +kernel
theorem d_MM_laysTold_57 : decode b_MM_laysTold 57 = .ok (.iload_n 2, 1) := by decide +kernel
theorem d_MM_laysTold_58 : decode b_MM_laysTold 58 = .ok (.iconst 1, 1) := by decide +kernel
theorem d_MM_laysTold_59 : decode b_MM_laysTold 59 = .ok (.isub, 1) := by decide +kernel
theorem d_MM_laysTold_60 : decode b_MM_laysTold 60 = .ok (.istore 6, 2) := by decide +kernel
theorem d_MM_laysTold_62 : decode b_MM_laysTold 62 = .ok (.iload 6, 2) := by decide +kernel
theorem d_MM_laysTold_64 : decode b_MM_laysTold 64 = .ok (.ifCond .lt 64, 3) := by decide +kernel
theorem d_MM_laysTold_67 : decode b_MM_laysTold 67 = .ok (.iload 4, 2) := by decide +kernel
theorem d_MM_laysTold_69 : decode b_MM_laysTold 69 = .ok (.bipush 10, 2) := by decide +kernel
theorem d_MM_laysTold_71 : decode b_MM_laysTold 71 = .ok (.irem, 1) := by decide +kernel
theorem d_MM_laysTold_72 : decode b_MM_laysTold 72 = .ok (.iconst 1, 1) := by decide +kernel
theorem d_MM_laysTold_73 : decode b_MM_laysTold 73 = .ok (.isub, 1) := by decide +kernel
theorem d_MM_laysTold_74 : decode b_MM_laysTold 74 = .ok (.istore 7, 2) := by decide +kernel
theorem d_MM_laysTold_76 : decode b_MM_laysTold 76 = .ok (.aload_n 0, 1) := by decide +kernel
theorem d_MM_laysTold_77 : decode b_MM_laysTold 77 = .ok (.iload 7, 2) := by decide +kernel
theorem d_MM_laysTold_79 : decode b_MM_laysTold 79 = .ok (.invokevirtual 197, 3) := by decide +kernel
theorem d_MM_laysTold_82 : decode b_MM_laysTold 82 = .ok (.ifCond .eq 13, 3) := by decide +kernel
theorem d_MM_laysTold_85 : decode b_MM_laysTold 85 = .ok (.iload 5, 2) := by decide +kernel
theorem d_MM_laysTold_87 : decode b_MM_laysTold 87 = .ok (.iload 7, 2) := by decide +kernel
theorem d_MM_laysTold_89 : decode b_MM_laysTold 89 = .ok (.invokestatic 201, 3) := by decide +kernel
theorem d_MM_laysTold_92 : decode b_MM_laysTold 92 = .ok (.ifCond .eq 5, 3) := by decide +kernel
theorem d_MM_laysTold_95 : decode b_MM_laysTold 95 = .ok (.iconst (-1), 1) := by decide +kernel
theorem d_MM_laysTold_96 : decode b_MM_laysTold 96 = .ok (.ireturn, 1) := by decide +kernel
theorem d_MM_laysTold_97 : decode b_MM_laysTold 97 = .ok (.iload 5, 2) := by decide +kernel
theorem d_MM_laysTold_99 : decode b_MM_laysTold 99 = .ok (.iconst 1, 1) := by decide +kernel
theorem d_MM_laysTold_100 : decode b_MM_laysTold 100 = .ok (.iload 7, 2) := by decide +kernel
theorem d_MM_laysTold_102 : decode b_MM_laysTold 102 = .ok (.ishl, 1) := by decide +kernel
theorem d_MM_laysTold_103 : decode b_MM_laysTold 103 = .ok (.ior, 1) := by decide +kernel
theorem d_MM_laysTold_104 : decode b_MM_laysTold 104 = .ok (.istore 5, 2) := by decide +kernel
theorem d_MM_laysTold_106 : decode b_MM_laysTold 106 = .ok (.aload_n 0, 1) := by decide +kernel
theorem d_MM_laysTold_107 : decode b_MM_laysTold 107 = .ok (.getfield 33, 3) := by decide +kernel
theorem d_MM_laysTold_110 : decode b_MM_laysTold 110 = .ok (.iload 6, 2) := by decide +kernel
theorem d_MM_laysTold_112 : decode b_MM_laysTold 112 = .ok (.iload 7, 2) := by decide +kernel
theorem d_MM_laysTold_114 : decode b_MM_laysTold 114 = .ok (.iastore, 1) := by decide +kernel
theorem d_MM_laysTold_115 : decode b_MM_laysTold 115 = .ok (.iload 4, 2) := by decide +kernel
theorem d_MM_laysTold_117 : decode b_MM_laysTold 117 = .ok (.bipush 10, 2) := by decide +kernel
theorem d_MM_laysTold_119 : decode b_MM_laysTold 119 = .ok (.idiv, 1) := by decide +kernel
theorem d_MM_laysTold_120 : decode b_MM_laysTold 120 = .ok (.istore 4, 2) := by decide +kernel
theorem d_MM_laysTold_122 : decode b_MM_laysTold 122 = .ok (.iinc 6 (-1), 3) := by decide +kernel
theorem d_MM_laysTold_125 : decode b_MM_laysTold 125 = .ok (.goto (-63), 3) := by decide +kernel
theorem d_MM_laysTold_128 : decode b_MM_laysTold 128 = .ok (.iload_n 2, 1) := by decide +kernel
theorem d_MM_laysTold_129 : decode b_MM_laysTold 129 = .ok (.ireturn, 1) := by decide +kernel
theorem d_MM_areUnlike_0 : decode b_MM_areUnlike 0 = .ok (.aload_n 0, 1) := by decide +kernel
theorem d_MM_areUnlike_1 : decode b_MM_areUnlike 1 = .ok (.iload_n 1, 1) := by decide +kernel
theorem d_MM_areUnlike_2 : decode b_MM_areUnlike 2 = .ok (.invokevirtual 197, 3) := by decide +kernel
theorem d_MM_areUnlike_5 : decode b_MM_areUnlike 5 = .ok (.ifCond .eq 20, 3) := by decide +kernel
theorem d_MM_areUnlike_8 : decode b_MM_areUnlike 8 = .ok (.aload_n 0, 1) := by decide +kernel
theorem d_MM_areUnlike_9 : decode b_MM_areUnlike 9 = .ok (.iload_n 2, 1) := by decide +kernel
theorem d_MM_areUnlike_10 : decode b_MM_areUnlike 10 = .ok (.invokevirtual 197, 3) := by decide +kernel
theorem d_MM_areUnlike_13 : decode b_MM_areUnlike 13 = .ok (.ifCond .eq 12, 3) := by decide +kernel
theorem d_MM_areUnlike_16 : decode b_MM_areUnlike 16 = .ok (.iload_n 1, 1) := by decide +kernel
theorem d_MM_areUnlike_17 : decode b_MM_areUnlike 17 = .ok (.iload_n 2, 1) := by decide +kernel
theorem d_MM_areUnlike_18 : decode b_MM_areUnlike 18 = .ok (.if_icmp .eq 7, 3) := by decide +kernel
theorem d_MM_areUnlike_21 : decode b_MM_areUnlike 21 = .ok (.iconst 1, 1) := by decide +kernel
theorem d_MM_areUnlike_22 : decode b_MM_areUnlike 22 = .ok (.goto 4, 3) := by decide +kernel
theorem d_MM_areUnlike_25 : decode b_MM_areUnlike 25 = .ok (.iconst 0, 1) := by decide +kernel
theorem d_MM_areUnlike_26 : decode b_MM_areUnlike 26 = .ok (.ireturn, 1) := by decide +kernel
theorem d_MM_plans_0 : decode b_MM_plans 0 = .ok (.bipush 10, 2) := by decide +kernel
theorem d_MM_plans_2 : decode b_MM_plans 2 = .ok (.bipush 13, 2) := by decide +kernel
theorem d_MM_plans_4 : decode b_MM_plans 4 = .ok (.aload_n 0, 1) := by decide +kernel
theorem d_MM_plans_5 : decode b_MM_plans 5 = .ok (.getfield 9, 3) := by decide +kernel
theorem d_MM_plans_8 : decode b_MM_plans 8 = .ok (.bipush 7, 2) := by decide +kernel
theorem d_MM_plans_10 : decode b_MM_plans 10 = .ok (.iaload, 1) := by decide +kernel
theorem d_MM_plans_11 : decode b_MM_plans 11 = .ok (.imul, 1) := by decide +kernel
theorem d_MM_plans_12 : decode b_MM_plans 12 = .ok (.iadd, 1) := by decide +kernel
theorem d_MM_plans_13 : decode b_MM_plans 13 = .ok (.istore 6, 2) := by decide +kernel
theorem d_MM_plans_15 : decode b_MM_plans 15 = .ok (.aload_n 0, 1) := by decide +kernel
theorem d_MM_plans_16 : decode b_MM_plans 16 = .ok (.getfield 9, 3) := by decide +kernel
theorem d_MM_plans_19 : decode b_MM_plans 19 = .ok (.iload 6, 2) := by decide +kernel
theorem d_MM_plans_21 : decode b_MM_plans 21 = .ok (.iload_n 1, 1) := by decide +kernel
theorem d_MM_plans_22 : decode b_MM_plans 22 = .ok (.iastore, 1) := by decide +kernel
theorem d_MM_plans_23 : decode b_MM_plans 23 = .ok (.aload_n 0, 1) := by decide +kernel
theorem d_MM_plans_24 : decode b_MM_plans 24 = .ok (.getfield 9, 3) := by decide +kernel
theorem d_MM_plans_27 : decode b_MM_plans 27 = .ok (.iload 6, 2) := by decide +kernel
theorem d_MM_plans_29 : decode b_MM_plans 29 = .ok (.iconst 1, 1) := by decide +kernel
theorem d_MM_plans_30 : decode b_MM_plans 30 = .ok (.iadd, 1) := by decide +kernel
theorem d_MM_plans_31 : decode b_MM_plans 31 = .ok (.iload_n 2, 1) := by decide +kernel
theorem d_MM_plans_32 : decode b_MM_plans 32 = .ok (.iastore, 1) := by decide +kernel
theorem d_MM_plans_33 : decode b_MM_plans 33 = .ok (.aload_n 0, 1) := by decide +kernel
theorem d_MM_plans_34 : decode b_MM_plans 34 = .ok (.getfield 9, 3) := by decide +kernel
theorem d_MM_plans_37 : decode b_MM_plans 37 = .ok (.iload 6, 2) := by decide +kernel
theorem d_MM_plans_39 : decode b_MM_plans 39 = .ok (.iconst 2, 1) := by decide +kernel
theorem d_MM_plans_40 : decode b_MM_plans 40 = .ok (.iadd, 1) := by decide +kernel
theorem d_MM_plans_41 : decode b_MM_plans 41 = .ok (.iload_n 3, 1) := by decide +kernel
theorem d_MM_plans_42 : decode b_MM_plans 42 = .ok (.iastore, 1) := by decide +kernel
theorem d_MM_plans_43 : decode b_MM_plans 43 = .ok (.aload_n 0, 1) := by decide +kernel
theorem d_MM_plans_44 : decode b_MM_plans 44 = .ok (.getfield 9, 3) := by decide +kernel
theorem d_MM_plans_47 : decode b_MM_plans 47 = .ok (.iload 6, 2) := by decide +kernel
theorem d_MM_plans_49 : decode b_MM_plans 49 = .ok (.iconst 3, 1) := by decide +kernel
theorem d_MM_plans_50 : decode b_MM_plans 50 = .ok (.iadd, 1) := by decide +kernel
theorem d_MM_plans_51 : decode b_MM_plans 51 = .ok (.iload 4, 2) := by decide +kernel
theorem d_MM_plans_53 : decode b_MM_plans 53 = .ok (.iastore, 1) := by decide +kernel
theorem d_MM_plans_54 : decode b_MM_plans 54 = .ok (.aload_n 0, 1) := by decide +kernel
theorem d_MM_plans_55 : decode b_MM_plans 55 = .ok (.getfield 9, 3) := by decide +kernel
theorem d_MM_plans_58 : decode b_MM_plans 58 = .ok (.iload 6, 2) := by decide +kernel
theorem d_MM_plans_60 : decode b_MM_plans 60 = .ok (.iconst 4, 1) := by decide +kernel
theorem d_MM_plans_61 : decode b_MM_plans 61 = .ok (.iadd, 1) := by decide +kernel
theorem d_MM_plans_62 : decode b_MM_plans 62 = .ok (.iload 5, 2) := by decide +kernel
theorem d_MM_plans_64 : decode b_MM_plans 64 = .ok (.iastore, 1) := by decide +kernel
theorem d_MM_plans_65 : decode b_MM_plans 65 = .ok (.iconst 0, 1) := by decide +kernel
theorem d_MM_plans_66 : decode b_MM_plans 66 = .ok (.istore 7, 2) := by decide +kernel
theorem d_MM_plans_68 : decode b_MM_plans 68 = .ok (.iload 7, 2) := by decide +kernel
theorem d_MM_plans_70 : decode b_MM_plans 70 = .ok (.bipush 8, 2) := by decide +kernel
theorem d_MM_plans_72 : decode b_MM_plans 72 = .ok (.if_icmp .ge 39, 3) := by decide +kernel
theorem d_MM_plans_75 : decode b_MM_plans 75 = .ok (.aload_n 0, 1) := by decide +kernel
theorem d_MM_plans_76 : decode b_MM_plans 76 = .ok (.getfield 9, 3) := by decide +kernel
theorem d_MM_plans_79 : decode b_MM_plans 79 = .ok (.iload 6, 2) := by decide +kernel
theorem d_MM_plans_81 : decode b_MM_plans 81 = .ok (.iconst 5, 1) := by decide +kernel
theorem d_MM_plans_82 : decode b_MM_plans 82 = .ok (.iadd, 1) := by decide +kernel
theorem d_MM_plans_83 : decode b_MM_plans 83 = .ok (.iload 7, 2) := by decide +kernel
theorem d_MM_plans_85 : decode b_MM_plans 85 = .ok (.iadd, 1) := by decide +kernel
theorem d_MM_plans_86 : decode b_MM_plans 86 = .ok (.iload 7, 2) := by decide +kernel
theorem d_MM_plans_88 : decode b_MM_plans 88 = .ok (.iload 5, 2) := by decide +kernel
theorem d_MM_plans_90 : decode b_MM_plans 90 = .ok (.if_icmp .ge 13, 3) := by decide +kernel
theorem d_MM_plans_93 : decode b_MM_plans 93 = .ok (.aload_n 0, 1) := by decide +kernel
theorem d_MM_plans_94 : decode b_MM_plans 94 = .ok (.getfield 33, 3) := by decide +kernel
theorem d_MM_plans_97 : decode b_MM_plans 97 = .ok (.iload 7, 2) := by decide +kernel
theorem d_MM_plans_99 : decode b_MM_plans 99 = .ok (.iaload, 1) := by decide +kernel
theorem d_MM_plans_100 : decode b_MM_plans 100 = .ok (.goto 4, 3) := by decide +kernel
theorem d_MM_plans_103 : decode b_MM_plans 103 = .ok (.iconst 0, 1) := by decide +kernel
theorem d_MM_plans_104 : decode b_MM_plans 104 = .ok (.iastore, 1) := by decide +kernel
theorem d_MM_plans_105 : decode b_MM_plans 105 = .ok (.iinc 7 1, 3) := by decide +kernel
theorem d_MM_plans_108 : decode b_MM_plans 108 = .ok (.goto (-40), 3) := by decide +kernel
theorem d_MM_plans_111 : decode b_MM_plans 111 = .ok (.aload_n 0, 1) := by decide +kernel
theorem d_MM_plans_112 : decode b_MM_plans 112 = .ok (.getfield 9, 3) := by decide +kernel
theorem d_MM_plans_115 : decode b_MM_plans 115 = .ok (.bipush 7, 2) := by decide +kernel
theorem d_MM_plans_117 : decode b_MM_plans 117 = .ok (.dup2, 1) := by decide +kernel
theorem d_MM_plans_118 : decode b_MM_plans 118 = .ok (.iaload, 1) := by decide +kernel
theorem d_MM_plans_119 : decode b_MM_plans 119 = .ok (.iconst 1, 1) := by decide +kernel
theorem d_MM_plans_120 : decode b_MM_plans 120 = .ok (.iadd, 1) := by decide +kernel
theorem d_MM_plans_121 : decode b_MM_plans 121 = .ok (.iastore, 1) := by decide +kernel
theorem d_MM_plans_122 : decode b_MM_plans 122 = .ok (.return_, 1) := by decide +kernel
theorem d_MM_plan_0 : decode b_MM_plan 0 = .ok (.iload 5, 2) := by decide +kernel
theorem d_MM_plan_2 : decode b_MM_plan 2 = .ok (.iconst 1, 1) := by decide +kernel
theorem d_MM_plan_3 : decode b_MM_plan 3 = .ok (.if_icmp .ge 7, 3) := by decide +kernel
theorem d_MM_plan_6 : decode b_MM_plan 6 = .ok (.iconst (-1), 1) := by decide +kernel
theorem d_MM_plan_7 : decode b_MM_plan 7 = .ok (.goto 9, 3) := by decide +kernel
theorem d_MM_plan_10 : decode b_MM_plan 10 = .ok (.aload_n 0, 1) := by decide +kernel
theorem d_MM_plan_11 : decode b_MM_plan 11 = .ok (.iload 5, 2) := by decide +kernel
theorem d_MM_plan_13 : decode b_MM_plan 13 = .ok (.invokevirtual 220, 3) := by decide +kernel
theorem d_MM_plan_16 : decode b_MM_plan 16 = .ok (.istore 6, 2) := by decide +kernel
theorem d_MM_plan_18 : decode b_MM_plan 18 = .ok (.iload_n 1, 1) := by decide +kernel
theorem d_MM_plan_19 : decode b_MM_plan 19 = .ok (.i2l, 1) := by decide +kernel
theorem d_MM_plan_20 : decode b_MM_plan 20 = .ok (.lconst 1, 1) := by decide +kernel
theorem d_MM_plan_21 : decode b_MM_plan 21 = .ok (.ldc2_w 208, 3) := by decide +kernel
theorem d_MM_plan_24 : decode b_MM_plan 24 = .ok (.invokestatic 108, 3) := by decide +kernel
theorem d_MM_plan_27 : decode b_MM_plan 27 = .ok (.ifCond .eq 31, 3) := by decide +kernel
theorem d_MM_plan_30 : decode b_MM_plan 30 = .ok (.aload_n 0, 1) := by decide +kernel
theorem d_MM_plan_31 : decode b_MM_plan 31 = .ok (.iload_n 2, 1) := by decide +kernel
theorem d_MM_plan_32 : decode b_MM_plan 32 = .ok (.iload_n 3, 1) := by decide +kernel
theorem d_MM_plan_33 : decode b_MM_plan 33 = .ok (.invokevirtual 224, 3) := by decide +kernel
theorem d_MM_plan_36 : decode b_MM_plan 36 = .ok (.ifCond .eq 22, 3) := by decide +kernel
theorem d_MM_plan_39 : decode b_MM_plan 39 = .ok (.iload 4, 2) := by decide +kernel
theorem d_MM_plan_41 : decode b_MM_plan 41 = .ok (.i2l, 1) := by decide +kernel
theorem d_MM_plan_42 : decode b_MM_plan 42 = .ok (.lconst 0, 1) := by decide +kernel
theorem d_MM_plan_43 : decode b_MM_plan 43 = .ok (.ldc2_w 212, 3) := by decide +kernel
theorem d_MM_plan_46 : decode b_MM_plan 46 = .ok (.invokestatic 108, 3) := by decide +kernel
theorem d_MM_plan_49 : decode b_MM_plan 49 = .ok (.ifCond .eq 9, 3) := by decide +kernel
theorem d_MM_plan_52 : decode b_MM_plan 52 = .ok (.iload 6, 2) := by decide +kernel
theorem d_MM_plan_54 : decode b_MM_plan 54 = .ok (.iconst (-1), 1) := by decide +kernel
theorem d_MM_plan_55 : decode b_MM_plan 55 = .ok (.if_icmp .ne 5, 3) := by decide +kernel
theorem d_MM_plan_58 : decode b_MM_plan 58 = .ok (.iconst (-1), 1) := by decide +kernel
theorem d_MM_plan_59 : decode b_MM_plan 59 = .ok (.ireturn, 1) := by decide +kernel
theorem d_MM_plan_60 : decode b_MM_plan 60 = .ok (.aload_n 0, 1) := by decide +kernel
theorem d_MM_plan_61 : decode b_MM_plan 61 = .ok (.getfield 9, 3) := by decide +kernel
theorem d_MM_plan_64 : decode b_MM_plan 64 = .ok (.bipush 7, 2) := by decide +kernel
theorem d_MM_plan_66 : decode b_MM_plan 66 = .ok (.iaload, 1) := by decide +kernel
theorem d_MM_plan_67 : decode b_MM_plan 67 = .ok (.bipush 16, 2) := by decide +kernel
theorem d_MM_plan_69 : decode b_MM_plan 69 = .ok (.if_icmp .ne 6, 3) := by decide +kernel
theorem d_MM_plan_72 : decode b_MM_plan 72 = .ok (.bipush (-3), 2) := by decide +kernel
theorem d_MM_plan_74 : decode b_MM_plan 74 = .ok (.ireturn, 1) := by decide +kernel
theorem d_MM_plan_75 : decode b_MM_plan 75 = .ok (.aload_n 0, 1) := by decide +kernel
theorem d_MM_plan_76 : decode b_MM_plan 76 = .ok (.invokevirtual 217, 3) := by decide +kernel
theorem d_MM_plan_79 : decode b_MM_plan 79 = .ok (.aload_n 0, 1) := by decide +kernel
theorem d_MM_plan_80 : decode b_MM_plan 80 = .ok (.iload_n 1, 1) := by decide +kernel
theorem d_MM_plan_81 : decode b_MM_plan 81 = .ok (.iload_n 2, 1) := by decide +kernel
theorem d_MM_plan_82 : decode b_MM_plan 82 = .ok (.iload_n 3, 1) := by decide +kernel
theorem d_MM_plan_83 : decode b_MM_plan 83 = .ok (.iload 4, 2) := by decide +kernel
theorem d_MM_plan_85 : decode b_MM_plan 85 = .ok (.iload 6, 2) := by decide +kernel
theorem d_MM_plan_87 : decode b_MM_plan 87 = .ok (.invokevirtual 227, 3) := by decide +kernel
theorem d_MM_plan_90 : decode b_MM_plan 90 = .ok (.aload_n 0, 1) := by decide +kernel
theorem d_MM_plan_91 : decode b_MM_plan 91 = .ok (.getfield 9, 3) := by decide +kernel
theorem d_MM_plan_94 : decode b_MM_plan 94 = .ok (.bipush 7, 2) := by decide +kernel
theorem d_MM_plan_96 : decode b_MM_plan 96 = .ok (.iaload, 1) := by decide +kernel
theorem d_MM_plan_97 : decode b_MM_plan 97 = .ok (.iconst 1, 1) := by decide +kernel
theorem d_MM_plan_98 : decode b_MM_plan 98 = .ok (.isub, 1) := by decide +kernel
theorem d_MM_plan_99 : decode b_MM_plan 99 = .ok (.ireturn, 1) := by decide +kernel
theorem d_MM_wideOf_0 : decode b_MM_wideOf 0 = .ok (.iload_n 0, 1) := by decide +kernel
theorem d_MM_wideOf_1 : decode b_MM_wideOf 1 = .ok (.ifCond .ne 8, 3) := by decide +kernel
theorem d_MM_wideOf_4 : decode b_MM_wideOf 4 = .ok (.bipush 13, 2) := by decide +kernel
theorem d_MM_wideOf_6 : decode b_MM_wideOf 6 = .ok (.goto 13, 3) := by decide +kernel
theorem d_MM_wideOf_9 : decode b_MM_wideOf 9 = .ok (.iload_n 0, 1) := by decide +kernel
theorem d_MM_wideOf_10 : decode b_MM_wideOf 10 = .ok (.iconst 1, 1) := by decide +kernel
theorem d_MM_wideOf_11 : decode b_MM_wideOf 11 = .ok (.if_icmp .ne 7, 3) := by decide +kernel
theorem d_MM_wideOf_14 : decode b_MM_wideOf 14 = .ok (.iconst 3, 1) := by decide +kernel
theorem d_MM_wideOf_15 : decode b_MM_wideOf 15 = .ok (.goto 4, 3) := by decide +kernel
theorem d_MM_wideOf_18 : decode b_MM_wideOf 18 = .ok (.iconst 4, 1) := by decide +kernel
theorem d_MM_wideOf_19 : decode b_MM_wideOf 19 = .ok (.ireturn, 1) := by decide +kernel
theorem d_MM_placeOf_0 : decode b_MM_placeOf 0 = .ok (.iload_n 0, 1) := by decide +kernel
theorem d_MM_placeOf_1 : decode b_MM_placeOf 1 = .ok (.ifCond .ne 8, 3) := by decide +kernel
theorem d_MM_placeOf_4 : decode b_MM_placeOf 4 = .ok (.bipush 10, 2) := by decide +kernel
theorem d_MM_placeOf_6 : decode b_MM_placeOf 6 = .ok (.goto 17, 3) := by decide +kernel
theorem d_MM_placeOf_9 : decode b_MM_placeOf 9 = .ok (.iload_n 0, 1) := by decide +kernel
theorem d_MM_placeOf_10 : decode b_MM_placeOf 10 = .ok (.iconst 1, 1) := by decide +kernel
theorem d_MM_placeOf_11 : decode b_MM_placeOf 11 = .ok (.if_icmp .ne 9, 3) := by decide +kernel
theorem d_MM_placeOf_14 : decode b_MM_placeOf 14 = .ok (.sipush 218, 3) := by decide +kernel
theorem d_MM_placeOf_17 : decode b_MM_placeOf 17 = .ok (.goto 6, 3) := by decide +kernel
theorem d_MM_placeOf_20 : decode b_MM_placeOf 20 = .ok (.sipush 254, 3) := by decide +kernel
theorem d_MM_placeOf_23 : decode b_MM_placeOf 23 = .ok (.ireturn, 1) := by decide +kernel
theorem d_MM_takesOut_0 : decode b_MM_takesOut 0 = .ok (.iload_n 1, 1) := by decide +kernel
theorem d_MM_takesOut_1 : decode b_MM_takesOut 1 = .ok (.invokestatic 231, 3) := by decide +kernel
theorem d_MM_takesOut_4 : decode b_MM_takesOut 4 = .ok (.istore_n 3, 1) := by decide +kernel
theorem d_MM_takesOut_5 : decode b_MM_takesOut 5 = .ok (.iload_n 1, 1) := by decide +kernel
theorem d_MM_takesOut_6 : decode b_MM_takesOut 6 = .ok (.invokestatic 234, 3) := by decide +kernel
theorem d_MM_takesOut_9 : decode b_MM_takesOut 9 = .ok (.iload_n 3, 1) := by decide +kernel
theorem d_MM_takesOut_10 : decode b_MM_takesOut 10 = .ok (.iload_n 2, 1) := by decide +kernel
theorem d_MM_takesOut_11 : decode b_MM_takesOut 11 = .ok (.imul, 1) := by decide +kernel
theorem d_MM_takesOut_12 : decode b_MM_takesOut 12 = .ok (.iadd, 1) := by decide +kernel
theorem d_MM_takesOut_13 : decode b_MM_takesOut 13 = .ok (.istore 4, 2) := by decide +kernel
theorem d_MM_takesOut_15 : decode b_MM_takesOut 15 = .ok (.iload 4, 2) := by decide +kernel
theorem d_MM_takesOut_17 : decode b_MM_takesOut 17 = .ok (.iload_n 1, 1) := by decide +kernel
theorem d_MM_takesOut_18 : decode b_MM_takesOut 18 = .ok (.invokestatic 234, 3) := by decide +kernel
theorem d_MM_takesOut_21 : decode b_MM_takesOut 21 = .ok (.iload_n 3, 1) := by decide +kernel
theorem d_MM_takesOut_22 : decode b_MM_takesOut 22 = .ok (.aload_n 0, 1) := by decide +kernel
theorem d_MM_takesOut_23 : decode b_MM_takesOut 23 = .ok (.getfield 9, 3) := by decide +kernel
theorem d_MM_takesOut_26 : decode b_MM_takesOut 26 = .ok (.bipush 7, 2) := by decide +kernel
theorem d_MM_takesOut_28 : decode b_MM_takesOut 28 = .ok (.iload_n 1, 1) := by decide +kernel
theorem d_MM_takesOut_29 : decode b_MM_takesOut 29 = .ok (.iadd, 1) := by decide +kernel
theorem d_MM_takesOut_30 : decode b_MM_takesOut 30 = .ok (.iaload, 1) := by decide +kernel
theorem d_MM_takesOut_31 : decode b_MM_takesOut 31 = .ok (.iconst 1, 1) := by decide +kernel
theorem d_MM_takesOut_32 : decode b_MM_takesOut 32 = .ok (.isub, 1) := by decide +kernel
theorem d_MM_takesOut_33 : decode b_MM_takesOut 33 = .ok (.imul, 1) := by decide +kernel
theorem d_MM_takesOut_34 : decode b_MM_takesOut 34 = .ok (.iadd, 1) := by decide +kernel
theorem d_MM_takesOut_35 : decode b_MM_takesOut 35 = .ok (.if_icmp .ge 25, 3) := by decide +kernel
theorem d_MM_takesOut_38 : decode b_MM_takesOut 38 = .ok (.aload_n 0, 1) := by decide +kernel
theorem d_MM_takesOut_39 : decode b_MM_takesOut 39 = .ok (.getfield 9, 3) := by decide +kernel
theorem d_MM_takesOut_42 : decode b_MM_takesOut 42 = .ok (.iload 4, 2) := by decide +kernel
theorem d_MM_takesOut_44 : decode b_MM_takesOut 44 = .ok (.aload_n 0, 1) := by decide +kernel
theorem d_MM_takesOut_45 : decode b_MM_takesOut 45 = .ok (.getfield 9, 3) := by decide +kernel
theorem d_MM_takesOut_48 : decode b_MM_takesOut 48 = .ok (.iload 4, 2) := by decide +kernel
theorem d_MM_takesOut_50 : decode b_MM_takesOut 50 = .ok (.iload_n 3, 1) := by decide +kernel
theorem d_MM_takesOut_51 : decode b_MM_takesOut 51 = .ok (.iadd, 1) := by decide +kernel
theorem d_MM_takesOut_52 : decode b_MM_takesOut 52 = .ok (.iaload, 1) := by decide +kernel
theorem d_MM_takesOut_53 : decode b_MM_takesOut 53 = .ok (.iastore, 1) := by decide +kernel
theorem d_MM_takesOut_54 : decode b_MM_takesOut 54 = .ok (.iinc 4 1, 3) := by decide +kernel
theorem d_MM_takesOut_57 : decode b_MM_takesOut 57 = .ok (.goto (-42), 3) := by decide +kernel
theorem d_MM_takesOut_60 : decode b_MM_takesOut 60 = .ok (.aload_n 0, 1) := by decide +kernel
theorem d_MM_takesOut_61 : decode b_MM_takesOut 61 = .ok (.getfield 9, 3) := by decide +kernel
theorem d_MM_takesOut_64 : decode b_MM_takesOut 64 = .ok (.bipush 7, 2) := by decide +kernel
theorem d_MM_takesOut_66 : decode b_MM_takesOut 66 = .ok (.iload_n 1, 1) := by decide +kernel
theorem d_MM_takesOut_67 : decode b_MM_takesOut 67 = .ok (.iadd, 1) := by decide +kernel
theorem d_MM_takesOut_68 : decode b_MM_takesOut 68 = .ok (.dup2, 1) := by decide +kernel
theorem d_MM_takesOut_69 : decode b_MM_takesOut 69 = .ok (.iaload, 1) := by decide +kernel
theorem d_MM_takesOut_70 : decode b_MM_takesOut 70 = .ok (.iconst 1, 1) := by decide +kernel
theorem d_MM_takesOut_71 : decode b_MM_takesOut 71 = .ok (.isub, 1) := by decide +kernel
theorem d_MM_takesOut_72 : decode b_MM_takesOut 72 = .ok (.iastore, 1) := by decide +kernel
theorem d_MM_takesOut_73 : decode b_MM_takesOut 73 = .ok (.return_, 1) := by decide +kernel
theorem d_MM_drop_0 : decode b_MM_drop 0 = .ok (.iload_n 1, 1) := by decide +kernel
theorem d_MM_drop_1 : decode b_MM_drop 1 = .ok (.i2l, 1) := by decide +kernel
theorem d_MM_drop_2 : decode b_MM_drop 2 = .ok (.lconst 0, 1) := by decide +kernel
theorem d_MM_drop_3 : decode b_MM_drop 3 = .ok (.ldc2_w 237, 3) := by decide +kernel
theorem d_MM_drop_6 : decode b_MM_drop 6 = .ok (.invokestatic 108, 3) := by decide +kernel
theorem d_MM_drop_9 : decode b_MM_drop 9 = .ok (.ifCond .eq 24, 3) := by decide +kernel
theorem d_MM_drop_12 : decode b_MM_drop 12 = .ok (.iload_n 2, 1) := by decide +kernel
theorem d_MM_drop_13 : decode b_MM_drop 13 = .ok (.i2l, 1) := by decide +kernel
theorem d_MM_drop_14 : decode b_MM_drop 14 = .ok (.lconst 0, 1) := by decide +kernel
theorem d_MM_drop_15 : decode b_MM_drop 15 = .ok (.aload_n 0, 1) := by decide +kernel
theorem d_MM_drop_16 : decode b_MM_drop 16 = .ok (.getfield 9, 3) := by decide +kernel
theorem d_MM_drop_19 : decode b_MM_drop 19 = .ok (.bipush 7, 2) := by decide +kernel
theorem d_MM_drop_21 : decode b_MM_drop 21 = .ok (.iload_n 1, 1) := by decide +kernel
theorem d_MM_drop_22 : decode b_MM_drop 22 = .ok (.iadd, 1) := by decide +kernel
theorem d_MM_drop_23 : decode b_MM_drop 23 = .ok (.iaload, 1) := by decide +kernel
theorem d_MM_drop_24 : decode b_MM_drop 24 = .ok (.iconst 1, 1) := by decide +kernel
theorem d_MM_drop_25 : decode b_MM_drop 25 = .ok (.isub, 1) := by decide +kernel
theorem d_MM_drop_26 : decode b_MM_drop 26 = .ok (.i2l, 1) := by decide +kernel
theorem d_MM_drop_27 : decode b_MM_drop 27 = .ok (.invokestatic 108, 3) := by decide +kernel
theorem d_MM_drop_30 : decode b_MM_drop 30 = .ok (.ifCond .ne 5, 3) := by decide +kernel
theorem d_MM_drop_33 : decode b_MM_drop 33 = .ok (.iconst (-1), 1) := by decide +kernel
theorem d_MM_drop_34 : decode b_MM_drop 34 = .ok (.ireturn, 1) := by decide +kernel
theorem d_MM_drop_35 : decode b_MM_drop 35 = .ok (.aload_n 0, 1) := by decide +kernel
theorem d_MM_drop_36 : decode b_MM_drop 36 = .ok (.invokevirtual 217, 3) := by decide +kernel
theorem d_MM_drop_39 : decode b_MM_drop 39 = .ok (.aload_n 0, 1) := by decide +kernel
theorem d_MM_drop_40 : decode b_MM_drop 40 = .ok (.iload_n 1, 1) := by decide +kernel
theorem d_MM_drop_41 : decode b_MM_drop 41 = .ok (.iload_n 2, 1) := by decide +kernel
theorem d_MM_drop_42 : decode b_MM_drop 42 = .ok (.invokevirtual 239, 3) := by decide +kernel
theorem d_MM_drop_45 : decode b_MM_drop 45 = .ok (.aload_n 0, 1) := by decide +kernel
theorem d_MM_drop_46 : decode b_MM_drop 46 = .ok (.getfield 9, 3) := by decide +kernel
theorem d_MM_drop_49 : decode b_MM_drop 49 = .ok (.bipush 7, 2) := by decide +kernel
theorem d_MM_drop_51 : decode b_MM_drop 51 = .ok (.iload_n 1, 1) := by decide +kernel
theorem d_MM_drop_52 : decode b_MM_drop 52 = .ok (.iadd, 1) := by decide +kernel
theorem d_MM_drop_53 : decode b_MM_drop 53 = .ok (.iaload, 1) := by decide +kernel
theorem d_MM_drop_54 : decode b_MM_drop 54 = .ok (.ireturn, 1) := by decide +kernel
theorem d_MM_faultOf_0 : decode b_MM_faultOf 0 = .ok (.iconst 0, 1) := by decide +kernel
theorem d_MM_faultOf_1 : decode b_MM_faultOf 1 = .ok (.istore 5, 2) := by decide +kernel
theorem d_MM_faultOf_3 : decode b_MM_faultOf 3 = .ok (.iload 5, 2) := by decide +kernel
theorem d_MM_faultOf_5 : decode b_MM_faultOf 5 = .ok (.aload_n 0, 1) := by decide +kernel
theorem d_MM_faultOf_6 : decode b_MM_faultOf 6 = .ok (.getfield 9, 3) := by decide +kernel
theorem d_MM_faultOf_9 : decode b_MM_faultOf 9 = .ok (.bipush 7, 2) := by decide +kernel
theorem d_MM_faultOf_11 : decode b_MM_faultOf 11 = .ok (.iload_n 1, 1) := by decide +kernel
theorem d_MM_faultOf_12 : decode b_MM_faultOf 12 = .ok (.iadd, 1) := by decide +kernel
theorem d_MM_faultOf_13 : decode b_MM_faultOf 13 = .ok (.iaload, 1) := by decide +kernel
theorem d_MM_faultOf_14 : decode b_MM_faultOf 14 = .ok (.if_icmp .ge 64, 3) := by decide +kernel
theorem d_MM_faultOf_17 : decode b_MM_faultOf 17 = .ok (.iload_n 1, 1) := by decide +kernel
theorem d_MM_faultOf_18 : decode b_MM_faultOf 18 = .ok (.invokestatic 234, 3) := by decide +kernel
theorem d_MM_faultOf_21 : decode b_MM_faultOf 21 = .ok (.iload_n 1, 1) := by decide +kernel
theorem d_MM_faultOf_22 : decode b_MM_faultOf 22 = .ok (.invokestatic 231, 3) := by decide +kernel
theorem d_MM_faultOf_25 : decode b_MM_faultOf 25 = .ok (.iload 5, 2) := by decide +kernel
theorem d_MM_faultOf_27 : decode b_MM_faultOf 27 = .ok (.imul, 1) := by decide +kernel
theorem d_MM_faultOf_28 : decode b_MM_faultOf 28 = .ok (.iadd, 1) := by decide +kernel
theorem d_MM_faultOf_29 : decode b_MM_faultOf 29 = .ok (.istore 6, 2) := by decide +kernel
theorem d_MM_faultOf_31 : decode b_MM_faultOf 31 = .ok (.aload_n 0, 1) := by decide +kernel
theorem d_MM_faultOf_32 : decode b_MM_faultOf 32 = .ok (.getfield 9, 3) := by decide +kernel
theorem d_MM_faultOf_35 : decode b_MM_faultOf 35 = .ok (.iload 6, 2) := by decide +kernel
theorem d_MM_faultOf_37 : decode b_MM_faultOf 37 = .ok (.iaload, 1) := by decide +kernel
theorem d_MM_faultOf_38 : decode b_MM_faultOf 38 = .ok (.iload_n 2, 1) := by decide +kernel
theorem d_MM_faultOf_39 : decode b_MM_faultOf 39 = .ok (.if_icmp .ne 33, 3) := by decide +kernel
theorem d_MM_faultOf_42 : decode b_MM_faultOf 42 = .ok (.aload_n 0, 1) := by decide +kernel
theorem d_MM_faultOf_43 : decode b_MM_faultOf 43 = .ok (.getfield 9, 3) := by decide +kernel
theorem d_MM_faultOf_46 : decode b_MM_faultOf 46 = .ok (.iload 6, 2) := by decide +kernel
theorem d_MM_faultOf_48 : decode b_MM_faultOf 48 = .ok (.iconst 1, 1) := by decide +kernel
theorem d_MM_faultOf_49 : decode b_MM_faultOf 49 = .ok (.iadd, 1) := by decide +kernel
theorem d_MM_faultOf_50 : decode b_MM_faultOf 50 = .ok (.iaload, 1) := by decide +kernel
theorem d_MM_faultOf_51 : decode b_MM_faultOf 51 = .ok (.iload_n 3, 1) := by decide +kernel
theorem d_MM_faultOf_52 : decode b_MM_faultOf 52 = .ok (.if_icmp .ne 20, 3) := by decide +kernel
theorem d_MM_faultOf_55 : decode b_MM_faultOf 55 = .ok (.aload_n 0, 1) := by decide +kernel
theorem d_MM_faultOf_56 : decode b_MM_faultOf 56 = .ok (.getfield 9, 3) := by decide +kernel
theorem d_MM_faultOf_59 : decode b_MM_faultOf 59 = .ok (.iload 6, 2) := by decide +kernel
theorem d_MM_faultOf_61 : decode b_MM_faultOf 61 = .ok (.iconst 2, 1) := by decide +kernel
theorem d_MM_faultOf_62 : decode b_MM_faultOf 62 = .ok (.iadd, 1) := by decide +kernel
theorem d_MM_faultOf_63 : decode b_MM_faultOf 63 = .ok (.iaload, 1) := by decide +kernel
theorem d_MM_faultOf_64 : decode b_MM_faultOf 64 = .ok (.iload 4, 2) := by decide +kernel
theorem d_MM_faultOf_66 : decode b_MM_faultOf 66 = .ok (.if_icmp .ne 6, 3) := by decide +kernel
theorem d_MM_faultOf_69 : decode b_MM_faultOf 69 = .ok (.iload 5, 2) := by decide +kernel
theorem d_MM_faultOf_71 : decode b_MM_faultOf 71 = .ok (.ireturn, 1) := by decide +kernel
theorem d_MM_faultOf_72 : decode b_MM_faultOf 72 = .ok (.iinc 5 1, 3) := by decide +kernel
theorem d_MM_faultOf_75 : decode b_MM_faultOf 75 = .ok (.goto (-72), 3) := by decide +kernel
theorem d_MM_faultOf_78 : decode b_MM_faultOf 78 = .ok (.iconst (-1), 1) := by decide +kernel
theorem d_MM_faultOf_79 : decode b_MM_faultOf 79 = .ok (.ireturn, 1) := by decide +kernel
theorem d_MM_faults_0 : decode b_MM_faults 0 = .ok (.iload_n 1, 1) := by decide +kernel
theorem d_MM_faults_1 : decode b_MM_faults 1 = .ok (.invokestatic 234, 3) := by decide +kernel
theorem d_MM_faults_4 : decode b_MM_faults 4 = .ok (.iload_n 1, 1) := by decide +kernel
theorem d_MM_faults_5 : decode b_MM_faults 5 = .ok (.invokestatic 231, 3) := by decide +kernel
theorem d_MM_faults_8 : decode b_MM_faults 8 = .ok (.aload_n 0, 1) := by decide +kernel
theorem d_MM_faults_9 : decode b_MM_faults 9 = .ok (.getfield 9, 3) := by decide +kernel
theorem d_MM_faults_12 : decode b_MM_faults 12 = .ok (.bipush 7, 2) := by decide +kernel
theorem d_MM_faults_14 : decode b_MM_faults 14 = .ok (.iload_n 1, 1) := by decide +kernel
theorem d_MM_faults_15 : decode b_MM_faults 15 = .ok (.iadd, 1) := by decide +kernel
theorem d_MM_faults_16 : decode b_MM_faults 16 = .ok (.iaload, 1) := by decide +kernel
theorem d_MM_faults_17 : decode b_MM_faults 17 = .ok (.imul, 1) := by decide +kernel
theorem d_MM_faults_18 : decode b_MM_faults 18 = .ok (.iadd, 1) := by decide +kernel
theorem d_MM_faults_19 : decode b_MM_faults 19 = .ok (.istore 6, 2) := by decide +kernel
theorem d_MM_faults_21 : decode b_MM_faults 21 = .ok (.aload_n 0, 1) := by decide +kernel
theorem d_MM_faults_22 : decode b_MM_faults 22 = .ok (.getfield 9, 3) := by decide +kernel
theorem d_MM_faults_25 : decode b_MM_faults 25 = .ok (.iload 6, 2) := by decide +kernel
theorem d_MM_faults_27 : decode b_MM_faults 27 = .ok (.iload_n 2, 1) := by decide +kernel
theorem d_MM_faults_28 : decode b_MM_faults 28 = .ok (.iastore, 1) := by decide +kernel
theorem d_MM_faults_29 : decode b_MM_faults 29 = .ok (.aload_n 0, 1) := by decide +kernel
theorem d_MM_faults_30 : decode b_MM_faults 30 = .ok (.getfield 9, 3) := by decide +kernel
theorem d_MM_faults_33 : decode b_MM_faults 33 = .ok (.iload 6, 2) := by decide +kernel
theorem d_MM_faults_35 : decode b_MM_faults 35 = .ok (.iconst 1, 1) := by decide +kernel
theorem d_MM_faults_36 : decode b_MM_faults 36 = .ok (.iadd, 1) := by decide +kernel
theorem d_MM_faults_37 : decode b_MM_faults 37 = .ok (.iload_n 3, 1) := by decide +kernel
theorem d_MM_faults_38 : decode b_MM_faults 38 = .ok (.iastore, 1) := by decide +kernel
theorem d_MM_faults_39 : decode b_MM_faults 39 = .ok (.aload_n 0, 1) := by decide +kernel
theorem d_MM_faults_40 : decode b_MM_faults 40 = .ok (.getfield 9, 3) := by decide +kernel
theorem d_MM_faults_43 : decode b_MM_faults 43 = .ok (.iload 6, 2) := by decide +kernel
theorem d_MM_faults_45 : decode b_MM_faults 45 = .ok (.iconst 2, 1) := by decide +kernel
theorem d_MM_faults_46 : decode b_MM_faults 46 = .ok (.iadd, 1) := by decide +kernel
theorem d_MM_faults_47 : decode b_MM_faults 47 = .ok (.iload 4, 2) := by decide +kernel
theorem d_MM_faults_49 : decode b_MM_faults 49 = .ok (.iastore, 1) := by decide +kernel
theorem d_MM_faults_50 : decode b_MM_faults 50 = .ok (.iload_n 1, 1) := by decide +kernel
theorem d_MM_faults_51 : decode b_MM_faults 51 = .ok (.iconst 2, 1) := by decide +kernel
theorem d_MM_faults_52 : decode b_MM_faults 52 = .ok (.if_icmp .ne 14, 3) := by decide +kernel
theorem d_MM_faults_55 : decode b_MM_faults 55 = .ok (.aload_n 0, 1) := by decide +kernel
theorem d_MM_faults_56 : decode b_MM_faults 56 = .ok (.getfield 9, 3) := by decide +kernel
theorem d_MM_faults_59 : decode b_MM_faults 59 = .ok (.iload 6, 2) := by decide +kernel
theorem d_MM_faults_61 : decode b_MM_faults 61 = .ok (.iconst 3, 1) := by decide +kernel
theorem d_MM_faults_62 : decode b_MM_faults 62 = .ok (.iadd, 1) := by decide +kernel
theorem d_MM_faults_63 : decode b_MM_faults 63 = .ok (.iload 5, 2) := by decide +kernel
theorem d_MM_faults_65 : decode b_MM_faults 65 = .ok (.iastore, 1) := by decide +kernel
theorem d_MM_faults_66 : decode b_MM_faults 66 = .ok (.aload_n 0, 1) := by decide +kernel
theorem d_MM_faults_67 : decode b_MM_faults 67 = .ok (.getfield 9, 3) := by decide +kernel
theorem d_MM_faults_70 : decode b_MM_faults 70 = .ok (.bipush 7, 2) := by decide +kernel
theorem d_MM_faults_72 : decode b_MM_faults 72 = .ok (.iload_n 1, 1) := by decide +kernel
theorem d_MM_faults_73 : decode b_MM_faults 73 = .ok (.iadd, 1) := by decide +kernel
theorem d_MM_faults_74 : decode b_MM_faults 74 = .ok (.dup2, 1) := by decide +kernel
theorem d_MM_faults_75 : decode b_MM_faults 75 = .ok (.iaload, 1) := by decide +kernel
theorem d_MM_faults_76 : decode b_MM_faults 76 = .ok (.iconst 1, 1) := by decide +kernel
theorem d_MM_faults_77 : decode b_MM_faults 77 = .ok (.iadd, 1) := by decide +kernel
theorem d_MM_faults_78 : decode b_MM_faults 78 = .ok (.iastore, 1) := by decide +kernel
theorem d_MM_faults_79 : decode b_MM_faults 79 = .ok (.return_, 1) := by decide +kernel
theorem d_MM_adds_0 : decode b_MM_adds 0 = .ok (.iload_n 2, 1) := by decide +kernel
theorem d_MM_adds_1 : decode b_MM_adds 1 = .ok (.i2l, 1) := by decide +kernel
theorem d_MM_adds_2 : decode b_MM_adds 2 = .ok (.lconst 1, 1) := by decide +kernel
theorem d_MM_adds_3 : decode b_MM_adds 3 = .ok (.ldc2_w 208, 3) := by decide +kernel
theorem d_MM_adds_6 : decode b_MM_adds 6 = .ok (.invokestatic 108, 3) := by decide +kernel
theorem d_MM_adds_9 : decode b_MM_adds 9 = .ok (.ifCond .eq 26, 3) := by decide +kernel
theorem d_MM_adds_12 : decode b_MM_adds 12 = .ok (.aload_n 0, 1) := by decide +kernel
theorem d_MM_adds_13 : decode b_MM_adds 13 = .ok (.iload_n 3, 1) := by decide +kernel
theorem d_MM_adds_14 : decode b_MM_adds 14 = .ok (.iload 4, 2) := by decide +kernel
theorem d_MM_adds_16 : decode b_MM_adds 16 = .ok (.invokevirtual 224, 3) := by decide +kernel
theorem d_MM_adds_19 : decode b_MM_adds 19 = .ok (.ifCond .eq 16, 3) := by decide +kernel
theorem d_MM_adds_22 : decode b_MM_adds 22 = .ok (.iload 5, 2) := by decide +kernel
theorem d_MM_adds_24 : decode b_MM_adds 24 = .ok (.i2l, 1) := by decide +kernel
theorem d_MM_adds_25 : decode b_MM_adds 25 = .ok (.lconst 1, 1) := by decide +kernel
theorem d_MM_adds_26 : decode b_MM_adds 26 = .ok (.ldc2_w 242, 3) := by decide +kernel
theorem d_MM_adds_29 : decode b_MM_adds 29 = .ok (.invokestatic 108, 3) := by decide +kernel
