theorem d_MM_sent_27 : decode b_MM_sent 27 = .ok (.ireturn, 1) := by decide +kernel
theorem d_MM_sent_28 : decode b_MM_sent 28 = .ok (.aload_n 0, 1) := by decide +kernel
theorem d_MM_sent_29 : decode b_MM_sent 29 = .ok (.invokevirtual 321, 3) := by decide +kernel
theorem d_MM_sent_32 : decode b_MM_sent 32 = .ok (.iconst 0, 1) := by decide +kernel
theorem d_MM_sent_33 : decode b_MM_sent 33 = .ok (.istore_n 2, 1) := by decide +kernel
theorem d_MM_sent_34 : decode b_MM_sent 34 = .ok (.iconst 0, 1) := by decide +kernel
theorem d_MM_sent_35 : decode b_MM_sent 35 = .ok (.istore_n 3, 1) := by decide +kernel
theorem d_MM_sent_36 : decode b_MM_sent 36 = .ok (.iload_n 3, 1) := by decide +kernel
theorem d_MM_sent_37 : decode b_MM_sent 37 = .ok (.aload_n 0, 1) := by decide +kernel
theorem d_MM_sent_38 : decode b_MM_sent 38 = .ok (.getfield 264, 3) := by decide +kernel
theorem d_MM_sent_41 : decode b_MM_sent 41 = .ok (.if_icmp .ge 35, 3) := by decide +kernel
theorem d_MM_sent_44 : decode b_MM_sent 44 = .ok (.iload_n 2, 1) := by decide +kernel
theorem d_MM_sent_45 : decode b_MM_sent 45 = .ok (.iload_n 1, 1) := by decide +kernel
theorem d_MM_sent_46 : decode b_MM_sent 46 = .ok (.iconst (-1), 1) := by decide +kernel
theorem d_MM_sent_47 : decode b_MM_sent 47 = .ok (.if_icmp .eq 13, 3) := by decide +kernel
theorem d_MM_sent_50 : decode b_MM_sent 50 = .ok (.aload_n 0, 1) := by decide +kernel
theorem d_MM_sent_51 : decode b_MM_sent 51 = .ok (.getfield 36, 3) := by decide +kernel
theorem d_MM_sent_54 : decode b_MM_sent 54 = .ok (.iload_n 3, 1) := by decide +kernel
theorem d_MM_sent_55 : decode b_MM_sent 55 = .ok (.iaload, 1) := by decide +kernel
theorem d_MM_sent_56 : decode b_MM_sent 56 = .ok (.iload_n 1, 1) := by decide +kernel
theorem d_MM_sent_57 : decode b_MM_sent 57 = .ok (.if_icmp .ne 7, 3) := by decide +kernel
theorem d_MM_sent_60 : decode b_MM_sent 60 = .ok (.iconst 1, 1) := by decide +kernel
theorem d_MM_sent_61 : decode b_MM_sent 61 = .ok (.goto 4, 3) := by decide +kernel
theorem d_MM_sent_64 : decode b_MM_sent 64 = .ok (.iconst 0, 1) := by decide +kernel
theorem d_MM_sent_65 : decode b_MM_sent 65 = .ok (.invokestatic 150, 3) := by decide +kernel
theorem d_MM_sent_68 : decode b_MM_sent 68 = .ok (.iadd, 1) := by decide +kernel
theorem d_MM_sent_69 : decode b_MM_sent 69 = .ok (.istore_n 2, 1) := by decide +kernel
theorem d_MM_sent_70 : decode b_MM_sent 70 = .ok (.iinc 3 1, 3) := by decide +kernel
theorem d_MM_sent_73 : decode b_MM_sent 73 = .ok (.goto (-37), 3) := by decide +kernel
theorem d_MM_sent_76 : decode b_MM_sent 76 = .ok (.iload_n 2, 1) := by decide +kernel
theorem d_MM_sent_77 : decode b_MM_sent 77 = .ok (.ireturn, 1) := by decide +kernel
theorem d_MM_forged_0 : decode b_MM_forged 0 = .ok (.iload_n 1, 1) := by decide +kernel
theorem d_MM_forged_1 : decode b_MM_forged 1 = .ok (.i2l, 1) := by decide +kernel
theorem d_MM_forged_2 : decode b_MM_forged 2 = .ok (.lconst 0, 1) := by decide +kernel
theorem d_MM_forged_3 : decode b_MM_forged 3 = .ok (.lconst 1, 1) := by decide +kernel
theorem d_MM_forged_4 : decode b_MM_forged 4 = .ok (.invokestatic 108, 3) := by decide +kernel
theorem d_MM_forged_7 : decode b_MM_forged 7 = .ok (.ifCond .ne 5, 3) := by decide +kernel
theorem d_MM_forged_10 : decode b_MM_forged 10 = .ok (.iconst (-1), 1) := by decide +kernel
theorem d_MM_forged_11 : decode b_MM_forged 11 = .ok (.ireturn, 1) := by decide +kernel
theorem d_MM_forged_12 : decode b_MM_forged 12 = .ok (.aload_n 0, 1) := by decide +kernel
theorem d_MM_forged_13 : decode b_MM_forged 13 = .ok (.invokevirtual 321, 3) := by decide +kernel
theorem d_MM_forged_16 : decode b_MM_forged 16 = .ok (.iload_n 1, 1) := by decide +kernel
theorem d_MM_forged_17 : decode b_MM_forged 17 = .ok (.ifCond .ne 10, 3) := by decide +kernel
theorem d_MM_forged_20 : decode b_MM_forged 20 = .ok (.aload_n 0, 1) := by decide +kernel
theorem d_MM_forged_21 : decode b_MM_forged 21 = .ok (.getfield 294, 3) := by decide +kernel
theorem d_MM_forged_24 : decode b_MM_forged 24 = .ok (.goto 7, 3) := by decide +kernel
theorem d_MM_forged_27 : decode b_MM_forged 27 = .ok (.aload_n 0, 1) := by decide +kernel
theorem d_MM_forged_28 : decode b_MM_forged 28 = .ok (.getfield 297, 3) := by decide +kernel
theorem d_MM_forged_31 : decode b_MM_forged 31 = .ok (.ireturn, 1) := by decide +kernel
theorem d_MM_known_0 : decode b_MM_known 0 = .ok (.aload_n 0, 1) := by decide +kernel
theorem d_MM_known_1 : decode b_MM_known 1 = .ok (.iload_n 1, 1) := by decide +kernel
theorem d_MM_known_2 : decode b_MM_known 2 = .ok (.invokevirtual 197, 3) := by decide +kernel
theorem d_MM_known_5 : decode b_MM_known 5 = .ok (.ifCond .eq 15, 3) := by decide +kernel
theorem d_MM_known_8 : decode b_MM_known 8 = .ok (.iload_n 2, 1) := by decide +kernel
theorem d_MM_known_9 : decode b_MM_known 9 = .ok (.i2l, 1) := by decide +kernel
theorem d_MM_known_10 : decode b_MM_known 10 = .ok (.lconst 0, 1) := by decide +kernel
theorem d_MM_known_11 : decode b_MM_known 11 = .ok (.ldc2_w 212, 3) := by decide +kernel
theorem d_MM_known_14 : decode b_MM_known 14 = .ok (.invokestatic 108, 3) := by decide +kernel
theorem d_MM_known_17 : decode b_MM_known 17 = .ok (.ifCond .ne 5, 3) := by decide +kernel
theorem d_MM_known_20 : decode b_MM_known 20 = .ok (.iconst (-1), 1) := by decide +kernel
theorem d_MM_known_21 : decode b_MM_known 21 = .ok (.ireturn, 1) := by decide +kernel
theorem d_MM_known_22 : decode b_MM_known 22 = .ok (.aload_n 0, 1) := by decide +kernel
theorem d_MM_known_23 : decode b_MM_known 23 = .ok (.invokevirtual 321, 3) := by decide +kernel
theorem d_MM_known_26 : decode b_MM_known 26 = .ok (.aload_n 0, 1) := by decide +kernel
theorem d_MM_known_27 : decode b_MM_known 27 = .ok (.getfield 66, 3) := by decide +kernel
theorem d_MM_known_30 : decode b_MM_known 30 = .ok (.iload_n 1, 1) := by decide +kernel
theorem d_MM_known_31 : decode b_MM_known 31 = .ok (.iload_n 2, 1) := by decide +kernel
theorem d_MM_known_32 : decode b_MM_known 32 = .ok (.invokestatic 276, 3) := by decide +kernel
theorem d_MM_known_35 : decode b_MM_known 35 = .ok (.iaload, 1) := by decide +kernel
theorem d_MM_known_36 : decode b_MM_known 36 = .ok (.sipush 1000, 3) := by decide +kernel
theorem d_MM_known_39 : decode b_MM_known 39 = .ok (.if_icmp .ne 8, 3) := by decide +kernel
theorem d_MM_known_42 : decode b_MM_known 42 = .ok (.bipush (-2), 2) := by decide +kernel
theorem d_MM_known_44 : decode b_MM_known 44 = .ok (.goto 13, 3) := by decide +kernel
theorem d_MM_known_47 : decode b_MM_known 47 = .ok (.aload_n 0, 1) := by decide +kernel
theorem d_MM_known_48 : decode b_MM_known 48 = .ok (.getfield 66, 3) := by decide +kernel
theorem d_MM_known_51 : decode b_MM_known 51 = .ok (.iload_n 1, 1) := by decide +kernel
theorem d_MM_known_52 : decode b_MM_known 52 = .ok (.iload_n 2, 1) := by decide +kernel
theorem d_MM_known_53 : decode b_MM_known 53 = .ok (.invokestatic 276, 3) := by decide +kernel
theorem d_MM_known_56 : decode b_MM_known 56 = .ok (.iaload, 1) := by decide +kernel
theorem d_MM_known_57 : decode b_MM_known 57 = .ok (.ireturn, 1) := by decide +kernel
theorem d_MM_soundSet_0 : decode b_MM_soundSet 0 = .ok (.iconst 0, 1) := by decide +kernel
theorem d_MM_soundSet_1 : decode b_MM_soundSet 1 = .ok (.istore_n 1, 1) := by decide +kernel
theorem d_MM_soundSet_2 : decode b_MM_soundSet 2 = .ok (.iconst 0, 1) := by decide +kernel
theorem d_MM_soundSet_3 : decode b_MM_soundSet 3 = .ok (.istore_n 2, 1) := by decide +kernel
theorem d_MM_soundSet_4 : decode b_MM_soundSet 4 = .ok (.iload_n 2, 1) := by decide +kernel
theorem d_MM_soundSet_5 : decode b_MM_soundSet 5 = .ok (.aload_n 0, 1) := by decide +kernel
theorem d_MM_soundSet_6 : decode b_MM_soundSet 6 = .ok (.getfield 9, 3) := by decide +kernel
theorem d_MM_soundSet_9 : decode b_MM_soundSet 9 = .ok (.iconst 0, 1) := by decide +kernel
theorem d_MM_soundSet_10 : decode b_MM_soundSet 10 = .ok (.iaload, 1) := by decide +kernel
theorem d_MM_soundSet_11 : decode b_MM_soundSet 11 = .ok (.if_icmp .ge 27, 3) := by decide +kernel
theorem d_MM_soundSet_14 : decode b_MM_soundSet 14 = .ok (.iload_n 1, 1) := by decide +kernel
theorem d_MM_soundSet_15 : decode b_MM_soundSet 15 = .ok (.aload_n 0, 1) := by decide +kernel
theorem d_MM_soundSet_16 : decode b_MM_soundSet 16 = .ok (.iload_n 2, 1) := by decide +kernel
theorem d_MM_soundSet_17 : decode b_MM_soundSet 17 = .ok (.invokevirtual 205, 3) := by decide +kernel
theorem d_MM_soundSet_20 : decode b_MM_soundSet 20 = .ok (.ifCond .eq 7, 3) := by decide +kernel
theorem d_MM_soundSet_23 : decode b_MM_soundSet 23 = .ok (.iconst 0, 1) := by decide +kernel
theorem d_MM_soundSet_24 : decode b_MM_soundSet 24 = .ok (.goto 6, 3) := by decide +kernel
theorem d_MM_soundSet_27 : decode b_MM_soundSet 27 = .ok (.iconst 1, 1) := by decide +kernel
theorem d_MM_soundSet_28 : decode b_MM_soundSet 28 = .ok (.iload_n 2, 1) := by decide +kernel
theorem d_MM_soundSet_29 : decode b_MM_soundSet 29 = .ok (.ishl, 1) := by decide +kernel
theorem d_MM_soundSet_30 : decode b_MM_soundSet 30 = .ok (.ior, 1) := by decide +kernel
theorem d_MM_soundSet_31 : decode b_MM_soundSet 31 = .ok (.istore_n 1, 1) := by decide +kernel
theorem d_MM_soundSet_32 : decode b_MM_soundSet 32 = .ok (.iinc 2 1, 3) := by decide +kernel
theorem d_MM_soundSet_35 : decode b_MM_soundSet 35 = .ok (.goto (-31), 3) := by decide +kernel
theorem d_MM_soundSet_38 : decode b_MM_soundSet 38 = .ok (.iconst 1, 1) := by decide +kernel
theorem d_MM_soundSet_39 : decode b_MM_soundSet 39 = .ok (.istore_n 2, 1) := by decide +kernel
theorem d_MM_soundSet_40 : decode b_MM_soundSet 40 = .ok (.iload_n 2, 1) := by decide +kernel
theorem d_MM_soundSet_41 : decode b_MM_soundSet 41 = .ok (.iconst 3, 1) := by decide +kernel
theorem d_MM_soundSet_42 : decode b_MM_soundSet 42 = .ok (.if_icmp .ge 73, 3) := by decide +kernel
theorem d_MM_soundSet_45 : decode b_MM_soundSet 45 = .ok (.iconst 0, 1) := by decide +kernel
theorem d_MM_soundSet_46 : decode b_MM_soundSet 46 = .ok (.istore_n 3, 1) := by decide +kernel
theorem d_MM_soundSet_47 : decode b_MM_soundSet 47 = .ok (.iload_n 3, 1) := by decide +kernel
theorem d_MM_soundSet_48 : decode b_MM_soundSet 48 = .ok (.aload_n 0, 1) := by decide +kernel
theorem d_MM_soundSet_49 : decode b_MM_soundSet 49 = .ok (.getfield 9, 3) := by decide +kernel
theorem d_MM_soundSet_52 : decode b_MM_soundSet 52 = .ok (.bipush 7, 2) := by decide +kernel
theorem d_MM_soundSet_54 : decode b_MM_soundSet 54 = .ok (.iload_n 2, 1) := by decide +kernel
theorem d_MM_soundSet_55 : decode b_MM_soundSet 55 = .ok (.iadd, 1) := by decide +kernel
theorem d_MM_soundSet_56 : decode b_MM_soundSet 56 = .ok (.iaload, 1) := by decide +kernel
theorem d_MM_soundSet_57 : decode b_MM_soundSet 57 = .ok (.if_icmp .ge 52, 3) := by decide +kernel
theorem d_MM_soundSet_60 : decode b_MM_soundSet 60 = .ok (.iload_n 2, 1) := by decide +kernel
theorem d_MM_soundSet_61 : decode b_MM_soundSet 61 = .ok (.invokestatic 234, 3) := by decide +kernel
theorem d_MM_soundSet_64 : decode b_MM_soundSet 64 = .ok (.iload_n 2, 1) := by decide +kernel
theorem d_MM_soundSet_65 : decode b_MM_soundSet 65 = .ok (.invokestatic 231, 3) := by decide +kernel
theorem d_MM_soundSet_68 : decode b_MM_soundSet 68 = .ok (.iload_n 3, 1) := by decide +kernel
theorem d_MM_soundSet_69 : decode b_MM_soundSet 69 = .ok (.imul, 1) := by decide +kernel
theorem d_MM_soundSet_70 : decode b_MM_soundSet 70 = .ok (.iadd, 1) := by decide +kernel
theorem d_MM_soundSet_71 : decode b_MM_soundSet 71 = .ok (.istore 4, 2) := by decide +kernel
theorem d_MM_soundSet_73 : decode b_MM_soundSet 73 = .ok (.iload_n 1, 1) := by decide +kernel
theorem d_MM_soundSet_74 : decode b_MM_soundSet 74 = .ok (.iconst 1, 1) := by decide +kernel
theorem d_MM_soundSet_75 : decode b_MM_soundSet 75 = .ok (.aload_n 0, 1) := by decide +kernel
theorem d_MM_soundSet_76 : decode b_MM_soundSet 76 = .ok (.getfield 9, 3) := by decide +kernel
theorem d_MM_soundSet_79 : decode b_MM_soundSet 79 = .ok (.iload 4, 2) := by decide +kernel
theorem d_MM_soundSet_81 : decode b_MM_soundSet 81 = .ok (.iconst 1, 1) := by decide +kernel
theorem d_MM_soundSet_82 : decode b_MM_soundSet 82 = .ok (.iadd, 1) := by decide +kernel
theorem d_MM_soundSet_83 : decode b_MM_soundSet 83 = .ok (.iaload, 1) := by decide +kernel
theorem d_MM_soundSet_84 : decode b_MM_soundSet 84 = .ok (.ishl, 1) := by decide +kernel
theorem d_MM_soundSet_85 : decode b_MM_soundSet 85 = .ok (.iconst (-1), 1) := by decide +kernel
theorem d_MM_soundSet_86 : decode b_MM_soundSet 86 = .ok (.ixor, 1) := by decide +kernel
theorem d_MM_soundSet_87 : decode b_MM_soundSet 87 = .ok (.iconst 1, 1) := by decide +kernel
theorem d_MM_soundSet_88 : decode b_MM_soundSet 88 = .ok (.aload_n 0, 1) := by decide +kernel
theorem d_MM_soundSet_89 : decode b_MM_soundSet 89 = .ok (.getfield 9, 3) := by decide +kernel
theorem d_MM_soundSet_92 : decode b_MM_soundSet 92 = .ok (.iload 4, 2) := by decide +kernel
theorem d_MM_soundSet_94 : decode b_MM_soundSet 94 = .ok (.iconst 2, 1) := by decide +kernel
theorem d_MM_soundSet_95 : decode b_MM_soundSet 95 = .ok (.iadd, 1) := by decide +kernel
theorem d_MM_soundSet_96 : decode b_MM_soundSet 96 = .ok (.iaload, 1) := by decide +kernel
theorem d_MM_soundSet_97 : decode b_MM_soundSet 97 = .ok (.ishl, 1) := by decide +kernel
theorem d_MM_soundSet_98 : decode b_MM_soundSet 98 = .ok (.iconst (-1), 1) := by decide +kernel
theorem d_MM_soundSet_99 : decode b_MM_soundSet 99 = .ok (.ixor, 1) := by decide +kernel
theorem d_MM_soundSet_100 : decode b_MM_soundSet 100 = .ok (.iand, 1) := by decide +kernel
theorem d_MM_soundSet_101 : decode b_MM_soundSet 101 = .ok (.iand, 1) := by decide +kernel
theorem d_MM_soundSet_102 : decode b_MM_soundSet 102 = .ok (.istore_n 1, 1) := by decide +kernel
theorem d_MM_soundSet_103 : decode b_MM_soundSet 103 = .ok (.iinc 3 1, 3) := by decide +kernel
theorem d_MM_soundSet_106 : decode b_MM_soundSet 106 = .ok (.goto (-59), 3) := by decide +kernel
theorem d_MM_soundSet_109 : decode b_MM_soundSet 109 = .ok (.iinc 2 1, 3) := by decide +kernel
theorem d_MM_soundSet_112 : decode b_MM_soundSet 112 = .ok (.goto (-72), 3) := by decide +kernel
theorem d_MM_soundSet_115 : decode b_MM_soundSet 115 = .ok (.iload_n 1, 1) := by decide +kernel
theorem d_MM_soundSet_116 : decode b_MM_soundSet 116 = .ok (.ireturn, 1) := by decide +kernel
theorem d_MM_decideAlike_0 : decode b_MM_decideAlike 0 = .ok (.iconst (-1), 1) := by decide +kernel
theorem d_MM_decideAlike_1 : decode b_MM_decideAlike 1 = .ok (.istore_n 2, 1) := by decide +kernel
theorem d_MM_decideAlike_2 : decode b_MM_decideAlike 2 = .ok (.iconst 0, 1) := by decide +kernel
theorem d_MM_decideAlike_3 : decode b_MM_decideAlike 3 = .ok (.istore_n 3, 1) := by decide +kernel
theorem d_MM_decideAlike_4 : decode b_MM_decideAlike 4 = .ok (.iload_n 3, 1) := by decide +kernel
theorem d_MM_decideAlike_5 : decode b_MM_decideAlike 5 = .ok (.aload_n 0, 1) := by decide +kernel
theorem d_MM_decideAlike_6 : decode b_MM_decideAlike 6 = .ok (.getfield 9, 3) := by decide +kernel
theorem d_MM_decideAlike_9 : decode b_MM_decideAlike 9 = .ok (.iconst 0, 1) := by decide +kernel
theorem d_MM_decideAlike_10 : decode b_MM_decideAlike 10 = .ok (.iaload, 1) := by decide +kernel
theorem d_MM_decideAlike_11 : decode b_MM_decideAlike 11 = .ok (.if_icmp .ge 42, 3) := by decide +kernel
theorem d_MM_decideAlike_14 : decode b_MM_decideAlike 14 = .ok (.iload_n 1, 1) := by decide +kernel
theorem d_MM_decideAlike_15 : decode b_MM_decideAlike 15 = .ok (.iload_n 3, 1) := by decide +kernel
theorem d_MM_decideAlike_16 : decode b_MM_decideAlike 16 = .ok (.invokestatic 201, 3) := by decide +kernel
theorem d_MM_decideAlike_19 : decode b_MM_decideAlike 19 = .ok (.ifCond .ne 6, 3) := by decide +kernel
theorem d_MM_decideAlike_22 : decode b_MM_decideAlike 22 = .ok (.goto 25, 3) := by decide +kernel
theorem d_MM_decideAlike_25 : decode b_MM_decideAlike 25 = .ok (.iload_n 2, 1) := by decide +kernel
theorem d_MM_decideAlike_26 : decode b_MM_decideAlike 26 = .ok (.iconst (-1), 1) := by decide +kernel
theorem d_MM_decideAlike_27 : decode b_MM_decideAlike 27 = .ok (.if_icmp .eq 14, 3) := by decide +kernel
theorem d_MM_decideAlike_30 : decode b_MM_decideAlike 30 = .ok (.aload_n 0, 1) := by decide +kernel
theorem d_MM_decideAlike_31 : decode b_MM_decideAlike 31 = .ok (.iload_n 3, 1) := by decide +kernel
theorem d_MM_decideAlike_32 : decode b_MM_decideAlike 32 = .ok (.invokevirtual 318, 3) := by decide +kernel
theorem d_MM_decideAlike_35 : decode b_MM_decideAlike 35 = .ok (.iload_n 2, 1) := by decide +kernel
theorem d_MM_decideAlike_36 : decode b_MM_decideAlike 36 = .ok (.if_icmp .eq 5, 3) := by decide +kernel
theorem d_MM_decideAlike_39 : decode b_MM_decideAlike 39 = .ok (.iconst 0, 1) := by decide +kernel
theorem d_MM_decideAlike_40 : decode b_MM_decideAlike 40 = .ok (.ireturn, 1) := by decide +kernel
theorem d_MM_decideAlike_41 : decode b_MM_decideAlike 41 = .ok (.aload_n 0, 1) := by decide +kernel
theorem d_MM_decideAlike_42 : decode b_MM_decideAlike 42 = .ok (.iload_n 3, 1) := by decide +kernel
theorem d_MM_decideAlike_43 : decode b_MM_decideAlike 43 = .ok (.invokevirtual 318, 3) := by decide +kernel
theorem d_MM_decideAlike_46 : decode b_MM_decideAlike 46 = .ok (.istore_n 2, 1) := by decide +kernel
theorem d_MM_decideAlike_47 : decode b_MM_decideAlike 47 = .ok (.iinc 3 1, 3) := by decide +kernel
theorem d_MM_decideAlike_50 : decode b_MM_decideAlike 50 = .ok (.goto (-46), 3) := by decide +kernel
theorem d_MM_decideAlike_53 : decode b_MM_decideAlike 53 = .ok (.iconst 1, 1) := by decide +kernel
theorem d_MM_decideAlike_54 : decode b_MM_decideAlike 54 = .ok (.ireturn, 1) := by decide +kernel
theorem d_MM_alike_0 : decode b_MM_alike 0 = .ok (.aload_n 0, 1) := by decide +kernel
theorem d_MM_alike_1 : decode b_MM_alike 1 = .ok (.invokevirtual 321, 3) := by decide +kernel
theorem d_MM_alike_4 : decode b_MM_alike 4 = .ok (.aload_n 0, 1) := by decide +kernel
theorem d_MM_alike_5 : decode b_MM_alike 5 = .ok (.aload_n 0, 1) := by decide +kernel
theorem d_MM_alike_6 : decode b_MM_alike 6 = .ok (.invokevirtual 332, 3) := by decide +kernel
theorem d_MM_alike_9 : decode b_MM_alike 9 = .ok (.invokevirtual 335, 3) := by decide +kernel
theorem d_MM_alike_12 : decode b_MM_alike 12 = .ok (.invokestatic 150, 3) := by decide +kernel
theorem d_MM_alike_15 : decode b_MM_alike 15 = .ok (.ireturn, 1) := by decide +kernel
theorem d_MM_valid_0 : decode b_MM_valid 0 = .ok (.aload_n 0, 1) := by decide +kernel
theorem d_MM_valid_1 : decode b_MM_valid 1 = .ok (.invokevirtual 321, 3) := by decide +kernel
theorem d_MM_valid_4 : decode b_MM_valid 4 = .ok (.aload_n 0, 1) := by decide +kernel
theorem d_MM_valid_5 : decode b_MM_valid 5 = .ok (.invokevirtual 332, 3) := by decide +kernel
theorem d_MM_valid_8 : decode b_MM_valid 8 = .ok (.istore_n 1, 1) := by decide +kernel
theorem d_MM_valid_9 : decode b_MM_valid 9 = .ok (.aload_n 0, 1) := by decide +kernel
theorem d_MM_valid_10 : decode b_MM_valid 10 = .ok (.getfield 9, 3) := by decide +kernel
theorem d_MM_valid_13 : decode b_MM_valid 13 = .ok (.iconst 0, 1) := by decide +kernel
theorem d_MM_valid_14 : decode b_MM_valid 14 = .ok (.iaload, 1) := by decide +kernel
theorem d_MM_valid_15 : decode b_MM_valid 15 = .ok (.ifCond .eq 16, 3) := by decide +kernel
theorem d_MM_valid_18 : decode b_MM_valid 18 = .ok (.iload_n 1, 1) := by decide +kernel
theorem d_MM_valid_19 : decode b_MM_valid 19 = .ok (.aload_n 0, 1) := by decide +kernel
theorem d_MM_valid_20 : decode b_MM_valid 20 = .ok (.getfield 9, 3) := by decide +kernel
theorem d_MM_valid_23 : decode b_MM_valid 23 = .ok (.iconst 1, 1) := by decide +kernel
theorem d_MM_valid_24 : decode b_MM_valid 24 = .ok (.iaload, 1) := by decide +kernel
theorem d_MM_valid_25 : decode b_MM_valid 25 = .ok (.invokestatic 201, 3) := by decide +kernel
theorem d_MM_valid_28 : decode b_MM_valid 28 = .ok (.ifCond .ne 5, 3) := by decide +kernel
theorem d_MM_valid_31 : decode b_MM_valid 31 = .ok (.iconst 1, 1) := by decide +kernel
theorem d_MM_valid_32 : decode b_MM_valid 32 = .ok (.ireturn, 1) := by decide +kernel
theorem d_MM_valid_33 : decode b_MM_valid 33 = .ok (.iconst 0, 1) := by decide +kernel
theorem d_MM_valid_34 : decode b_MM_valid 34 = .ok (.istore_n 2, 1) := by decide +kernel
theorem d_MM_valid_35 : decode b_MM_valid 35 = .ok (.iload_n 2, 1) := by decide +kernel
theorem d_MM_valid_36 : decode b_MM_valid 36 = .ok (.aload_n 0, 1) := by decide +kernel
theorem d_MM_valid_37 : decode b_MM_valid 37 = .ok (.getfield 9, 3) := by decide +kernel
theorem d_MM_valid_40 : decode b_MM_valid 40 = .ok (.iconst 0, 1) := by decide +kernel
theorem d_MM_valid_41 : decode b_MM_valid 41 = .ok (.iaload, 1) := by decide +kernel
theorem d_MM_valid_42 : decode b_MM_valid 42 = .ok (.if_icmp .ge 33, 3) := by decide +kernel
theorem d_MM_valid_45 : decode b_MM_valid 45 = .ok (.iload_n 1, 1) := by decide +kernel
theorem d_MM_valid_46 : decode b_MM_valid 46 = .ok (.iload_n 2, 1) := by decide +kernel
theorem d_MM_valid_47 : decode b_MM_valid 47 = .ok (.invokestatic 201, 3) := by decide +kernel
theorem d_MM_valid_50 : decode b_MM_valid 50 = .ok (.ifCond .eq 19, 3) := by decide +kernel
theorem d_MM_valid_53 : decode b_MM_valid 53 = .ok (.aload_n 0, 1) := by decide +kernel
theorem d_MM_valid_54 : decode b_MM_valid 54 = .ok (.iload_n 2, 1) := by decide +kernel
theorem d_MM_valid_55 : decode b_MM_valid 55 = .ok (.invokevirtual 318, 3) := by decide +kernel
theorem d_MM_valid_58 : decode b_MM_valid 58 = .ok (.aload_n 0, 1) := by decide +kernel
theorem d_MM_valid_59 : decode b_MM_valid 59 = .ok (.getfield 9, 3) := by decide +kernel
theorem d_MM_valid_62 : decode b_MM_valid 62 = .ok (.iconst 2, 1) := by decide +kernel
theorem d_MM_valid_63 : decode b_MM_valid 63 = .ok (.iaload, 1) := by decide +kernel
theorem d_MM_valid_64 : decode b_MM_valid 64 = .ok (.if_icmp .eq 5, 3) := by decide +kernel
theorem d_MM_valid_67 : decode b_MM_valid 67 = .ok (.iconst 0, 1) := by decide +kernel
theorem d_MM_valid_68 : decode b_MM_valid 68 = .ok (.ireturn, 1) := by decide +kernel
theorem d_MM_valid_69 : decode b_MM_valid 69 = .ok (.iinc 2 1, 3) := by decide +kernel
theorem d_MM_valid_72 : decode b_MM_valid 72 = .ok (.goto (-37), 3) := by decide +kernel
theorem d_MM_valid_75 : decode b_MM_valid 75 = .ok (.iconst 1, 1) := by decide +kernel
theorem d_MM_valid_76 : decode b_MM_valid 76 = .ok (.ireturn, 1) := by decide +kernel
theorem d_MM_sound_0 : decode b_MM_sound 0 = .ok (.aload_n 0, 1) := by decide +kernel
theorem d_MM_sound_1 : decode b_MM_sound 1 = .ok (.invokevirtual 332, 3) := by decide +kernel
theorem d_MM_sound_4 : decode b_MM_sound 4 = .ok (.ireturn, 1) := by decide +kernel
theorem d_MM_leaves_0 : decode b_MM_leaves 0 = .ok (.bipush 6, 2) := by decide +kernel
theorem d_MM_leaves_2 : decode b_MM_leaves 2 = .ok (.aload_n 0, 1) := by decide +kernel
theorem d_MM_leaves_3 : decode b_MM_leaves 3 = .ok (.getfield 9, 3) := by decide +kernel
theorem d_MM_leaves_6 : decode b_MM_leaves 6 = .ok (.bipush 7, 2) := by decide +kernel
theorem d_MM_leaves_8 : decode b_MM_leaves 8 = .ok (.iaload, 1) := by decide +kernel
theorem d_MM_leaves_9 : decode b_MM_leaves 9 = .ok (.invokestatic 135, 3) := by decide +kernel
theorem d_MM_leaves_12 : decode b_MM_leaves 12 = .ok (.iconst 1, 1) := by decide +kernel
theorem d_MM_leaves_13 : decode b_MM_leaves 13 = .ok (.isub, 1) := by decide +kernel
theorem d_MM_leaves_14 : decode b_MM_leaves 14 = .ok (.istore_n 2, 1) := by decide +kernel
theorem d_MM_leaves_15 : decode b_MM_leaves 15 = .ok (.iload_n 2, 1) := by decide +kernel
theorem d_MM_leaves_16 : decode b_MM_leaves 16 = .ok (.ifCond .lt 23, 3) := by decide +kernel
theorem d_MM_leaves_19 : decode b_MM_leaves 19 = .ok (.iload_n 1, 1) := by decide +kernel
theorem d_MM_leaves_20 : decode b_MM_leaves 20 = .ok (.iload_n 2, 1) := by decide +kernel
theorem d_MM_leaves_21 : decode b_MM_leaves 21 = .ok (.invokestatic 201, 3) := by decide +kernel
theorem d_MM_leaves_24 : decode b_MM_leaves 24 = .ok (.ifCond .ne 9, 3) := by decide +kernel
theorem d_MM_leaves_27 : decode b_MM_leaves 27 = .ok (.aload_n 0, 1) := by decide +kernel
theorem d_MM_leaves_28 : decode b_MM_leaves 28 = .ok (.iconst 0, 1) := by decide +kernel
theorem d_MM_leaves_29 : decode b_MM_leaves 29 = .ok (.iload_n 2, 1) := by decide +kernel
theorem d_MM_leaves_30 : decode b_MM_leaves 30 = .ok (.invokevirtual 239, 3) := by decide +kernel
theorem d_MM_leaves_33 : decode b_MM_leaves 33 = .ok (.iinc 2 (-1), 3) := by decide +kernel
theorem d_MM_leaves_36 : decode b_MM_leaves 36 = .ok (.goto (-21), 3) := by decide +kernel
theorem d_MM_leaves_39 : decode b_MM_leaves 39 = .ok (.return_, 1) := by decide +kernel
theorem d_MM_parted_0 : decode b_MM_parted 0 = .ok (.aload_n 0, 1) := by decide +kernel
theorem d_MM_parted_1 : decode b_MM_parted 1 = .ok (.getfield 9, 3) := by decide +kernel
theorem d_MM_parted_4 : decode b_MM_parted 4 = .ok (.iconst 0, 1) := by decide +kernel
theorem d_MM_parted_5 : decode b_MM_parted 5 = .ok (.iaload, 1) := by decide +kernel
theorem d_MM_parted_6 : decode b_MM_parted 6 = .ok (.ifCond .ne 5, 3) := by decide +kernel
theorem d_MM_parted_9 : decode b_MM_parted 9 = .ok (.iconst (-1), 1) := by decide +kernel
theorem d_MM_parted_10 : decode b_MM_parted 10 = .ok (.ireturn, 1) := by decide +kernel
theorem d_MM_parted_11 : decode b_MM_parted 11 = .ok (.aload_n 0, 1) := by decide +kernel
theorem d_MM_parted_12 : decode b_MM_parted 12 = .ok (.getfield 9, 3) := by decide +kernel
theorem d_MM_parted_15 : decode b_MM_parted 15 = .ok (.iconst 0, 1) := by decide +kernel
theorem d_MM_parted_16 : decode b_MM_parted 16 = .ok (.aload_n 0, 1) := by decide +kernel
theorem d_MM_parted_17 : decode b_MM_parted 17 = .ok (.getfield 16, 3) := by decide +kernel
theorem d_MM_parted_20 : decode b_MM_parted 20 = .ok (.iconst 0, 1) := by decide +kernel
theorem d_MM_parted_21 : decode b_MM_parted 21 = .ok (.invokestatic 190, 3) := by decide +kernel
theorem d_MM_parted_24 : decode b_MM_parted 24 = .ok (.bipush (-2), 2) := by decide +kernel
theorem d_MM_parted_26 : decode b_MM_parted 26 = .ok (.istore_n 1, 1) := by decide +kernel
theorem d_MM_parted_27 : decode b_MM_parted 27 = .ok (.iconst 1, 1) := by decide +kernel
theorem d_MM_parted_28 : decode b_MM_parted 28 = .ok (.bipush 6, 2) := by decide +kernel
theorem d_MM_parted_30 : decode b_MM_parted 30 = .ok (.aload_n 0, 1) := by decide +kernel
theorem d_MM_parted_31 : decode b_MM_parted 31 = .ok (.getfield 9, 3) := by decide +kernel
theorem d_MM_parted_34 : decode b_MM_parted 34 = .ok (.bipush 7, 2) := by decide +kernel
theorem d_MM_parted_36 : decode b_MM_parted 36 = .ok (.iaload, 1) := by decide +kernel
theorem d_MM_parted_37 : decode b_MM_parted 37 = .ok (.invokestatic 135, 3) := by decide +kernel
theorem d_MM_parted_40 : decode b_MM_parted 40 = .ok (.ishl, 1) := by decide +kernel
theorem d_MM_parted_41 : decode b_MM_parted 41 = .ok (.iconst 1, 1) := by decide +kernel
theorem d_MM_parted_42 : decode b_MM_parted 42 = .ok (.isub, 1) := by decide +kernel
theorem d_MM_parted_43 : decode b_MM_parted 43 = .ok (.istore_n 2, 1) := by decide +kernel
theorem d_MM_parted_44 : decode b_MM_parted 44 = .ok (.iconst 0, 1) := by decide +kernel
theorem d_MM_parted_45 : decode b_MM_parted 45 = .ok (.istore_n 3, 1) := by decide +kernel
theorem d_MM_parted_46 : decode b_MM_parted 46 = .ok (.iload_n 3, 1) := by decide +kernel
theorem d_MM_parted_47 : decode b_MM_parted 47 = .ok (.iload_n 2, 1) := by decide +kernel
theorem d_MM_parted_48 : decode b_MM_parted 48 = .ok (.if_icmp .gt 68, 3) := by decide +kernel
theorem d_MM_parted_51 : decode b_MM_parted 51 = .ok (.iload_n 1, 1) := by decide +kernel
theorem d_MM_parted_52 : decode b_MM_parted 52 = .ok (.bipush (-2), 2) := by decide +kernel
theorem d_MM_parted_54 : decode b_MM_parted 54 = .ok (.if_icmp .eq 17, 3) := by decide +kernel
theorem d_MM_parted_57 : decode b_MM_parted 57 = .ok (.iload_n 3, 1) := by decide +kernel
theorem d_MM_parted_58 : decode b_MM_parted 58 = .ok (.invokestatic 255, 3) := by decide +kernel
theorem d_MM_parted_61 : decode b_MM_parted 61 = .ok (.iload_n 1, 1) := by decide +kernel
theorem d_MM_parted_62 : decode b_MM_parted 62 = .ok (.invokestatic 255, 3) := by decide +kernel
theorem d_MM_parted_65 : decode b_MM_parted 65 = .ok (.if_icmp .lt 6, 3) := by decide +kernel
theorem d_MM_parted_68 : decode b_MM_parted 68 = .ok (.goto 42, 3) := by decide +kernel
theorem d_MM_parted_71 : decode b_MM_parted 71 = .ok (.aload_n 0, 1) := by decide +kernel
theorem d_MM_parted_72 : decode b_MM_parted 72 = .ok (.iload_n 3, 1) := by decide +kernel
theorem d_MM_parted_73 : decode b_MM_parted 73 = .ok (.invokevirtual 338, 3) := by decide +kernel
theorem d_MM_parted_76 : decode b_MM_parted 76 = .ok (.aload_n 0, 1) := by decide +kernel
theorem d_MM_parted_77 : decode b_MM_parted 77 = .ok (.invokevirtual 321, 3) := by decide +kernel
theorem d_MM_parted_80 : decode b_MM_parted 80 = .ok (.aload_n 0, 1) := by decide +kernel
theorem d_MM_parted_81 : decode b_MM_parted 81 = .ok (.aload_n 0, 1) := by decide +kernel
theorem d_MM_parted_82 : decode b_MM_parted 82 = .ok (.invokevirtual 332, 3) := by decide +kernel
theorem d_MM_parted_85 : decode b_MM_parted 85 = .ok (.invokevirtual 335, 3) := by decide +kernel
theorem d_MM_parted_88 : decode b_MM_parted 88 = .ok (.ifCond .eq 7, 3) := by decide +kernel
theorem d_MM_parted_91 : decode b_MM_parted 91 = .ok (.iload_n 1, 1) := by decide +kernel
theorem d_MM_parted_92 : decode b_MM_parted 92 = .ok (.goto 4, 3) := by decide +kernel
theorem d_MM_parted_95 : decode b_MM_parted 95 = .ok (.iload_n 3, 1) := by decide +kernel
theorem d_MM_parted_96 : decode b_MM_parted 96 = .ok (.istore_n 1, 1) := by decide +kernel
theorem d_MM_parted_97 : decode b_MM_parted 97 = .ok (.aload_n 0, 1) := by decide +kernel
theorem d_MM_parted_98 : decode b_MM_parted 98 = .ok (.getfield 16, 3) := by decide +kernel
theorem d_MM_parted_101 : decode b_MM_parted 101 = .ok (.iconst 0, 1) := by decide +kernel
theorem d_MM_parted_102 : decode b_MM_parted 102 = .ok (.aload_n 0, 1) := by decide +kernel
theorem d_MM_parted_103 : decode b_MM_parted 103 = .ok (.getfield 9, 3) := by decide +kernel
theorem d_MM_parted_106 : decode b_MM_parted 106 = .ok (.iconst 0, 1) := by decide +kernel
theorem d_MM_parted_107 : decode b_MM_parted 107 = .ok (.invokestatic 190, 3) := by decide +kernel
theorem d_MM_parted_110 : decode b_MM_parted 110 = .ok (.iinc 3 1, 3) := by decide +kernel
theorem d_MM_parted_113 : decode b_MM_parted 113 = .ok (.goto (-67), 3) := by decide +kernel
theorem d_MM_parted_116 : decode b_MM_parted 116 = .ok (.iload_n 1, 1) := by decide +kernel
theorem d_MM_parted_117 : decode b_MM_parted 117 = .ok (.ireturn, 1) := by decide +kernel
theorem d_MM_marksDecisions_0 : decode b_MM_marksDecisions 0 = .ok (.aload_n 0, 1) := by decide +kernel
theorem d_MM_marksDecisions_1 : decode b_MM_marksDecisions 1 = .ok (.invokevirtual 321, 3) := by decide +kernel
theorem d_MM_marksDecisions_4 : decode b_MM_marksDecisions 4 = .ok (.iconst 0, 1) := by decide +kernel
theorem d_MM_marksDecisions_5 : decode b_MM_marksDecisions 5 = .ok (.istore_n 1, 1) := by decide +kernel
theorem d_MM_marksDecisions_6 : decode b_MM_marksDecisions 6 = .ok (.iload_n 1, 1) := by decide +kernel
theorem d_MM_marksDecisions_7 : decode b_MM_marksDecisions 7 = .ok (.aload_n 0, 1) := by decide +kernel
theorem d_MM_marksDecisions_8 : decode b_MM_marksDecisions 8 = .ok (.getfield 9, 3) := by decide +kernel
theorem d_MM_marksDecisions_11 : decode b_MM_marksDecisions 11 = .ok (.iconst 0, 1) := by decide +kernel
theorem d_MM_marksDecisions_12 : decode b_MM_marksDecisions 12 = .ok (.iaload, 1) := by decide +kernel
theorem d_MM_marksDecisions_13 : decode b_MM_marksDecisions 13 = .ok (.if_icmp .ge 20, 3) := by decide +kernel
theorem d_MM_marksDecisions_16 : decode b_MM_marksDecisions 16 = .ok (.aload_n 0, 1) := by decide +kernel
theorem d_MM_marksDecisions_17 : decode b_MM_marksDecisions 17 = .ok (.getfield 69, 3) := by decide +kernel
theorem d_MM_marksDecisions_20 : decode b_MM_marksDecisions 20 = .ok (.iload_n 1, 1) := by decide +kernel
theorem d_MM_marksDecisions_21 : decode b_MM_marksDecisions 21 = .ok (.aload_n 0, 1) := by decide +kernel
theorem d_MM_marksDecisions_22 : decode b_MM_marksDecisions 22 = .ok (.iload_n 1, 1) := by decide +kernel
theorem d_MM_marksDecisions_23 : decode b_MM_marksDecisions 23 = .ok (.invokevirtual 318, 3) := by decide +kernel
theorem d_MM_marksDecisions_26 : decode b_MM_marksDecisions 26 = .ok (.iastore, 1) := by decide +kernel
theorem d_MM_marksDecisions_27 : decode b_MM_marksDecisions 27 = .ok (.iinc 1 1, 3) := by decide +kernel
theorem d_MM_marksDecisions_30 : decode b_MM_marksDecisions 30 = .ok (.goto (-24), 3) := by decide +kernel
theorem d_MM_marksDecisions_33 : decode b_MM_marksDecisions 33 = .ok (.aload_n 0, 1) := by decide +kernel
theorem d_MM_marksDecisions_34 : decode b_MM_marksDecisions 34 = .ok (.getfield 9, 3) := by decide +kernel
theorem d_MM_marksDecisions_37 : decode b_MM_marksDecisions 37 = .ok (.iconst 0, 1) := by decide +kernel
theorem d_MM_marksDecisions_38 : decode b_MM_marksDecisions 38 = .ok (.aload_n 0, 1) := by decide +kernel
theorem d_MM_marksDecisions_39 : decode b_MM_marksDecisions 39 = .ok (.getfield 16, 3) := by decide +kernel
theorem d_MM_marksDecisions_42 : decode b_MM_marksDecisions 42 = .ok (.iconst 0, 1) := by decide +kernel
theorem d_MM_marksDecisions_43 : decode b_MM_marksDecisions 43 = .ok (.invokestatic 190, 3) := by decide +kernel
theorem d_MM_marksDecisions_46 : decode b_MM_marksDecisions 46 = .ok (.return_, 1) := by decide +kernel
theorem d_MM_faultsAside_0 : decode b_MM_faultsAside 0 = .ok (.aload_n 0, 1) := by decide +kernel
theorem d_MM_faultsAside_1 : decode b_MM_faultsAside 1 = .ok (.iload_n 1, 1) := by decide +kernel
theorem d_MM_faultsAside_2 : decode b_MM_faultsAside 2 = .ok (.putfield 72, 3) := by decide +kernel
theorem d_MM_faultsAside_5 : decode b_MM_faultsAside 5 = .ok (.aload_n 0, 1) := by decide +kernel
theorem d_MM_faultsAside_6 : decode b_MM_faultsAside 6 = .ok (.iload_n 2, 1) := by decide +kernel
theorem d_MM_faultsAside_7 : decode b_MM_faultsAside 7 = .ok (.putfield 267, 3) := by decide +kernel
theorem d_MM_faultsAside_10 : decode b_MM_faultsAside 10 = .ok (.aload_n 0, 1) := by decide +kernel
theorem d_MM_faultsAside_11 : decode b_MM_faultsAside 11 = .ok (.iload_n 3, 1) := by decide +kernel
theorem d_MM_faultsAside_12 : decode b_MM_faultsAside 12 = .ok (.putfield 270, 3) := by decide +kernel
theorem d_MM_faultsAside_15 : decode b_MM_faultsAside 15 = .ok (.aload_n 0, 1) := by decide +kernel
theorem d_MM_faultsAside_16 : decode b_MM_faultsAside 16 = .ok (.iload 4, 2) := by decide +kernel
theorem d_MM_faultsAside_18 : decode b_MM_faultsAside 18 = .ok (.putfield 273, 3) := by decide +kernel
theorem d_MM_faultsAside_21 : decode b_MM_faultsAside 21 = .ok (.return_, 1) := by decide +kernel
theorem d_MM_isAsItWas_0 : decode b_MM_isAsItWas 0 = .ok (.aload_n 0, 1) := by decide +kernel
theorem d_MM_isAsItWas_1 : decode b_MM_isAsItWas 1 = .ok (.invokevirtual 321, 3) := by decide +kernel
theorem d_MM_isAsItWas_4 : decode b_MM_isAsItWas 4 = .ok (.iconst 1, 1) := by decide +kernel
theorem d_MM_isAsItWas_5 : decode b_MM_isAsItWas 5 = .ok (.istore_n 1, 1) := by decide +kernel
theorem d_MM_isAsItWas_6 : decode b_MM_isAsItWas 6 = .ok (.iconst 0, 1) := by decide +kernel
theorem d_MM_isAsItWas_7 : decode b_MM_isAsItWas 7 = .ok (.istore_n 2, 1) := by decide +kernel
theorem d_MM_isAsItWas_8 : decode b_MM_isAsItWas 8 = .ok (.iload_n 2, 1) := by decide +kernel
theorem d_MM_isAsItWas_9 : decode b_MM_isAsItWas 9 = .ok (.aload_n 0, 1) := by decide +kernel
theorem d_MM_isAsItWas_10 : decode b_MM_isAsItWas 10 = .ok (.getfield 9, 3) := by decide +kernel
theorem d_MM_isAsItWas_13 : decode b_MM_isAsItWas 13 = .ok (.iconst 0, 1) := by decide +kernel
theorem d_MM_isAsItWas_14 : decode b_MM_isAsItWas 14 = .ok (.iaload, 1) := by decide +kernel
theorem d_MM_isAsItWas_15 : decode b_MM_isAsItWas 15 = .ok (.if_icmp .ge 41, 3) := by decide +kernel
theorem d_MM_isAsItWas_18 : decode b_MM_isAsItWas 18 = .ok (.iload_n 1, 1) := by decide +kernel
theorem d_MM_isAsItWas_19 : decode b_MM_isAsItWas 19 = .ok (.ifCond .eq 29, 3) := by decide +kernel
theorem d_MM_isAsItWas_22 : decode b_MM_isAsItWas 22 = .ok (.aload_n 0, 1) := by decide +kernel
theorem d_MM_isAsItWas_23 : decode b_MM_isAsItWas 23 = .ok (.iload_n 2, 1) := by decide +kernel
theorem d_MM_isAsItWas_24 : decode b_MM_isAsItWas 24 = .ok (.invokevirtual 205, 3) := by decide +kernel
theorem d_MM_isAsItWas_27 : decode b_MM_isAsItWas 27 = .ok (.ifCond .ne 17, 3) := by decide +kernel
theorem d_MM_isAsItWas_30 : decode b_MM_isAsItWas 30 = .ok (.aload_n 0, 1) := by decide +kernel
theorem d_MM_isAsItWas_31 : decode b_MM_isAsItWas 31 = .ok (.iload_n 2, 1) := by decide +kernel
theorem d_MM_isAsItWas_32 : decode b_MM_isAsItWas 32 = .ok (.invokevirtual 318, 3) := by decide +kernel
theorem d_MM_isAsItWas_35 : decode b_MM_isAsItWas 35 = .ok (.aload_n 0, 1) := by decide +kernel
theorem d_MM_isAsItWas_36 : decode b_MM_isAsItWas 36 = .ok (.getfield 69, 3) := by decide +kernel
theorem d_MM_isAsItWas_39 : decode b_MM_isAsItWas 39 = .ok (.iload_n 2, 1) := by decide +kernel
theorem d_MM_isAsItWas_40 : decode b_MM_isAsItWas 40 = .ok (.iaload, 1) := by decide +kernel
theorem d_MM_isAsItWas_41 : decode b_MM_isAsItWas 41 = .ok (.if_icmp .ne 7, 3) := by decide +kernel
theorem d_MM_isAsItWas_44 : decode b_MM_isAsItWas 44 = .ok (.iconst 1, 1) := by decide +kernel
theorem d_MM_isAsItWas_45 : decode b_MM_isAsItWas 45 = .ok (.goto 4, 3) := by decide +kernel
theorem d_MM_isAsItWas_48 : decode b_MM_isAsItWas 48 = .ok (.iconst 0, 1) := by decide +kernel
theorem d_MM_isAsItWas_49 : decode b_MM_isAsItWas 49 = .ok (.istore_n 1, 1) := by decide +kernel
theorem d_MM_isAsItWas_50 : decode b_MM_isAsItWas 50 = .ok (.iinc 2 1, 3) := by decide +kernel
theorem d_MM_isAsItWas_53 : decode b_MM_isAsItWas 53 = .ok (.goto (-45), 3) := by decide +kernel
theorem d_MM_isAsItWas_56 : decode b_MM_isAsItWas 56 = .ok (.aload_n 0, 1) := by decide +kernel
theorem d_MM_isAsItWas_57 : decode b_MM_isAsItWas 57 = .ok (.getfield 16, 3) := by decide +kernel
theorem d_MM_isAsItWas_60 : decode b_MM_isAsItWas 60 = .ok (.iconst 0, 1) := by decide +kernel
theorem d_MM_isAsItWas_61 : decode b_MM_isAsItWas 61 = .ok (.aload_n 0, 1) := by decide +kernel
theorem d_MM_isAsItWas_62 : decode b_MM_isAsItWas 62 = .ok (.getfield 9, 3) := by decide +kernel
theorem d_MM_isAsItWas_65 : decode b_MM_isAsItWas 65 = .ok (.iconst 0, 1) := by decide +kernel
theorem d_MM_isAsItWas_66 : decode b_MM_isAsItWas 66 = .ok (.invokestatic 190, 3) := by decide +kernel
theorem d_MM_isAsItWas_69 : decode b_MM_isAsItWas 69 = .ok (.iload_n 1, 1) := by decide +kernel
theorem d_MM_isAsItWas_70 : decode b_MM_isAsItWas 70 = .ok (.ireturn, 1) := by decide +kernel
theorem d_MM_slack_0 : decode b_MM_slack 0 = .ok (.iload_n 1, 1) := by decide +kernel
theorem d_MM_slack_1 : decode b_MM_slack 1 = .ok (.i2l, 1) := by decide +kernel
theorem d_MM_slack_2 : decode b_MM_slack 2 = .ok (.lconst 1, 1) := by decide +kernel
theorem d_MM_slack_3 : decode b_MM_slack 3 = .ok (.ldc2_w 208, 3) := by decide +kernel
theorem d_MM_slack_6 : decode b_MM_slack 6 = .ok (.invokestatic 108, 3) := by decide +kernel
theorem d_MM_slack_9 : decode b_MM_slack 9 = .ok (.ifCond .eq 12, 3) := by decide +kernel
theorem d_MM_slack_12 : decode b_MM_slack 12 = .ok (.aload_n 0, 1) := by decide +kernel
theorem d_MM_slack_13 : decode b_MM_slack 13 = .ok (.iload_n 2, 1) := by decide +kernel
theorem d_MM_slack_14 : decode b_MM_slack 14 = .ok (.iload_n 3, 1) := by decide +kernel
theorem d_MM_slack_15 : decode b_MM_slack 15 = .ok (.invokevirtual 224, 3) := by decide +kernel
theorem d_MM_slack_18 : decode b_MM_slack 18 = .ok (.ifCond .ne 5, 3) := by decide +kernel
theorem d_MM_slack_21 : decode b_MM_slack 21 = .ok (.iconst (-1), 1) := by decide +kernel
theorem d_MM_slack_22 : decode b_MM_slack 22 = .ok (.ireturn, 1) := by decide +kernel
theorem d_MM_slack_23 : decode b_MM_slack 23 = .ok (.aload_n 0, 1) := by decide +kernel
theorem d_MM_slack_24 : decode b_MM_slack 24 = .ok (.invokevirtual 341, 3) := by decide +kernel
theorem d_MM_slack_27 : decode b_MM_slack 27 = .ok (.bipush (-2), 2) := by decide +kernel
theorem d_MM_slack_29 : decode b_MM_slack 29 = .ok (.istore 4, 2) := by decide +kernel
theorem d_MM_slack_31 : decode b_MM_slack 31 = .ok (.iconst 1, 1) := by decide +kernel
theorem d_MM_slack_32 : decode b_MM_slack 32 = .ok (.istore 5, 2) := by decide +kernel
theorem d_MM_slack_34 : decode b_MM_slack 34 = .ok (.iconst 0, 1) := by decide +kernel
theorem d_MM_slack_35 : decode b_MM_slack 35 = .ok (.istore 6, 2) := by decide +kernel
theorem d_MM_slack_37 : decode b_MM_slack 37 = .ok (.iload 6, 2) := by decide +kernel
theorem d_MM_slack_39 : decode b_MM_slack 39 = .ok (.bipush 8, 2) := by decide +kernel
theorem d_MM_slack_41 : decode b_MM_slack 41 = .ok (.if_icmp .ge 93, 3) := by decide +kernel
theorem d_MM_slack_44 : decode b_MM_slack 44 = .ok (.iload 5, 2) := by decide +kernel
theorem d_MM_slack_46 : decode b_MM_slack 46 = .ok (.ifCond .eq 88, 3) := by decide +kernel
theorem d_MM_slack_49 : decode b_MM_slack 49 = .ok (.iconst 1, 1) := by decide +kernel
theorem d_MM_slack_50 : decode b_MM_slack 50 = .ok (.istore 7, 2) := by decide +kernel
theorem d_MM_slack_52 : decode b_MM_slack 52 = .ok (.iload 7, 2) := by decide +kernel
theorem d_MM_slack_54 : decode b_MM_slack 54 = .ok (.iconst 3, 1) := by decide +kernel
theorem d_MM_slack_55 : decode b_MM_slack 55 = .ok (.if_icmp .ge 34, 3) := by decide +kernel
theorem d_MM_slack_58 : decode b_MM_slack 58 = .ok (.aload_n 0, 1) := by decide +kernel
theorem d_MM_slack_59 : decode b_MM_slack 59 = .ok (.iload 7, 2) := by decide +kernel
theorem d_MM_slack_61 : decode b_MM_slack 61 = .ok (.iload_n 1, 1) := by decide +kernel
theorem d_MM_slack_62 : decode b_MM_slack 62 = .ok (.iload_n 2, 1) := by decide +kernel
theorem d_MM_slack_63 : decode b_MM_slack 63 = .ok (.iload_n 3, 1) := by decide +kernel
theorem d_MM_slack_64 : decode b_MM_slack 64 = .ok (.invokevirtual 244, 3) := by decide +kernel
theorem d_MM_slack_67 : decode b_MM_slack 67 = .ok (.istore 8, 2) := by decide +kernel
theorem d_MM_slack_69 : decode b_MM_slack 69 = .ok (.iload 8, 2) := by decide +kernel
theorem d_MM_slack_71 : decode b_MM_slack 71 = .ok (.iconst (-1), 1) := by decide +kernel
theorem d_MM_slack_72 : decode b_MM_slack 72 = .ok (.if_icmp .eq 11, 3) := by decide +kernel
theorem d_MM_slack_75 : decode b_MM_slack 75 = .ok (.aload_n 0, 1) := by decide +kernel
theorem d_MM_slack_76 : decode b_MM_slack 76 = .ok (.iload 7, 2) := by decide +kernel
theorem d_MM_slack_78 : decode b_MM_slack 78 = .ok (.iload 8, 2) := by decide +kernel
theorem d_MM_slack_80 : decode b_MM_slack 80 = .ok (.invokevirtual 239, 3) := by decide +kernel
theorem d_MM_slack_83 : decode b_MM_slack 83 = .ok (.iinc 7 1, 3) := by decide +kernel
theorem d_MM_slack_86 : decode b_MM_slack 86 = .ok (.goto (-34), 3) := by decide +kernel
theorem d_MM_slack_89 : decode b_MM_slack 89 = .ok (.iload 6, 2) := by decide +kernel
theorem d_MM_slack_91 : decode b_MM_slack 91 = .ok (.ifCond .le 12, 3) := by decide +kernel
theorem d_MM_slack_94 : decode b_MM_slack 94 = .ok (.aload_n 0, 1) := by decide +kernel
theorem d_MM_slack_95 : decode b_MM_slack 95 = .ok (.iload_n 1, 1) := by decide +kernel
theorem d_MM_slack_96 : decode b_MM_slack 96 = .ok (.iload_n 2, 1) := by decide +kernel
theorem d_MM_slack_97 : decode b_MM_slack 97 = .ok (.iload_n 3, 1) := by decide +kernel
theorem d_MM_slack_98 : decode b_MM_slack 98 = .ok (.iload 6, 2) := by decide +kernel
theorem d_MM_slack_100 : decode b_MM_slack 100 = .ok (.invokevirtual 344, 3) := by decide +kernel
theorem d_MM_slack_103 : decode b_MM_slack 103 = .ok (.aload_n 0, 1) := by decide +kernel
theorem d_MM_slack_104 : decode b_MM_slack 104 = .ok (.invokevirtual 347, 3) := by decide +kernel
theorem d_MM_slack_107 : decode b_MM_slack 107 = .ok (.istore 5, 2) := by decide +kernel
theorem d_MM_slack_109 : decode b_MM_slack 109 = .ok (.iload 5, 2) := by decide +kernel
theorem d_MM_slack_111 : decode b_MM_slack 111 = .ok (.ifCond .eq 8, 3) := by decide +kernel
theorem d_MM_slack_114 : decode b_MM_slack 114 = .ok (.iload 6, 2) := by decide +kernel
theorem d_MM_slack_116 : decode b_MM_slack 116 = .ok (.goto 5, 3) := by decide +kernel
theorem d_MM_slack_119 : decode b_MM_slack 119 = .ok (.iload 4, 2) := by decide +kernel
theorem d_MM_slack_121 : decode b_MM_slack 121 = .ok (.istore 4, 2) := by decide +kernel
theorem d_MM_slack_123 : decode b_MM_slack 123 = .ok (.aload_n 0, 1) := by decide +kernel
theorem d_MM_slack_124 : decode b_MM_slack 124 = .ok (.iconst (-1), 1) := by decide +kernel
theorem d_MM_slack_125 : decode b_MM_slack 125 = .ok (.putfield 72, 3) := by decide +kernel
theorem d_MM_slack_128 : decode b_MM_slack 128 = .ok (.iinc 6 1, 3) := by decide +kernel
theorem d_MM_slack_131 : decode b_MM_slack 131 = .ok (.goto (-94), 3) := by decide +kernel
theorem d_MM_slack_134 : decode b_MM_slack 134 = .ok (.iload 4, 2) := by decide +kernel
theorem d_MM_slack_136 : decode b_MM_slack 136 = .ok (.ireturn, 1) := by decide +kernel
theorem d_MM_crucial_0 : decode b_MM_crucial 0 = .ok (.iload_n 1, 1) := by decide +kernel
theorem d_MM_crucial_1 : decode b_MM_crucial 1 = .ok (.i2l, 1) := by decide +kernel
theorem d_MM_crucial_2 : decode b_MM_crucial 2 = .ok (.lconst 1, 1) := by decide +kernel
theorem d_MM_crucial_3 : decode b_MM_crucial 3 = .ok (.aload_n 0, 1) := by decide +kernel
theorem d_MM_crucial_4 : decode b_MM_crucial 4 = .ok (.getfield 9, 3) := by decide +kernel
theorem d_MM_crucial_7 : decode b_MM_crucial 7 = .ok (.iconst 3, 1) := by decide +kernel
theorem d_MM_crucial_8 : decode b_MM_crucial 8 = .ok (.iaload, 1) := by decide +kernel
theorem d_MM_crucial_9 : decode b_MM_crucial 9 = .ok (.i2l, 1) := by decide +kernel
theorem d_MM_crucial_10 : decode b_MM_crucial 10 = .ok (.invokestatic 108, 3) := by decide +kernel
theorem d_MM_crucial_13 : decode b_MM_crucial 13 = .ok (.ifCond .eq 17, 3) := by decide +kernel
theorem d_MM_crucial_16 : decode b_MM_crucial 16 = .ok (.aload_n 0, 1) := by decide +kernel
theorem d_MM_crucial_17 : decode b_MM_crucial 17 = .ok (.getfield 9, 3) := by decide +kernel
theorem d_MM_crucial_20 : decode b_MM_crucial 20 = .ok (.iconst 0, 1) := by decide +kernel
theorem d_MM_crucial_21 : decode b_MM_crucial 21 = .ok (.iaload, 1) := by decide +kernel
theorem d_MM_crucial_22 : decode b_MM_crucial 22 = .ok (.ifCond .eq 8, 3) := by decide +kernel
theorem d_MM_crucial_25 : decode b_MM_crucial 25 = .ok (.iload_n 2, 1) := by decide +kernel
theorem d_MM_crucial_26 : decode b_MM_crucial 26 = .ok (.iconst (-1), 1) := by decide +kernel
theorem d_MM_crucial_27 : decode b_MM_crucial 27 = .ok (.if_icmp .ge 5, 3) := by decide +kernel
theorem d_MM_crucial_30 : decode b_MM_crucial 30 = .ok (.iconst (-1), 1) := by decide +kernel
theorem d_MM_crucial_31 : decode b_MM_crucial 31 = .ok (.ireturn, 1) := by decide +kernel
theorem d_MM_crucial_32 : decode b_MM_crucial 32 = .ok (.aload_n 0, 1) := by decide +kernel
theorem d_MM_crucial_33 : decode b_MM_crucial 33 = .ok (.invokevirtual 341, 3) := by decide +kernel
theorem d_MM_crucial_36 : decode b_MM_crucial 36 = .ok (.iconst 0, 1) := by decide +kernel
theorem d_MM_crucial_37 : decode b_MM_crucial 37 = .ok (.istore_n 3, 1) := by decide +kernel
theorem d_MM_crucial_38 : decode b_MM_crucial 38 = .ok (.iconst 0, 1) := by decide +kernel
theorem d_MM_crucial_39 : decode b_MM_crucial 39 = .ok (.istore 4, 2) := by decide +kernel
theorem d_MM_crucial_41 : decode b_MM_crucial 41 = .ok (.iload 4, 2) := by decide +kernel
theorem d_MM_crucial_43 : decode b_MM_crucial 43 = .ok (.aload_n 0, 1) := by decide +kernel
theorem d_MM_crucial_44 : decode b_MM_crucial 44 = .ok (.getfield 9, 3) := by decide +kernel
theorem d_MM_crucial_47 : decode b_MM_crucial 47 = .ok (.iconst 0, 1) := by decide +kernel
theorem d_MM_crucial_48 : decode b_MM_crucial 48 = .ok (.iaload, 1) := by decide +kernel
theorem d_MM_crucial_49 : decode b_MM_crucial 49 = .ok (.if_icmp .ge 99, 3) := by decide +kernel
theorem d_MM_crucial_52 : decode b_MM_crucial 52 = .ok (.iconst 0, 1) := by decide +kernel
theorem d_MM_crucial_53 : decode b_MM_crucial 53 = .ok (.istore 5, 2) := by decide +kernel
theorem d_MM_crucial_55 : decode b_MM_crucial 55 = .ok (.iload 5, 2) := by decide +kernel
theorem d_MM_crucial_57 : decode b_MM_crucial 57 = .ok (.aload_n 0, 1) := by decide +kernel
theorem d_MM_crucial_58 : decode b_MM_crucial 58 = .ok (.getfield 9, 3) := by decide +kernel
theorem d_MM_crucial_61 : decode b_MM_crucial 61 = .ok (.iconst 0, 1) := by decide +kernel
theorem d_MM_crucial_62 : decode b_MM_crucial 62 = .ok (.iaload, 1) := by decide +kernel
theorem d_MM_crucial_63 : decode b_MM_crucial 63 = .ok (.if_icmp .ge 79, 3) := by decide +kernel
theorem d_MM_crucial_66 : decode b_MM_crucial 66 = .ok (.iload 4, 2) := by decide +kernel
theorem d_MM_crucial_68 : decode b_MM_crucial 68 = .ok (.iload 5, 2) := by decide +kernel
theorem d_MM_crucial_70 : decode b_MM_crucial 70 = .ok (.if_icmp .eq 66, 3) := by decide +kernel
theorem d_MM_crucial_73 : decode b_MM_crucial 73 = .ok (.aload_n 0, 1) := by decide +kernel
theorem d_MM_crucial_74 : decode b_MM_crucial 74 = .ok (.iconst 1, 1) := by decide +kernel
theorem d_MM_crucial_75 : decode b_MM_crucial 75 = .ok (.iload_n 1, 1) := by decide +kernel
theorem d_MM_crucial_76 : decode b_MM_crucial 76 = .ok (.iload 4, 2) := by decide +kernel
theorem d_MM_crucial_78 : decode b_MM_crucial 78 = .ok (.iload 5, 2) := by decide +kernel
theorem d_MM_crucial_80 : decode b_MM_crucial 80 = .ok (.invokevirtual 244, 3) := by decide +kernel
theorem d_MM_crucial_83 : decode b_MM_crucial 83 = .ok (.iconst (-1), 1) := by decide +kernel
theorem d_MM_crucial_84 : decode b_MM_crucial 84 = .ok (.if_icmp .eq 6, 3) := by decide +kernel
theorem d_MM_crucial_87 : decode b_MM_crucial 87 = .ok (.goto 49, 3) := by decide +kernel
theorem d_MM_crucial_90 : decode b_MM_crucial 90 = .ok (.aload_n 0, 1) := by decide +kernel
theorem d_MM_crucial_91 : decode b_MM_crucial 91 = .ok (.iload_n 1, 1) := by decide +kernel
theorem d_MM_crucial_92 : decode b_MM_crucial 92 = .ok (.iload 4, 2) := by decide +kernel
theorem d_MM_crucial_94 : decode b_MM_crucial 94 = .ok (.iload 5, 2) := by decide +kernel
theorem d_MM_crucial_96 : decode b_MM_crucial 96 = .ok (.iconst 0, 1) := by decide +kernel
theorem d_MM_crucial_97 : decode b_MM_crucial 97 = .ok (.invokevirtual 344, 3) := by decide +kernel
theorem d_MM_crucial_100 : decode b_MM_crucial 100 = .ok (.aload_n 0, 1) := by decide +kernel
theorem d_MM_crucial_101 : decode b_MM_crucial 101 = .ok (.invokevirtual 347, 3) := by decide +kernel
theorem d_MM_crucial_104 : decode b_MM_crucial 104 = .ok (.istore 6, 2) := by decide +kernel
theorem d_MM_crucial_106 : decode b_MM_crucial 106 = .ok (.aload_n 0, 1) := by decide +kernel
theorem d_MM_crucial_107 : decode b_MM_crucial 107 = .ok (.iconst (-1), 1) := by decide +kernel
theorem d_MM_crucial_108 : decode b_MM_crucial 108 = .ok (.putfield 72, 3) := by decide +kernel
theorem d_MM_crucial_111 : decode b_MM_crucial 111 = .ok (.iload 6, 2) := by decide +kernel
theorem d_MM_crucial_113 : decode b_MM_crucial 113 = .ok (.ifCond .eq 6, 3) := by decide +kernel
theorem d_MM_crucial_116 : decode b_MM_crucial 116 = .ok (.goto 20, 3) := by decide +kernel
theorem d_MM_crucial_119 : decode b_MM_crucial 119 = .ok (.iload_n 3, 1) := by decide +kernel
theorem d_MM_crucial_120 : decode b_MM_crucial 120 = .ok (.iload_n 2, 1) := by decide +kernel
theorem d_MM_crucial_121 : decode b_MM_crucial 121 = .ok (.if_icmp .ne 12, 3) := by decide +kernel
theorem d_MM_crucial_124 : decode b_MM_crucial 124 = .ok (.bipush 8, 2) := by decide +kernel
theorem d_MM_crucial_126 : decode b_MM_crucial 126 = .ok (.iload 4, 2) := by decide +kernel
theorem d_MM_crucial_128 : decode b_MM_crucial 128 = .ok (.imul, 1) := by decide +kernel
theorem d_MM_crucial_129 : decode b_MM_crucial 129 = .ok (.iload 5, 2) := by decide +kernel
theorem d_MM_crucial_131 : decode b_MM_crucial 131 = .ok (.iadd, 1) := by decide +kernel
theorem d_MM_crucial_132 : decode b_MM_crucial 132 = .ok (.ireturn, 1) := by decide +kernel
theorem d_MM_crucial_133 : decode b_MM_crucial 133 = .ok (.iinc 3 1, 3) := by decide +kernel
theorem d_MM_crucial_136 : decode b_MM_crucial 136 = .ok (.iinc 5 1, 3) := by decide +kernel
theorem d_MM_crucial_139 : decode b_MM_crucial 139 = .ok (.goto (-84), 3) := by decide +kernel
theorem d_MM_crucial_142 : decode b_MM_crucial 142 = .ok (.iinc 4 1, 3) := by decide +kernel
theorem d_MM_crucial_145 : decode b_MM_crucial 145 = .ok (.goto (-104), 3) := by decide +kernel
theorem d_MM_crucial_148 : decode b_MM_crucial 148 = .ok (.iload_n 2, 1) := by decide +kernel
theorem d_MM_crucial_149 : decode b_MM_crucial 149 = .ok (.iconst (-1), 1) := by decide +kernel
theorem d_MM_crucial_150 : decode b_MM_crucial 150 = .ok (.if_icmp .ne 7, 3) := by decide +kernel
theorem d_MM_crucial_153 : decode b_MM_crucial 153 = .ok (.iload_n 3, 1) := by decide +kernel
theorem d_MM_crucial_154 : decode b_MM_crucial 154 = .ok (.goto 5, 3) := by decide +kernel
theorem d_MM_crucial_157 : decode b_MM_crucial 157 = .ok (.bipush (-2), 2) := by decide +kernel
theorem d_MM_crucial_159 : decode b_MM_crucial 159 = .ok (.ireturn, 1) := by decide +kernel
theorem d_MM_least_0 : decode b_MM_least 0 = .ok (.aload_n 0, 1) := by decide +kernel
theorem d_MM_least_1 : decode b_MM_least 1 = .ok (.getfield 9, 3) := by decide +kernel
theorem d_MM_least_4 : decode b_MM_least 4 = .ok (.iconst 0, 1) := by decide +kernel
theorem d_MM_least_5 : decode b_MM_least 5 = .ok (.iaload, 1) := by decide +kernel
theorem d_MM_least_6 : decode b_MM_least 6 = .ok (.ifCond .ne 5, 3) := by decide +kernel
theorem d_MM_least_9 : decode b_MM_least 9 = .ok (.iconst (-1), 1) := by decide +kernel
theorem d_MM_least_10 : decode b_MM_least 10 = .ok (.ireturn, 1) := by decide +kernel
theorem d_MM_least_11 : decode b_MM_least 11 = .ok (.aload_n 0, 1) := by decide +kernel
theorem d_MM_least_12 : decode b_MM_least 12 = .ok (.getfield 9, 3) := by decide +kernel
theorem d_MM_least_15 : decode b_MM_least 15 = .ok (.iconst 0, 1) := by decide +kernel
theorem d_MM_least_16 : decode b_MM_least 16 = .ok (.aload_n 0, 1) := by decide +kernel
theorem d_MM_least_17 : decode b_MM_least 17 = .ok (.getfield 16, 3) := by decide +kernel
theorem d_MM_least_20 : decode b_MM_least 20 = .ok (.iconst 0, 1) := by decide +kernel
theorem d_MM_least_21 : decode b_MM_least 21 = .ok (.invokestatic 190, 3) := by decide +kernel
theorem d_MM_least_24 : decode b_MM_least 24 = .ok (.bipush (-2), 2) := by decide +kernel
theorem d_MM_least_26 : decode b_MM_least 26 = .ok (.istore_n 1, 1) := by decide +kernel
theorem d_MM_least_27 : decode b_MM_least 27 = .ok (.iconst 1, 1) := by decide +kernel
theorem d_MM_least_28 : decode b_MM_least 28 = .ok (.istore_n 2, 1) := by decide +kernel
theorem d_MM_least_29 : decode b_MM_least 29 = .ok (.bipush 8, 2) := by decide +kernel
theorem d_MM_least_31 : decode b_MM_least 31 = .ok (.istore_n 3, 1) := by decide +kernel
theorem d_MM_least_32 : decode b_MM_least 32 = .ok (.iload_n 3, 1) := by decide +kernel
theorem d_MM_least_33 : decode b_MM_least 33 = .ok (.ifCond .le 43, 3) := by decide +kernel
theorem d_MM_least_36 : decode b_MM_least 36 = .ok (.iload_n 2, 1) := by decide +kernel
theorem d_MM_least_37 : decode b_MM_least 37 = .ok (.ifCond .eq 39, 3) := by decide +kernel
theorem d_MM_least_40 : decode b_MM_least 40 = .ok (.aload_n 0, 1) := by decide +kernel
theorem d_MM_least_41 : decode b_MM_least 41 = .ok (.getfield 9, 3) := by decide +kernel
theorem d_MM_least_44 : decode b_MM_least 44 = .ok (.iconst 3, 1) := by decide +kernel
theorem d_MM_least_45 : decode b_MM_least 45 = .ok (.iload_n 3, 1) := by decide +kernel
theorem d_MM_least_46 : decode b_MM_least 46 = .ok (.iastore, 1) := by decide +kernel
theorem d_MM_least_47 : decode b_MM_least 47 = .ok (.aload_n 0, 1) := by decide +kernel
theorem d_MM_least_48 : decode b_MM_least 48 = .ok (.invokevirtual 321, 3) := by decide +kernel
theorem d_MM_least_51 : decode b_MM_least 51 = .ok (.aload_n 0, 1) := by decide +kernel
theorem d_MM_least_52 : decode b_MM_least 52 = .ok (.aload_n 0, 1) := by decide +kernel
theorem d_MM_least_53 : decode b_MM_least 53 = .ok (.invokevirtual 332, 3) := by decide +kernel
theorem d_MM_least_56 : decode b_MM_least 56 = .ok (.invokevirtual 335, 3) := by decide +kernel
theorem d_MM_least_59 : decode b_MM_least 59 = .ok (.istore_n 2, 1) := by decide +kernel
theorem d_MM_least_60 : decode b_MM_least 60 = .ok (.iload_n 2, 1) := by decide +kernel
theorem d_MM_least_61 : decode b_MM_least 61 = .ok (.ifCond .eq 7, 3) := by decide +kernel
theorem d_MM_least_64 : decode b_MM_least 64 = .ok (.iload_n 3, 1) := by decide +kernel
theorem d_MM_least_65 : decode b_MM_least 65 = .ok (.goto 4, 3) := by decide +kernel
theorem d_MM_least_68 : decode b_MM_least 68 = .ok (.iload_n 1, 1) := by decide +kernel
theorem d_MM_least_69 : decode b_MM_least 69 = .ok (.istore_n 1, 1) := by decide +kernel
theorem d_MM_least_70 : decode b_MM_least 70 = .ok (.iinc 3 (-1), 3) := by decide +kernel
theorem d_MM_least_73 : decode b_MM_least 73 = .ok (.goto (-41), 3) := by decide +kernel
theorem d_MM_least_76 : decode b_MM_least 76 = .ok (.aload_n 0, 1) := by decide +kernel
theorem d_MM_least_77 : decode b_MM_least 77 = .ok (.getfield 16, 3) := by decide +kernel
theorem d_MM_least_80 : decode b_MM_least 80 = .ok (.iconst 0, 1) := by decide +kernel
theorem d_MM_least_81 : decode b_MM_least 81 = .ok (.aload_n 0, 1) := by decide +kernel
theorem d_MM_least_82 : decode b_MM_least 82 = .ok (.getfield 9, 3) := by decide +kernel
theorem d_MM_least_85 : decode b_MM_least 85 = .ok (.iconst 0, 1) := by decide +kernel
theorem d_MM_least_86 : decode b_MM_least 86 = .ok (.invokestatic 190, 3) := by decide +kernel
theorem d_MM_least_89 : decode b_MM_least 89 = .ok (.iload_n 1, 1) := by decide +kernel
theorem d_MM_least_90 : decode b_MM_least 90 = .ok (.ireturn, 1) := by decide +kernel
theorem d_MM_honestSet_0 : decode b_MM_honestSet 0 = .ok (.iconst 0, 1) := by decide +kernel
theorem d_MM_honestSet_1 : decode b_MM_honestSet 1 = .ok (.istore_n 1, 1) := by decide +kernel
theorem d_MM_honestSet_2 : decode b_MM_honestSet 2 = .ok (.iconst 0, 1) := by decide +kernel
theorem d_MM_honestSet_3 : decode b_MM_honestSet 3 = .ok (.istore_n 2, 1) := by decide +kernel
theorem d_MM_honestSet_4 : decode b_MM_honestSet 4 = .ok (.iload_n 2, 1) := by decide +kernel
theorem d_MM_honestSet_5 : decode b_MM_honestSet 5 = .ok (.aload_n 0, 1) := by decide +kernel
theorem d_MM_honestSet_6 : decode b_MM_honestSet 6 = .ok (.getfield 9, 3) := by decide +kernel
theorem d_MM_honestSet_9 : decode b_MM_honestSet 9 = .ok (.iconst 0, 1) := by decide +kernel
theorem d_MM_honestSet_10 : decode b_MM_honestSet 10 = .ok (.iaload, 1) := by decide +kernel
theorem d_MM_honestSet_11 : decode b_MM_honestSet 11 = .ok (.if_icmp .ge 27, 3) := by decide +kernel
theorem d_MM_honestSet_14 : decode b_MM_honestSet 14 = .ok (.iload_n 1, 1) := by decide +kernel
theorem d_MM_honestSet_15 : decode b_MM_honestSet 15 = .ok (.aload_n 0, 1) := by decide +kernel
theorem d_MM_honestSet_16 : decode b_MM_honestSet 16 = .ok (.iload_n 2, 1) := by decide +kernel
theorem d_MM_honestSet_17 : decode b_MM_honestSet 17 = .ok (.invokevirtual 205, 3) := by decide +kernel
theorem d_MM_honestSet_20 : decode b_MM_honestSet 20 = .ok (.ifCond .eq 7, 3) := by decide +kernel
theorem d_MM_honestSet_23 : decode b_MM_honestSet 23 = .ok (.iconst 0, 1) := by decide +kernel
theorem d_MM_honestSet_24 : decode b_MM_honestSet 24 = .ok (.goto 6, 3) := by decide +kernel
theorem d_MM_honestSet_27 : decode b_MM_honestSet 27 = .ok (.iconst 1, 1) := by decide +kernel
theorem d_MM_honestSet_28 : decode b_MM_honestSet 28 = .ok (.iload_n 2, 1) := by decide +kernel
theorem d_MM_honestSet_29 : decode b_MM_honestSet 29 = .ok (.ishl, 1) := by decide +kernel
theorem d_MM_honestSet_30 : decode b_MM_honestSet 30 = .ok (.ior, 1) := by decide +kernel
theorem d_MM_honestSet_31 : decode b_MM_honestSet 31 = .ok (.istore_n 1, 1) := by decide +kernel
theorem d_MM_honestSet_32 : decode b_MM_honestSet 32 = .ok (.iinc 2 1, 3) := by decide +kernel
theorem d_MM_honestSet_35 : decode b_MM_honestSet 35 = .ok (.goto (-31), 3) := by decide +kernel
theorem d_MM_honestSet_38 : decode b_MM_honestSet 38 = .ok (.iload_n 1, 1) := by decide +kernel
theorem d_MM_honestSet_39 : decode b_MM_honestSet 39 = .ok (.ireturn, 1) := by decide +kernel
theorem d_MM_heal_0 : decode b_MM_heal 0 = .ok (.aload_n 0, 1) := by decide +kernel
theorem d_MM_heal_1 : decode b_MM_heal 1 = .ok (.getfield 9, 3) := by decide +kernel
theorem d_MM_heal_4 : decode b_MM_heal 4 = .ok (.iconst 0, 1) := by decide +kernel
theorem d_MM_heal_5 : decode b_MM_heal 5 = .ok (.iaload, 1) := by decide +kernel
theorem d_MM_heal_6 : decode b_MM_heal 6 = .ok (.ifCond .ne 5, 3) := by decide +kernel
theorem d_MM_heal_9 : decode b_MM_heal 9 = .ok (.iconst (-1), 1) := by decide +kernel
theorem d_MM_heal_10 : decode b_MM_heal 10 = .ok (.ireturn, 1) := by decide +kernel
theorem d_MM_heal_11 : decode b_MM_heal 11 = .ok (.aload_n 0, 1) := by decide +kernel
theorem d_MM_heal_12 : decode b_MM_heal 12 = .ok (.getfield 9, 3) := by decide +kernel
theorem d_MM_heal_15 : decode b_MM_heal 15 = .ok (.iconst 0, 1) := by decide +kernel
theorem d_MM_heal_16 : decode b_MM_heal 16 = .ok (.aload_n 0, 1) := by decide +kernel
theorem d_MM_heal_17 : decode b_MM_heal 17 = .ok (.getfield 16, 3) := by decide +kernel
theorem d_MM_heal_20 : decode b_MM_heal 20 = .ok (.iconst 0, 1) := by decide +kernel
theorem d_MM_heal_21 : decode b_MM_heal 21 = .ok (.invokestatic 190, 3) := by decide +kernel
theorem d_MM_heal_24 : decode b_MM_heal 24 = .ok (.bipush (-2), 2) := by decide +kernel
theorem d_MM_heal_26 : decode b_MM_heal 26 = .ok (.istore_n 1, 1) := by decide +kernel
theorem d_MM_heal_27 : decode b_MM_heal 27 = .ok (.bipush 6, 2) := by decide +kernel
theorem d_MM_heal_29 : decode b_MM_heal 29 = .ok (.aload_n 0, 1) := by decide +kernel
theorem d_MM_heal_30 : decode b_MM_heal 30 = .ok (.getfield 9, 3) := by decide +kernel
theorem d_MM_heal_33 : decode b_MM_heal 33 = .ok (.bipush 8, 2) := by decide +kernel
theorem d_MM_heal_35 : decode b_MM_heal 35 = .ok (.iaload, 1) := by decide +kernel
theorem d_MM_heal_36 : decode b_MM_heal 36 = .ok (.invokestatic 135, 3) := by decide +kernel
theorem d_MM_heal_39 : decode b_MM_heal 39 = .ok (.istore_n 2, 1) := by decide +kernel
theorem d_MM_heal_40 : decode b_MM_heal 40 = .ok (.bipush 6, 2) := by decide +kernel
theorem d_MM_heal_42 : decode b_MM_heal 42 = .ok (.iload_n 2, 1) := by decide +kernel
theorem d_MM_heal_43 : decode b_MM_heal 43 = .ok (.isub, 1) := by decide +kernel
theorem d_MM_heal_44 : decode b_MM_heal 44 = .ok (.aload_n 0, 1) := by decide +kernel
theorem d_MM_heal_45 : decode b_MM_heal 45 = .ok (.getfield 9, 3) := by decide +kernel
theorem d_MM_heal_48 : decode b_MM_heal 48 = .ok (.bipush 9, 2) := by decide +kernel
theorem d_MM_heal_50 : decode b_MM_heal 50 = .ok (.iaload, 1) := by decide +kernel
theorem d_MM_heal_51 : decode b_MM_heal 51 = .ok (.invokestatic 135, 3) := by decide +kernel
theorem d_MM_heal_54 : decode b_MM_heal 54 = .ok (.istore_n 3, 1) := by decide +kernel
theorem d_MM_heal_55 : decode b_MM_heal 55 = .ok (.iconst 0, 1) := by decide +kernel
theorem d_MM_heal_56 : decode b_MM_heal 56 = .ok (.istore 4, 2) := by decide +kernel
theorem d_MM_heal_58 : decode b_MM_heal 58 = .ok (.iload 4, 2) := by decide +kernel
theorem d_MM_heal_60 : decode b_MM_heal 60 = .ok (.iconst 1, 1) := by decide +kernel
theorem d_MM_heal_61 : decode b_MM_heal 61 = .ok (.iload_n 2, 1) := by decide +kernel
theorem d_MM_heal_62 : decode b_MM_heal 62 = .ok (.iload_n 3, 1) := by decide +kernel
theorem d_MM_heal_63 : decode b_MM_heal 63 = .ok (.iadd, 1) := by decide +kernel
theorem d_MM_heal_64 : decode b_MM_heal 64 = .ok (.ishl, 1) := by decide +kernel
theorem d_MM_heal_65 : decode b_MM_heal 65 = .ok (.if_icmp .ge 123, 3) := by decide +kernel
theorem d_MM_heal_68 : decode b_MM_heal 68 = .ok (.iload_n 1, 1) := by decide +kernel
theorem d_MM_heal_69 : decode b_MM_heal 69 = .ok (.bipush (-2), 2) := by decide +kernel
theorem d_MM_heal_71 : decode b_MM_heal 71 = .ok (.if_icmp .eq 18, 3) := by decide +kernel
theorem d_MM_heal_74 : decode b_MM_heal 74 = .ok (.iload 4, 2) := by decide +kernel
theorem d_MM_heal_76 : decode b_MM_heal 76 = .ok (.invokestatic 255, 3) := by decide +kernel
theorem d_MM_heal_79 : decode b_MM_heal 79 = .ok (.iload_n 1, 1) := by decide +kernel
theorem d_MM_heal_80 : decode b_MM_heal 80 = .ok (.invokestatic 255, 3) := by decide +kernel
theorem d_MM_heal_83 : decode b_MM_heal 83 = .ok (.if_icmp .lt 6, 3) := by decide +kernel
theorem d_MM_heal_86 : decode b_MM_heal 86 = .ok (.goto 96, 3) := by decide +kernel
theorem d_MM_heal_89 : decode b_MM_heal 89 = .ok (.iload_n 2, 1) := by decide +kernel
theorem d_MM_heal_90 : decode b_MM_heal 90 = .ok (.iload_n 3, 1) := by decide +kernel
theorem d_MM_heal_91 : decode b_MM_heal 91 = .ok (.iadd, 1) := by decide +kernel
theorem d_MM_heal_92 : decode b_MM_heal 92 = .ok (.iconst 1, 1) := by decide +kernel
theorem d_MM_heal_93 : decode b_MM_heal 93 = .ok (.isub, 1) := by decide +kernel
theorem d_MM_heal_94 : decode b_MM_heal 94 = .ok (.istore 5, 2) := by decide +kernel
theorem d_MM_heal_96 : decode b_MM_heal 96 = .ok (.iload 5, 2) := by decide +kernel
theorem d_MM_heal_98 : decode b_MM_heal 98 = .ok (.ifCond .lt 49, 3) := by decide +kernel
theorem d_MM_heal_101 : decode b_MM_heal 101 = .ok (.iload 4, 2) := by decide +kernel
theorem d_MM_heal_103 : decode b_MM_heal 103 = .ok (.iload 5, 2) := by decide +kernel
theorem d_MM_heal_105 : decode b_MM_heal 105 = .ok (.invokestatic 201, 3) := by decide +kernel
theorem d_MM_heal_108 : decode b_MM_heal 108 = .ok (.ifCond .eq 33, 3) := by decide +kernel
theorem d_MM_heal_111 : decode b_MM_heal 111 = .ok (.aload_n 0, 1) := by decide +kernel
theorem d_MM_heal_112 : decode b_MM_heal 112 = .ok (.iload 5, 2) := by decide +kernel
theorem d_MM_heal_114 : decode b_MM_heal 114 = .ok (.iload_n 2, 1) := by decide +kernel
theorem d_MM_heal_115 : decode b_MM_heal 115 = .ok (.if_icmp .ge 7, 3) := by decide +kernel
theorem d_MM_heal_118 : decode b_MM_heal 118 = .ok (.iconst 1, 1) := by decide +kernel
theorem d_MM_heal_119 : decode b_MM_heal 119 = .ok (.goto 4, 3) := by decide +kernel
theorem d_MM_heal_122 : decode b_MM_heal 122 = .ok (.iconst 2, 1) := by decide +kernel
theorem d_MM_heal_123 : decode b_MM_heal 123 = .ok (.iload 5, 2) := by decide +kernel
theorem d_MM_heal_125 : decode b_MM_heal 125 = .ok (.iload_n 2, 1) := by decide +kernel
theorem d_MM_heal_126 : decode b_MM_heal 126 = .ok (.if_icmp .ge 8, 3) := by decide +kernel
theorem d_MM_heal_129 : decode b_MM_heal 129 = .ok (.iload 5, 2) := by decide +kernel
theorem d_MM_heal_131 : decode b_MM_heal 131 = .ok (.goto 7, 3) := by decide +kernel
theorem d_MM_heal_134 : decode b_MM_heal 134 = .ok (.iload 5, 2) := by decide +kernel
theorem d_MM_heal_136 : decode b_MM_heal 136 = .ok (.iload_n 2, 1) := by decide +kernel
theorem d_MM_heal_137 : decode b_MM_heal 137 = .ok (.isub, 1) := by decide +kernel
theorem d_MM_heal_138 : decode b_MM_heal 138 = .ok (.invokevirtual 239, 3) := by decide +kernel
theorem d_MM_heal_141 : decode b_MM_heal 141 = .ok (.iinc 5 (-1), 3) := by decide +kernel
theorem d_MM_heal_144 : decode b_MM_heal 144 = .ok (.goto (-48), 3) := by decide +kernel
theorem d_MM_heal_147 : decode b_MM_heal 147 = .ok (.aload_n 0, 1) := by decide +kernel
theorem d_MM_heal_148 : decode b_MM_heal 148 = .ok (.invokevirtual 321, 3) := by decide +kernel
theorem d_MM_heal_151 : decode b_MM_heal 151 = .ok (.aload_n 0, 1) := by decide +kernel
theorem d_MM_heal_152 : decode b_MM_heal 152 = .ok (.aload_n 0, 1) := by decide +kernel
theorem d_MM_heal_153 : decode b_MM_heal 153 = .ok (.invokevirtual 350, 3) := by decide +kernel
theorem d_MM_heal_156 : decode b_MM_heal 156 = .ok (.invokevirtual 335, 3) := by decide +kernel
theorem d_MM_heal_159 : decode b_MM_heal 159 = .ok (.ifCond .eq 8, 3) := by decide +kernel
theorem d_MM_heal_162 : decode b_MM_heal 162 = .ok (.iload 4, 2) := by decide +kernel
theorem d_MM_heal_164 : decode b_MM_heal 164 = .ok (.goto 4, 3) := by decide +kernel
theorem d_MM_heal_167 : decode b_MM_heal 167 = .ok (.iload_n 1, 1) := by decide +kernel
theorem d_MM_heal_168 : decode b_MM_heal 168 = .ok (.istore_n 1, 1) := by decide +kernel
theorem d_MM_heal_169 : decode b_MM_heal 169 = .ok (.aload_n 0, 1) := by decide +kernel
theorem d_MM_heal_170 : decode b_MM_heal 170 = .ok (.getfield 16, 3) := by decide +kernel
theorem d_MM_heal_173 : decode b_MM_heal 173 = .ok (.iconst 0, 1) := by decide +kernel
theorem d_MM_heal_174 : decode b_MM_heal 174 = .ok (.aload_n 0, 1) := by decide +kernel
theorem d_MM_heal_175 : decode b_MM_heal 175 = .ok (.getfield 9, 3) := by decide +kernel
theorem d_MM_heal_178 : decode b_MM_heal 178 = .ok (.iconst 0, 1) := by decide +kernel
theorem d_MM_heal_179 : decode b_MM_heal 179 = .ok (.invokestatic 190, 3) := by decide +kernel
theorem d_MM_heal_182 : decode b_MM_heal 182 = .ok (.iinc 4 1, 3) := by decide +kernel
theorem d_MM_heal_185 : decode b_MM_heal 185 = .ok (.goto (-127), 3) := by decide +kernel
theorem d_MM_heal_188 : decode b_MM_heal 188 = .ok (.iload_n 1, 1) := by decide +kernel
theorem d_MM_heal_189 : decode b_MM_heal 189 = .ok (.ireturn, 1) := by decide +kernel
theorem d_MM_holders_0 : decode b_MM_holders 0 = .ok (.aload_n 0, 1) := by decide +kernel
theorem d_MM_holders_1 : decode b_MM_holders 1 = .ok (.getfield 9, 3) := by decide +kernel
theorem d_MM_holders_4 : decode b_MM_holders 4 = .ok (.iconst 0, 1) := by decide +kernel
theorem d_MM_holders_5 : decode b_MM_holders 5 = .ok (.iaload, 1) := by decide +kernel
theorem d_MM_holders_6 : decode b_MM_holders 6 = .ok (.ifCond .eq 31, 3) := by decide +kernel
theorem d_MM_holders_9 : decode b_MM_holders 9 = .ok (.iload_n 1, 1) := by decide +kernel
theorem d_MM_holders_10 : decode b_MM_holders 10 = .ok (.i2l, 1) := by decide +kernel
theorem d_MM_holders_11 : decode b_MM_holders 11 = .ok (.lconst 0, 1) := by decide +kernel
theorem d_MM_holders_12 : decode b_MM_holders 12 = .ok (.ldc2_w 212, 3) := by decide +kernel
theorem d_MM_holders_15 : decode b_MM_holders 15 = .ok (.invokestatic 108, 3) := by decide +kernel
theorem d_MM_holders_18 : decode b_MM_holders 18 = .ok (.ifCond .eq 19, 3) := by decide +kernel
theorem d_MM_holders_21 : decode b_MM_holders 21 = .ok (.iload_n 2, 1) := by decide +kernel
theorem d_MM_holders_22 : decode b_MM_holders 22 = .ok (.i2l, 1) := by decide +kernel
theorem d_MM_holders_23 : decode b_MM_holders 23 = .ok (.lconst 0, 1) := by decide +kernel
theorem d_MM_holders_24 : decode b_MM_holders 24 = .ok (.aload_n 0, 1) := by decide +kernel
theorem d_MM_holders_25 : decode b_MM_holders 25 = .ok (.getfield 9, 3) := by decide +kernel
theorem d_MM_holders_28 : decode b_MM_holders 28 = .ok (.iconst 3, 1) := by decide +kernel
theorem d_MM_holders_29 : decode b_MM_holders 29 = .ok (.iaload, 1) := by decide +kernel
theorem d_MM_holders_30 : decode b_MM_holders 30 = .ok (.i2l, 1) := by decide +kernel
theorem d_MM_holders_31 : decode b_MM_holders 31 = .ok (.invokestatic 108, 3) := by decide +kernel
theorem d_MM_holders_34 : decode b_MM_holders 34 = .ok (.ifCond .ne 5, 3) := by decide +kernel
theorem d_MM_holders_37 : decode b_MM_holders 37 = .ok (.iconst (-1), 1) := by decide +kernel
theorem d_MM_holders_38 : decode b_MM_holders 38 = .ok (.ireturn, 1) := by decide +kernel
theorem d_MM_holders_39 : decode b_MM_holders 39 = .ok (.aload_n 0, 1) := by decide +kernel
theorem d_MM_holders_40 : decode b_MM_holders 40 = .ok (.invokevirtual 321, 3) := by decide +kernel
theorem d_MM_holders_43 : decode b_MM_holders 43 = .ok (.iconst 0, 1) := by decide +kernel
theorem d_MM_holders_44 : decode b_MM_holders 44 = .ok (.istore_n 3, 1) := by decide +kernel
theorem d_MM_holders_45 : decode b_MM_holders 45 = .ok (.iconst 0, 1) := by decide +kernel
theorem d_MM_holders_46 : decode b_MM_holders 46 = .ok (.istore 4, 2) := by decide +kernel
theorem d_MM_holders_48 : decode b_MM_holders 48 = .ok (.iload 4, 2) := by decide +kernel
theorem d_MM_holders_50 : decode b_MM_holders 50 = .ok (.aload_n 0, 1) := by decide +kernel
theorem d_MM_holders_51 : decode b_MM_holders 51 = .ok (.getfield 9, 3) := by decide +kernel
theorem d_MM_holders_54 : decode b_MM_holders 54 = .ok (.iconst 0, 1) := by decide +kernel
theorem d_MM_holders_55 : decode b_MM_holders 55 = .ok (.iaload, 1) := by decide +kernel
theorem d_MM_holders_56 : decode b_MM_holders 56 = .ok (.if_icmp .ge 43, 3) := by decide +kernel
theorem d_MM_holders_59 : decode b_MM_holders 59 = .ok (.iload_n 3, 1) := by decide +kernel
theorem d_MM_holders_60 : decode b_MM_holders 60 = .ok (.aload_n 0, 1) := by decide +kernel
theorem d_MM_holders_61 : decode b_MM_holders 61 = .ok (.iload 4, 2) := by decide +kernel
theorem d_MM_holders_63 : decode b_MM_holders 63 = .ok (.invokevirtual 205, 3) := by decide +kernel
theorem d_MM_holders_66 : decode b_MM_holders 66 = .ok (.ifCond .ne 24, 3) := by decide +kernel
theorem d_MM_holders_69 : decode b_MM_holders 69 = .ok (.aload_n 0, 1) := by decide +kernel
theorem d_MM_holders_70 : decode b_MM_holders 70 = .ok (.iload 4, 2) := by decide +kernel
theorem d_MM_holders_72 : decode b_MM_holders 72 = .ok (.iload_n 2, 1) := by decide +kernel
theorem d_MM_holders_73 : decode b_MM_holders 73 = .ok (.invokevirtual 312, 3) := by decide +kernel
theorem d_MM_holders_76 : decode b_MM_holders 76 = .ok (.iload_n 1, 1) := by decide +kernel
theorem d_MM_holders_77 : decode b_MM_holders 77 = .ok (.invokestatic 201, 3) := by decide +kernel
theorem d_MM_holders_80 : decode b_MM_holders 80 = .ok (.ifCond .eq 10, 3) := by decide +kernel
theorem d_MM_holders_83 : decode b_MM_holders 83 = .ok (.iconst 1, 1) := by decide +kernel
theorem d_MM_holders_84 : decode b_MM_holders 84 = .ok (.iload 4, 2) := by decide +kernel
theorem d_MM_holders_86 : decode b_MM_holders 86 = .ok (.ishl, 1) := by decide +kernel
theorem d_MM_holders_87 : decode b_MM_holders 87 = .ok (.goto 4, 3) := by decide +kernel
theorem d_MM_holders_90 : decode b_MM_holders 90 = .ok (.iconst 0, 1) := by decide +kernel
theorem d_MM_holders_91 : decode b_MM_holders 91 = .ok (.ior, 1) := by decide +kernel
theorem d_MM_holders_92 : decode b_MM_holders 92 = .ok (.istore_n 3, 1) := by decide +kernel
theorem d_MM_holders_93 : decode b_MM_holders 93 = .ok (.iinc 4 1, 3) := by decide +kernel
theorem d_MM_holders_96 : decode b_MM_holders 96 = .ok (.goto (-48), 3) := by decide +kernel
theorem d_MM_holders_99 : decode b_MM_holders 99 = .ok (.iload_n 3, 1) := by decide +kernel
theorem d_MM_holders_100 : decode b_MM_holders 100 = .ok (.ireturn, 1) := by decide +kernel
theorem d_MM_path_0 : decode b_MM_path 0 = .ok (.aload_n 0, 1) := by decide +kernel
theorem d_MM_path_1 : decode b_MM_path 1 = .ok (.iload_n 1, 1) := by decide +kernel
theorem d_MM_path_2 : decode b_MM_path 2 = .ok (.invokevirtual 300, 3) := by decide +kernel
theorem d_MM_path_5 : decode b_MM_path 5 = .ok (.ifCond .eq 20, 3) := by decide +kernel
theorem d_MM_path_8 : decode b_MM_path 8 = .ok (.iload_n 2, 1) := by decide +kernel
theorem d_MM_path_9 : decode b_MM_path 9 = .ok (.i2l, 1) := by decide +kernel
theorem d_MM_path_10 : decode b_MM_path 10 = .ok (.lconst 0, 1) := by decide +kernel
theorem d_MM_path_11 : decode b_MM_path 11 = .ok (.ldc2_w 212, 3) := by decide +kernel
theorem d_MM_path_14 : decode b_MM_path 14 = .ok (.invokestatic 108, 3) := by decide +kernel
theorem d_MM_path_17 : decode b_MM_path 17 = .ok (.ifCond .eq 8, 3) := by decide +kernel
theorem d_MM_path_20 : decode b_MM_path 20 = .ok (.iload_n 3, 1) := by decide +kernel
theorem d_MM_path_21 : decode b_MM_path 21 = .ok (.iconst (-1), 1) := by decide +kernel
theorem d_MM_path_22 : decode b_MM_path 22 = .ok (.if_icmp .ge 5, 3) := by decide +kernel
theorem d_MM_path_25 : decode b_MM_path 25 = .ok (.iconst (-1), 1) := by decide +kernel
theorem d_MM_path_26 : decode b_MM_path 26 = .ok (.ireturn, 1) := by decide +kernel
theorem d_MM_path_27 : decode b_MM_path 27 = .ok (.aload_n 0, 1) := by decide +kernel
theorem d_MM_path_28 : decode b_MM_path 28 = .ok (.invokevirtual 321, 3) := by decide +kernel
theorem d_MM_path_31 : decode b_MM_path 31 = .ok (.aload_n 0, 1) := by decide +kernel
theorem d_MM_path_32 : decode b_MM_path 32 = .ok (.getfield 60, 3) := by decide +kernel
theorem d_MM_path_35 : decode b_MM_path 35 = .ok (.iload_n 1, 1) := by decide +kernel
theorem d_MM_path_36 : decode b_MM_path 36 = .ok (.iload_n 2, 1) := by decide +kernel
theorem d_MM_path_37 : decode b_MM_path 37 = .ok (.invokestatic 276, 3) := by decide +kernel
theorem d_MM_path_40 : decode b_MM_path 40 = .ok (.iaload, 1) := by decide +kernel
theorem d_MM_path_41 : decode b_MM_path 41 = .ok (.iconst (-1), 1) := by decide +kernel
theorem d_MM_path_42 : decode b_MM_path 42 = .ok (.if_icmp .ne 6, 3) := by decide +kernel
theorem d_MM_path_45 : decode b_MM_path 45 = .ok (.bipush (-2), 2) := by decide +kernel
theorem d_MM_path_47 : decode b_MM_path 47 = .ok (.ireturn, 1) := by decide +kernel
theorem d_MM_path_48 : decode b_MM_path 48 = .ok (.aload_n 0, 1) := by decide +kernel
theorem d_MM_path_49 : decode b_MM_path 49 = .ok (.getfield 63, 3) := by decide +kernel
theorem d_MM_path_52 : decode b_MM_path 52 = .ok (.iload_n 1, 1) := by decide +kernel
theorem d_MM_path_53 : decode b_MM_path 53 = .ok (.iload_n 2, 1) := by decide +kernel
theorem d_MM_path_54 : decode b_MM_path 54 = .ok (.invokestatic 276, 3) := by decide +kernel
theorem d_MM_path_57 : decode b_MM_path 57 = .ok (.iaload, 1) := by decide +kernel
theorem d_MM_path_58 : decode b_MM_path 58 = .ok (.istore 4, 2) := by decide +kernel
theorem d_MM_path_60 : decode b_MM_path 60 = .ok (.iload 4, 2) := by decide +kernel
theorem d_MM_path_62 : decode b_MM_path 62 = .ok (.iconst (-1), 1) := by decide +kernel
theorem d_MM_path_63 : decode b_MM_path 63 = .ok (.if_icmp .ne 7, 3) := by decide +kernel
theorem d_MM_path_66 : decode b_MM_path 66 = .ok (.iconst 0, 1) := by decide +kernel
theorem d_MM_path_67 : decode b_MM_path 67 = .ok (.goto 10, 3) := by decide +kernel
theorem d_MM_path_70 : decode b_MM_path 70 = .ok (.aload_n 0, 1) := by decide +kernel
theorem d_MM_path_71 : decode b_MM_path 71 = .ok (.getfield 48, 3) := by decide +kernel
theorem d_MM_path_74 : decode b_MM_path 74 = .ok (.iload 4, 2) := by decide +kernel
theorem d_MM_path_76 : decode b_MM_path 76 = .ok (.iaload, 1) := by decide +kernel
theorem d_MM_path_77 : decode b_MM_path 77 = .ok (.istore 5, 2) := by decide +kernel
theorem d_MM_path_79 : decode b_MM_path 79 = .ok (.iload_n 3, 1) := by decide +kernel
theorem d_MM_path_80 : decode b_MM_path 80 = .ok (.iconst (-1), 1) := by decide +kernel
theorem d_MM_path_81 : decode b_MM_path 81 = .ok (.if_icmp .ne 6, 3) := by decide +kernel
theorem d_MM_path_84 : decode b_MM_path 84 = .ok (.iload 5, 2) := by decide +kernel
theorem d_MM_path_86 : decode b_MM_path 86 = .ok (.ireturn, 1) := by decide +kernel
theorem d_MM_path_87 : decode b_MM_path 87 = .ok (.iload_n 3, 1) := by decide +kernel
theorem d_MM_path_88 : decode b_MM_path 88 = .ok (.iload 5, 2) := by decide +kernel
theorem d_MM_path_90 : decode b_MM_path 90 = .ok (.if_icmp .ge 18, 3) := by decide +kernel
theorem d_MM_path_93 : decode b_MM_path 93 = .ok (.aload_n 0, 1) := by decide +kernel
theorem d_MM_path_94 : decode b_MM_path 94 = .ok (.getfield 57, 3) := by decide +kernel
theorem d_MM_path_97 : decode b_MM_path 97 = .ok (.bipush 8, 2) := by decide +kernel
theorem d_MM_path_99 : decode b_MM_path 99 = .ok (.iload 4, 2) := by decide +kernel
theorem d_MM_path_101 : decode b_MM_path 101 = .ok (.imul, 1) := by decide +kernel
theorem d_MM_path_102 : decode b_MM_path 102 = .ok (.iload_n 3, 1) := by decide +kernel
theorem d_MM_path_103 : decode b_MM_path 103 = .ok (.iadd, 1) := by decide +kernel
theorem d_MM_path_104 : decode b_MM_path 104 = .ok (.iaload, 1) := by decide +kernel
theorem d_MM_path_105 : decode b_MM_path 105 = .ok (.goto 5, 3) := by decide +kernel
theorem d_MM_path_108 : decode b_MM_path 108 = .ok (.bipush (-2), 2) := by decide +kernel
theorem d_MM_path_110 : decode b_MM_path 110 = .ok (.ireturn, 1) := by decide +kernel
theorem d_MM_bears_0 : decode b_MM_bears 0 = .ok (.iconst 0, 1) := by decide +kernel
theorem d_MM_bears_1 : decode b_MM_bears 1 = .ok (.istore_n 3, 1) := by decide +kernel
theorem d_MM_bears_2 : decode b_MM_bears 2 = .ok (.iload_n 3, 1) := by decide +kernel
theorem d_MM_bears_3 : decode b_MM_bears 3 = .ok (.aload_n 0, 1) := by decide +kernel
theorem d_MM_bears_4 : decode b_MM_bears 4 = .ok (.getfield 48, 3) := by decide +kernel
theorem d_MM_bears_7 : decode b_MM_bears 7 = .ok (.iload_n 1, 1) := by decide +kernel
theorem d_MM_bears_8 : decode b_MM_bears 8 = .ok (.iaload, 1) := by decide +kernel
theorem d_MM_bears_9 : decode b_MM_bears 9 = .ok (.if_icmp .ge 26, 3) := by decide +kernel
theorem d_MM_bears_12 : decode b_MM_bears 12 = .ok (.aload_n 0, 1) := by decide +kernel
theorem d_MM_bears_13 : decode b_MM_bears 13 = .ok (.getfield 57, 3) := by decide +kernel
theorem d_MM_bears_16 : decode b_MM_bears 16 = .ok (.bipush 8, 2) := by decide +kernel
theorem d_MM_bears_18 : decode b_MM_bears 18 = .ok (.iload_n 1, 1) := by decide +kernel
theorem d_MM_bears_19 : decode b_MM_bears 19 = .ok (.imul, 1) := by decide +kernel
theorem d_MM_bears_20 : decode b_MM_bears 20 = .ok (.iload_n 3, 1) := by decide +kernel
theorem d_MM_bears_21 : decode b_MM_bears 21 = .ok (.iadd, 1) := by decide +kernel
theorem d_MM_bears_22 : decode b_MM_bears 22 = .ok (.iaload, 1) := by decide +kernel
theorem d_MM_bears_23 : decode b_MM_bears 23 = .ok (.iload_n 2, 1) := by decide +kernel
theorem d_MM_bears_24 : decode b_MM_bears 24 = .ok (.if_icmp .ne 5, 3) := by decide +kernel
theorem d_MM_bears_27 : decode b_MM_bears 27 = .ok (.iconst 1, 1) := by decide +kernel
theorem d_MM_bears_28 : decode b_MM_bears 28 = .ok (.ireturn, 1) := by decide +kernel
theorem d_MM_bears_29 : decode b_MM_bears 29 = .ok (.iinc 3 1, 3) := by decide +kernel
theorem d_MM_bears_32 : decode b_MM_bears 32 = .ok (.goto (-30), 3) := by decide +kernel
theorem d_MM_bears_35 : decode b_MM_bears 35 = .ok (.iconst 0, 1) := by decide +kernel
theorem d_MM_bears_36 : decode b_MM_bears 36 = .ok (.ireturn, 1) := by decide +kernel
theorem d_MM_caught_0 : decode b_MM_caught 0 = .ok (.aload_n 0, 1) := by decide +kernel
theorem d_MM_caught_1 : decode b_MM_caught 1 = .ok (.iload_n 1, 1) := by decide +kernel
theorem d_MM_caught_2 : decode b_MM_caught 2 = .ok (.invokevirtual 300, 3) := by decide +kernel
theorem d_MM_caught_5 : decode b_MM_caught 5 = .ok (.ifCond .ne 5, 3) := by decide +kernel
theorem d_MM_caught_8 : decode b_MM_caught 8 = .ok (.iconst (-1), 1) := by decide +kernel
theorem d_MM_caught_9 : decode b_MM_caught 9 = .ok (.ireturn, 1) := by decide +kernel
theorem d_MM_caught_10 : decode b_MM_caught 10 = .ok (.aload_n 0, 1) := by decide +kernel
theorem d_MM_caught_11 : decode b_MM_caught 11 = .ok (.invokevirtual 321, 3) := by decide +kernel
theorem d_MM_caught_14 : decode b_MM_caught 14 = .ok (.iload_n 1, 1) := by decide +kernel
theorem d_MM_caught_15 : decode b_MM_caught 15 = .ok (.aload_n 0, 1) := by decide +kernel
theorem d_MM_caught_16 : decode b_MM_caught 16 = .ok (.getfield 9, 3) := by decide +kernel
theorem d_MM_caught_19 : decode b_MM_caught 19 = .ok (.iconst 1, 1) := by decide +kernel
theorem d_MM_caught_20 : decode b_MM_caught 20 = .ok (.iaload, 1) := by decide +kernel
theorem d_MM_caught_21 : decode b_MM_caught 21 = .ok (.if_icmp .ne 14, 3) := by decide +kernel
theorem d_MM_caught_24 : decode b_MM_caught 24 = .ok (.iconst 1, 1) := by decide +kernel
theorem d_MM_caught_25 : decode b_MM_caught 25 = .ok (.aload_n 0, 1) := by decide +kernel
theorem d_MM_caught_26 : decode b_MM_caught 26 = .ok (.getfield 9, 3) := by decide +kernel
theorem d_MM_caught_29 : decode b_MM_caught 29 = .ok (.iconst 2, 1) := by decide +kernel
theorem d_MM_caught_30 : decode b_MM_caught 30 = .ok (.iaload, 1) := by decide +kernel
theorem d_MM_caught_31 : decode b_MM_caught 31 = .ok (.ishl, 1) := by decide +kernel
theorem d_MM_caught_32 : decode b_MM_caught 32 = .ok (.goto 4, 3) := by decide +kernel
theorem d_MM_caught_35 : decode b_MM_caught 35 = .ok (.iconst 0, 1) := by decide +kernel
theorem d_MM_caught_36 : decode b_MM_caught 36 = .ok (.istore_n 2, 1) := by decide +kernel
theorem d_MM_caught_37 : decode b_MM_caught 37 = .ok (.iconst 1, 1) := by decide +kernel
theorem d_MM_caught_38 : decode b_MM_caught 38 = .ok (.istore_n 3, 1) := by decide +kernel
theorem d_MM_caught_39 : decode b_MM_caught 39 = .ok (.iload_n 3, 1) := by decide +kernel
theorem d_MM_caught_40 : decode b_MM_caught 40 = .ok (.aload_n 0, 1) := by decide +kernel
theorem d_MM_caught_41 : decode b_MM_caught 41 = .ok (.getfield 9, 3) := by decide +kernel
theorem d_MM_caught_44 : decode b_MM_caught 44 = .ok (.iconst 3, 1) := by decide +kernel
theorem d_MM_caught_45 : decode b_MM_caught 45 = .ok (.iaload, 1) := by decide +kernel
theorem d_MM_caught_46 : decode b_MM_caught 46 = .ok (.if_icmp .gt 90, 3) := by decide +kernel
theorem d_MM_caught_49 : decode b_MM_caught 49 = .ok (.iconst 0, 1) := by decide +kernel
theorem d_MM_caught_50 : decode b_MM_caught 50 = .ok (.istore 4, 2) := by decide +kernel
theorem d_MM_caught_52 : decode b_MM_caught 52 = .ok (.iload 4, 2) := by decide +kernel
theorem d_MM_caught_54 : decode b_MM_caught 54 = .ok (.aload_n 0, 1) := by decide +kernel
theorem d_MM_caught_55 : decode b_MM_caught 55 = .ok (.getfield 264, 3) := by decide +kernel
theorem d_MM_caught_58 : decode b_MM_caught 58 = .ok (.if_icmp .ge 62, 3) := by decide +kernel
theorem d_MM_caught_61 : decode b_MM_caught 61 = .ok (.iload_n 2, 1) := by decide +kernel
theorem d_MM_caught_62 : decode b_MM_caught 62 = .ok (.aload_n 0, 1) := by decide +kernel
theorem d_MM_caught_63 : decode b_MM_caught 63 = .ok (.getfield 51, 3) := by decide +kernel
theorem d_MM_caught_66 : decode b_MM_caught 66 = .ok (.iload 4, 2) := by decide +kernel
theorem d_MM_caught_68 : decode b_MM_caught 68 = .ok (.iaload, 1) := by decide +kernel
theorem d_MM_caught_69 : decode b_MM_caught 69 = .ok (.iload_n 3, 1) := by decide +kernel
theorem d_MM_caught_70 : decode b_MM_caught 70 = .ok (.if_icmp .ne 41, 3) := by decide +kernel
theorem d_MM_caught_73 : decode b_MM_caught 73 = .ok (.aload_n 0, 1) := by decide +kernel
theorem d_MM_caught_74 : decode b_MM_caught 74 = .ok (.getfield 42, 3) := by decide +kernel
theorem d_MM_caught_77 : decode b_MM_caught 77 = .ok (.iload 4, 2) := by decide +kernel
theorem d_MM_caught_79 : decode b_MM_caught 79 = .ok (.iaload, 1) := by decide +kernel
theorem d_MM_caught_80 : decode b_MM_caught 80 = .ok (.iload_n 1, 1) := by decide +kernel
theorem d_MM_caught_81 : decode b_MM_caught 81 = .ok (.if_icmp .ne 30, 3) := by decide +kernel
theorem d_MM_caught_84 : decode b_MM_caught 84 = .ok (.aload_n 0, 1) := by decide +kernel
theorem d_MM_caught_85 : decode b_MM_caught 85 = .ok (.iload 4, 2) := by decide +kernel
theorem d_MM_caught_87 : decode b_MM_caught 87 = .ok (.aload_n 0, 1) := by decide +kernel
theorem d_MM_caught_88 : decode b_MM_caught 88 = .ok (.getfield 9, 3) := by decide +kernel
theorem d_MM_caught_91 : decode b_MM_caught 91 = .ok (.iconst 1, 1) := by decide +kernel
theorem d_MM_caught_92 : decode b_MM_caught 92 = .ok (.iaload, 1) := by decide +kernel
theorem d_MM_caught_93 : decode b_MM_caught 93 = .ok (.invokevirtual 353, 3) := by decide +kernel
theorem d_MM_caught_96 : decode b_MM_caught 96 = .ok (.ifCond .eq 15, 3) := by decide +kernel
theorem d_MM_caught_99 : decode b_MM_caught 99 = .ok (.iconst 1, 1) := by decide +kernel
theorem d_MM_caught_100 : decode b_MM_caught 100 = .ok (.aload_n 0, 1) := by decide +kernel
theorem d_MM_caught_101 : decode b_MM_caught 101 = .ok (.getfield 45, 3) := by decide +kernel
theorem d_MM_caught_104 : decode b_MM_caught 104 = .ok (.iload 4, 2) := by decide +kernel
theorem d_MM_caught_106 : decode b_MM_caught 106 = .ok (.iaload, 1) := by decide +kernel
theorem d_MM_caught_107 : decode b_MM_caught 107 = .ok (.ishl, 1) := by decide +kernel
theorem d_MM_caught_108 : decode b_MM_caught 108 = .ok (.goto 4, 3) := by decide +kernel
theorem d_MM_caught_111 : decode b_MM_caught 111 = .ok (.iconst 0, 1) := by decide +kernel
theorem d_MM_caught_112 : decode b_MM_caught 112 = .ok (.ior, 1) := by decide +kernel
theorem d_MM_caught_113 : decode b_MM_caught 113 = .ok (.istore_n 2, 1) := by decide +kernel
theorem d_MM_caught_114 : decode b_MM_caught 114 = .ok (.iinc 4 1, 3) := by decide +kernel
theorem d_MM_caught_117 : decode b_MM_caught 117 = .ok (.goto (-65), 3) := by decide +kernel
theorem d_MM_caught_120 : decode b_MM_caught 120 = .ok (.iload_n 2, 1) := by decide +kernel
theorem d_MM_caught_121 : decode b_MM_caught 121 = .ok (.invokestatic 255, 3) := by decide +kernel
theorem d_MM_caught_124 : decode b_MM_caught 124 = .ok (.iconst 1, 1) := by decide +kernel
theorem d_MM_caught_125 : decode b_MM_caught 125 = .ok (.if_icmp .le 5, 3) := by decide +kernel
theorem d_MM_caught_128 : decode b_MM_caught 128 = .ok (.iload_n 3, 1) := by decide +kernel
theorem d_MM_caught_129 : decode b_MM_caught 129 = .ok (.ireturn, 1) := by decide +kernel
theorem d_MM_caught_130 : decode b_MM_caught 130 = .ok (.iinc 3 1, 3) := by decide +kernel
theorem d_MM_caught_133 : decode b_MM_caught 133 = .ok (.goto (-94), 3) := by decide +kernel
theorem d_MM_caught_136 : decode b_MM_caught 136 = .ok (.bipush (-2), 2) := by decide +kernel
theorem d_MM_caught_138 : decode b_MM_caught 138 = .ok (.ireturn, 1) := by decide +kernel
theorem d_MM_bits_0 : decode b_MM_bits 0 = .ok (.aload_n 0, 1) := by decide +kernel
theorem d_MM_bits_1 : decode b_MM_bits 1 = .ok (.getfield 9, 3) := by decide +kernel
theorem d_MM_bits_4 : decode b_MM_bits 4 = .ok (.iconst 0, 1) := by decide +kernel
theorem d_MM_bits_5 : decode b_MM_bits 5 = .ok (.iaload, 1) := by decide +kernel
theorem d_MM_bits_6 : decode b_MM_bits 6 = .ok (.ifCond .eq 20, 3) := by decide +kernel
theorem d_MM_bits_9 : decode b_MM_bits 9 = .ok (.iload_n 1, 1) := by decide +kernel
theorem d_MM_bits_10 : decode b_MM_bits 10 = .ok (.iconst (-1), 1) := by decide +kernel
theorem d_MM_bits_11 : decode b_MM_bits 11 = .ok (.if_icmp .eq 17, 3) := by decide +kernel
theorem d_MM_bits_14 : decode b_MM_bits 14 = .ok (.iload_n 1, 1) := by decide +kernel
theorem d_MM_bits_15 : decode b_MM_bits 15 = .ok (.i2l, 1) := by decide +kernel
theorem d_MM_bits_16 : decode b_MM_bits 16 = .ok (.lconst 1, 1) := by decide +kernel
theorem d_MM_bits_17 : decode b_MM_bits 17 = .ok (.ldc2_w 208, 3) := by decide +kernel
theorem d_MM_bits_20 : decode b_MM_bits 20 = .ok (.invokestatic 108, 3) := by decide +kernel
theorem d_MM_bits_23 : decode b_MM_bits 23 = .ok (.ifCond .ne 5, 3) := by decide +kernel
theorem d_MM_bits_26 : decode b_MM_bits 26 = .ok (.iconst (-1), 1) := by decide +kernel
theorem d_MM_bits_27 : decode b_MM_bits 27 = .ok (.ireturn, 1) := by decide +kernel
theorem d_MM_bits_28 : decode b_MM_bits 28 = .ok (.aload_n 0, 1) := by decide +kernel
theorem d_MM_bits_29 : decode b_MM_bits 29 = .ok (.invokevirtual 321, 3) := by decide +kernel
theorem d_MM_bits_32 : decode b_MM_bits 32 = .ok (.iconst 0, 1) := by decide +kernel
theorem d_MM_bits_33 : decode b_MM_bits 33 = .ok (.istore_n 2, 1) := by decide +kernel
theorem d_MM_bits_34 : decode b_MM_bits 34 = .ok (.iconst 0, 1) := by decide +kernel
theorem d_MM_bits_35 : decode b_MM_bits 35 = .ok (.istore_n 3, 1) := by decide +kernel
theorem d_MM_bits_36 : decode b_MM_bits 36 = .ok (.iconst 0, 1) := by decide +kernel
theorem d_MM_bits_37 : decode b_MM_bits 37 = .ok (.istore 4, 2) := by decide +kernel
theorem d_MM_bits_39 : decode b_MM_bits 39 = .ok (.iload 4, 2) := by decide +kernel
theorem d_MM_bits_41 : decode b_MM_bits 41 = .ok (.aload_n 0, 1) := by decide +kernel
theorem d_MM_bits_42 : decode b_MM_bits 42 = .ok (.getfield 264, 3) := by decide +kernel
theorem d_MM_bits_45 : decode b_MM_bits 45 = .ok (.if_icmp .ge 49, 3) := by decide +kernel
theorem d_MM_bits_48 : decode b_MM_bits 48 = .ok (.iconst 5, 1) := by decide +kernel
theorem d_MM_bits_49 : decode b_MM_bits 49 = .ok (.iconst 3, 1) := by decide +kernel
theorem d_MM_bits_50 : decode b_MM_bits 50 = .ok (.aload_n 0, 1) := by decide +kernel
theorem d_MM_bits_51 : decode b_MM_bits 51 = .ok (.getfield 48, 3) := by decide +kernel
theorem d_MM_bits_54 : decode b_MM_bits 54 = .ok (.iload 4, 2) := by decide +kernel
theorem d_MM_bits_56 : decode b_MM_bits 56 = .ok (.iaload, 1) := by decide +kernel
theorem d_MM_bits_57 : decode b_MM_bits 57 = .ok (.imul, 1) := by decide +kernel
theorem d_MM_bits_58 : decode b_MM_bits 58 = .ok (.iadd, 1) := by decide +kernel
theorem d_MM_bits_59 : decode b_MM_bits 59 = .ok (.istore 5, 2) := by decide +kernel
theorem d_MM_bits_61 : decode b_MM_bits 61 = .ok (.iload_n 3, 1) := by decide +kernel
theorem d_MM_bits_62 : decode b_MM_bits 62 = .ok (.iload 5, 2) := by decide +kernel
theorem d_MM_bits_64 : decode b_MM_bits 64 = .ok (.invokestatic 356, 3) := by decide +kernel
theorem d_MM_bits_67 : decode b_MM_bits 67 = .ok (.istore_n 3, 1) := by decide +kernel
theorem d_MM_bits_68 : decode b_MM_bits 68 = .ok (.iload_n 2, 1) := by decide +kernel
theorem d_MM_bits_69 : decode b_MM_bits 69 = .ok (.aload_n 0, 1) := by decide +kernel
theorem d_MM_bits_70 : decode b_MM_bits 70 = .ok (.getfield 36, 3) := by decide +kernel
theorem d_MM_bits_73 : decode b_MM_bits 73 = .ok (.iload 4, 2) := by decide +kernel
theorem d_MM_bits_75 : decode b_MM_bits 75 = .ok (.iaload, 1) := by decide +kernel
theorem d_MM_bits_76 : decode b_MM_bits 76 = .ok (.iload_n 1, 1) := by decide +kernel
theorem d_MM_bits_77 : decode b_MM_bits 77 = .ok (.if_icmp .ne 8, 3) := by decide +kernel
theorem d_MM_bits_80 : decode b_MM_bits 80 = .ok (.iload 5, 2) := by decide +kernel
theorem d_MM_bits_82 : decode b_MM_bits 82 = .ok (.goto 4, 3) := by decide +kernel
theorem d_MM_bits_85 : decode b_MM_bits 85 = .ok (.iconst 0, 1) := by decide +kernel
theorem d_MM_bits_86 : decode b_MM_bits 86 = .ok (.iadd, 1) := by decide +kernel
theorem d_MM_bits_87 : decode b_MM_bits 87 = .ok (.istore_n 2, 1) := by decide +kernel
theorem d_MM_bits_88 : decode b_MM_bits 88 = .ok (.iinc 4 1, 3) := by decide +kernel
theorem d_MM_bits_91 : decode b_MM_bits 91 = .ok (.goto (-52), 3) := by decide +kernel
theorem d_MM_bits_94 : decode b_MM_bits 94 = .ok (.iload_n 1, 1) := by decide +kernel
theorem d_MM_bits_95 : decode b_MM_bits 95 = .ok (.iconst (-1), 1) := by decide +kernel
theorem d_MM_bits_96 : decode b_MM_bits 96 = .ok (.if_icmp .ne 7, 3) := by decide +kernel
theorem d_MM_bits_99 : decode b_MM_bits 99 = .ok (.iload_n 3, 1) := by decide +kernel
theorem d_MM_bits_100 : decode b_MM_bits 100 = .ok (.goto 4, 3) := by decide +kernel
theorem d_MM_bits_103 : decode b_MM_bits 103 = .ok (.iload_n 2, 1) := by decide +kernel
theorem d_MM_bits_104 : decode b_MM_bits 104 = .ok (.ireturn, 1) := by decide +kernel
theorem d_MM_loadOf_0 : decode b_MM_loadOf 0 = .ok (.iconst 0, 1) := by decide +kernel
theorem d_MM_loadOf_1 : decode b_MM_loadOf 1 = .ok (.istore_n 3, 1) := by decide +kernel
theorem d_MM_loadOf_2 : decode b_MM_loadOf 2 = .ok (.iconst 0, 1) := by decide +kernel
theorem d_MM_loadOf_3 : decode b_MM_loadOf 3 = .ok (.istore 4, 2) := by decide +kernel
theorem d_MM_loadOf_5 : decode b_MM_loadOf 5 = .ok (.iload 4, 2) := by decide +kernel
theorem d_MM_loadOf_7 : decode b_MM_loadOf 7 = .ok (.aload_n 0, 1) := by decide +kernel
theorem d_MM_loadOf_8 : decode b_MM_loadOf 8 = .ok (.getfield 264, 3) := by decide +kernel
theorem d_MM_loadOf_11 : decode b_MM_loadOf 11 = .ok (.if_icmp .ge 42, 3) := by decide +kernel
theorem d_MM_loadOf_14 : decode b_MM_loadOf 14 = .ok (.iload_n 3, 1) := by decide +kernel
theorem d_MM_loadOf_15 : decode b_MM_loadOf 15 = .ok (.aload_n 0, 1) := by decide +kernel
theorem d_MM_loadOf_16 : decode b_MM_loadOf 16 = .ok (.getfield 39, 3) := by decide +kernel
theorem d_MM_loadOf_19 : decode b_MM_loadOf 19 = .ok (.iload 4, 2) := by decide +kernel
theorem d_MM_loadOf_21 : decode b_MM_loadOf 21 = .ok (.iaload, 1) := by decide +kernel
theorem d_MM_loadOf_22 : decode b_MM_loadOf 22 = .ok (.iload_n 1, 1) := by decide +kernel
theorem d_MM_loadOf_23 : decode b_MM_loadOf 23 = .ok (.if_icmp .ne 18, 3) := by decide +kernel
theorem d_MM_loadOf_26 : decode b_MM_loadOf 26 = .ok (.aload_n 0, 1) := by decide +kernel
theorem d_MM_loadOf_27 : decode b_MM_loadOf 27 = .ok (.getfield 42, 3) := by decide +kernel
theorem d_MM_loadOf_30 : decode b_MM_loadOf 30 = .ok (.iload 4, 2) := by decide +kernel
theorem d_MM_loadOf_32 : decode b_MM_loadOf 32 = .ok (.iaload, 1) := by decide +kernel
theorem d_MM_loadOf_33 : decode b_MM_loadOf 33 = .ok (.iload_n 2, 1) := by decide +kernel
theorem d_MM_loadOf_34 : decode b_MM_loadOf 34 = .ok (.if_icmp .ne 7, 3) := by decide +kernel
theorem d_MM_loadOf_37 : decode b_MM_loadOf 37 = .ok (.iconst 1, 1) := by decide +kernel
theorem d_MM_loadOf_38 : decode b_MM_loadOf 38 = .ok (.goto 4, 3) := by decide +kernel
theorem d_MM_loadOf_41 : decode b_MM_loadOf 41 = .ok (.iconst 0, 1) := by decide +kernel
theorem d_MM_loadOf_42 : decode b_MM_loadOf 42 = .ok (.invokestatic 150, 3) := by decide +kernel
theorem d_MM_loadOf_45 : decode b_MM_loadOf 45 = .ok (.iadd, 1) := by decide +kernel
theorem d_MM_loadOf_46 : decode b_MM_loadOf 46 = .ok (.istore_n 3, 1) := by decide +kernel
theorem d_MM_loadOf_47 : decode b_MM_loadOf 47 = .ok (.iinc 4 1, 3) := by decide +kernel
theorem d_MM_loadOf_50 : decode b_MM_loadOf 50 = .ok (.goto (-45), 3) := by decide +kernel
theorem d_MM_loadOf_53 : decode b_MM_loadOf 53 = .ok (.iload_n 3, 1) := by decide +kernel
theorem d_MM_loadOf_54 : decode b_MM_loadOf 54 = .ok (.ireturn, 1) := by decide +kernel
theorem d_MM_load_0 : decode b_MM_load 0 = .ok (.aload_n 0, 1) := by decide +kernel
theorem d_MM_load_1 : decode b_MM_load 1 = .ok (.getfield 9, 3) := by decide +kernel
theorem d_MM_load_4 : decode b_MM_load 4 = .ok (.iconst 0, 1) := by decide +kernel
theorem d_MM_load_5 : decode b_MM_load 5 = .ok (.iaload, 1) := by decide +kernel
theorem d_MM_load_6 : decode b_MM_load 6 = .ok (.ifCond .eq 17, 3) := by decide +kernel
theorem d_MM_load_9 : decode b_MM_load 9 = .ok (.iload_n 1, 1) := by decide +kernel
theorem d_MM_load_10 : decode b_MM_load 10 = .ok (.iconst (-1), 1) := by decide +kernel
theorem d_MM_load_11 : decode b_MM_load 11 = .ok (.if_icmp .eq 14, 3) := by decide +kernel
theorem d_MM_load_14 : decode b_MM_load 14 = .ok (.aload_n 0, 1) := by decide +kernel
theorem d_MM_load_15 : decode b_MM_load 15 = .ok (.iload_n 1, 1) := by decide +kernel
theorem d_MM_load_16 : decode b_MM_load 16 = .ok (.iload_n 2, 1) := by decide +kernel
theorem d_MM_load_17 : decode b_MM_load 17 = .ok (.invokevirtual 224, 3) := by decide +kernel
theorem d_MM_load_20 : decode b_MM_load 20 = .ok (.ifCond .ne 5, 3) := by decide +kernel
theorem d_MM_load_23 : decode b_MM_load 23 = .ok (.iconst (-1), 1) := by decide +kernel
theorem d_MM_load_24 : decode b_MM_load 24 = .ok (.ireturn, 1) := by decide +kernel
theorem d_MM_load_25 : decode b_MM_load 25 = .ok (.aload_n 0, 1) := by decide +kernel
theorem d_MM_load_26 : decode b_MM_load 26 = .ok (.invokevirtual 321, 3) := by decide +kernel
theorem d_MM_load_29 : decode b_MM_load 29 = .ok (.iload_n 1, 1) := by decide +kernel
theorem d_MM_load_30 : decode b_MM_load 30 = .ok (.iconst (-1), 1) := by decide +kernel
theorem d_MM_load_31 : decode b_MM_load 31 = .ok (.if_icmp .eq 10, 3) := by decide +kernel
theorem d_MM_load_34 : decode b_MM_load 34 = .ok (.aload_n 0, 1) := by decide +kernel
theorem d_MM_load_35 : decode b_MM_load 35 = .ok (.iload_n 1, 1) := by decide +kernel
theorem d_MM_load_36 : decode b_MM_load 36 = .ok (.iload_n 2, 1) := by decide +kernel
theorem d_MM_load_37 : decode b_MM_load 37 = .ok (.invokevirtual 359, 3) := by decide +kernel
theorem d_MM_load_40 : decode b_MM_load 40 = .ok (.ireturn, 1) := by decide +kernel
theorem d_MM_load_41 : decode b_MM_load 41 = .ok (.iconst 0, 1) := by decide +kernel
theorem d_MM_load_42 : decode b_MM_load 42 = .ok (.istore_n 3, 1) := by decide +kernel
theorem d_MM_load_43 : decode b_MM_load 43 = .ok (.iconst 0, 1) := by decide +kernel
theorem d_MM_load_44 : decode b_MM_load 44 = .ok (.istore 4, 2) := by decide +kernel
theorem d_MM_load_46 : decode b_MM_load 46 = .ok (.iload 4, 2) := by decide +kernel
theorem d_MM_load_48 : decode b_MM_load 48 = .ok (.aload_n 0, 1) := by decide +kernel
theorem d_MM_load_49 : decode b_MM_load 49 = .ok (.getfield 9, 3) := by decide +kernel
theorem d_MM_load_52 : decode b_MM_load 52 = .ok (.iconst 0, 1) := by decide +kernel
theorem d_MM_load_53 : decode b_MM_load 53 = .ok (.iaload, 1) := by decide +kernel
theorem d_MM_load_54 : decode b_MM_load 54 = .ok (.if_icmp .ge 42, 3) := by decide +kernel
theorem d_MM_load_57 : decode b_MM_load 57 = .ok (.iconst 0, 1) := by decide +kernel
theorem d_MM_load_58 : decode b_MM_load 58 = .ok (.istore 5, 2) := by decide +kernel
theorem d_MM_load_60 : decode b_MM_load 60 = .ok (.iload 5, 2) := by decide +kernel
theorem d_MM_load_62 : decode b_MM_load 62 = .ok (.aload_n 0, 1) := by decide +kernel
theorem d_MM_load_63 : decode b_MM_load 63 = .ok (.getfield 9, 3) := by decide +kernel
theorem d_MM_load_66 : decode b_MM_load 66 = .ok (.iconst 0, 1) := by decide +kernel
theorem d_MM_load_67 : decode b_MM_load 67 = .ok (.iaload, 1) := by decide +kernel
theorem d_MM_load_68 : decode b_MM_load 68 = .ok (.if_icmp .ge 22, 3) := by decide +kernel
theorem d_MM_load_71 : decode b_MM_load 71 = .ok (.iload_n 3, 1) := by decide +kernel
theorem d_MM_load_72 : decode b_MM_load 72 = .ok (.aload_n 0, 1) := by decide +kernel
theorem d_MM_load_73 : decode b_MM_load 73 = .ok (.iload 4, 2) := by decide +kernel
theorem d_MM_load_75 : decode b_MM_load 75 = .ok (.iload 5, 2) := by decide +kernel
theorem d_MM_load_77 : decode b_MM_load 77 = .ok (.invokevirtual 359, 3) := by decide +kernel
theorem d_MM_load_80 : decode b_MM_load 80 = .ok (.invokestatic 356, 3) := by decide +kernel
theorem d_MM_load_83 : decode b_MM_load 83 = .ok (.istore_n 3, 1) := by decide +kernel
theorem d_MM_load_84 : decode b_MM_load 84 = .ok (.iinc 5 1, 3) := by decide +kernel
theorem d_MM_load_87 : decode b_MM_load 87 = .ok (.goto (-27), 3) := by decide +kernel
theorem d_MM_load_90 : decode b_MM_load 90 = .ok (.iinc 4 1, 3) := by decide +kernel
theorem d_MM_load_93 : decode b_MM_load 93 = .ok (.goto (-47), 3) := by decide +kernel
theorem d_MM_load_96 : decode b_MM_load 96 = .ok (.iload_n 3, 1) := by decide +kernel
theorem d_MM_load_97 : decode b_MM_load 97 = .ok (.ireturn, 1) := by decide +kernel
theorem d_MM_isCalm_0 : decode b_MM_isCalm 0 = .ok (.aload_n 0, 1) := by decide +kernel
theorem d_MM_isCalm_1 : decode b_MM_isCalm 1 = .ok (.invokevirtual 332, 3) := by decide +kernel
theorem d_MM_isCalm_4 : decode b_MM_isCalm 4 = .ok (.istore_n 3, 1) := by decide +kernel
theorem d_MM_isCalm_5 : decode b_MM_isCalm 5 = .ok (.iconst (-1), 1) := by decide +kernel
theorem d_MM_isCalm_6 : decode b_MM_isCalm 6 = .ok (.istore 4, 2) := by decide +kernel
theorem d_MM_isCalm_8 : decode b_MM_isCalm 8 = .ok (.iconst 0, 1) := by decide +kernel
theorem d_MM_isCalm_9 : decode b_MM_isCalm 9 = .ok (.istore 5, 2) := by decide +kernel
theorem d_MM_isCalm_11 : decode b_MM_isCalm 11 = .ok (.iload 5, 2) := by decide +kernel
theorem d_MM_isCalm_13 : decode b_MM_isCalm 13 = .ok (.aload_n 0, 1) := by decide +kernel
theorem d_MM_isCalm_14 : decode b_MM_isCalm 14 = .ok (.getfield 9, 3) := by decide +kernel
theorem d_MM_isCalm_17 : decode b_MM_isCalm 17 = .ok (.iconst 0, 1) := by decide +kernel
theorem d_MM_isCalm_18 : decode b_MM_isCalm 18 = .ok (.iaload, 1) := by decide +kernel
theorem d_MM_isCalm_19 : decode b_MM_isCalm 19 = .ok (.if_icmp .ge 89, 3) := by decide +kernel
theorem d_MM_isCalm_22 : decode b_MM_isCalm 22 = .ok (.iload_n 1, 1) := by decide +kernel
theorem d_MM_isCalm_23 : decode b_MM_isCalm 23 = .ok (.ifCond .ne 36, 3) := by decide +kernel
theorem d_MM_isCalm_26 : decode b_MM_isCalm 26 = .ok (.aload_n 0, 1) := by decide +kernel
theorem d_MM_isCalm_27 : decode b_MM_isCalm 27 = .ok (.iload 5, 2) := by decide +kernel
theorem d_MM_isCalm_29 : decode b_MM_isCalm 29 = .ok (.invokevirtual 205, 3) := by decide +kernel
theorem d_MM_isCalm_32 : decode b_MM_isCalm 32 = .ok (.ifCond .ne 27, 3) := by decide +kernel
theorem d_MM_isCalm_35 : decode b_MM_isCalm 35 = .ok (.aload_n 0, 1) := by decide +kernel
theorem d_MM_isCalm_36 : decode b_MM_isCalm 36 = .ok (.iload 5, 2) := by decide +kernel
theorem d_MM_isCalm_38 : decode b_MM_isCalm 38 = .ok (.iload_n 2, 1) := by decide +kernel
theorem d_MM_isCalm_39 : decode b_MM_isCalm 39 = .ok (.invokevirtual 312, 3) := by decide +kernel
theorem d_MM_isCalm_42 : decode b_MM_isCalm 42 = .ok (.aload_n 0, 1) := by decide +kernel
theorem d_MM_isCalm_43 : decode b_MM_isCalm 43 = .ok (.iload 5, 2) := by decide +kernel
theorem d_MM_isCalm_45 : decode b_MM_isCalm 45 = .ok (.aload_n 0, 1) := by decide +kernel
theorem d_MM_isCalm_46 : decode b_MM_isCalm 46 = .ok (.getfield 9, 3) := by decide +kernel
theorem d_MM_isCalm_49 : decode b_MM_isCalm 49 = .ok (.iconst 3, 1) := by decide +kernel
theorem d_MM_isCalm_50 : decode b_MM_isCalm 50 = .ok (.iaload, 1) := by decide +kernel
theorem d_MM_isCalm_51 : decode b_MM_isCalm 51 = .ok (.invokevirtual 312, 3) := by decide +kernel
theorem d_MM_isCalm_54 : decode b_MM_isCalm 54 = .ok (.if_icmp .eq 5, 3) := by decide +kernel
theorem d_MM_isCalm_57 : decode b_MM_isCalm 57 = .ok (.iconst 0, 1) := by decide +kernel
theorem d_MM_isCalm_58 : decode b_MM_isCalm 58 = .ok (.ireturn, 1) := by decide +kernel
theorem d_MM_isCalm_59 : decode b_MM_isCalm 59 = .ok (.iload_n 1, 1) := by decide +kernel
theorem d_MM_isCalm_60 : decode b_MM_isCalm 60 = .ok (.iconst 1, 1) := by decide +kernel
theorem d_MM_isCalm_61 : decode b_MM_isCalm 61 = .ok (.if_icmp .ne 41, 3) := by decide +kernel
theorem d_MM_isCalm_64 : decode b_MM_isCalm 64 = .ok (.iload_n 3, 1) := by decide +kernel
theorem d_MM_isCalm_65 : decode b_MM_isCalm 65 = .ok (.iload 5, 2) := by decide +kernel
theorem d_MM_isCalm_67 : decode b_MM_isCalm 67 = .ok (.invokestatic 201, 3) := by decide +kernel
theorem d_MM_isCalm_70 : decode b_MM_isCalm 70 = .ok (.ifCond .eq 32, 3) := by decide +kernel
theorem d_MM_isCalm_73 : decode b_MM_isCalm 73 = .ok (.iload 4, 2) := by decide +kernel
theorem d_MM_isCalm_75 : decode b_MM_isCalm 75 = .ok (.iconst (-1), 1) := by decide +kernel
theorem d_MM_isCalm_76 : decode b_MM_isCalm 76 = .ok (.if_icmp .eq 17, 3) := by decide +kernel
theorem d_MM_isCalm_79 : decode b_MM_isCalm 79 = .ok (.aload_n 0, 1) := by decide +kernel
theorem d_MM_isCalm_80 : decode b_MM_isCalm 80 = .ok (.iload 5, 2) := by decide +kernel
theorem d_MM_isCalm_82 : decode b_MM_isCalm 82 = .ok (.iload_n 2, 1) := by decide +kernel
theorem d_MM_isCalm_83 : decode b_MM_isCalm 83 = .ok (.invokevirtual 312, 3) := by decide +kernel
theorem d_MM_isCalm_86 : decode b_MM_isCalm 86 = .ok (.iload 4, 2) := by decide +kernel
theorem d_MM_isCalm_88 : decode b_MM_isCalm 88 = .ok (.if_icmp .eq 5, 3) := by decide +kernel
theorem d_MM_isCalm_91 : decode b_MM_isCalm 91 = .ok (.iconst 0, 1) := by decide +kernel
theorem d_MM_isCalm_92 : decode b_MM_isCalm 92 = .ok (.ireturn, 1) := by decide +kernel
theorem d_MM_isCalm_93 : decode b_MM_isCalm 93 = .ok (.aload_n 0, 1) := by decide +kernel
theorem d_MM_isCalm_94 : decode b_MM_isCalm 94 = .ok (.iload 5, 2) := by decide +kernel
theorem d_MM_isCalm_96 : decode b_MM_isCalm 96 = .ok (.iload_n 2, 1) := by decide +kernel
theorem d_MM_isCalm_97 : decode b_MM_isCalm 97 = .ok (.invokevirtual 312, 3) := by decide +kernel
theorem d_MM_isCalm_100 : decode b_MM_isCalm 100 = .ok (.istore 4, 2) := by decide +kernel
theorem d_MM_isCalm_102 : decode b_MM_isCalm 102 = .ok (.iinc 5 1, 3) := by decide +kernel
theorem d_MM_isCalm_105 : decode b_MM_isCalm 105 = .ok (.goto (-94), 3) := by decide +kernel
theorem d_MM_isCalm_108 : decode b_MM_isCalm 108 = .ok (.iconst 1, 1) := by decide +kernel
theorem d_MM_isCalm_109 : decode b_MM_isCalm 109 = .ok (.ireturn, 1) := by decide +kernel
theorem d_MM_calm_0 : decode b_MM_calm 0 = .ok (.aload_n 0, 1) := by decide +kernel
theorem d_MM_calm_1 : decode b_MM_calm 1 = .ok (.getfield 9, 3) := by decide +kernel
theorem d_MM_calm_4 : decode b_MM_calm 4 = .ok (.iconst 0, 1) := by decide +kernel
theorem d_MM_calm_5 : decode b_MM_calm 5 = .ok (.iaload, 1) := by decide +kernel
theorem d_MM_calm_6 : decode b_MM_calm 6 = .ok (.ifCond .eq 13, 3) := by decide +kernel
theorem d_MM_calm_9 : decode b_MM_calm 9 = .ok (.iload_n 1, 1) := by decide +kernel
theorem d_MM_calm_10 : decode b_MM_calm 10 = .ok (.i2l, 1) := by decide +kernel
theorem d_MM_calm_11 : decode b_MM_calm 11 = .ok (.lconst 0, 1) := by decide +kernel
theorem d_MM_calm_12 : decode b_MM_calm 12 = .ok (.lconst 1, 1) := by decide +kernel
theorem d_MM_calm_13 : decode b_MM_calm 13 = .ok (.invokestatic 108, 3) := by decide +kernel
theorem d_MM_calm_16 : decode b_MM_calm 16 = .ok (.ifCond .ne 5, 3) := by decide +kernel
theorem d_MM_calm_19 : decode b_MM_calm 19 = .ok (.iconst (-1), 1) := by decide +kernel
theorem d_MM_calm_20 : decode b_MM_calm 20 = .ok (.ireturn, 1) := by decide +kernel
theorem d_MM_calm_21 : decode b_MM_calm 21 = .ok (.aload_n 0, 1) := by decide +kernel
theorem d_MM_calm_22 : decode b_MM_calm 22 = .ok (.invokevirtual 321, 3) := by decide +kernel
theorem d_MM_calm_25 : decode b_MM_calm 25 = .ok (.bipush (-2), 2) := by decide +kernel
theorem d_MM_calm_27 : decode b_MM_calm 27 = .ok (.istore_n 2, 1) := by decide +kernel
theorem d_MM_calm_28 : decode b_MM_calm 28 = .ok (.aload_n 0, 1) := by decide +kernel
theorem d_MM_calm_29 : decode b_MM_calm 29 = .ok (.getfield 9, 3) := by decide +kernel
theorem d_MM_calm_32 : decode b_MM_calm 32 = .ok (.iconst 3, 1) := by decide +kernel
theorem d_MM_calm_33 : decode b_MM_calm 33 = .ok (.iaload, 1) := by decide +kernel
theorem d_MM_calm_34 : decode b_MM_calm 34 = .ok (.istore_n 3, 1) := by decide +kernel
theorem d_MM_calm_35 : decode b_MM_calm 35 = .ok (.iload_n 3, 1) := by decide +kernel
theorem d_MM_calm_36 : decode b_MM_calm 36 = .ok (.ifCond .lt 20, 3) := by decide +kernel
theorem d_MM_calm_39 : decode b_MM_calm 39 = .ok (.aload_n 0, 1) := by decide +kernel
theorem d_MM_calm_40 : decode b_MM_calm 40 = .ok (.iload_n 1, 1) := by decide +kernel
theorem d_MM_calm_41 : decode b_MM_calm 41 = .ok (.iload_n 3, 1) := by decide +kernel
theorem d_MM_calm_42 : decode b_MM_calm 42 = .ok (.invokevirtual 362, 3) := by decide +kernel
theorem d_MM_calm_45 : decode b_MM_calm 45 = .ok (.ifCond .eq 11, 3) := by decide +kernel
theorem d_MM_calm_48 : decode b_MM_calm 48 = .ok (.iload_n 3, 1) := by decide +kernel
theorem d_MM_calm_49 : decode b_MM_calm 49 = .ok (.istore_n 2, 1) := by decide +kernel
theorem d_MM_calm_50 : decode b_MM_calm 50 = .ok (.iinc 3 (-1), 3) := by decide +kernel
theorem d_MM_calm_53 : decode b_MM_calm 53 = .ok (.goto (-18), 3) := by decide +kernel
theorem d_MM_calm_56 : decode b_MM_calm 56 = .ok (.iload_n 2, 1) := by decide +kernel
theorem d_MM_calm_57 : decode b_MM_calm 57 = .ok (.ireturn, 1) := by decide +kernel
theorem d_MM_wanting_0 : decode b_MM_wanting 0 = .ok (.aload_n 0, 1) := by decide +kernel
theorem d_MM_wanting_1 : decode b_MM_wanting 1 = .ok (.invokevirtual 321, 3) := by decide +kernel
theorem d_MM_wanting_4 : decode b_MM_wanting 4 = .ok (.iconst 0, 1) := by decide +kernel
theorem d_MM_wanting_5 : decode b_MM_wanting 5 = .ok (.istore_n 1, 1) := by decide +kernel
theorem d_MM_wanting_6 : decode b_MM_wanting 6 = .ok (.iconst 0, 1) := by decide +kernel
theorem d_MM_wanting_7 : decode b_MM_wanting 7 = .ok (.istore_n 2, 1) := by decide +kernel
theorem d_MM_wanting_8 : decode b_MM_wanting 8 = .ok (.iload_n 2, 1) := by decide +kernel
theorem d_MM_wanting_9 : decode b_MM_wanting 9 = .ok (.aload_n 0, 1) := by decide +kernel
theorem d_MM_wanting_10 : decode b_MM_wanting 10 = .ok (.getfield 264, 3) := by decide +kernel
theorem d_MM_wanting_13 : decode b_MM_wanting 13 = .ok (.if_icmp .ge 58, 3) := by decide +kernel
theorem d_MM_wanting_16 : decode b_MM_wanting 16 = .ok (.iload_n 1, 1) := by decide +kernel
theorem d_MM_wanting_17 : decode b_MM_wanting 17 = .ok (.aload_n 0, 1) := by decide +kernel
theorem d_MM_wanting_18 : decode b_MM_wanting 18 = .ok (.getfield 51, 3) := by decide +kernel
theorem d_MM_wanting_21 : decode b_MM_wanting 21 = .ok (.iload_n 2, 1) := by decide +kernel
theorem d_MM_wanting_22 : decode b_MM_wanting 22 = .ok (.iaload, 1) := by decide +kernel
theorem d_MM_wanting_23 : decode b_MM_wanting 23 = .ok (.iconst (-1), 1) := by decide +kernel
theorem d_MM_wanting_24 : decode b_MM_wanting 24 = .ok (.if_icmp .eq 35, 3) := by decide +kernel
theorem d_MM_wanting_27 : decode b_MM_wanting 27 = .ok (.aload_n 0, 1) := by decide +kernel
theorem d_MM_wanting_28 : decode b_MM_wanting 28 = .ok (.aload_n 0, 1) := by decide +kernel
theorem d_MM_wanting_29 : decode b_MM_wanting 29 = .ok (.getfield 42, 3) := by decide +kernel
theorem d_MM_wanting_32 : decode b_MM_wanting 32 = .ok (.iload_n 2, 1) := by decide +kernel
theorem d_MM_wanting_33 : decode b_MM_wanting 33 = .ok (.iaload, 1) := by decide +kernel
theorem d_MM_wanting_34 : decode b_MM_wanting 34 = .ok (.invokevirtual 205, 3) := by decide +kernel
theorem d_MM_wanting_37 : decode b_MM_wanting 37 = .ok (.ifCond .ne 22, 3) := by decide +kernel
theorem d_MM_wanting_40 : decode b_MM_wanting 40 = .ok (.aload_n 0, 1) := by decide +kernel
theorem d_MM_wanting_41 : decode b_MM_wanting 41 = .ok (.getfield 48, 3) := by decide +kernel
theorem d_MM_wanting_44 : decode b_MM_wanting 44 = .ok (.iload_n 2, 1) := by decide +kernel
theorem d_MM_wanting_45 : decode b_MM_wanting 45 = .ok (.iaload, 1) := by decide +kernel
theorem d_MM_wanting_46 : decode b_MM_wanting 46 = .ok (.aload_n 0, 1) := by decide +kernel
theorem d_MM_wanting_47 : decode b_MM_wanting 47 = .ok (.getfield 51, 3) := by decide +kernel
theorem d_MM_wanting_50 : decode b_MM_wanting 50 = .ok (.iload_n 2, 1) := by decide +kernel
theorem d_MM_wanting_51 : decode b_MM_wanting 51 = .ok (.iaload, 1) := by decide +kernel
theorem d_MM_wanting_52 : decode b_MM_wanting 52 = .ok (.if_icmp .ge 7, 3) := by decide +kernel
theorem d_MM_wanting_55 : decode b_MM_wanting 55 = .ok (.iconst 1, 1) := by decide +kernel
theorem d_MM_wanting_56 : decode b_MM_wanting 56 = .ok (.goto 4, 3) := by decide +kernel
theorem d_MM_wanting_59 : decode b_MM_wanting 59 = .ok (.iconst 0, 1) := by decide +kernel
theorem d_MM_wanting_60 : decode b_MM_wanting 60 = .ok (.invokestatic 150, 3) := by decide +kernel
theorem d_MM_wanting_63 : decode b_MM_wanting 63 = .ok (.iadd, 1) := by decide +kernel
theorem d_MM_wanting_64 : decode b_MM_wanting 64 = .ok (.istore_n 1, 1) := by decide +kernel
theorem d_MM_wanting_65 : decode b_MM_wanting 65 = .ok (.iinc 2 1, 3) := by decide +kernel
theorem d_MM_wanting_68 : decode b_MM_wanting 68 = .ok (.goto (-60), 3) := by decide +kernel
theorem d_MM_wanting_71 : decode b_MM_wanting 71 = .ok (.iload_n 1, 1) := by decide +kernel
theorem d_MM_wanting_72 : decode b_MM_wanting 72 = .ok (.ireturn, 1) := by decide +kernel
theorem d_MM_count_0 : decode b_MM_count 0 = .ok (.iload_n 1, 1) := by decide +kernel
theorem d_MM_count_1 : decode b_MM_count 1 = .ok (.tableswitch 68 10 13 #[31, 36, 41, 63], 31) := by decide +kernel
theorem d_MM_count_32 : decode b_MM_count 32 = .ok (.aload_n 0, 1) := by decide +kernel
theorem d_MM_count_33 : decode b_MM_count 33 = .ok (.getfield 194, 3) := by decide +kernel
theorem d_MM_count_36 : decode b_MM_count 36 = .ok (.ireturn, 1) := by decide +kernel
theorem d_MM_count_37 : decode b_MM_count 37 = .ok (.aload_n 0, 1) := by decide +kernel
theorem d_MM_count_38 : decode b_MM_count 38 = .ok (.getfield 80, 3) := by decide +kernel
theorem d_MM_count_41 : decode b_MM_count 41 = .ok (.ireturn, 1) := by decide +kernel
theorem d_MM_count_42 : decode b_MM_count 42 = .ok (.aload_n 0, 1) := by decide +kernel
theorem d_MM_count_43 : decode b_MM_count 43 = .ok (.getfield 25, 3) := by decide +kernel
theorem d_MM_count_46 : decode b_MM_count 46 = .ok (.iconst 0, 1) := by decide +kernel
theorem d_MM_count_47 : decode b_MM_count 47 = .ok (.baload, 1) := by decide +kernel
theorem d_MM_count_48 : decode b_MM_count 48 = .ok (.invokestatic 150, 3) := by decide +kernel
theorem d_MM_count_51 : decode b_MM_count 51 = .ok (.aload_n 0, 1) := by decide +kernel
theorem d_MM_count_52 : decode b_MM_count 52 = .ok (.getfield 25, 3) := by decide +kernel
theorem d_MM_count_55 : decode b_MM_count 55 = .ok (.iconst 1, 1) := by decide +kernel
theorem d_MM_count_56 : decode b_MM_count 56 = .ok (.baload, 1) := by decide +kernel
theorem d_MM_count_57 : decode b_MM_count 57 = .ok (.invokestatic 150, 3) := by decide +kernel
theorem d_MM_count_60 : decode b_MM_count 60 = .ok (.iconst 1, 1) := by decide +kernel
theorem d_MM_count_61 : decode b_MM_count 61 = .ok (.ishl, 1) := by decide +kernel
theorem d_MM_count_62 : decode b_MM_count 62 = .ok (.ior, 1) := by decide +kernel
theorem d_MM_count_63 : decode b_MM_count 63 = .ok (.ireturn, 1) := by decide +kernel
theorem d_MM_count_64 : decode b_MM_count 64 = .ok (.aload_n 0, 1) := by decide +kernel
theorem d_MM_count_65 : decode b_MM_count 65 = .ok (.invokevirtual 365, 3) := by decide +kernel
theorem d_MM_count_68 : decode b_MM_count 68 = .ok (.ireturn, 1) := by decide +kernel
theorem d_MM_count_69 : decode b_MM_count 69 = .ok (.iload_n 1, 1) := by decide +kernel
theorem d_MM_count_70 : decode b_MM_count 70 = .ok (.i2l, 1) := by decide +kernel
theorem d_MM_count_71 : decode b_MM_count 71 = .ok (.lconst 0, 1) := by decide +kernel
theorem d_MM_count_72 : decode b_MM_count 72 = .ok (.ldc2_w 326, 3) := by decide +kernel
theorem d_MM_count_75 : decode b_MM_count 75 = .ok (.invokestatic 108, 3) := by decide +kernel
theorem d_MM_count_78 : decode b_MM_count 78 = .ok (.ifCond .eq 12, 3) := by decide +kernel
theorem d_MM_count_81 : decode b_MM_count 81 = .ok (.aload_n 0, 1) := by decide +kernel
theorem d_MM_count_82 : decode b_MM_count 82 = .ok (.getfield 9, 3) := by decide +kernel
theorem d_MM_count_85 : decode b_MM_count 85 = .ok (.iload_n 1, 1) := by decide +kernel
theorem d_MM_count_86 : decode b_MM_count 86 = .ok (.iaload, 1) := by decide +kernel
theorem d_MM_count_87 : decode b_MM_count 87 = .ok (.goto 4, 3) := by decide +kernel
theorem d_MM_count_90 : decode b_MM_count 90 = .ok (.iconst (-1), 1) := by decide +kernel
theorem d_MM_count_91 : decode b_MM_count 91 = .ok (.ireturn, 1) := by decide +kernel
theorem d_MM_planned_0 : decode b_MM_planned 0 = .ok (.iload_n 1, 1) := by decide +kernel
theorem d_MM_planned_1 : decode b_MM_planned 1 = .ok (.i2l, 1) := by decide +kernel
theorem d_MM_planned_2 : decode b_MM_planned 2 = .ok (.lconst 0, 1) := by decide +kernel
theorem d_MM_planned_3 : decode b_MM_planned 3 = .ok (.aload_n 0, 1) := by decide +kernel
theorem d_MM_planned_4 : decode b_MM_planned 4 = .ok (.getfield 9, 3) := by decide +kernel
theorem d_MM_planned_7 : decode b_MM_planned 7 = .ok (.bipush 7, 2) := by decide +kernel
theorem d_MM_planned_9 : decode b_MM_planned 9 = .ok (.iaload, 1) := by decide +kernel
theorem d_MM_planned_10 : decode b_MM_planned 10 = .ok (.iconst 1, 1) := by decide +kernel
theorem d_MM_planned_11 : decode b_MM_planned 11 = .ok (.isub, 1) := by decide +kernel
theorem d_MM_planned_12 : decode b_MM_planned 12 = .ok (.i2l, 1) := by decide +kernel
theorem d_MM_planned_13 : decode b_MM_planned 13 = .ok (.invokestatic 108, 3) := by decide +kernel
theorem d_MM_planned_16 : decode b_MM_planned 16 = .ok (.ifCond .eq 15, 3) := by decide +kernel
theorem d_MM_planned_19 : decode b_MM_planned 19 = .ok (.iload_n 2, 1) := by decide +kernel
theorem d_MM_planned_20 : decode b_MM_planned 20 = .ok (.i2l, 1) := by decide +kernel
theorem d_MM_planned_21 : decode b_MM_planned 21 = .ok (.lconst 0, 1) := by decide +kernel
theorem d_MM_planned_22 : decode b_MM_planned 22 = .ok (.ldc2_w 210, 3) := by decide +kernel
theorem d_MM_planned_25 : decode b_MM_planned 25 = .ok (.invokestatic 108, 3) := by decide +kernel
theorem d_MM_planned_28 : decode b_MM_planned 28 = .ok (.ifCond .ne 5, 3) := by decide +kernel
theorem d_MM_planned_31 : decode b_MM_planned 31 = .ok (.iconst (-1), 1) := by decide +kernel
theorem d_MM_planned_32 : decode b_MM_planned 32 = .ok (.ireturn, 1) := by decide +kernel
theorem d_MM_planned_33 : decode b_MM_planned 33 = .ok (.bipush 10, 2) := by decide +kernel
theorem d_MM_planned_35 : decode b_MM_planned 35 = .ok (.bipush 13, 2) := by decide +kernel
theorem d_MM_planned_37 : decode b_MM_planned 37 = .ok (.iload_n 1, 1) := by decide +kernel
theorem d_MM_planned_38 : decode b_MM_planned 38 = .ok (.imul, 1) := by decide +kernel
theorem d_MM_planned_39 : decode b_MM_planned 39 = .ok (.iadd, 1) := by decide +kernel
theorem d_MM_planned_40 : decode b_MM_planned 40 = .ok (.istore_n 3, 1) := by decide +kernel
theorem d_MM_planned_41 : decode b_MM_planned 41 = .ok (.iload_n 2, 1) := by decide +kernel
theorem d_MM_planned_42 : decode b_MM_planned 42 = .ok (.iconst 4, 1) := by decide +kernel
theorem d_MM_planned_43 : decode b_MM_planned 43 = .ok (.if_icmp .ge 12, 3) := by decide +kernel
theorem d_MM_planned_46 : decode b_MM_planned 46 = .ok (.aload_n 0, 1) := by decide +kernel
theorem d_MM_planned_47 : decode b_MM_planned 47 = .ok (.getfield 9, 3) := by decide +kernel
theorem d_MM_planned_50 : decode b_MM_planned 50 = .ok (.iload_n 3, 1) := by decide +kernel
theorem d_MM_planned_51 : decode b_MM_planned 51 = .ok (.iload_n 2, 1) := by decide +kernel
theorem d_MM_planned_52 : decode b_MM_planned 52 = .ok (.iadd, 1) := by decide +kernel
theorem d_MM_planned_53 : decode b_MM_planned 53 = .ok (.iaload, 1) := by decide +kernel
theorem d_MM_planned_54 : decode b_MM_planned 54 = .ok (.ireturn, 1) := by decide +kernel
theorem d_MM_planned_55 : decode b_MM_planned 55 = .ok (.iconst 0, 1) := by decide +kernel
theorem d_MM_planned_56 : decode b_MM_planned 56 = .ok (.istore 4, 2) := by decide +kernel
theorem d_MM_planned_58 : decode b_MM_planned 58 = .ok (.iconst 0, 1) := by decide +kernel
theorem d_MM_planned_59 : decode b_MM_planned 59 = .ok (.istore 5, 2) := by decide +kernel
theorem d_MM_planned_61 : decode b_MM_planned 61 = .ok (.iload 5, 2) := by decide +kernel
theorem d_MM_planned_63 : decode b_MM_planned 63 = .ok (.aload_n 0, 1) := by decide +kernel
theorem d_MM_planned_64 : decode b_MM_planned 64 = .ok (.getfield 9, 3) := by decide +kernel
theorem d_MM_planned_67 : decode b_MM_planned 67 = .ok (.iload_n 3, 1) := by decide +kernel
theorem d_MM_planned_68 : decode b_MM_planned 68 = .ok (.iconst 4, 1) := by decide +kernel
theorem d_MM_planned_69 : decode b_MM_planned 69 = .ok (.iadd, 1) := by decide +kernel
theorem d_MM_planned_70 : decode b_MM_planned 70 = .ok (.iaload, 1) := by decide +kernel
theorem d_MM_planned_71 : decode b_MM_planned 71 = .ok (.if_icmp .ge 30, 3) := by decide +kernel
theorem d_MM_planned_74 : decode b_MM_planned 74 = .ok (.bipush 10, 2) := by decide +kernel
theorem d_MM_planned_76 : decode b_MM_planned 76 = .ok (.iload 4, 2) := by decide +kernel
theorem d_MM_planned_78 : decode b_MM_planned 78 = .ok (.imul, 1) := by decide +kernel
theorem d_MM_planned_79 : decode b_MM_planned 79 = .ok (.aload_n 0, 1) := by decide +kernel
theorem d_MM_planned_80 : decode b_MM_planned 80 = .ok (.getfield 9, 3) := by decide +kernel
theorem d_MM_planned_83 : decode b_MM_planned 83 = .ok (.iload_n 3, 1) := by decide +kernel
theorem d_MM_planned_84 : decode b_MM_planned 84 = .ok (.iconst 5, 1) := by decide +kernel
theorem d_MM_planned_85 : decode b_MM_planned 85 = .ok (.iadd, 1) := by decide +kernel
theorem d_MM_planned_86 : decode b_MM_planned 86 = .ok (.iload 5, 2) := by decide +kernel
theorem d_MM_planned_88 : decode b_MM_planned 88 = .ok (.iadd, 1) := by decide +kernel
theorem d_MM_planned_89 : decode b_MM_planned 89 = .ok (.iaload, 1) := by decide +kernel
theorem d_MM_planned_90 : decode b_MM_planned 90 = .ok (.iadd, 1) := by decide +kernel
theorem d_MM_planned_91 : decode b_MM_planned 91 = .ok (.iconst 1, 1) := by decide +kernel
theorem d_MM_planned_92 : decode b_MM_planned 92 = .ok (.iadd, 1) := by decide +kernel
theorem d_MM_planned_93 : decode b_MM_planned 93 = .ok (.istore 4, 2) := by decide +kernel
theorem d_MM_planned_95 : decode b_MM_planned 95 = .ok (.iinc 5 1, 3) := by decide +kernel
theorem d_MM_planned_98 : decode b_MM_planned 98 = .ok (.goto (-37), 3) := by decide +kernel
theorem d_MM_planned_101 : decode b_MM_planned 101 = .ok (.iload 4, 2) := by decide +kernel
theorem d_MM_planned_103 : decode b_MM_planned 103 = .ok (.ireturn, 1) := by decide +kernel
theorem d_MM_fault_0 : decode b_MM_fault 0 = .ok (.iload_n 1, 1) := by decide +kernel
theorem d_MM_fault_1 : decode b_MM_fault 1 = .ok (.i2l, 1) := by decide +kernel
theorem d_MM_fault_2 : decode b_MM_fault 2 = .ok (.lconst 1, 1) := by decide +kernel
theorem d_MM_fault_3 : decode b_MM_fault 3 = .ok (.ldc2_w 237, 3) := by decide +kernel
theorem d_MM_fault_6 : decode b_MM_fault 6 = .ok (.invokestatic 108, 3) := by decide +kernel
theorem d_MM_fault_9 : decode b_MM_fault 9 = .ok (.ifCond .eq 36, 3) := by decide +kernel
theorem d_MM_fault_12 : decode b_MM_fault 12 = .ok (.iload_n 2, 1) := by decide +kernel
theorem d_MM_fault_13 : decode b_MM_fault 13 = .ok (.i2l, 1) := by decide +kernel
theorem d_MM_fault_14 : decode b_MM_fault 14 = .ok (.lconst 0, 1) := by decide +kernel
theorem d_MM_fault_15 : decode b_MM_fault 15 = .ok (.aload_n 0, 1) := by decide +kernel
theorem d_MM_fault_16 : decode b_MM_fault 16 = .ok (.getfield 9, 3) := by decide +kernel
theorem d_MM_fault_19 : decode b_MM_fault 19 = .ok (.bipush 7, 2) := by decide +kernel
theorem d_MM_fault_21 : decode b_MM_fault 21 = .ok (.iload_n 1, 1) := by decide +kernel
theorem d_MM_fault_22 : decode b_MM_fault 22 = .ok (.iadd, 1) := by decide +kernel
theorem d_MM_fault_23 : decode b_MM_fault 23 = .ok (.iaload, 1) := by decide +kernel
theorem d_MM_fault_24 : decode b_MM_fault 24 = .ok (.iconst 1, 1) := by decide +kernel
theorem d_MM_fault_25 : decode b_MM_fault 25 = .ok (.isub, 1) := by decide +kernel
theorem d_MM_fault_26 : decode b_MM_fault 26 = .ok (.i2l, 1) := by decide +kernel
theorem d_MM_fault_27 : decode b_MM_fault 27 = .ok (.invokestatic 108, 3) := by decide +kernel
theorem d_MM_fault_30 : decode b_MM_fault 30 = .ok (.ifCond .eq 15, 3) := by decide +kernel
theorem d_MM_fault_33 : decode b_MM_fault 33 = .ok (.iload_n 3, 1) := by decide +kernel
theorem d_MM_fault_34 : decode b_MM_fault 34 = .ok (.i2l, 1) := by decide +kernel
theorem d_MM_fault_35 : decode b_MM_fault 35 = .ok (.lconst 0, 1) := by decide +kernel
theorem d_MM_fault_36 : decode b_MM_fault 36 = .ok (.ldc2_w 212, 3) := by decide +kernel
theorem d_MM_fault_39 : decode b_MM_fault 39 = .ok (.invokestatic 108, 3) := by decide +kernel
theorem d_MM_fault_42 : decode b_MM_fault 42 = .ok (.ifCond .ne 5, 3) := by decide +kernel
theorem d_MM_fault_45 : decode b_MM_fault 45 = .ok (.iconst (-1), 1) := by decide +kernel
theorem d_MM_fault_46 : decode b_MM_fault 46 = .ok (.ireturn, 1) := by decide +kernel
theorem d_MM_fault_47 : decode b_MM_fault 47 = .ok (.iload_n 3, 1) := by decide +kernel
theorem d_MM_fault_48 : decode b_MM_fault 48 = .ok (.iconst 3, 1) := by decide +kernel
theorem d_MM_fault_49 : decode b_MM_fault 49 = .ok (.if_icmp .ne 12, 3) := by decide +kernel
theorem d_MM_fault_52 : decode b_MM_fault 52 = .ok (.iload_n 1, 1) := by decide +kernel
theorem d_MM_fault_53 : decode b_MM_fault 53 = .ok (.iconst 1, 1) := by decide +kernel
theorem d_MM_fault_54 : decode b_MM_fault 54 = .ok (.if_icmp .ne 7, 3) := by decide +kernel
theorem d_MM_fault_57 : decode b_MM_fault 57 = .ok (.iconst 0, 1) := by decide +kernel
theorem d_MM_fault_58 : decode b_MM_fault 58 = .ok (.goto 21, 3) := by decide +kernel
theorem d_MM_fault_61 : decode b_MM_fault 61 = .ok (.aload_n 0, 1) := by decide +kernel
theorem d_MM_fault_62 : decode b_MM_fault 62 = .ok (.getfield 9, 3) := by decide +kernel
theorem d_MM_fault_65 : decode b_MM_fault 65 = .ok (.iload_n 1, 1) := by decide +kernel
theorem d_MM_fault_66 : decode b_MM_fault 66 = .ok (.invokestatic 234, 3) := by decide +kernel
theorem d_MM_fault_69 : decode b_MM_fault 69 = .ok (.iload_n 1, 1) := by decide +kernel
theorem d_MM_fault_70 : decode b_MM_fault 70 = .ok (.invokestatic 231, 3) := by decide +kernel
theorem d_MM_fault_73 : decode b_MM_fault 73 = .ok (.iload_n 2, 1) := by decide +kernel
theorem d_MM_fault_74 : decode b_MM_fault 74 = .ok (.imul, 1) := by decide +kernel
theorem d_MM_fault_75 : decode b_MM_fault 75 = .ok (.iadd, 1) := by decide +kernel
theorem d_MM_fault_76 : decode b_MM_fault 76 = .ok (.iload_n 3, 1) := by decide +kernel
theorem d_MM_fault_77 : decode b_MM_fault 77 = .ok (.iadd, 1) := by decide +kernel
theorem d_MM_fault_78 : decode b_MM_fault 78 = .ok (.iaload, 1) := by decide +kernel
theorem d_MM_fault_79 : decode b_MM_fault 79 = .ok (.ireturn, 1) := by decide +kernel
theorem d_MM_init_0 : decode b_MM_init 0 = .ok (.aload_n 0, 1) := by decide +kernel
theorem d_MM_init_1 : decode b_MM_init 1 = .ok (.invokespecial 1, 3) := by decide +kernel
theorem d_MM_init_4 : decode b_MM_init 4 = .ok (.aload_n 0, 1) := by decide +kernel
theorem d_MM_init_5 : decode b_MM_init 5 = .ok (.sipush 302, 3) := by decide +kernel
theorem d_MM_init_8 : decode b_MM_init 8 = .ok (.newarray .int, 2) := by decide +kernel
theorem d_MM_init_10 : decode b_MM_init 10 = .ok (.putfield 9, 3) := by decide +kernel
theorem d_MM_init_13 : decode b_MM_init 13 = .ok (.aload_n 0, 1) := by decide +kernel
theorem d_MM_init_14 : decode b_MM_init 14 = .ok (.sipush 302, 3) := by decide +kernel
theorem d_MM_init_17 : decode b_MM_init 17 = .ok (.newarray .int, 2) := by decide +kernel
theorem d_MM_init_19 : decode b_MM_init 19 = .ok (.putfield 13, 3) := by decide +kernel
theorem d_MM_init_22 : decode b_MM_init 22 = .ok (.aload_n 0, 1) := by decide +kernel
theorem d_MM_init_23 : decode b_MM_init 23 = .ok (.sipush 302, 3) := by decide +kernel
theorem d_MM_init_26 : decode b_MM_init 26 = .ok (.newarray .int, 2) := by decide +kernel
theorem d_MM_init_28 : decode b_MM_init 28 = .ok (.putfield 16, 3) := by decide +kernel
theorem d_MM_init_31 : decode b_MM_init 31 = .ok (.aload_n 0, 1) := by decide +kernel
theorem d_MM_init_32 : decode b_MM_init 32 = .ok (.sipush 3020, 3) := by decide +kernel
theorem d_MM_init_35 : decode b_MM_init 35 = .ok (.newarray .int, 2) := by decide +kernel
theorem d_MM_init_37 : decode b_MM_init 37 = .ok (.putfield 19, 3) := by decide +kernel
theorem d_MM_init_40 : decode b_MM_init 40 = .ok (.aload_n 0, 1) := by decide +kernel
theorem d_MM_init_41 : decode b_MM_init 41 = .ok (.sipush 604, 3) := by decide +kernel
theorem d_MM_init_44 : decode b_MM_init 44 = .ok (.newarray .int, 2) := by decide +kernel
theorem d_MM_init_46 : decode b_MM_init 46 = .ok (.putfield 22, 3) := by decide +kernel
theorem d_MM_init_49 : decode b_MM_init 49 = .ok (.aload_n 0, 1) := by decide +kernel
theorem d_MM_init_50 : decode b_MM_init 50 = .ok (.iconst 2, 1) := by decide +kernel
theorem d_MM_init_51 : decode b_MM_init 51 = .ok (.newarray .boolean, 2) := by decide +kernel
theorem d_MM_init_53 : decode b_MM_init 53 = .ok (.putfield 25, 3) := by decide +kernel
theorem d_MM_init_56 : decode b_MM_init 56 = .ok (.aload_n 0, 1) := by decide +kernel
theorem d_MM_init_57 : decode b_MM_init 57 = .ok (.sipush 400, 3) := by decide +kernel
theorem d_MM_init_60 : decode b_MM_init 60 = .ok (.newarray .byte, 2) := by decide +kernel
theorem d_MM_init_62 : decode b_MM_init 62 = .ok (.putfield 29, 3) := by decide +kernel
theorem d_MM_init_65 : decode b_MM_init 65 = .ok (.aload_n 0, 1) := by decide +kernel
theorem d_MM_init_66 : decode b_MM_init 66 = .ok (.bipush 8, 2) := by decide +kernel
theorem d_MM_init_68 : decode b_MM_init 68 = .ok (.newarray .int, 2) := by decide +kernel
theorem d_MM_init_70 : decode b_MM_init 70 = .ok (.putfield 33, 3) := by decide +kernel
theorem d_MM_init_73 : decode b_MM_init 73 = .ok (.aload_n 0, 1) := by decide +kernel
theorem d_MM_init_74 : decode b_MM_init 74 = .ok (.sipush 260, 3) := by decide +kernel
theorem d_MM_init_77 : decode b_MM_init 77 = .ok (.newarray .int, 2) := by decide +kernel
theorem d_MM_init_79 : decode b_MM_init 79 = .ok (.putfield 36, 3) := by decide +kernel
theorem d_MM_init_82 : decode b_MM_init 82 = .ok (.aload_n 0, 1) := by decide +kernel
theorem d_MM_init_83 : decode b_MM_init 83 = .ok (.sipush 260, 3) := by decide +kernel
theorem d_MM_init_86 : decode b_MM_init 86 = .ok (.newarray .int, 2) := by decide +kernel
theorem d_MM_init_88 : decode b_MM_init 88 = .ok (.putfield 39, 3) := by decide +kernel
theorem d_MM_init_91 : decode b_MM_init 91 = .ok (.aload_n 0, 1) := by decide +kernel
theorem d_MM_init_92 : decode b_MM_init 92 = .ok (.sipush 260, 3) := by decide +kernel
theorem d_MM_init_95 : decode b_MM_init 95 = .ok (.newarray .int, 2) := by decide +kernel
theorem d_MM_init_97 : decode b_MM_init 97 = .ok (.putfield 42, 3) := by decide +kernel
theorem d_MM_init_100 : decode b_MM_init 100 = .ok (.aload_n 0, 1) := by decide +kernel
theorem d_MM_init_101 : decode b_MM_init 101 = .ok (.sipush 260, 3) := by decide +kernel
theorem d_MM_init_104 : decode b_MM_init 104 = .ok (.newarray .int, 2) := by decide +kernel
theorem d_MM_init_106 : decode b_MM_init 106 = .ok (.putfield 45, 3) := by decide +kernel
theorem d_MM_init_109 : decode b_MM_init 109 = .ok (.aload_n 0, 1) := by decide +kernel
theorem d_MM_init_110 : decode b_MM_init 110 = .ok (.sipush 260, 3) := by decide +kernel
theorem d_MM_init_113 : decode b_MM_init 113 = .ok (.newarray .int, 2) := by decide +kernel
theorem d_MM_init_115 : decode b_MM_init 115 = .ok (.putfield 48, 3) := by decide +kernel
theorem d_MM_init_118 : decode b_MM_init 118 = .ok (.aload_n 0, 1) := by decide +kernel
theorem d_MM_init_119 : decode b_MM_init 119 = .ok (.sipush 260, 3) := by decide +kernel
theorem d_MM_init_122 : decode b_MM_init 122 = .ok (.newarray .int, 2) := by decide +kernel
theorem d_MM_init_124 : decode b_MM_init 124 = .ok (.putfield 51, 3) := by decide +kernel
theorem d_MM_init_127 : decode b_MM_init 127 = .ok (.aload_n 0, 1) := by decide +kernel
theorem d_MM_init_128 : decode b_MM_init 128 = .ok (.sipush 260, 3) := by decide +kernel
theorem d_MM_init_131 : decode b_MM_init 131 = .ok (.newarray .int, 2) := by decide +kernel
theorem d_MM_init_133 : decode b_MM_init 133 = .ok (.putfield 54, 3) := by decide +kernel
theorem d_MM_init_136 : decode b_MM_init 136 = .ok (.aload_n 0, 1) := by decide +kernel
theorem d_MM_init_137 : decode b_MM_init 137 = .ok (.sipush 2080, 3) := by decide +kernel
theorem d_MM_init_140 : decode b_MM_init 140 = .ok (.newarray .int, 2) := by decide +kernel
theorem d_MM_init_142 : decode b_MM_init 142 = .ok (.putfield 57, 3) := by decide +kernel
theorem d_MM_init_145 : decode b_MM_init 145 = .ok (.aload_n 0, 1) := by decide +kernel
theorem d_MM_init_146 : decode b_MM_init 146 = .ok (.bipush 32, 2) := by decide +kernel
theorem d_MM_init_148 : decode b_MM_init 148 = .ok (.newarray .int, 2) := by decide +kernel
theorem d_MM_init_150 : decode b_MM_init 150 = .ok (.putfield 60, 3) := by decide +kernel
theorem d_MM_init_153 : decode b_MM_init 153 = .ok (.aload_n 0, 1) := by decide +kernel
theorem d_MM_init_154 : decode b_MM_init 154 = .ok (.bipush 32, 2) := by decide +kernel
theorem d_MM_init_156 : decode b_MM_init 156 = .ok (.newarray .int, 2) := by decide +kernel
theorem d_MM_init_158 : decode b_MM_init 158 = .ok (.putfield 63, 3) := by decide +kernel
theorem d_MM_init_161 : decode b_MM_init 161 = .ok (.aload_n 0, 1) := by decide +kernel
theorem d_MM_init_162 : decode b_MM_init 162 = .ok (.bipush 32, 2) := by decide +kernel
theorem d_MM_init_164 : decode b_MM_init 164 = .ok (.newarray .int, 2) := by decide +kernel
theorem d_MM_init_166 : decode b_MM_init 166 = .ok (.putfield 66, 3) := by decide +kernel
theorem d_MM_init_169 : decode b_MM_init 169 = .ok (.aload_n 0, 1) := by decide +kernel
theorem d_MM_init_170 : decode b_MM_init 170 = .ok (.bipush 8, 2) := by decide +kernel
theorem d_MM_init_172 : decode b_MM_init 172 = .ok (.newarray .int, 2) := by decide +kernel
theorem d_MM_init_174 : decode b_MM_init 174 = .ok (.putfield 69, 3) := by decide +kernel
theorem d_MM_init_177 : decode b_MM_init 177 = .ok (.aload_n 0, 1) := by decide +kernel
theorem d_MM_init_178 : decode b_MM_init 178 = .ok (.iconst (-1), 1) := by decide +kernel
theorem d_MM_init_179 : decode b_MM_init 179 = .ok (.putfield 72, 3) := by decide +kernel
theorem d_MM_init_182 : decode b_MM_init 182 = .ok (.aload_n 0, 1) := by decide +kernel
theorem d_MM_init_183 : decode b_MM_init 183 = .ok (.getfield 9, 3) := by decide +kernel
theorem d_MM_init_186 : decode b_MM_init 186 = .ok (.invokestatic 76, 3) := by decide +kernel
theorem d_MM_init_189 : decode b_MM_init 189 = .ok (.return_, 1) := by decide +kernel
