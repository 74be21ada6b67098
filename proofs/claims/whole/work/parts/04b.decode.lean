/-! the instructions, one by one -/
theorem d_Run_prepare_0 : decode b_Run_prepare 0 = .ok (.aload_n 0, 1) := by decide +kernel
theorem d_Run_prepare_1 : decode b_Run_prepare 1 = .ok (.aload_n 0, 1) := by decide +kernel
theorem d_Run_prepare_2 : decode b_Run_prepare 2 = .ok (.getfield 47, 3) := by decide +kernel
theorem d_Run_prepare_5 : decode b_Run_prepare 5 = .ok (.getfield 51, 3) := by decide +kernel
theorem d_Run_prepare_8 : decode b_Run_prepare 8 = .ok (.iconst 2, 1) := by decide +kernel
theorem d_Run_prepare_9 : decode b_Run_prepare 9 = .ok (.iaload, 1) := by decide +kernel
theorem d_Run_prepare_10 : decode b_Run_prepare 10 = .ok (.putfield 56, 3) := by decide +kernel
theorem d_Run_prepare_13 : decode b_Run_prepare 13 = .ok (.aload_n 0, 1) := by decide +kernel
theorem d_Run_prepare_14 : decode b_Run_prepare 14 = .ok (.iconst (-1), 1) := by decide +kernel
theorem d_Run_prepare_15 : decode b_Run_prepare 15 = .ok (.putfield 60, 3) := by decide +kernel
theorem d_Run_prepare_18 : decode b_Run_prepare 18 = .ok (.aload_n 0, 1) := by decide +kernel
theorem d_Run_prepare_19 : decode b_Run_prepare 19 = .ok (.getfield 11, 3) := by decide +kernel
theorem d_Run_prepare_22 : decode b_Run_prepare 22 = .ok (.iconst 0, 1) := by decide +kernel
theorem d_Run_prepare_23 : decode b_Run_prepare 23 = .ok (.invokestatic 63, 3) := by decide +kernel
theorem d_Run_prepare_26 : decode b_Run_prepare 26 = .ok (.iconst 0, 1) := by decide +kernel
theorem d_Run_prepare_27 : decode b_Run_prepare 27 = .ok (.istore_n 2, 1) := by decide +kernel
theorem d_Run_prepare_28 : decode b_Run_prepare 28 = .ok (.iload_n 2, 1) := by decide +kernel
theorem d_Run_prepare_29 : decode b_Run_prepare 29 = .ok (.aload_n 0, 1) := by decide +kernel
theorem d_Run_prepare_30 : decode b_Run_prepare 30 = .ok (.getfield 47, 3) := by decide +kernel
theorem d_Run_prepare_33 : decode b_Run_prepare 33 = .ok (.getfield 69, 3) := by decide +kernel
theorem d_Run_prepare_36 : decode b_Run_prepare 36 = .ok (.if_icmp .ge 48, 3) := by decide +kernel
theorem d_Run_prepare_39 : decode b_Run_prepare 39 = .ok (.iload_n 1, 1) := by decide +kernel
theorem d_Run_prepare_40 : decode b_Run_prepare 40 = .ok (.aload_n 0, 1) := by decide +kernel
theorem d_Run_prepare_41 : decode b_Run_prepare 41 = .ok (.getfield 47, 3) := by decide +kernel
theorem d_Run_prepare_44 : decode b_Run_prepare 44 = .ok (.getfield 72, 3) := by decide +kernel
theorem d_Run_prepare_47 : decode b_Run_prepare 47 = .ok (.iload_n 2, 1) := by decide +kernel
theorem d_Run_prepare_48 : decode b_Run_prepare 48 = .ok (.iadd, 1) := by decide +kernel
theorem d_Run_prepare_49 : decode b_Run_prepare 49 = .ok (.ishr, 1) := by decide +kernel
theorem d_Run_prepare_50 : decode b_Run_prepare 50 = .ok (.iconst 1, 1) := by decide +kernel
theorem d_Run_prepare_51 : decode b_Run_prepare 51 = .ok (.iand, 1) := by decide +kernel
theorem d_Run_prepare_52 : decode b_Run_prepare 52 = .ok (.ifCond .ne 26, 3) := by decide +kernel
theorem d_Run_prepare_55 : decode b_Run_prepare 55 = .ok (.aload_n 0, 1) := by decide +kernel
theorem d_Run_prepare_56 : decode b_Run_prepare 56 = .ok (.getfield 11, 3) := by decide +kernel
theorem d_Run_prepare_59 : decode b_Run_prepare 59 = .ok (.aload_n 0, 1) := by decide +kernel
theorem d_Run_prepare_60 : decode b_Run_prepare 60 = .ok (.getfield 47, 3) := by decide +kernel
theorem d_Run_prepare_63 : decode b_Run_prepare 63 = .ok (.getfield 75, 3) := by decide +kernel
theorem d_Run_prepare_66 : decode b_Run_prepare 66 = .ok (.iload_n 2, 1) := by decide +kernel
theorem d_Run_prepare_67 : decode b_Run_prepare 67 = .ok (.iaload, 1) := by decide +kernel
theorem d_Run_prepare_68 : decode b_Run_prepare 68 = .ok (.aload_n 0, 1) := by decide +kernel
theorem d_Run_prepare_69 : decode b_Run_prepare 69 = .ok (.getfield 47, 3) := by decide +kernel
theorem d_Run_prepare_72 : decode b_Run_prepare 72 = .ok (.getfield 78, 3) := by decide +kernel
theorem d_Run_prepare_75 : decode b_Run_prepare 75 = .ok (.iload_n 2, 1) := by decide +kernel
theorem d_Run_prepare_76 : decode b_Run_prepare 76 = .ok (.iaload, 1) := by decide +kernel
theorem d_Run_prepare_77 : decode b_Run_prepare 77 = .ok (.iastore, 1) := by decide +kernel
theorem d_Run_prepare_78 : decode b_Run_prepare 78 = .ok (.iinc 2 1, 3) := by decide +kernel
theorem d_Run_prepare_81 : decode b_Run_prepare 81 = .ok (.goto (-53), 3) := by decide +kernel
theorem d_Run_prepare_84 : decode b_Run_prepare 84 = .ok (.iconst 0, 1) := by decide +kernel
theorem d_Run_prepare_85 : decode b_Run_prepare 85 = .ok (.istore_n 2, 1) := by decide +kernel
theorem d_Run_prepare_86 : decode b_Run_prepare 86 = .ok (.iload_n 2, 1) := by decide +kernel
theorem d_Run_prepare_87 : decode b_Run_prepare 87 = .ok (.aload_n 0, 1) := by decide +kernel
theorem d_Run_prepare_88 : decode b_Run_prepare 88 = .ok (.getfield 47, 3) := by decide +kernel
theorem d_Run_prepare_91 : decode b_Run_prepare 91 = .ok (.getfield 72, 3) := by decide +kernel
theorem d_Run_prepare_94 : decode b_Run_prepare 94 = .ok (.if_icmp .ge 33, 3) := by decide +kernel
theorem d_Run_prepare_97 : decode b_Run_prepare 97 = .ok (.iload_n 1, 1) := by decide +kernel
theorem d_Run_prepare_98 : decode b_Run_prepare 98 = .ok (.iload_n 2, 1) := by decide +kernel
theorem d_Run_prepare_99 : decode b_Run_prepare 99 = .ok (.ishr, 1) := by decide +kernel
theorem d_Run_prepare_100 : decode b_Run_prepare 100 = .ok (.iconst 1, 1) := by decide +kernel
theorem d_Run_prepare_101 : decode b_Run_prepare 101 = .ok (.iand, 1) := by decide +kernel
theorem d_Run_prepare_102 : decode b_Run_prepare 102 = .ok (.ifCond .ne 19, 3) := by decide +kernel
theorem d_Run_prepare_105 : decode b_Run_prepare 105 = .ok (.aload_n 0, 1) := by decide +kernel
theorem d_Run_prepare_106 : decode b_Run_prepare 106 = .ok (.getfield 11, 3) := by decide +kernel
theorem d_Run_prepare_109 : decode b_Run_prepare 109 = .ok (.aload_n 0, 1) := by decide +kernel
theorem d_Run_prepare_110 : decode b_Run_prepare 110 = .ok (.getfield 47, 3) := by decide +kernel
theorem d_Run_prepare_113 : decode b_Run_prepare 113 = .ok (.getfield 81, 3) := by decide +kernel
theorem d_Run_prepare_116 : decode b_Run_prepare 116 = .ok (.iload_n 2, 1) := by decide +kernel
theorem d_Run_prepare_117 : decode b_Run_prepare 117 = .ok (.iaload, 1) := by decide +kernel
theorem d_Run_prepare_118 : decode b_Run_prepare 118 = .ok (.bipush 99, 2) := by decide +kernel
theorem d_Run_prepare_120 : decode b_Run_prepare 120 = .ok (.iastore, 1) := by decide +kernel
theorem d_Run_prepare_121 : decode b_Run_prepare 121 = .ok (.iinc 2 1, 3) := by decide +kernel
theorem d_Run_prepare_124 : decode b_Run_prepare 124 = .ok (.goto (-38), 3) := by decide +kernel
theorem d_Run_prepare_127 : decode b_Run_prepare 127 = .ok (.return_, 1) := by decide +kernel
theorem d_Run_begin_0 : decode b_Run_begin 0 = .ok (.aload_n 0, 1) := by decide +kernel
theorem d_Run_begin_1 : decode b_Run_begin 1 = .ok (.iconst 0, 1) := by decide +kernel
theorem d_Run_begin_2 : decode b_Run_begin 2 = .ok (.putfield 110, 3) := by decide +kernel
theorem d_Run_begin_5 : decode b_Run_begin 5 = .ok (.aload_n 0, 1) := by decide +kernel
theorem d_Run_begin_6 : decode b_Run_begin 6 = .ok (.iconst 0, 1) := by decide +kernel
theorem d_Run_begin_7 : decode b_Run_begin 7 = .ok (.putfield 113, 3) := by decide +kernel
theorem d_Run_begin_10 : decode b_Run_begin 10 = .ok (.aload_n 0, 1) := by decide +kernel
theorem d_Run_begin_11 : decode b_Run_begin 11 = .ok (.getfield 32, 3) := by decide +kernel
theorem d_Run_begin_14 : decode b_Run_begin 14 = .ok (.bipush 99, 2) := by decide +kernel
theorem d_Run_begin_16 : decode b_Run_begin 16 = .ok (.invokestatic 63, 3) := by decide +kernel
theorem d_Run_begin_19 : decode b_Run_begin 19 = .ok (.aload_n 0, 1) := by decide +kernel
theorem d_Run_begin_20 : decode b_Run_begin 20 = .ok (.getfield 35, 3) := by decide +kernel
theorem d_Run_begin_23 : decode b_Run_begin 23 = .ok (.iconst (-1), 1) := by decide +kernel
theorem d_Run_begin_24 : decode b_Run_begin 24 = .ok (.invokestatic 63, 3) := by decide +kernel
theorem d_Run_begin_27 : decode b_Run_begin 27 = .ok (.aload_n 0, 1) := by decide +kernel
theorem d_Run_begin_28 : decode b_Run_begin 28 = .ok (.getfield 38, 3) := by decide +kernel
theorem d_Run_begin_31 : decode b_Run_begin 31 = .ok (.iconst 0, 1) := by decide +kernel
theorem d_Run_begin_32 : decode b_Run_begin 32 = .ok (.invokestatic 63, 3) := by decide +kernel
theorem d_Run_begin_35 : decode b_Run_begin 35 = .ok (.iconst 0, 1) := by decide +kernel
theorem d_Run_begin_36 : decode b_Run_begin 36 = .ok (.istore_n 1, 1) := by decide +kernel
theorem d_Run_begin_37 : decode b_Run_begin 37 = .ok (.iload_n 1, 1) := by decide +kernel
theorem d_Run_begin_38 : decode b_Run_begin 38 = .ok (.bipush 32, 2) := by decide +kernel
theorem d_Run_begin_40 : decode b_Run_begin 40 = .ok (.if_icmp .ge 34, 3) := by decide +kernel
theorem d_Run_begin_43 : decode b_Run_begin 43 = .ok (.aload_n 0, 1) := by decide +kernel
theorem d_Run_begin_44 : decode b_Run_begin 44 = .ok (.getfield 41, 3) := by decide +kernel
theorem d_Run_begin_47 : decode b_Run_begin 47 = .ok (.iload_n 1, 1) := by decide +kernel
theorem d_Run_begin_48 : decode b_Run_begin 48 = .ok (.aload_n 0, 1) := by decide +kernel
theorem d_Run_begin_49 : decode b_Run_begin 49 = .ok (.getfield 47, 3) := by decide +kernel
theorem d_Run_begin_52 : decode b_Run_begin 52 = .ok (.iload_n 1, 1) := by decide +kernel
theorem d_Run_begin_53 : decode b_Run_begin 53 = .ok (.iconst 4, 1) := by decide +kernel
theorem d_Run_begin_54 : decode b_Run_begin 54 = .ok (.idiv, 1) := by decide +kernel
theorem d_Run_begin_55 : decode b_Run_begin 55 = .ok (.invokevirtual 118, 3) := by decide +kernel
theorem d_Run_begin_58 : decode b_Run_begin 58 = .ok (.ifCond .eq 7, 3) := by decide +kernel
theorem d_Run_begin_61 : decode b_Run_begin 61 = .ok (.iconst 0, 1) := by decide +kernel
theorem d_Run_begin_62 : decode b_Run_begin 62 = .ok (.goto 5, 3) := by decide +kernel
theorem d_Run_begin_65 : decode b_Run_begin 65 = .ok (.bipush 99, 2) := by decide +kernel
theorem d_Run_begin_67 : decode b_Run_begin 67 = .ok (.iastore, 1) := by decide +kernel
theorem d_Run_begin_68 : decode b_Run_begin 68 = .ok (.iinc 1 1, 3) := by decide +kernel
theorem d_Run_begin_71 : decode b_Run_begin 71 = .ok (.goto (-34), 3) := by decide +kernel
theorem d_Run_begin_74 : decode b_Run_begin 74 = .ok (.iconst 0, 1) := by decide +kernel
theorem d_Run_begin_75 : decode b_Run_begin 75 = .ok (.istore_n 1, 1) := by decide +kernel
theorem d_Run_begin_76 : decode b_Run_begin 76 = .ok (.iload_n 1, 1) := by decide +kernel
theorem d_Run_begin_77 : decode b_Run_begin 77 = .ok (.bipush 8, 2) := by decide +kernel
theorem d_Run_begin_79 : decode b_Run_begin 79 = .ok (.if_icmp .ge 16, 3) := by decide +kernel
theorem d_Run_begin_82 : decode b_Run_begin 82 = .ok (.aload_n 0, 1) := by decide +kernel
theorem d_Run_begin_83 : decode b_Run_begin 83 = .ok (.getfield 44, 3) := by decide +kernel
theorem d_Run_begin_86 : decode b_Run_begin 86 = .ok (.iload_n 1, 1) := by decide +kernel
theorem d_Run_begin_87 : decode b_Run_begin 87 = .ok (.iconst 0, 1) := by decide +kernel
theorem d_Run_begin_88 : decode b_Run_begin 88 = .ok (.iastore, 1) := by decide +kernel
theorem d_Run_begin_89 : decode b_Run_begin 89 = .ok (.iinc 1 1, 3) := by decide +kernel
theorem d_Run_begin_92 : decode b_Run_begin 92 = .ok (.goto (-16), 3) := by decide +kernel
theorem d_Run_begin_95 : decode b_Run_begin 95 = .ok (.aload_n 0, 1) := by decide +kernel
theorem d_Run_begin_96 : decode b_Run_begin 96 = .ok (.getfield 47, 3) := by decide +kernel
theorem d_Run_begin_99 : decode b_Run_begin 99 = .ok (.getfield 51, 3) := by decide +kernel
theorem d_Run_begin_102 : decode b_Run_begin 102 = .ok (.iconst 0, 1) := by decide +kernel
theorem d_Run_begin_103 : decode b_Run_begin 103 = .ok (.iaload, 1) := by decide +kernel
theorem d_Run_begin_104 : decode b_Run_begin 104 = .ok (.istore_n 1, 1) := by decide +kernel
theorem d_Run_begin_105 : decode b_Run_begin 105 = .ok (.aload_n 0, 1) := by decide +kernel
theorem d_Run_begin_106 : decode b_Run_begin 106 = .ok (.getfield 47, 3) := by decide +kernel
theorem d_Run_begin_109 : decode b_Run_begin 109 = .ok (.iload_n 1, 1) := by decide +kernel
theorem d_Run_begin_110 : decode b_Run_begin 110 = .ok (.invokevirtual 122, 3) := by decide +kernel
theorem d_Run_begin_113 : decode b_Run_begin 113 = .ok (.ifCond .eq 39, 3) := by decide +kernel
theorem d_Run_begin_116 : decode b_Run_begin 116 = .ok (.aload_n 0, 1) := by decide +kernel
theorem d_Run_begin_117 : decode b_Run_begin 117 = .ok (.getfield 32, 3) := by decide +kernel
theorem d_Run_begin_120 : decode b_Run_begin 120 = .ok (.iload_n 1, 1) := by decide +kernel
theorem d_Run_begin_121 : decode b_Run_begin 121 = .ok (.aload_n 0, 1) := by decide +kernel
theorem d_Run_begin_122 : decode b_Run_begin 122 = .ok (.getfield 47, 3) := by decide +kernel
theorem d_Run_begin_125 : decode b_Run_begin 125 = .ok (.getfield 51, 3) := by decide +kernel
theorem d_Run_begin_128 : decode b_Run_begin 128 = .ok (.iconst 1, 1) := by decide +kernel
theorem d_Run_begin_129 : decode b_Run_begin 129 = .ok (.iaload, 1) := by decide +kernel
theorem d_Run_begin_130 : decode b_Run_begin 130 = .ok (.invokestatic 125, 3) := by decide +kernel
theorem d_Run_begin_133 : decode b_Run_begin 133 = .ok (.iconst 0, 1) := by decide +kernel
theorem d_Run_begin_134 : decode b_Run_begin 134 = .ok (.iastore, 1) := by decide +kernel
theorem d_Run_begin_135 : decode b_Run_begin 135 = .ok (.aload_n 0, 1) := by decide +kernel
theorem d_Run_begin_136 : decode b_Run_begin 136 = .ok (.getfield 44, 3) := by decide +kernel
theorem d_Run_begin_139 : decode b_Run_begin 139 = .ok (.iload_n 1, 1) := by decide +kernel
theorem d_Run_begin_140 : decode b_Run_begin 140 = .ok (.iconst 1, 1) := by decide +kernel
theorem d_Run_begin_141 : decode b_Run_begin 141 = .ok (.aload_n 0, 1) := by decide +kernel
theorem d_Run_begin_142 : decode b_Run_begin 142 = .ok (.getfield 47, 3) := by decide +kernel
theorem d_Run_begin_145 : decode b_Run_begin 145 = .ok (.getfield 51, 3) := by decide +kernel
theorem d_Run_begin_148 : decode b_Run_begin 148 = .ok (.iconst 1, 1) := by decide +kernel
theorem d_Run_begin_149 : decode b_Run_begin 149 = .ok (.iaload, 1) := by decide +kernel
theorem d_Run_begin_150 : decode b_Run_begin 150 = .ok (.ishl, 1) := by decide +kernel
theorem d_Run_begin_151 : decode b_Run_begin 151 = .ok (.iastore, 1) := by decide +kernel
theorem d_Run_begin_152 : decode b_Run_begin 152 = .ok (.return_, 1) := by decide +kernel
theorem d_Run_post_0 : decode b_Run_post 0 = .ok (.aload_n 0, 1) := by decide +kernel
theorem d_Run_post_1 : decode b_Run_post 1 = .ok (.getfield 110, 3) := by decide +kernel
theorem d_Run_post_4 : decode b_Run_post 4 = .ok (.sipush 212, 3) := by decide +kernel
theorem d_Run_post_7 : decode b_Run_post 7 = .ok (.if_icmp .lt 4, 3) := by decide +kernel
theorem d_Run_post_10 : decode b_Run_post 10 = .ok (.return_, 1) := by decide +kernel
theorem d_Run_post_11 : decode b_Run_post 11 = .ok (.iload_n 1, 1) := by decide +kernel
theorem d_Run_post_12 : decode b_Run_post 12 = .ok (.invokestatic 156, 3) := by decide +kernel
theorem d_Run_post_15 : decode b_Run_post 15 = .ok (.aload_n 0, 1) := by decide +kernel
theorem d_Run_post_16 : decode b_Run_post 16 = .ok (.getfield 11, 3) := by decide +kernel
theorem d_Run_post_19 : decode b_Run_post 19 = .ok (.iload_n 1, 1) := by decide +kernel
theorem d_Run_post_20 : decode b_Run_post 20 = .ok (.iaload, 1) := by decide +kernel
theorem d_Run_post_21 : decode b_Run_post 21 = .ok (.iadd, 1) := by decide +kernel
theorem d_Run_post_22 : decode b_Run_post 22 = .ok (.istore 4, 2) := by decide +kernel
theorem d_Run_post_24 : decode b_Run_post 24 = .ok (.aload_n 0, 1) := by decide +kernel
theorem d_Run_post_25 : decode b_Run_post 25 = .ok (.getfield 17, 3) := by decide +kernel
theorem d_Run_post_28 : decode b_Run_post 28 = .ok (.aload_n 0, 1) := by decide +kernel
theorem d_Run_post_29 : decode b_Run_post 29 = .ok (.getfield 110, 3) := by decide +kernel
theorem d_Run_post_32 : decode b_Run_post 32 = .ok (.iload_n 1, 1) := by decide +kernel
theorem d_Run_post_33 : decode b_Run_post 33 = .ok (.iastore, 1) := by decide +kernel
theorem d_Run_post_34 : decode b_Run_post 34 = .ok (.aload_n 0, 1) := by decide +kernel
theorem d_Run_post_35 : decode b_Run_post 35 = .ok (.getfield 20, 3) := by decide +kernel
theorem d_Run_post_38 : decode b_Run_post 38 = .ok (.aload_n 0, 1) := by decide +kernel
theorem d_Run_post_39 : decode b_Run_post 39 = .ok (.getfield 110, 3) := by decide +kernel
theorem d_Run_post_42 : decode b_Run_post 42 = .ok (.iload_n 2, 1) := by decide +kernel
theorem d_Run_post_43 : decode b_Run_post 43 = .ok (.iastore, 1) := by decide +kernel
theorem d_Run_post_44 : decode b_Run_post 44 = .ok (.aload_n 0, 1) := by decide +kernel
theorem d_Run_post_45 : decode b_Run_post 45 = .ok (.getfield 23, 3) := by decide +kernel
theorem d_Run_post_48 : decode b_Run_post 48 = .ok (.aload_n 0, 1) := by decide +kernel
theorem d_Run_post_49 : decode b_Run_post 49 = .ok (.getfield 110, 3) := by decide +kernel
theorem d_Run_post_52 : decode b_Run_post 52 = .ok (.iload_n 3, 1) := by decide +kernel
theorem d_Run_post_53 : decode b_Run_post 53 = .ok (.iastore, 1) := by decide +kernel
theorem d_Run_post_54 : decode b_Run_post 54 = .ok (.aload_n 0, 1) := by decide +kernel
theorem d_Run_post_55 : decode b_Run_post 55 = .ok (.getfield 26, 3) := by decide +kernel
theorem d_Run_post_58 : decode b_Run_post 58 = .ok (.aload_n 0, 1) := by decide +kernel
theorem d_Run_post_59 : decode b_Run_post 59 = .ok (.getfield 110, 3) := by decide +kernel
theorem d_Run_post_62 : decode b_Run_post 62 = .ok (.iload 4, 2) := by decide +kernel
theorem d_Run_post_64 : decode b_Run_post 64 = .ok (.aload_n 0, 1) := by decide +kernel
theorem d_Run_post_65 : decode b_Run_post 65 = .ok (.getfield 56, 3) := by decide +kernel
theorem d_Run_post_68 : decode b_Run_post 68 = .ok (.if_icmp .gt 8, 3) := by decide +kernel
theorem d_Run_post_71 : decode b_Run_post 71 = .ok (.iload 4, 2) := by decide +kernel
theorem d_Run_post_73 : decode b_Run_post 73 = .ok (.goto 4, 3) := by decide +kernel
theorem d_Run_post_76 : decode b_Run_post 76 = .ok (.iconst (-1), 1) := by decide +kernel
theorem d_Run_post_77 : decode b_Run_post 77 = .ok (.iastore, 1) := by decide +kernel
theorem d_Run_post_78 : decode b_Run_post 78 = .ok (.aload_n 0, 1) := by decide +kernel
theorem d_Run_post_79 : decode b_Run_post 79 = .ok (.getfield 29, 3) := by decide +kernel
theorem d_Run_post_82 : decode b_Run_post 82 = .ok (.aload_n 0, 1) := by decide +kernel
theorem d_Run_post_83 : decode b_Run_post 83 = .ok (.getfield 110, 3) := by decide +kernel
theorem d_Run_post_86 : decode b_Run_post 86 = .ok (.iconst 0, 1) := by decide +kernel
theorem d_Run_post_87 : decode b_Run_post 87 = .ok (.iastore, 1) := by decide +kernel
theorem d_Run_post_88 : decode b_Run_post 88 = .ok (.aload_n 0, 1) := by decide +kernel
theorem d_Run_post_89 : decode b_Run_post 89 = .ok (.dup, 1) := by decide +kernel
theorem d_Run_post_90 : decode b_Run_post 90 = .ok (.getfield 110, 3) := by decide +kernel
theorem d_Run_post_93 : decode b_Run_post 93 = .ok (.iconst 1, 1) := by decide +kernel
theorem d_Run_post_94 : decode b_Run_post 94 = .ok (.iadd, 1) := by decide +kernel
theorem d_Run_post_95 : decode b_Run_post 95 = .ok (.putfield 110, 3) := by decide +kernel
theorem d_Run_post_98 : decode b_Run_post 98 = .ok (.return_, 1) := by decide +kernel
theorem d_Run_sendOthers_0 : decode b_Run_sendOthers 0 = .ok (.iload 4, 2) := by decide +kernel
theorem d_Run_sendOthers_2 : decode b_Run_sendOthers 2 = .ok (.iload_n 2, 1) := by decide +kernel
theorem d_Run_sendOthers_3 : decode b_Run_sendOthers 3 = .ok (.invokestatic 140, 3) := by decide +kernel
theorem d_Run_sendOthers_6 : decode b_Run_sendOthers 6 = .ok (.istore 5, 2) := by decide +kernel
theorem d_Run_sendOthers_8 : decode b_Run_sendOthers 8 = .ok (.iconst 0, 1) := by decide +kernel
theorem d_Run_sendOthers_9 : decode b_Run_sendOthers 9 = .ok (.istore 6, 2) := by decide +kernel
theorem d_Run_sendOthers_11 : decode b_Run_sendOthers 11 = .ok (.iload 6, 2) := by decide +kernel
theorem d_Run_sendOthers_13 : decode b_Run_sendOthers 13 = .ok (.aload_n 0, 1) := by decide +kernel
theorem d_Run_sendOthers_14 : decode b_Run_sendOthers 14 = .ok (.getfield 47, 3) := by decide +kernel
theorem d_Run_sendOthers_17 : decode b_Run_sendOthers 17 = .ok (.getfield 133, 3) := by decide +kernel
theorem d_Run_sendOthers_20 : decode b_Run_sendOthers 20 = .ok (.if_icmp .ge 29, 3) := by decide +kernel
theorem d_Run_sendOthers_23 : decode b_Run_sendOthers 23 = .ok (.iload 6, 2) := by decide +kernel
theorem d_Run_sendOthers_25 : decode b_Run_sendOthers 25 = .ok (.iload_n 2, 1) := by decide +kernel
theorem d_Run_sendOthers_26 : decode b_Run_sendOthers 26 = .ok (.if_icmp .eq 17, 3) := by decide +kernel
theorem d_Run_sendOthers_29 : decode b_Run_sendOthers 29 = .ok (.aload_n 0, 1) := by decide +kernel
theorem d_Run_sendOthers_30 : decode b_Run_sendOthers 30 = .ok (.iload_n 1, 1) := by decide +kernel
theorem d_Run_sendOthers_31 : decode b_Run_sendOthers 31 = .ok (.iload_n 2, 1) := by decide +kernel
theorem d_Run_sendOthers_32 : decode b_Run_sendOthers 32 = .ok (.iload 6, 2) := by decide +kernel
theorem d_Run_sendOthers_34 : decode b_Run_sendOthers 34 = .ok (.invokestatic 143, 3) := by decide +kernel
theorem d_Run_sendOthers_37 : decode b_Run_sendOthers 37 = .ok (.iload_n 3, 1) := by decide +kernel
theorem d_Run_sendOthers_38 : decode b_Run_sendOthers 38 = .ok (.iload 5, 2) := by decide +kernel
theorem d_Run_sendOthers_40 : decode b_Run_sendOthers 40 = .ok (.invokevirtual 146, 3) := by decide +kernel
theorem d_Run_sendOthers_43 : decode b_Run_sendOthers 43 = .ok (.iinc 6 1, 3) := by decide +kernel
theorem d_Run_sendOthers_46 : decode b_Run_sendOthers 46 = .ok (.goto (-35), 3) := by decide +kernel
theorem d_Run_sendOthers_49 : decode b_Run_sendOthers 49 = .ok (.return_, 1) := by decide +kernel
theorem d_Run_sendFirst_0 : decode b_Run_sendFirst 0 = .ok (.aload_n 0, 1) := by decide +kernel
theorem d_Run_sendFirst_1 : decode b_Run_sendFirst 1 = .ok (.getfield 47, 3) := by decide +kernel
theorem d_Run_sendFirst_4 : decode b_Run_sendFirst 4 = .ok (.getfield 51, 3) := by decide +kernel
theorem d_Run_sendFirst_7 : decode b_Run_sendFirst 7 = .ok (.iconst 0, 1) := by decide +kernel
theorem d_Run_sendFirst_8 : decode b_Run_sendFirst 8 = .ok (.iaload, 1) := by decide +kernel
theorem d_Run_sendFirst_9 : decode b_Run_sendFirst 9 = .ok (.istore_n 1, 1) := by decide +kernel
theorem d_Run_sendFirst_10 : decode b_Run_sendFirst 10 = .ok (.aload_n 0, 1) := by decide +kernel
theorem d_Run_sendFirst_11 : decode b_Run_sendFirst 11 = .ok (.getfield 47, 3) := by decide +kernel
theorem d_Run_sendFirst_14 : decode b_Run_sendFirst 14 = .ok (.iload_n 1, 1) := by decide +kernel
theorem d_Run_sendFirst_15 : decode b_Run_sendFirst 15 = .ok (.invokevirtual 122, 3) := by decide +kernel
theorem d_Run_sendFirst_18 : decode b_Run_sendFirst 18 = .ok (.ifCond .eq 19, 3) := by decide +kernel
theorem d_Run_sendFirst_21 : decode b_Run_sendFirst 21 = .ok (.aload_n 0, 1) := by decide +kernel
theorem d_Run_sendFirst_22 : decode b_Run_sendFirst 22 = .ok (.iconst 1, 1) := by decide +kernel
theorem d_Run_sendFirst_23 : decode b_Run_sendFirst 23 = .ok (.iload_n 1, 1) := by decide +kernel
theorem d_Run_sendFirst_24 : decode b_Run_sendFirst 24 = .ok (.aload_n 0, 1) := by decide +kernel
theorem d_Run_sendFirst_25 : decode b_Run_sendFirst 25 = .ok (.getfield 47, 3) := by decide +kernel
theorem d_Run_sendFirst_28 : decode b_Run_sendFirst 28 = .ok (.getfield 51, 3) := by decide +kernel
theorem d_Run_sendFirst_31 : decode b_Run_sendFirst 31 = .ok (.iconst 1, 1) := by decide +kernel
theorem d_Run_sendFirst_32 : decode b_Run_sendFirst 32 = .ok (.iaload, 1) := by decide +kernel
theorem d_Run_sendFirst_33 : decode b_Run_sendFirst 33 = .ok (.iconst 0, 1) := by decide +kernel
theorem d_Run_sendFirst_34 : decode b_Run_sendFirst 34 = .ok (.invokevirtual 129, 3) := by decide +kernel
theorem d_Run_sendFirst_37 : decode b_Run_sendFirst 37 = .ok (.return_, 1) := by decide +kernel
theorem d_Run_relays_0 : decode b_Run_relays 0 = .ok (.aload_n 0, 1) := by decide +kernel
theorem d_Run_relays_1 : decode b_Run_relays 1 = .ok (.getfield 32, 3) := by decide +kernel
theorem d_Run_relays_4 : decode b_Run_relays 4 = .ok (.iload_n 1, 1) := by decide +kernel
theorem d_Run_relays_5 : decode b_Run_relays 5 = .ok (.iload_n 2, 1) := by decide +kernel
theorem d_Run_relays_6 : decode b_Run_relays 6 = .ok (.invokestatic 125, 3) := by decide +kernel
theorem d_Run_relays_9 : decode b_Run_relays 9 = .ok (.iaload, 1) := by decide +kernel
theorem d_Run_relays_10 : decode b_Run_relays 10 = .ok (.istore_n 3, 1) := by decide +kernel
theorem d_Run_relays_11 : decode b_Run_relays 11 = .ok (.iload_n 3, 1) := by decide +kernel
theorem d_Run_relays_12 : decode b_Run_relays 12 = .ok (.iconst 1, 1) := by decide +kernel
theorem d_Run_relays_13 : decode b_Run_relays 13 = .ok (.if_icmp .ge 5, 3) := by decide +kernel
theorem d_Run_relays_16 : decode b_Run_relays 16 = .ok (.iconst 0, 1) := by decide +kernel
theorem d_Run_relays_17 : decode b_Run_relays 17 = .ok (.ireturn, 1) := by decide +kernel
theorem d_Run_relays_18 : decode b_Run_relays 18 = .ok (.iconst 0, 1) := by decide +kernel
theorem d_Run_relays_19 : decode b_Run_relays 19 = .ok (.istore 4, 2) := by decide +kernel
theorem d_Run_relays_21 : decode b_Run_relays 21 = .ok (.iconst 0, 1) := by decide +kernel
theorem d_Run_relays_22 : decode b_Run_relays 22 = .ok (.istore 5, 2) := by decide +kernel
theorem d_Run_relays_24 : decode b_Run_relays 24 = .ok (.iload 5, 2) := by decide +kernel
theorem d_Run_relays_26 : decode b_Run_relays 26 = .ok (.iconst 4, 1) := by decide +kernel
theorem d_Run_relays_27 : decode b_Run_relays 27 = .ok (.if_icmp .ge 43, 3) := by decide +kernel
theorem d_Run_relays_30 : decode b_Run_relays 30 = .ok (.aload_n 0, 1) := by decide +kernel
theorem d_Run_relays_31 : decode b_Run_relays 31 = .ok (.getfield 32, 3) := by decide +kernel
theorem d_Run_relays_34 : decode b_Run_relays 34 = .ok (.iload_n 1, 1) := by decide +kernel
theorem d_Run_relays_35 : decode b_Run_relays 35 = .ok (.iload 5, 2) := by decide +kernel
theorem d_Run_relays_37 : decode b_Run_relays 37 = .ok (.invokestatic 125, 3) := by decide +kernel
theorem d_Run_relays_40 : decode b_Run_relays 40 = .ok (.iaload, 1) := by decide +kernel
theorem d_Run_relays_41 : decode b_Run_relays 41 = .ok (.istore 6, 2) := by decide +kernel
theorem d_Run_relays_43 : decode b_Run_relays 43 = .ok (.iload 6, 2) := by decide +kernel
theorem d_Run_relays_45 : decode b_Run_relays 45 = .ok (.iload_n 3, 1) := by decide +kernel
theorem d_Run_relays_46 : decode b_Run_relays 46 = .ok (.if_icmp .lt 15, 3) := by decide +kernel
theorem d_Run_relays_49 : decode b_Run_relays 49 = .ok (.iload 6, 2) := by decide +kernel
theorem d_Run_relays_51 : decode b_Run_relays 51 = .ok (.iload_n 3, 1) := by decide +kernel
theorem d_Run_relays_52 : decode b_Run_relays 52 = .ok (.if_icmp .ne 12, 3) := by decide +kernel
theorem d_Run_relays_55 : decode b_Run_relays 55 = .ok (.iload 5, 2) := by decide +kernel
theorem d_Run_relays_57 : decode b_Run_relays 57 = .ok (.iload_n 2, 1) := by decide +kernel
theorem d_Run_relays_58 : decode b_Run_relays 58 = .ok (.if_icmp .ge 6, 3) := by decide +kernel
theorem d_Run_relays_61 : decode b_Run_relays 61 = .ok (.iinc 4 1, 3) := by decide +kernel
theorem d_Run_relays_64 : decode b_Run_relays 64 = .ok (.iinc 5 1, 3) := by decide +kernel
theorem d_Run_relays_67 : decode b_Run_relays 67 = .ok (.goto (-43), 3) := by decide +kernel
theorem d_Run_relays_70 : decode b_Run_relays 70 = .ok (.iload 4, 2) := by decide +kernel
theorem d_Run_relays_72 : decode b_Run_relays 72 = .ok (.aload_n 0, 1) := by decide +kernel
theorem d_Run_relays_73 : decode b_Run_relays 73 = .ok (.getfield 47, 3) := by decide +kernel
theorem d_Run_relays_76 : decode b_Run_relays 76 = .ok (.getfield 51, 3) := by decide +kernel
theorem d_Run_relays_79 : decode b_Run_relays 79 = .ok (.iconst 4, 1) := by decide +kernel
theorem d_Run_relays_80 : decode b_Run_relays 80 = .ok (.iaload, 1) := by decide +kernel
theorem d_Run_relays_81 : decode b_Run_relays 81 = .ok (.if_icmp .ge 7, 3) := by decide +kernel
theorem d_Run_relays_84 : decode b_Run_relays 84 = .ok (.iconst 1, 1) := by decide +kernel
theorem d_Run_relays_85 : decode b_Run_relays 85 = .ok (.goto 4, 3) := by decide +kernel
theorem d_Run_relays_88 : decode b_Run_relays 88 = .ok (.iconst 0, 1) := by decide +kernel
theorem d_Run_relays_89 : decode b_Run_relays 89 = .ok (.ireturn, 1) := by decide +kernel
theorem d_Run_relayAll_0 : decode b_Run_relayAll 0 = .ok (.iconst 0, 1) := by decide +kernel
theorem d_Run_relayAll_1 : decode b_Run_relayAll 1 = .ok (.istore_n 2, 1) := by decide +kernel
theorem d_Run_relayAll_2 : decode b_Run_relayAll 2 = .ok (.iload_n 2, 1) := by decide +kernel
theorem d_Run_relayAll_3 : decode b_Run_relayAll 3 = .ok (.aload_n 0, 1) := by decide +kernel
theorem d_Run_relayAll_4 : decode b_Run_relayAll 4 = .ok (.getfield 47, 3) := by decide +kernel
theorem d_Run_relayAll_7 : decode b_Run_relayAll 7 = .ok (.getfield 133, 3) := by decide +kernel
theorem d_Run_relayAll_10 : decode b_Run_relayAll 10 = .ok (.if_icmp .ge 65, 3) := by decide +kernel
theorem d_Run_relayAll_13 : decode b_Run_relayAll 13 = .ok (.iconst 0, 1) := by decide +kernel
theorem d_Run_relayAll_14 : decode b_Run_relayAll 14 = .ok (.istore_n 3, 1) := by decide +kernel
theorem d_Run_relayAll_15 : decode b_Run_relayAll 15 = .ok (.iload_n 3, 1) := by decide +kernel
theorem d_Run_relayAll_16 : decode b_Run_relayAll 16 = .ok (.iconst 4, 1) := by decide +kernel
theorem d_Run_relayAll_17 : decode b_Run_relayAll 17 = .ok (.if_icmp .ge 52, 3) := by decide +kernel
theorem d_Run_relayAll_20 : decode b_Run_relayAll 20 = .ok (.iload_n 2, 1) := by decide +kernel
theorem d_Run_relayAll_21 : decode b_Run_relayAll 21 = .ok (.iload_n 3, 1) := by decide +kernel
theorem d_Run_relayAll_22 : decode b_Run_relayAll 22 = .ok (.invokestatic 125, 3) := by decide +kernel
theorem d_Run_relayAll_25 : decode b_Run_relayAll 25 = .ok (.istore 4, 2) := by decide +kernel
theorem d_Run_relayAll_27 : decode b_Run_relayAll 27 = .ok (.aload_n 0, 1) := by decide +kernel
theorem d_Run_relayAll_28 : decode b_Run_relayAll 28 = .ok (.getfield 32, 3) := by decide +kernel
theorem d_Run_relayAll_31 : decode b_Run_relayAll 31 = .ok (.iload 4, 2) := by decide +kernel
theorem d_Run_relayAll_33 : decode b_Run_relayAll 33 = .ok (.iaload, 1) := by decide +kernel
theorem d_Run_relayAll_34 : decode b_Run_relayAll 34 = .ok (.iload_n 1, 1) := by decide +kernel
theorem d_Run_relayAll_35 : decode b_Run_relayAll 35 = .ok (.iconst 1, 1) := by decide +kernel
theorem d_Run_relayAll_36 : decode b_Run_relayAll 36 = .ok (.isub, 1) := by decide +kernel
theorem d_Run_relayAll_37 : decode b_Run_relayAll 37 = .ok (.if_icmp .ne 26, 3) := by decide +kernel
theorem d_Run_relayAll_40 : decode b_Run_relayAll 40 = .ok (.aload_n 0, 1) := by decide +kernel
theorem d_Run_relayAll_41 : decode b_Run_relayAll 41 = .ok (.iload_n 2, 1) := by decide +kernel
theorem d_Run_relayAll_42 : decode b_Run_relayAll 42 = .ok (.iload_n 3, 1) := by decide +kernel
theorem d_Run_relayAll_43 : decode b_Run_relayAll 43 = .ok (.invokevirtual 136, 3) := by decide +kernel
theorem d_Run_relayAll_46 : decode b_Run_relayAll 46 = .ok (.ifCond .eq 17, 3) := by decide +kernel
theorem d_Run_relayAll_49 : decode b_Run_relayAll 49 = .ok (.aload_n 0, 1) := by decide +kernel
theorem d_Run_relayAll_50 : decode b_Run_relayAll 50 = .ok (.iload_n 1, 1) := by decide +kernel
theorem d_Run_relayAll_51 : decode b_Run_relayAll 51 = .ok (.iload_n 2, 1) := by decide +kernel
theorem d_Run_relayAll_52 : decode b_Run_relayAll 52 = .ok (.iload_n 3, 1) := by decide +kernel
theorem d_Run_relayAll_53 : decode b_Run_relayAll 53 = .ok (.aload_n 0, 1) := by decide +kernel
theorem d_Run_relayAll_54 : decode b_Run_relayAll 54 = .ok (.getfield 38, 3) := by decide +kernel
theorem d_Run_relayAll_57 : decode b_Run_relayAll 57 = .ok (.iload 4, 2) := by decide +kernel
theorem d_Run_relayAll_59 : decode b_Run_relayAll 59 = .ok (.iaload, 1) := by decide +kernel
theorem d_Run_relayAll_60 : decode b_Run_relayAll 60 = .ok (.invokevirtual 129, 3) := by decide +kernel
theorem d_Run_relayAll_63 : decode b_Run_relayAll 63 = .ok (.iinc 3 1, 3) := by decide +kernel
theorem d_Run_relayAll_66 : decode b_Run_relayAll 66 = .ok (.goto (-51), 3) := by decide +kernel
theorem d_Run_relayAll_69 : decode b_Run_relayAll 69 = .ok (.iinc 2 1, 3) := by decide +kernel
theorem d_Run_relayAll_72 : decode b_Run_relayAll 72 = .ok (.goto (-70), 3) := by decide +kernel
theorem d_Run_relayAll_75 : decode b_Run_relayAll 75 = .ok (.return_, 1) := by decide +kernel
theorem d_Run_canMark_0 : decode b_Run_canMark 0 = .ok (.iconst 0, 1) := by decide +kernel
theorem d_Run_canMark_1 : decode b_Run_canMark 1 = .ok (.istore 4, 2) := by decide +kernel
theorem d_Run_canMark_3 : decode b_Run_canMark 3 = .ok (.iload 4, 2) := by decide +kernel
theorem d_Run_canMark_5 : decode b_Run_canMark 5 = .ok (.iload_n 1, 1) := by decide +kernel
theorem d_Run_canMark_6 : decode b_Run_canMark 6 = .ok (.invokestatic 172, 3) := by decide +kernel
theorem d_Run_canMark_9 : decode b_Run_canMark 9 = .ok (.if_icmp .ge 30, 3) := by decide +kernel
theorem d_Run_canMark_12 : decode b_Run_canMark 12 = .ok (.aload_n 0, 1) := by decide +kernel
theorem d_Run_canMark_13 : decode b_Run_canMark 13 = .ok (.getfield 41, 3) := by decide +kernel
theorem d_Run_canMark_16 : decode b_Run_canMark 16 = .ok (.iload_n 1, 1) := by decide +kernel
theorem d_Run_canMark_17 : decode b_Run_canMark 17 = .ok (.iload 4, 2) := by decide +kernel
theorem d_Run_canMark_19 : decode b_Run_canMark 19 = .ok (.invokestatic 175, 3) := by decide +kernel
theorem d_Run_canMark_22 : decode b_Run_canMark 22 = .ok (.iload_n 2, 1) := by decide +kernel
theorem d_Run_canMark_23 : decode b_Run_canMark 23 = .ok (.invokestatic 125, 3) := by decide +kernel
theorem d_Run_canMark_26 : decode b_Run_canMark 26 = .ok (.iaload, 1) := by decide +kernel
theorem d_Run_canMark_27 : decode b_Run_canMark 27 = .ok (.iload_n 3, 1) := by decide +kernel
theorem d_Run_canMark_28 : decode b_Run_canMark 28 = .ok (.if_icmp .le 5, 3) := by decide +kernel
theorem d_Run_canMark_31 : decode b_Run_canMark 31 = .ok (.iconst 0, 1) := by decide +kernel
theorem d_Run_canMark_32 : decode b_Run_canMark 32 = .ok (.ireturn, 1) := by decide +kernel
theorem d_Run_canMark_33 : decode b_Run_canMark 33 = .ok (.iinc 4 1, 3) := by decide +kernel
theorem d_Run_canMark_36 : decode b_Run_canMark 36 = .ok (.goto (-33), 3) := by decide +kernel
theorem d_Run_canMark_39 : decode b_Run_canMark 39 = .ok (.iconst 1, 1) := by decide +kernel
theorem d_Run_canMark_40 : decode b_Run_canMark 40 = .ok (.ireturn, 1) := by decide +kernel
theorem d_Run_sendPlans_0 : decode b_Run_sendPlans 0 = .ok (.iconst 0, 1) := by decide +kernel
theorem d_Run_sendPlans_1 : decode b_Run_sendPlans 1 = .ok (.istore_n 2, 1) := by decide +kernel
theorem d_Run_sendPlans_2 : decode b_Run_sendPlans 2 = .ok (.iload_n 2, 1) := by decide +kernel
theorem d_Run_sendPlans_3 : decode b_Run_sendPlans 3 = .ok (.aload_n 0, 1) := by decide +kernel
theorem d_Run_sendPlans_4 : decode b_Run_sendPlans 4 = .ok (.getfield 47, 3) := by decide +kernel
theorem d_Run_sendPlans_7 : decode b_Run_sendPlans 7 = .ok (.getfield 150, 3) := by decide +kernel
theorem d_Run_sendPlans_10 : decode b_Run_sendPlans 10 = .ok (.if_icmp .ge 133, 3) := by decide +kernel
theorem d_Run_sendPlans_13 : decode b_Run_sendPlans 13 = .ok (.aload_n 0, 1) := by decide +kernel
theorem d_Run_sendPlans_14 : decode b_Run_sendPlans 14 = .ok (.getfield 47, 3) := by decide +kernel
theorem d_Run_sendPlans_17 : decode b_Run_sendPlans 17 = .ok (.getfield 153, 3) := by decide +kernel
theorem d_Run_sendPlans_20 : decode b_Run_sendPlans 20 = .ok (.iload_n 2, 1) := by decide +kernel
theorem d_Run_sendPlans_21 : decode b_Run_sendPlans 21 = .ok (.iaload, 1) := by decide +kernel
theorem d_Run_sendPlans_22 : decode b_Run_sendPlans 22 = .ok (.istore_n 3, 1) := by decide +kernel
theorem d_Run_sendPlans_23 : decode b_Run_sendPlans 23 = .ok (.aload_n 0, 1) := by decide +kernel
theorem d_Run_sendPlans_24 : decode b_Run_sendPlans 24 = .ok (.getfield 60, 3) := by decide +kernel
theorem d_Run_sendPlans_27 : decode b_Run_sendPlans 27 = .ok (.iload_n 2, 1) := by decide +kernel
theorem d_Run_sendPlans_28 : decode b_Run_sendPlans 28 = .ok (.ishr, 1) := by decide +kernel
theorem d_Run_sendPlans_29 : decode b_Run_sendPlans 29 = .ok (.iconst 1, 1) := by decide +kernel
theorem d_Run_sendPlans_30 : decode b_Run_sendPlans 30 = .ok (.iand, 1) := by decide +kernel
theorem d_Run_sendPlans_31 : decode b_Run_sendPlans 31 = .ok (.ifCond .eq 29, 3) := by decide +kernel
theorem d_Run_sendPlans_34 : decode b_Run_sendPlans 34 = .ok (.iload_n 3, 1) := by decide +kernel
theorem d_Run_sendPlans_35 : decode b_Run_sendPlans 35 = .ok (.invokestatic 156, 3) := by decide +kernel
theorem d_Run_sendPlans_38 : decode b_Run_sendPlans 38 = .ok (.iload_n 1, 1) := by decide +kernel
theorem d_Run_sendPlans_39 : decode b_Run_sendPlans 39 = .ok (.if_icmp .ne 21, 3) := by decide +kernel
theorem d_Run_sendPlans_42 : decode b_Run_sendPlans 42 = .ok (.aload_n 0, 1) := by decide +kernel
theorem d_Run_sendPlans_43 : decode b_Run_sendPlans 43 = .ok (.getfield 47, 3) := by decide +kernel
theorem d_Run_sendPlans_46 : decode b_Run_sendPlans 46 = .ok (.iload_n 3, 1) := by decide +kernel
theorem d_Run_sendPlans_47 : decode b_Run_sendPlans 47 = .ok (.invokestatic 159, 3) := by decide +kernel
theorem d_Run_sendPlans_50 : decode b_Run_sendPlans 50 = .ok (.invokevirtual 118, 3) := by decide +kernel
theorem d_Run_sendPlans_53 : decode b_Run_sendPlans 53 = .ok (.ifCond .eq 7, 3) := by decide +kernel
theorem d_Run_sendPlans_56 : decode b_Run_sendPlans 56 = .ok (.iconst 1, 1) := by decide +kernel
theorem d_Run_sendPlans_57 : decode b_Run_sendPlans 57 = .ok (.goto 4, 3) := by decide +kernel
theorem d_Run_sendPlans_60 : decode b_Run_sendPlans 60 = .ok (.iconst 0, 1) := by decide +kernel
theorem d_Run_sendPlans_61 : decode b_Run_sendPlans 61 = .ok (.istore 4, 2) := by decide +kernel
theorem d_Run_sendPlans_63 : decode b_Run_sendPlans 63 = .ok (.iload 4, 2) := by decide +kernel
theorem d_Run_sendPlans_65 : decode b_Run_sendPlans 65 = .ok (.ifCond .eq 55, 3) := by decide +kernel
theorem d_Run_sendPlans_68 : decode b_Run_sendPlans 68 = .ok (.aload_n 0, 1) := by decide +kernel
theorem d_Run_sendPlans_69 : decode b_Run_sendPlans 69 = .ok (.aload_n 0, 1) := by decide +kernel
theorem d_Run_sendPlans_70 : decode b_Run_sendPlans 70 = .ok (.getfield 47, 3) := by decide +kernel
theorem d_Run_sendPlans_73 : decode b_Run_sendPlans 73 = .ok (.getfield 162, 3) := by decide +kernel
theorem d_Run_sendPlans_76 : decode b_Run_sendPlans 76 = .ok (.iload_n 2, 1) := by decide +kernel
theorem d_Run_sendPlans_77 : decode b_Run_sendPlans 77 = .ok (.iaload, 1) := by decide +kernel
theorem d_Run_sendPlans_78 : decode b_Run_sendPlans 78 = .ok (.aload_n 0, 1) := by decide +kernel
theorem d_Run_sendPlans_79 : decode b_Run_sendPlans 79 = .ok (.getfield 47, 3) := by decide +kernel
theorem d_Run_sendPlans_82 : decode b_Run_sendPlans 82 = .ok (.getfield 165, 3) := by decide +kernel
theorem d_Run_sendPlans_85 : decode b_Run_sendPlans 85 = .ok (.iload_n 2, 1) := by decide +kernel
theorem d_Run_sendPlans_86 : decode b_Run_sendPlans 86 = .ok (.iaload, 1) := by decide +kernel
theorem d_Run_sendPlans_87 : decode b_Run_sendPlans 87 = .ok (.iload_n 1, 1) := by decide +kernel
theorem d_Run_sendPlans_88 : decode b_Run_sendPlans 88 = .ok (.invokevirtual 168, 3) := by decide +kernel
theorem d_Run_sendPlans_91 : decode b_Run_sendPlans 91 = .ok (.ifCond .eq 29, 3) := by decide +kernel
theorem d_Run_sendPlans_94 : decode b_Run_sendPlans 94 = .ok (.aload_n 0, 1) := by decide +kernel
theorem d_Run_sendPlans_95 : decode b_Run_sendPlans 95 = .ok (.iload_n 3, 1) := by decide +kernel
theorem d_Run_sendPlans_96 : decode b_Run_sendPlans 96 = .ok (.aload_n 0, 1) := by decide +kernel
theorem d_Run_sendPlans_97 : decode b_Run_sendPlans 97 = .ok (.getfield 47, 3) := by decide +kernel
theorem d_Run_sendPlans_100 : decode b_Run_sendPlans 100 = .ok (.getfield 165, 3) := by decide +kernel
theorem d_Run_sendPlans_103 : decode b_Run_sendPlans 103 = .ok (.iload_n 2, 1) := by decide +kernel
theorem d_Run_sendPlans_104 : decode b_Run_sendPlans 104 = .ok (.iaload, 1) := by decide +kernel
theorem d_Run_sendPlans_105 : decode b_Run_sendPlans 105 = .ok (.aload_n 0, 1) := by decide +kernel
theorem d_Run_sendPlans_106 : decode b_Run_sendPlans 106 = .ok (.getfield 47, 3) := by decide +kernel
theorem d_Run_sendPlans_109 : decode b_Run_sendPlans 109 = .ok (.getfield 162, 3) := by decide +kernel
theorem d_Run_sendPlans_112 : decode b_Run_sendPlans 112 = .ok (.iload_n 2, 1) := by decide +kernel
theorem d_Run_sendPlans_113 : decode b_Run_sendPlans 113 = .ok (.iaload, 1) := by decide +kernel
theorem d_Run_sendPlans_114 : decode b_Run_sendPlans 114 = .ok (.invokevirtual 146, 3) := by decide +kernel
theorem d_Run_sendPlans_117 : decode b_Run_sendPlans 117 = .ok (.goto 20, 3) := by decide +kernel
theorem d_Run_sendPlans_120 : decode b_Run_sendPlans 120 = .ok (.iload 4, 2) := by decide +kernel
theorem d_Run_sendPlans_122 : decode b_Run_sendPlans 122 = .ok (.ifCond .eq 15, 3) := by decide +kernel
theorem d_Run_sendPlans_125 : decode b_Run_sendPlans 125 = .ok (.aload_n 0, 1) := by decide +kernel
theorem d_Run_sendPlans_126 : decode b_Run_sendPlans 126 = .ok (.dup, 1) := by decide +kernel
theorem d_Run_sendPlans_127 : decode b_Run_sendPlans 127 = .ok (.getfield 113, 3) := by decide +kernel
theorem d_Run_sendPlans_130 : decode b_Run_sendPlans 130 = .ok (.iconst 1, 1) := by decide +kernel
theorem d_Run_sendPlans_131 : decode b_Run_sendPlans 131 = .ok (.iload_n 2, 1) := by decide +kernel
theorem d_Run_sendPlans_132 : decode b_Run_sendPlans 132 = .ok (.ishl, 1) := by decide +kernel
theorem d_Run_sendPlans_133 : decode b_Run_sendPlans 133 = .ok (.ior, 1) := by decide +kernel
theorem d_Run_sendPlans_134 : decode b_Run_sendPlans 134 = .ok (.putfield 113, 3) := by decide +kernel
theorem d_Run_sendPlans_137 : decode b_Run_sendPlans 137 = .ok (.iinc 2 1, 3) := by decide +kernel
theorem d_Run_sendPlans_140 : decode b_Run_sendPlans 140 = .ok (.goto (-138), 3) := by decide +kernel
theorem d_Run_sendPlans_143 : decode b_Run_sendPlans 143 = .ok (.return_, 1) := by decide +kernel
theorem d_Run_rowOf_0 : decode b_Run_rowOf 0 = .ok (.iload_n 0, 1) := by decide +kernel
theorem d_Run_rowOf_1 : decode b_Run_rowOf 1 = .ok (.bipush 8, 2) := by decide +kernel
theorem d_Run_rowOf_3 : decode b_Run_rowOf 3 = .ok (.imul, 1) := by decide +kernel
theorem d_Run_rowOf_4 : decode b_Run_rowOf 4 = .ok (.ireturn, 1) := by decide +kernel
theorem d_Run_learn_0 : decode b_Run_learn 0 = .ok (.iconst 0, 1) := by decide +kernel
theorem d_Run_learn_1 : decode b_Run_learn 1 = .ok (.istore 4, 2) := by decide +kernel
theorem d_Run_learn_3 : decode b_Run_learn 3 = .ok (.iload 4, 2) := by decide +kernel
theorem d_Run_learn_5 : decode b_Run_learn 5 = .ok (.iload_n 1, 1) := by decide +kernel
theorem d_Run_learn_6 : decode b_Run_learn 6 = .ok (.invokestatic 172, 3) := by decide +kernel
theorem d_Run_learn_9 : decode b_Run_learn 9 = .ok (.if_icmp .ge 41, 3) := by decide +kernel
theorem d_Run_learn_12 : decode b_Run_learn 12 = .ok (.iload_n 1, 1) := by decide +kernel
theorem d_Run_learn_13 : decode b_Run_learn 13 = .ok (.iload 4, 2) := by decide +kernel
theorem d_Run_learn_15 : decode b_Run_learn 15 = .ok (.invokestatic 175, 3) := by decide +kernel
theorem d_Run_learn_18 : decode b_Run_learn 18 = .ok (.iload_n 2, 1) := by decide +kernel
theorem d_Run_learn_19 : decode b_Run_learn 19 = .ok (.invokestatic 125, 3) := by decide +kernel
theorem d_Run_learn_22 : decode b_Run_learn 22 = .ok (.istore 5, 2) := by decide +kernel
theorem d_Run_learn_24 : decode b_Run_learn 24 = .ok (.aload_n 0, 1) := by decide +kernel
theorem d_Run_learn_25 : decode b_Run_learn 25 = .ok (.getfield 41, 3) := by decide +kernel
theorem d_Run_learn_28 : decode b_Run_learn 28 = .ok (.iload 5, 2) := by decide +kernel
theorem d_Run_learn_30 : decode b_Run_learn 30 = .ok (.aload_n 0, 1) := by decide +kernel
theorem d_Run_learn_31 : decode b_Run_learn 31 = .ok (.getfield 41, 3) := by decide +kernel
theorem d_Run_learn_34 : decode b_Run_learn 34 = .ok (.iload 5, 2) := by decide +kernel
theorem d_Run_learn_36 : decode b_Run_learn 36 = .ok (.iaload, 1) := by decide +kernel
theorem d_Run_learn_37 : decode b_Run_learn 37 = .ok (.iload_n 3, 1) := by decide +kernel
theorem d_Run_learn_38 : decode b_Run_learn 38 = .ok (.iconst 1, 1) := by decide +kernel
theorem d_Run_learn_39 : decode b_Run_learn 39 = .ok (.iadd, 1) := by decide +kernel
theorem d_Run_learn_40 : decode b_Run_learn 40 = .ok (.invokestatic 190, 3) := by decide +kernel
theorem d_Run_learn_43 : decode b_Run_learn 43 = .ok (.iastore, 1) := by decide +kernel
theorem d_Run_learn_44 : decode b_Run_learn 44 = .ok (.iinc 4 1, 3) := by decide +kernel
theorem d_Run_learn_47 : decode b_Run_learn 47 = .ok (.goto (-44), 3) := by decide +kernel
theorem d_Run_learn_50 : decode b_Run_learn 50 = .ok (.return_, 1) := by decide +kernel
theorem d_Run_counts_0 : decode b_Run_counts 0 = .ok (.iload_n 1, 1) := by decide +kernel
theorem d_Run_counts_1 : decode b_Run_counts 1 = .ok (.iconst 0, 1) := by decide +kernel
theorem d_Run_counts_2 : decode b_Run_counts 2 = .ok (.invokestatic 175, 3) := by decide +kernel
theorem d_Run_counts_5 : decode b_Run_counts 5 = .ok (.aload_n 0, 1) := by decide +kernel
theorem d_Run_counts_6 : decode b_Run_counts 6 = .ok (.getfield 47, 3) := by decide +kernel
theorem d_Run_counts_9 : decode b_Run_counts 9 = .ok (.getfield 51, 3) := by decide +kernel
theorem d_Run_counts_12 : decode b_Run_counts 12 = .ok (.iconst 0, 1) := by decide +kernel
theorem d_Run_counts_13 : decode b_Run_counts 13 = .ok (.iaload, 1) := by decide +kernel
theorem d_Run_counts_14 : decode b_Run_counts 14 = .ok (.if_icmp .ne 15, 3) := by decide +kernel
theorem d_Run_counts_17 : decode b_Run_counts 17 = .ok (.iload_n 1, 1) := by decide +kernel
theorem d_Run_counts_18 : decode b_Run_counts 18 = .ok (.invokestatic 172, 3) := by decide +kernel
theorem d_Run_counts_21 : decode b_Run_counts 21 = .ok (.iload_n 2, 1) := by decide +kernel
theorem d_Run_counts_22 : decode b_Run_counts 22 = .ok (.if_icmp .lt 7, 3) := by decide +kernel
theorem d_Run_counts_25 : decode b_Run_counts 25 = .ok (.iconst 1, 1) := by decide +kernel
theorem d_Run_counts_26 : decode b_Run_counts 26 = .ok (.goto 4, 3) := by decide +kernel
theorem d_Run_counts_29 : decode b_Run_counts 29 = .ok (.iconst 0, 1) := by decide +kernel
theorem d_Run_counts_30 : decode b_Run_counts 30 = .ok (.ireturn, 1) := by decide +kernel
theorem d_Run_takes_0 : decode b_Run_takes 0 = .ok (.iconst 1, 1) := by decide +kernel
theorem d_Run_takes_1 : decode b_Run_takes 1 = .ok (.aload_n 0, 1) := by decide +kernel
theorem d_Run_takes_2 : decode b_Run_takes 2 = .ok (.getfield 20, 3) := by decide +kernel
theorem d_Run_takes_5 : decode b_Run_takes 5 = .ok (.iload_n 1, 1) := by decide +kernel
theorem d_Run_takes_6 : decode b_Run_takes 6 = .ok (.iaload, 1) := by decide +kernel
theorem d_Run_takes_7 : decode b_Run_takes 7 = .ok (.ishl, 1) := by decide +kernel
theorem d_Run_takes_8 : decode b_Run_takes 8 = .ok (.istore 4, 2) := by decide +kernel
theorem d_Run_takes_10 : decode b_Run_takes 10 = .ok (.iload_n 3, 1) := by decide +kernel
theorem d_Run_takes_11 : decode b_Run_takes 11 = .ok (.invokestatic 97, 3) := by decide +kernel
theorem d_Run_takes_14 : decode b_Run_takes 14 = .ok (.iload_n 2, 1) := by decide +kernel
theorem d_Run_takes_15 : decode b_Run_takes 15 = .ok (.iadd, 1) := by decide +kernel
theorem d_Run_takes_16 : decode b_Run_takes 16 = .ok (.istore 5, 2) := by decide +kernel
theorem d_Run_takes_18 : decode b_Run_takes 18 = .ok (.aload_n 0, 1) := by decide +kernel
theorem d_Run_takes_19 : decode b_Run_takes 19 = .ok (.getfield 44, 3) := by decide +kernel
theorem d_Run_takes_22 : decode b_Run_takes 22 = .ok (.iload 5, 2) := by decide +kernel
theorem d_Run_takes_24 : decode b_Run_takes 24 = .ok (.iaload, 1) := by decide +kernel
theorem d_Run_takes_25 : decode b_Run_takes 25 = .ok (.iload 4, 2) := by decide +kernel
theorem d_Run_takes_27 : decode b_Run_takes 27 = .ok (.iand, 1) := by decide +kernel
theorem d_Run_takes_28 : decode b_Run_takes 28 = .ok (.ifCond .eq 5, 3) := by decide +kernel
theorem d_Run_takes_31 : decode b_Run_takes 31 = .ok (.iconst 0, 1) := by decide +kernel
theorem d_Run_takes_32 : decode b_Run_takes 32 = .ok (.ireturn, 1) := by decide +kernel
theorem d_Run_takes_33 : decode b_Run_takes 33 = .ok (.aload_n 0, 1) := by decide +kernel
theorem d_Run_takes_34 : decode b_Run_takes 34 = .ok (.getfield 44, 3) := by decide +kernel
theorem d_Run_takes_37 : decode b_Run_takes 37 = .ok (.iload 5, 2) := by decide +kernel
theorem d_Run_takes_39 : decode b_Run_takes 39 = .ok (.dup2, 1) := by decide +kernel
theorem d_Run_takes_40 : decode b_Run_takes 40 = .ok (.iaload, 1) := by decide +kernel
theorem d_Run_takes_41 : decode b_Run_takes 41 = .ok (.iload 4, 2) := by decide +kernel
theorem d_Run_takes_43 : decode b_Run_takes 43 = .ok (.ior, 1) := by decide +kernel
theorem d_Run_takes_44 : decode b_Run_takes 44 = .ok (.iastore, 1) := by decide +kernel
theorem d_Run_takes_45 : decode b_Run_takes 45 = .ok (.iload_n 2, 1) := by decide +kernel
theorem d_Run_takes_46 : decode b_Run_takes 46 = .ok (.aload_n 0, 1) := by decide +kernel
theorem d_Run_takes_47 : decode b_Run_takes 47 = .ok (.getfield 20, 3) := by decide +kernel
theorem d_Run_takes_50 : decode b_Run_takes 50 = .ok (.iload_n 1, 1) := by decide +kernel
theorem d_Run_takes_51 : decode b_Run_takes 51 = .ok (.iaload, 1) := by decide +kernel
theorem d_Run_takes_52 : decode b_Run_takes 52 = .ok (.invokestatic 125, 3) := by decide +kernel
theorem d_Run_takes_55 : decode b_Run_takes 55 = .ok (.istore 6, 2) := by decide +kernel
theorem d_Run_takes_57 : decode b_Run_takes 57 = .ok (.aload_n 0, 1) := by decide +kernel
theorem d_Run_takes_58 : decode b_Run_takes 58 = .ok (.getfield 32, 3) := by decide +kernel
theorem d_Run_takes_61 : decode b_Run_takes 61 = .ok (.iload 6, 2) := by decide +kernel
theorem d_Run_takes_63 : decode b_Run_takes 63 = .ok (.iload_n 3, 1) := by decide +kernel
theorem d_Run_takes_64 : decode b_Run_takes 64 = .ok (.iastore, 1) := by decide +kernel
theorem d_Run_takes_65 : decode b_Run_takes 65 = .ok (.aload_n 0, 1) := by decide +kernel
theorem d_Run_takes_66 : decode b_Run_takes 66 = .ok (.getfield 35, 3) := by decide +kernel
theorem d_Run_takes_69 : decode b_Run_takes 69 = .ok (.iload 6, 2) := by decide +kernel
theorem d_Run_takes_71 : decode b_Run_takes 71 = .ok (.aload_n 0, 1) := by decide +kernel
theorem d_Run_takes_72 : decode b_Run_takes 72 = .ok (.getfield 17, 3) := by decide +kernel
theorem d_Run_takes_75 : decode b_Run_takes 75 = .ok (.iload_n 1, 1) := by decide +kernel
theorem d_Run_takes_76 : decode b_Run_takes 76 = .ok (.iaload, 1) := by decide +kernel
theorem d_Run_takes_77 : decode b_Run_takes 77 = .ok (.invokestatic 159, 3) := by decide +kernel
theorem d_Run_takes_80 : decode b_Run_takes 80 = .ok (.iastore, 1) := by decide +kernel
theorem d_Run_takes_81 : decode b_Run_takes 81 = .ok (.aload_n 0, 1) := by decide +kernel
theorem d_Run_takes_82 : decode b_Run_takes 82 = .ok (.getfield 38, 3) := by decide +kernel
theorem d_Run_takes_85 : decode b_Run_takes 85 = .ok (.iload 6, 2) := by decide +kernel
theorem d_Run_takes_87 : decode b_Run_takes 87 = .ok (.aload_n 0, 1) := by decide +kernel
theorem d_Run_takes_88 : decode b_Run_takes 88 = .ok (.getfield 23, 3) := by decide +kernel
theorem d_Run_takes_91 : decode b_Run_takes 91 = .ok (.iload_n 1, 1) := by decide +kernel
theorem d_Run_takes_92 : decode b_Run_takes 92 = .ok (.iaload, 1) := by decide +kernel
theorem d_Run_takes_93 : decode b_Run_takes 93 = .ok (.iastore, 1) := by decide +kernel
theorem d_Run_takes_94 : decode b_Run_takes 94 = .ok (.iconst 1, 1) := by decide +kernel
theorem d_Run_takes_95 : decode b_Run_takes 95 = .ok (.ireturn, 1) := by decide +kernel
theorem d_Run_readAll_0 : decode b_Run_readAll 0 = .ok (.iconst 0, 1) := by decide +kernel
theorem d_Run_readAll_1 : decode b_Run_readAll 1 = .ok (.istore_n 2, 1) := by decide +kernel
theorem d_Run_readAll_2 : decode b_Run_readAll 2 = .ok (.iload_n 2, 1) := by decide +kernel
theorem d_Run_readAll_3 : decode b_Run_readAll 3 = .ok (.aload_n 0, 1) := by decide +kernel
theorem d_Run_readAll_4 : decode b_Run_readAll 4 = .ok (.getfield 110, 3) := by decide +kernel
theorem d_Run_readAll_7 : decode b_Run_readAll 7 = .ok (.if_icmp .ge 95, 3) := by decide +kernel
theorem d_Run_readAll_10 : decode b_Run_readAll 10 = .ok (.aload_n 0, 1) := by decide +kernel
theorem d_Run_readAll_11 : decode b_Run_readAll 11 = .ok (.getfield 26, 3) := by decide +kernel
theorem d_Run_readAll_14 : decode b_Run_readAll 14 = .ok (.iload_n 2, 1) := by decide +kernel
theorem d_Run_readAll_15 : decode b_Run_readAll 15 = .ok (.iaload, 1) := by decide +kernel
theorem d_Run_readAll_16 : decode b_Run_readAll 16 = .ok (.iload_n 1, 1) := by decide +kernel
theorem d_Run_readAll_17 : decode b_Run_readAll 17 = .ok (.if_icmp .ne 79, 3) := by decide +kernel
theorem d_Run_readAll_20 : decode b_Run_readAll 20 = .ok (.aload_n 0, 1) := by decide +kernel
theorem d_Run_readAll_21 : decode b_Run_readAll 21 = .ok (.getfield 17, 3) := by decide +kernel
theorem d_Run_readAll_24 : decode b_Run_readAll 24 = .ok (.iload_n 2, 1) := by decide +kernel
theorem d_Run_readAll_25 : decode b_Run_readAll 25 = .ok (.iaload, 1) := by decide +kernel
theorem d_Run_readAll_26 : decode b_Run_readAll 26 = .ok (.invokestatic 178, 3) := by decide +kernel
theorem d_Run_readAll_29 : decode b_Run_readAll 29 = .ok (.istore_n 3, 1) := by decide +kernel
theorem d_Run_readAll_30 : decode b_Run_readAll 30 = .ok (.aload_n 0, 1) := by decide +kernel
theorem d_Run_readAll_31 : decode b_Run_readAll 31 = .ok (.getfield 47, 3) := by decide +kernel
theorem d_Run_readAll_34 : decode b_Run_readAll 34 = .ok (.iload_n 3, 1) := by decide +kernel
theorem d_Run_readAll_35 : decode b_Run_readAll 35 = .ok (.invokevirtual 118, 3) := by decide +kernel
theorem d_Run_readAll_38 : decode b_Run_readAll 38 = .ok (.ifCond .eq 23, 3) := by decide +kernel
theorem d_Run_readAll_41 : decode b_Run_readAll 41 = .ok (.aload_n 0, 1) := by decide +kernel
theorem d_Run_readAll_42 : decode b_Run_readAll 42 = .ok (.aload_n 0, 1) := by decide +kernel
theorem d_Run_readAll_43 : decode b_Run_readAll 43 = .ok (.getfield 23, 3) := by decide +kernel
theorem d_Run_readAll_46 : decode b_Run_readAll 46 = .ok (.iload_n 2, 1) := by decide +kernel
theorem d_Run_readAll_47 : decode b_Run_readAll 47 = .ok (.iaload, 1) := by decide +kernel
theorem d_Run_readAll_48 : decode b_Run_readAll 48 = .ok (.aload_n 0, 1) := by decide +kernel
theorem d_Run_readAll_49 : decode b_Run_readAll 49 = .ok (.getfield 20, 3) := by decide +kernel
theorem d_Run_readAll_52 : decode b_Run_readAll 52 = .ok (.iload_n 2, 1) := by decide +kernel
theorem d_Run_readAll_53 : decode b_Run_readAll 53 = .ok (.iaload, 1) := by decide +kernel
theorem d_Run_readAll_54 : decode b_Run_readAll 54 = .ok (.iload_n 1, 1) := by decide +kernel
theorem d_Run_readAll_55 : decode b_Run_readAll 55 = .ok (.invokevirtual 181, 3) := by decide +kernel
theorem d_Run_readAll_58 : decode b_Run_readAll 58 = .ok (.goto 38, 3) := by decide +kernel
theorem d_Run_readAll_61 : decode b_Run_readAll 61 = .ok (.aload_n 0, 1) := by decide +kernel
theorem d_Run_readAll_62 : decode b_Run_readAll 62 = .ok (.aload_n 0, 1) := by decide +kernel
theorem d_Run_readAll_63 : decode b_Run_readAll 63 = .ok (.getfield 23, 3) := by decide +kernel
theorem d_Run_readAll_66 : decode b_Run_readAll 66 = .ok (.iload_n 2, 1) := by decide +kernel
theorem d_Run_readAll_67 : decode b_Run_readAll 67 = .ok (.iaload, 1) := by decide +kernel
theorem d_Run_readAll_68 : decode b_Run_readAll 68 = .ok (.iload_n 1, 1) := by decide +kernel
theorem d_Run_readAll_69 : decode b_Run_readAll 69 = .ok (.invokevirtual 184, 3) := by decide +kernel
theorem d_Run_readAll_72 : decode b_Run_readAll 72 = .ok (.ifCond .eq 24, 3) := by decide +kernel
theorem d_Run_readAll_75 : decode b_Run_readAll 75 = .ok (.aload_n 0, 1) := by decide +kernel
theorem d_Run_readAll_76 : decode b_Run_readAll 76 = .ok (.getfield 29, 3) := by decide +kernel
theorem d_Run_readAll_79 : decode b_Run_readAll 79 = .ok (.iload_n 2, 1) := by decide +kernel
theorem d_Run_readAll_80 : decode b_Run_readAll 80 = .ok (.aload_n 0, 1) := by decide +kernel
theorem d_Run_readAll_81 : decode b_Run_readAll 81 = .ok (.iload_n 2, 1) := by decide +kernel
theorem d_Run_readAll_82 : decode b_Run_readAll 82 = .ok (.iload_n 3, 1) := by decide +kernel
theorem d_Run_readAll_83 : decode b_Run_readAll 83 = .ok (.iload_n 1, 1) := by decide +kernel
theorem d_Run_readAll_84 : decode b_Run_readAll 84 = .ok (.invokevirtual 187, 3) := by decide +kernel
theorem d_Run_readAll_87 : decode b_Run_readAll 87 = .ok (.ifCond .eq 7, 3) := by decide +kernel
theorem d_Run_readAll_90 : decode b_Run_readAll 90 = .ok (.iconst 2, 1) := by decide +kernel
theorem d_Run_readAll_91 : decode b_Run_readAll 91 = .ok (.goto 4, 3) := by decide +kernel
theorem d_Run_readAll_94 : decode b_Run_readAll 94 = .ok (.iconst 1, 1) := by decide +kernel
theorem d_Run_readAll_95 : decode b_Run_readAll 95 = .ok (.iastore, 1) := by decide +kernel
theorem d_Run_readAll_96 : decode b_Run_readAll 96 = .ok (.iinc 2 1, 3) := by decide +kernel
theorem d_Run_readAll_99 : decode b_Run_readAll 99 = .ok (.goto (-97), 3) := by decide +kernel
theorem d_Run_readAll_102 : decode b_Run_readAll 102 = .ok (.return_, 1) := by decide +kernel
theorem d_Run_play_0 : decode b_Run_play 0 = .ok (.aload_n 0, 1) := by decide +kernel
theorem d_Run_play_1 : decode b_Run_play 1 = .ok (.invokevirtual 84, 3) := by decide +kernel
theorem d_Run_play_4 : decode b_Run_play 4 = .ok (.iconst 1, 1) := by decide +kernel
theorem d_Run_play_5 : decode b_Run_play 5 = .ok (.istore_n 1, 1) := by decide +kernel
theorem d_Run_play_6 : decode b_Run_play 6 = .ok (.iload_n 1, 1) := by decide +kernel
theorem d_Run_play_7 : decode b_Run_play 7 = .ok (.aload_n 0, 1) := by decide +kernel
theorem d_Run_play_8 : decode b_Run_play 8 = .ok (.getfield 56, 3) := by decide +kernel
theorem d_Run_play_11 : decode b_Run_play 11 = .ok (.if_icmp .gt 65, 3) := by decide +kernel
theorem d_Run_play_14 : decode b_Run_play 14 = .ok (.iload_n 1, 1) := by decide +kernel
theorem d_Run_play_15 : decode b_Run_play 15 = .ok (.bipush 8, 2) := by decide +kernel
theorem d_Run_play_17 : decode b_Run_play 17 = .ok (.if_icmp .gt 59, 3) := by decide +kernel
theorem d_Run_play_20 : decode b_Run_play 20 = .ok (.iload_n 1, 1) := by decide +kernel
theorem d_Run_play_21 : decode b_Run_play 21 = .ok (.iconst 1, 1) := by decide +kernel
theorem d_Run_play_22 : decode b_Run_play 22 = .ok (.if_icmp .ne 10, 3) := by decide +kernel
theorem d_Run_play_25 : decode b_Run_play 25 = .ok (.aload_n 0, 1) := by decide +kernel
theorem d_Run_play_26 : decode b_Run_play 26 = .ok (.invokevirtual 87, 3) := by decide +kernel
theorem d_Run_play_29 : decode b_Run_play 29 = .ok (.goto 8, 3) := by decide +kernel
theorem d_Run_play_32 : decode b_Run_play 32 = .ok (.aload_n 0, 1) := by decide +kernel
theorem d_Run_play_33 : decode b_Run_play 33 = .ok (.iload_n 1, 1) := by decide +kernel
theorem d_Run_play_34 : decode b_Run_play 34 = .ok (.invokevirtual 90, 3) := by decide +kernel
theorem d_Run_play_37 : decode b_Run_play 37 = .ok (.aload_n 0, 1) := by decide +kernel
theorem d_Run_play_38 : decode b_Run_play 38 = .ok (.iload_n 1, 1) := by decide +kernel
theorem d_Run_play_39 : decode b_Run_play 39 = .ok (.invokevirtual 94, 3) := by decide +kernel
theorem d_Run_play_42 : decode b_Run_play 42 = .ok (.aload_n 0, 1) := by decide +kernel
theorem d_Run_play_43 : decode b_Run_play 43 = .ok (.getfield 44, 3) := by decide +kernel
theorem d_Run_play_46 : decode b_Run_play 46 = .ok (.iload_n 1, 1) := by decide +kernel
theorem d_Run_play_47 : decode b_Run_play 47 = .ok (.iconst 1, 1) := by decide +kernel
theorem d_Run_play_48 : decode b_Run_play 48 = .ok (.isub, 1) := by decide +kernel
theorem d_Run_play_49 : decode b_Run_play 49 = .ok (.invokestatic 97, 3) := by decide +kernel
theorem d_Run_play_52 : decode b_Run_play 52 = .ok (.aload_n 0, 1) := by decide +kernel
theorem d_Run_play_53 : decode b_Run_play 53 = .ok (.getfield 44, 3) := by decide +kernel
theorem d_Run_play_56 : decode b_Run_play 56 = .ok (.iload_n 1, 1) := by decide +kernel
theorem d_Run_play_57 : decode b_Run_play 57 = .ok (.invokestatic 97, 3) := by decide +kernel
theorem d_Run_play_60 : decode b_Run_play 60 = .ok (.bipush 8, 2) := by decide +kernel
theorem d_Run_play_62 : decode b_Run_play 62 = .ok (.invokestatic 101, 3) := by decide +kernel
theorem d_Run_play_65 : decode b_Run_play 65 = .ok (.aload_n 0, 1) := by decide +kernel
theorem d_Run_play_66 : decode b_Run_play 66 = .ok (.iload_n 1, 1) := by decide +kernel
theorem d_Run_play_67 : decode b_Run_play 67 = .ok (.invokevirtual 107, 3) := by decide +kernel
theorem d_Run_play_70 : decode b_Run_play 70 = .ok (.iinc 1 1, 3) := by decide +kernel
theorem d_Run_play_73 : decode b_Run_play 73 = .ok (.goto (-67), 3) := by decide +kernel
theorem d_Run_play_76 : decode b_Run_play 76 = .ok (.return_, 1) := by decide +kernel
theorem d_Tape_append_0 : decode b_Tape_append 0 = .ok (.bipush 24, 2) := by decide +kernel
theorem d_Tape_append_2 : decode b_Tape_append 2 = .ok (.istore_n 2, 1) := by decide +kernel
theorem d_Tape_append_3 : decode b_Tape_append 3 = .ok (.iload_n 2, 1) := by decide +kernel
theorem d_Tape_append_4 : decode b_Tape_append 4 = .ok (.ifCond .lt 46, 3) := by decide +kernel
theorem d_Tape_append_7 : decode b_Tape_append 7 = .ok (.aload_n 0, 1) := by decide +kernel
theorem d_Tape_append_8 : decode b_Tape_append 8 = .ok (.getfield 22, 3) := by decide +kernel
theorem d_Tape_append_11 : decode b_Tape_append 11 = .ok (.sipush 400, 3) := by decide +kernel
theorem d_Tape_append_14 : decode b_Tape_append 14 = .ok (.if_icmp .ge 30, 3) := by decide +kernel
theorem d_Tape_append_17 : decode b_Tape_append 17 = .ok (.aload_n 0, 1) := by decide +kernel
theorem d_Tape_append_18 : decode b_Tape_append 18 = .ok (.getfield 9, 3) := by decide +kernel
theorem d_Tape_append_21 : decode b_Tape_append 21 = .ok (.aload_n 0, 1) := by decide +kernel
theorem d_Tape_append_22 : decode b_Tape_append 22 = .ok (.getfield 22, 3) := by decide +kernel
theorem d_Tape_append_25 : decode b_Tape_append 25 = .ok (.iload_n 1, 1) := by decide +kernel
theorem d_Tape_append_26 : decode b_Tape_append 26 = .ok (.iload_n 2, 1) := by decide +kernel
theorem d_Tape_append_27 : decode b_Tape_append 27 = .ok (.ishr, 1) := by decide +kernel
theorem d_Tape_append_28 : decode b_Tape_append 28 = .ok (.sipush 255, 3) := by decide +kernel
theorem d_Tape_append_31 : decode b_Tape_append 31 = .ok (.iand, 1) := by decide +kernel
theorem d_Tape_append_32 : decode b_Tape_append 32 = .ok (.i2c, 1) := by decide +kernel
theorem d_Tape_append_33 : decode b_Tape_append 33 = .ok (.castore, 1) := by decide +kernel
theorem d_Tape_append_34 : decode b_Tape_append 34 = .ok (.aload_n 0, 1) := by decide +kernel
theorem d_Tape_append_35 : decode b_Tape_append 35 = .ok (.dup, 1) := by decide +kernel
theorem d_Tape_append_36 : decode b_Tape_append 36 = .ok (.getfield 22, 3) := by decide +kernel
theorem d_Tape_append_39 : decode b_Tape_append 39 = .ok (.iconst 1, 1) := by decide +kernel
theorem d_Tape_append_40 : decode b_Tape_append 40 = .ok (.iadd, 1) := by decide +kernel
theorem d_Tape_append_41 : decode b_Tape_append 41 = .ok (.putfield 22, 3) := by decide +kernel
theorem d_Tape_append_44 : decode b_Tape_append 44 = .ok (.iinc 2 (-8), 3) := by decide +kernel
theorem d_Tape_append_47 : decode b_Tape_append 47 = .ok (.goto (-44), 3) := by decide +kernel
theorem d_Tape_append_50 : decode b_Tape_append 50 = .ok (.return_, 1) := by decide +kernel
theorem d_Tape_skipBlanks_0 : decode b_Tape_skipBlanks 0 = .ok (.aload_n 0, 1) := by decide +kernel
theorem d_Tape_skipBlanks_1 : decode b_Tape_skipBlanks 1 = .ok (.getfield 29, 3) := by decide +kernel
theorem d_Tape_skipBlanks_4 : decode b_Tape_skipBlanks 4 = .ok (.aload_n 0, 1) := by decide +kernel
theorem d_Tape_skipBlanks_5 : decode b_Tape_skipBlanks 5 = .ok (.getfield 22, 3) := by decide +kernel
theorem d_Tape_skipBlanks_8 : decode b_Tape_skipBlanks 8 = .ok (.if_icmp .ge 30, 3) := by decide +kernel
theorem d_Tape_skipBlanks_11 : decode b_Tape_skipBlanks 11 = .ok (.aload_n 0, 1) := by decide +kernel
theorem d_Tape_skipBlanks_12 : decode b_Tape_skipBlanks 12 = .ok (.getfield 9, 3) := by decide +kernel
theorem d_Tape_skipBlanks_15 : decode b_Tape_skipBlanks 15 = .ok (.aload_n 0, 1) := by decide +kernel
theorem d_Tape_skipBlanks_16 : decode b_Tape_skipBlanks 16 = .ok (.getfield 29, 3) := by decide +kernel
theorem d_Tape_skipBlanks_19 : decode b_Tape_skipBlanks 19 = .ok (.caload, 1) := by decide +kernel
theorem d_Tape_skipBlanks_20 : decode b_Tape_skipBlanks 20 = .ok (.bipush 32, 2) := by decide +kernel
theorem d_Tape_skipBlanks_22 : decode b_Tape_skipBlanks 22 = .ok (.if_icmp .ne 16, 3) := by decide +kernel
theorem d_Tape_skipBlanks_25 : decode b_Tape_skipBlanks 25 = .ok (.aload_n 0, 1) := by decide +kernel
theorem d_Tape_skipBlanks_26 : decode b_Tape_skipBlanks 26 = .ok (.dup, 1) := by decide +kernel
theorem d_Tape_skipBlanks_27 : decode b_Tape_skipBlanks 27 = .ok (.getfield 29, 3) := by decide +kernel
theorem d_Tape_skipBlanks_30 : decode b_Tape_skipBlanks 30 = .ok (.iconst 1, 1) := by decide +kernel
theorem d_Tape_skipBlanks_31 : decode b_Tape_skipBlanks 31 = .ok (.iadd, 1) := by decide +kernel
theorem d_Tape_skipBlanks_32 : decode b_Tape_skipBlanks 32 = .ok (.putfield 29, 3) := by decide +kernel
theorem d_Tape_skipBlanks_35 : decode b_Tape_skipBlanks 35 = .ok (.goto (-35), 3) := by decide +kernel
theorem d_Tape_skipBlanks_38 : decode b_Tape_skipBlanks 38 = .ok (.return_, 1) := by decide +kernel
theorem d_Tape_readWord_0 : decode b_Tape_readWord 0 = .ok (.aload_n 0, 1) := by decide +kernel
theorem d_Tape_readWord_1 : decode b_Tape_readWord 1 = .ok (.invokevirtual 58, 3) := by decide +kernel
theorem d_Tape_readWord_4 : decode b_Tape_readWord 4 = .ok (.aload_n 0, 1) := by decide +kernel
theorem d_Tape_readWord_5 : decode b_Tape_readWord 5 = .ok (.aload_n 0, 1) := by decide +kernel
theorem d_Tape_readWord_6 : decode b_Tape_readWord 6 = .ok (.getfield 29, 3) := by decide +kernel
theorem d_Tape_readWord_9 : decode b_Tape_readWord 9 = .ok (.putfield 32, 3) := by decide +kernel
theorem d_Tape_readWord_12 : decode b_Tape_readWord 12 = .ok (.aload_n 0, 1) := by decide +kernel
theorem d_Tape_readWord_13 : decode b_Tape_readWord 13 = .ok (.getfield 29, 3) := by decide +kernel
theorem d_Tape_readWord_16 : decode b_Tape_readWord 16 = .ok (.aload_n 0, 1) := by decide +kernel
theorem d_Tape_readWord_17 : decode b_Tape_readWord 17 = .ok (.getfield 22, 3) := by decide +kernel
theorem d_Tape_readWord_20 : decode b_Tape_readWord 20 = .ok (.if_icmp .ge 44, 3) := by decide +kernel
theorem d_Tape_readWord_23 : decode b_Tape_readWord 23 = .ok (.aload_n 0, 1) := by decide +kernel
theorem d_Tape_readWord_24 : decode b_Tape_readWord 24 = .ok (.getfield 9, 3) := by decide +kernel
theorem d_Tape_readWord_27 : decode b_Tape_readWord 27 = .ok (.aload_n 0, 1) := by decide +kernel
theorem d_Tape_readWord_28 : decode b_Tape_readWord 28 = .ok (.getfield 29, 3) := by decide +kernel
theorem d_Tape_readWord_31 : decode b_Tape_readWord 31 = .ok (.caload, 1) := by decide +kernel
theorem d_Tape_readWord_32 : decode b_Tape_readWord 32 = .ok (.bipush 97, 2) := by decide +kernel
theorem d_Tape_readWord_34 : decode b_Tape_readWord 34 = .ok (.if_icmp .lt 30, 3) := by decide +kernel
theorem d_Tape_readWord_37 : decode b_Tape_readWord 37 = .ok (.aload_n 0, 1) := by decide +kernel
theorem d_Tape_readWord_38 : decode b_Tape_readWord 38 = .ok (.getfield 9, 3) := by decide +kernel
theorem d_Tape_readWord_41 : decode b_Tape_readWord 41 = .ok (.aload_n 0, 1) := by decide +kernel
theorem d_Tape_readWord_42 : decode b_Tape_readWord 42 = .ok (.getfield 29, 3) := by decide +kernel
theorem d_Tape_readWord_45 : decode b_Tape_readWord 45 = .ok (.caload, 1) := by decide +kernel
theorem d_Tape_readWord_46 : decode b_Tape_readWord 46 = .ok (.bipush 122, 2) := by decide +kernel
theorem d_Tape_readWord_48 : decode b_Tape_readWord 48 = .ok (.if_icmp .gt 16, 3) := by decide +kernel
theorem d_Tape_readWord_51 : decode b_Tape_readWord 51 = .ok (.aload_n 0, 1) := by decide +kernel
theorem d_Tape_readWord_52 : decode b_Tape_readWord 52 = .ok (.dup, 1) := by decide +kernel
theorem d_Tape_readWord_53 : decode b_Tape_readWord 53 = .ok (.getfield 29, 3) := by decide +kernel
theorem d_Tape_readWord_56 : decode b_Tape_readWord 56 = .ok (.iconst 1, 1) := by decide +kernel
theorem d_Tape_readWord_57 : decode b_Tape_readWord 57 = .ok (.iadd, 1) := by decide +kernel
theorem d_Tape_readWord_58 : decode b_Tape_readWord 58 = .ok (.putfield 29, 3) := by decide +kernel
theorem d_Tape_readWord_61 : decode b_Tape_readWord 61 = .ok (.goto (-49), 3) := by decide +kernel
theorem d_Tape_readWord_64 : decode b_Tape_readWord 64 = .ok (.return_, 1) := by decide +kernel
theorem d_Tape_isWord_0 : decode b_Tape_isWord 0 = .ok (.aload_n 0, 1) := by decide +kernel
theorem d_Tape_isWord_1 : decode b_Tape_isWord 1 = .ok (.getfield 29, 3) := by decide +kernel
theorem d_Tape_isWord_4 : decode b_Tape_isWord 4 = .ok (.aload_n 0, 1) := by decide +kernel
theorem d_Tape_isWord_5 : decode b_Tape_isWord 5 = .ok (.getfield 32, 3) := by decide +kernel
theorem d_Tape_isWord_8 : decode b_Tape_isWord 8 = .ok (.isub, 1) := by decide +kernel
theorem d_Tape_isWord_9 : decode b_Tape_isWord 9 = .ok (.aload_n 1, 1) := by decide +kernel
theorem d_Tape_isWord_10 : decode b_Tape_isWord 10 = .ok (.invokevirtual 177, 3) := by decide +kernel
theorem d_Tape_isWord_13 : decode b_Tape_isWord 13 = .ok (.if_icmp .eq 5, 3) := by decide +kernel
theorem d_Tape_isWord_16 : decode b_Tape_isWord 16 = .ok (.iconst 0, 1) := by decide +kernel
theorem d_Tape_isWord_17 : decode b_Tape_isWord 17 = .ok (.ireturn, 1) := by decide +kernel
theorem d_Tape_isWord_18 : decode b_Tape_isWord 18 = .ok (.iconst 0, 1) := by decide +kernel
theorem d_Tape_isWord_19 : decode b_Tape_isWord 19 = .ok (.istore_n 2, 1) := by decide +kernel
theorem d_Tape_isWord_20 : decode b_Tape_isWord 20 = .ok (.iload_n 2, 1) := by decide +kernel
theorem d_Tape_isWord_21 : decode b_Tape_isWord 21 = .ok (.aload_n 1, 1) := by decide +kernel
theorem d_Tape_isWord_22 : decode b_Tape_isWord 22 = .ok (.invokevirtual 177, 3) := by decide +kernel
theorem d_Tape_isWord_25 : decode b_Tape_isWord 25 = .ok (.if_icmp .ge 43, 3) := by decide +kernel
theorem d_Tape_isWord_28 : decode b_Tape_isWord 28 = .ok (.aload_n 0, 1) := by decide +kernel
theorem d_Tape_isWord_29 : decode b_Tape_isWord 29 = .ok (.getfield 32, 3) := by decide +kernel
theorem d_Tape_isWord_32 : decode b_Tape_isWord 32 = .ok (.iload_n 2, 1) := by decide +kernel
theorem d_Tape_isWord_33 : decode b_Tape_isWord 33 = .ok (.iadd, 1) := by decide +kernel
theorem d_Tape_isWord_34 : decode b_Tape_isWord 34 = .ok (.aload_n 0, 1) := by decide +kernel
theorem d_Tape_isWord_35 : decode b_Tape_isWord 35 = .ok (.getfield 22, 3) := by decide +kernel
theorem d_Tape_isWord_38 : decode b_Tape_isWord 38 = .ok (.if_icmp .ge 30, 3) := by decide +kernel
theorem d_Tape_isWord_41 : decode b_Tape_isWord 41 = .ok (.aload_n 0, 1) := by decide +kernel
theorem d_Tape_isWord_42 : decode b_Tape_isWord 42 = .ok (.getfield 9, 3) := by decide +kernel
theorem d_Tape_isWord_45 : decode b_Tape_isWord 45 = .ok (.aload_n 0, 1) := by decide +kernel
theorem d_Tape_isWord_46 : decode b_Tape_isWord 46 = .ok (.getfield 32, 3) := by decide +kernel
theorem d_Tape_isWord_49 : decode b_Tape_isWord 49 = .ok (.iload_n 2, 1) := by decide +kernel
theorem d_Tape_isWord_50 : decode b_Tape_isWord 50 = .ok (.iadd, 1) := by decide +kernel
theorem d_Tape_isWord_51 : decode b_Tape_isWord 51 = .ok (.caload, 1) := by decide +kernel
theorem d_Tape_isWord_52 : decode b_Tape_isWord 52 = .ok (.aload_n 1, 1) := by decide +kernel
theorem d_Tape_isWord_53 : decode b_Tape_isWord 53 = .ok (.iload_n 2, 1) := by decide +kernel
theorem d_Tape_isWord_54 : decode b_Tape_isWord 54 = .ok (.invokevirtual 181, 3) := by decide +kernel
theorem d_Tape_isWord_57 : decode b_Tape_isWord 57 = .ok (.if_icmp .eq 5, 3) := by decide +kernel
theorem d_Tape_isWord_60 : decode b_Tape_isWord 60 = .ok (.iconst 0, 1) := by decide +kernel
theorem d_Tape_isWord_61 : decode b_Tape_isWord 61 = .ok (.ireturn, 1) := by decide +kernel
theorem d_Tape_isWord_62 : decode b_Tape_isWord 62 = .ok (.iinc 2 1, 3) := by decide +kernel
theorem d_Tape_isWord_65 : decode b_Tape_isWord 65 = .ok (.goto (-45), 3) := by decide +kernel
theorem d_Tape_isWord_68 : decode b_Tape_isWord 68 = .ok (.iconst 1, 1) := by decide +kernel
theorem d_Tape_isWord_69 : decode b_Tape_isWord 69 = .ok (.ireturn, 1) := by decide +kernel
theorem d_Tape_blame_0 : decode b_Tape_blame 0 = .ok (.aload_n 0, 1) := by decide +kernel
theorem d_Tape_blame_1 : decode b_Tape_blame 1 = .ok (.getfield 26, 3) := by decide +kernel
theorem d_Tape_blame_4 : decode b_Tape_blame 4 = .ok (.ifCond .ne 13, 3) := by decide +kernel
theorem d_Tape_blame_7 : decode b_Tape_blame 7 = .ok (.aload_n 0, 1) := by decide +kernel
theorem d_Tape_blame_8 : decode b_Tape_blame 8 = .ok (.bipush 8, 2) := by decide +kernel
theorem d_Tape_blame_10 : decode b_Tape_blame 10 = .ok (.iload_n 1, 1) := by decide +kernel
theorem d_Tape_blame_11 : decode b_Tape_blame 11 = .ok (.imul, 1) := by decide +kernel
theorem d_Tape_blame_12 : decode b_Tape_blame 12 = .ok (.iload_n 2, 1) := by decide +kernel
theorem d_Tape_blame_13 : decode b_Tape_blame 13 = .ok (.iadd, 1) := by decide +kernel
theorem d_Tape_blame_14 : decode b_Tape_blame 14 = .ok (.putfield 26, 3) := by decide +kernel
theorem d_Tape_blame_17 : decode b_Tape_blame 17 = .ok (.return_, 1) := by decide +kernel
theorem d_Tape_isDigit_0 : decode b_Tape_isDigit 0 = .ok (.iload_n 0, 1) := by decide +kernel
theorem d_Tape_isDigit_1 : decode b_Tape_isDigit 1 = .ok (.bipush 48, 2) := by decide +kernel
theorem d_Tape_isDigit_3 : decode b_Tape_isDigit 3 = .ok (.if_icmp .lt 13, 3) := by decide +kernel
theorem d_Tape_isDigit_6 : decode b_Tape_isDigit 6 = .ok (.iload_n 0, 1) := by decide +kernel
theorem d_Tape_isDigit_7 : decode b_Tape_isDigit 7 = .ok (.bipush 57, 2) := by decide +kernel
theorem d_Tape_isDigit_9 : decode b_Tape_isDigit 9 = .ok (.if_icmp .gt 7, 3) := by decide +kernel
theorem d_Tape_isDigit_12 : decode b_Tape_isDigit 12 = .ok (.iconst 1, 1) := by decide +kernel
theorem d_Tape_isDigit_13 : decode b_Tape_isDigit 13 = .ok (.goto 4, 3) := by decide +kernel
theorem d_Tape_isDigit_16 : decode b_Tape_isDigit 16 = .ok (.iconst 0, 1) := by decide +kernel
theorem d_Tape_isDigit_17 : decode b_Tape_isDigit 17 = .ok (.ireturn, 1) := by decide +kernel
theorem d_Tape_readNumber_0 : decode b_Tape_readNumber 0 = .ok (.aload_n 0, 1) := by decide +kernel
theorem d_Tape_readNumber_1 : decode b_Tape_readNumber 1 = .ok (.invokevirtual 58, 3) := by decide +kernel
theorem d_Tape_readNumber_4 : decode b_Tape_readNumber 4 = .ok (.aload_n 0, 1) := by decide +kernel
theorem d_Tape_readNumber_5 : decode b_Tape_readNumber 5 = .ok (.getfield 29, 3) := by decide +kernel
theorem d_Tape_readNumber_8 : decode b_Tape_readNumber 8 = .ok (.aload_n 0, 1) := by decide +kernel
theorem d_Tape_readNumber_9 : decode b_Tape_readNumber 9 = .ok (.getfield 22, 3) := by decide +kernel
theorem d_Tape_readNumber_12 : decode b_Tape_readNumber 12 = .ok (.if_icmp .ge 18, 3) := by decide +kernel
theorem d_Tape_readNumber_15 : decode b_Tape_readNumber 15 = .ok (.aload_n 0, 1) := by decide +kernel
theorem d_Tape_readNumber_16 : decode b_Tape_readNumber 16 = .ok (.getfield 9, 3) := by decide +kernel
theorem d_Tape_readNumber_19 : decode b_Tape_readNumber 19 = .ok (.aload_n 0, 1) := by decide +kernel
theorem d_Tape_readNumber_20 : decode b_Tape_readNumber 20 = .ok (.getfield 29, 3) := by decide +kernel
theorem d_Tape_readNumber_23 : decode b_Tape_readNumber 23 = .ok (.caload, 1) := by decide +kernel
theorem d_Tape_readNumber_24 : decode b_Tape_readNumber 24 = .ok (.invokestatic 168, 3) := by decide +kernel
theorem d_Tape_readNumber_27 : decode b_Tape_readNumber 27 = .ok (.ifCond .ne 12, 3) := by decide +kernel
theorem d_Tape_readNumber_30 : decode b_Tape_readNumber 30 = .ok (.aload_n 0, 1) := by decide +kernel
theorem d_Tape_readNumber_31 : decode b_Tape_readNumber 31 = .ok (.aload_n 0, 1) := by decide +kernel
theorem d_Tape_readNumber_32 : decode b_Tape_readNumber 32 = .ok (.getfield 29, 3) := by decide +kernel
theorem d_Tape_readNumber_35 : decode b_Tape_readNumber 35 = .ok (.iconst 1, 1) := by decide +kernel
theorem d_Tape_readNumber_36 : decode b_Tape_readNumber 36 = .ok (.invokevirtual 47, 3) := by decide +kernel
theorem d_Tape_readNumber_39 : decode b_Tape_readNumber 39 = .ok (.aload_n 0, 1) := by decide +kernel
theorem d_Tape_readNumber_40 : decode b_Tape_readNumber 40 = .ok (.aload_n 0, 1) := by decide +kernel
theorem d_Tape_readNumber_41 : decode b_Tape_readNumber 41 = .ok (.getfield 29, 3) := by decide +kernel
theorem d_Tape_readNumber_44 : decode b_Tape_readNumber 44 = .ok (.putfield 32, 3) := by decide +kernel
theorem d_Tape_readNumber_47 : decode b_Tape_readNumber 47 = .ok (.iconst 0, 1) := by decide +kernel
theorem d_Tape_readNumber_48 : decode b_Tape_readNumber 48 = .ok (.istore_n 3, 1) := by decide +kernel
theorem d_Tape_readNumber_49 : decode b_Tape_readNumber 49 = .ok (.aload_n 0, 1) := by decide +kernel
theorem d_Tape_readNumber_50 : decode b_Tape_readNumber 50 = .ok (.getfield 29, 3) := by decide +kernel
theorem d_Tape_readNumber_53 : decode b_Tape_readNumber 53 = .ok (.aload_n 0, 1) := by decide +kernel
theorem d_Tape_readNumber_54 : decode b_Tape_readNumber 54 = .ok (.getfield 22, 3) := by decide +kernel
theorem d_Tape_readNumber_57 : decode b_Tape_readNumber 57 = .ok (.if_icmp .ge 54, 3) := by decide +kernel
theorem d_Tape_readNumber_60 : decode b_Tape_readNumber 60 = .ok (.aload_n 0, 1) := by decide +kernel
theorem d_Tape_readNumber_61 : decode b_Tape_readNumber 61 = .ok (.getfield 9, 3) := by decide +kernel
theorem d_Tape_readNumber_64 : decode b_Tape_readNumber 64 = .ok (.aload_n 0, 1) := by decide +kernel
theorem d_Tape_readNumber_65 : decode b_Tape_readNumber 65 = .ok (.getfield 29, 3) := by decide +kernel
theorem d_Tape_readNumber_68 : decode b_Tape_readNumber 68 = .ok (.caload, 1) := by decide +kernel
theorem d_Tape_readNumber_69 : decode b_Tape_readNumber 69 = .ok (.invokestatic 168, 3) := by decide +kernel
theorem d_Tape_readNumber_72 : decode b_Tape_readNumber 72 = .ok (.ifCond .eq 39, 3) := by decide +kernel
theorem d_Tape_readNumber_75 : decode b_Tape_readNumber 75 = .ok (.iload_n 3, 1) := by decide +kernel
theorem d_Tape_readNumber_76 : decode b_Tape_readNumber 76 = .ok (.bipush 10, 2) := by decide +kernel
theorem d_Tape_readNumber_78 : decode b_Tape_readNumber 78 = .ok (.imul, 1) := by decide +kernel
theorem d_Tape_readNumber_79 : decode b_Tape_readNumber 79 = .ok (.aload_n 0, 1) := by decide +kernel
theorem d_Tape_readNumber_80 : decode b_Tape_readNumber 80 = .ok (.getfield 9, 3) := by decide +kernel
theorem d_Tape_readNumber_83 : decode b_Tape_readNumber 83 = .ok (.aload_n 0, 1) := by decide +kernel
theorem d_Tape_readNumber_84 : decode b_Tape_readNumber 84 = .ok (.getfield 29, 3) := by decide +kernel
theorem d_Tape_readNumber_87 : decode b_Tape_readNumber 87 = .ok (.caload, 1) := by decide +kernel
theorem d_Tape_readNumber_88 : decode b_Tape_readNumber 88 = .ok (.iadd, 1) := by decide +kernel
theorem d_Tape_readNumber_89 : decode b_Tape_readNumber 89 = .ok (.bipush 48, 2) := by decide +kernel
theorem d_Tape_readNumber_91 : decode b_Tape_readNumber 91 = .ok (.isub, 1) := by decide +kernel
theorem d_Tape_readNumber_92 : decode b_Tape_readNumber 92 = .ok (.bipush 100, 2) := by decide +kernel
theorem d_Tape_readNumber_94 : decode b_Tape_readNumber 94 = .ok (.invokestatic 172, 3) := by decide +kernel
theorem d_Tape_readNumber_97 : decode b_Tape_readNumber 97 = .ok (.istore_n 3, 1) := by decide +kernel
theorem d_Tape_readNumber_98 : decode b_Tape_readNumber 98 = .ok (.aload_n 0, 1) := by decide +kernel
theorem d_Tape_readNumber_99 : decode b_Tape_readNumber 99 = .ok (.dup, 1) := by decide +kernel
theorem d_Tape_readNumber_100 : decode b_Tape_readNumber 100 = .ok (.getfield 29, 3) := by decide +kernel
theorem d_Tape_readNumber_103 : decode b_Tape_readNumber 103 = .ok (.iconst 1, 1) := by decide +kernel
theorem d_Tape_readNumber_104 : decode b_Tape_readNumber 104 = .ok (.iadd, 1) := by decide +kernel
theorem d_Tape_readNumber_105 : decode b_Tape_readNumber 105 = .ok (.putfield 29, 3) := by decide +kernel
theorem d_Tape_readNumber_108 : decode b_Tape_readNumber 108 = .ok (.goto (-59), 3) := by decide +kernel
theorem d_Tape_readNumber_111 : decode b_Tape_readNumber 111 = .ok (.iload_n 3, 1) := by decide +kernel
theorem d_Tape_readNumber_112 : decode b_Tape_readNumber 112 = .ok (.iload_n 1, 1) := by decide +kernel
theorem d_Tape_readNumber_113 : decode b_Tape_readNumber 113 = .ok (.if_icmp .lt 8, 3) := by decide +kernel
theorem d_Tape_readNumber_116 : decode b_Tape_readNumber 116 = .ok (.iload_n 3, 1) := by decide +kernel
theorem d_Tape_readNumber_117 : decode b_Tape_readNumber 117 = .ok (.iload_n 2, 1) := by decide +kernel
theorem d_Tape_readNumber_118 : decode b_Tape_readNumber 118 = .ok (.if_icmp .le 14, 3) := by decide +kernel
theorem d_Tape_readNumber_121 : decode b_Tape_readNumber 121 = .ok (.aload_n 0, 1) := by decide +kernel
theorem d_Tape_readNumber_122 : decode b_Tape_readNumber 122 = .ok (.aload_n 0, 1) := by decide +kernel
theorem d_Tape_readNumber_123 : decode b_Tape_readNumber 123 = .ok (.getfield 32, 3) := by decide +kernel
theorem d_Tape_readNumber_126 : decode b_Tape_readNumber 126 = .ok (.iconst 2, 1) := by decide +kernel
theorem d_Tape_readNumber_127 : decode b_Tape_readNumber 127 = .ok (.invokevirtual 47, 3) := by decide +kernel
theorem d_Tape_readNumber_130 : decode b_Tape_readNumber 130 = .ok (.iload_n 1, 1) := by decide +kernel
theorem d_Tape_readNumber_131 : decode b_Tape_readNumber 131 = .ok (.ireturn, 1) := by decide +kernel
theorem d_Tape_readNumber_132 : decode b_Tape_readNumber 132 = .ok (.iload_n 3, 1) := by decide +kernel
theorem d_Tape_readNumber_133 : decode b_Tape_readNumber 133 = .ok (.ireturn, 1) := by decide +kernel
theorem d_Tape_readSign_0 : decode b_Tape_readSign 0 = .ok (.aload_n 0, 1) := by decide +kernel
theorem d_Tape_readSign_1 : decode b_Tape_readSign 1 = .ok (.invokevirtual 58, 3) := by decide +kernel
theorem d_Tape_readSign_4 : decode b_Tape_readSign 4 = .ok (.aload_n 0, 1) := by decide +kernel
theorem d_Tape_readSign_5 : decode b_Tape_readSign 5 = .ok (.getfield 29, 3) := by decide +kernel
theorem d_Tape_readSign_8 : decode b_Tape_readSign 8 = .ok (.aload_n 0, 1) := by decide +kernel
theorem d_Tape_readSign_9 : decode b_Tape_readSign 9 = .ok (.getfield 22, 3) := by decide +kernel
theorem d_Tape_readSign_12 : decode b_Tape_readSign 12 = .ok (.if_icmp .ge 29, 3) := by decide +kernel
theorem d_Tape_readSign_15 : decode b_Tape_readSign 15 = .ok (.aload_n 0, 1) := by decide +kernel
theorem d_Tape_readSign_16 : decode b_Tape_readSign 16 = .ok (.getfield 9, 3) := by decide +kernel
theorem d_Tape_readSign_19 : decode b_Tape_readSign 19 = .ok (.aload_n 0, 1) := by decide +kernel
theorem d_Tape_readSign_20 : decode b_Tape_readSign 20 = .ok (.getfield 29, 3) := by decide +kernel
theorem d_Tape_readSign_23 : decode b_Tape_readSign 23 = .ok (.caload, 1) := by decide +kernel
theorem d_Tape_readSign_24 : decode b_Tape_readSign 24 = .ok (.iload_n 1, 1) := by decide +kernel
theorem d_Tape_readSign_25 : decode b_Tape_readSign 25 = .ok (.if_icmp .ne 16, 3) := by decide +kernel
theorem d_Tape_readSign_28 : decode b_Tape_readSign 28 = .ok (.aload_n 0, 1) := by decide +kernel
theorem d_Tape_readSign_29 : decode b_Tape_readSign 29 = .ok (.dup, 1) := by decide +kernel
theorem d_Tape_readSign_30 : decode b_Tape_readSign 30 = .ok (.getfield 29, 3) := by decide +kernel
theorem d_Tape_readSign_33 : decode b_Tape_readSign 33 = .ok (.iconst 1, 1) := by decide +kernel
theorem d_Tape_readSign_34 : decode b_Tape_readSign 34 = .ok (.iadd, 1) := by decide +kernel
theorem d_Tape_readSign_35 : decode b_Tape_readSign 35 = .ok (.putfield 29, 3) := by decide +kernel
theorem d_Tape_readSign_38 : decode b_Tape_readSign 38 = .ok (.goto 12, 3) := by decide +kernel
theorem d_Tape_readSign_41 : decode b_Tape_readSign 41 = .ok (.aload_n 0, 1) := by decide +kernel
theorem d_Tape_readSign_42 : decode b_Tape_readSign 42 = .ok (.aload_n 0, 1) := by decide +kernel
theorem d_Tape_readSign_43 : decode b_Tape_readSign 43 = .ok (.getfield 29, 3) := by decide +kernel
theorem d_Tape_readSign_46 : decode b_Tape_readSign 46 = .ok (.iconst 1, 1) := by decide +kernel
theorem d_Tape_readSign_47 : decode b_Tape_readSign 47 = .ok (.invokevirtual 47, 3) := by decide +kernel
theorem d_Tape_readSign_50 : decode b_Tape_readSign 50 = .ok (.return_, 1) := by decide +kernel
theorem d_Tape_partOf_0 : decode b_Tape_partOf 0 = .ok (.aload_n 0, 1) := by decide +kernel
theorem d_Tape_partOf_1 : decode b_Tape_partOf 1 = .ok (.ldc 95, 2) := by decide +kernel
theorem d_Tape_partOf_3 : decode b_Tape_partOf 3 = .ok (.invokevirtual 43, 3) := by decide +kernel
theorem d_Tape_partOf_6 : decode b_Tape_partOf 6 = .ok (.ifCond .eq 5, 3) := by decide +kernel
theorem d_Tape_partOf_9 : decode b_Tape_partOf 9 = .ok (.iconst 0, 1) := by decide +kernel
theorem d_Tape_partOf_10 : decode b_Tape_partOf 10 = .ok (.ireturn, 1) := by decide +kernel
theorem d_Tape_partOf_11 : decode b_Tape_partOf 11 = .ok (.aload_n 0, 1) := by decide +kernel
theorem d_Tape_partOf_12 : decode b_Tape_partOf 12 = .ok (.ldc 97, 2) := by decide +kernel
theorem d_Tape_partOf_14 : decode b_Tape_partOf 14 = .ok (.invokevirtual 43, 3) := by decide +kernel
theorem d_Tape_partOf_17 : decode b_Tape_partOf 17 = .ok (.ifCond .eq 5, 3) := by decide +kernel
theorem d_Tape_partOf_20 : decode b_Tape_partOf 20 = .ok (.iconst 1, 1) := by decide +kernel
theorem d_Tape_partOf_21 : decode b_Tape_partOf 21 = .ok (.ireturn, 1) := by decide +kernel
theorem d_Tape_partOf_22 : decode b_Tape_partOf 22 = .ok (.aload_n 0, 1) := by decide +kernel
theorem d_Tape_partOf_23 : decode b_Tape_partOf 23 = .ok (.ldc 99, 2) := by decide +kernel
theorem d_Tape_partOf_25 : decode b_Tape_partOf 25 = .ok (.invokevirtual 43, 3) := by decide +kernel
theorem d_Tape_partOf_28 : decode b_Tape_partOf 28 = .ok (.ifCond .eq 5, 3) := by decide +kernel
theorem d_Tape_partOf_31 : decode b_Tape_partOf 31 = .ok (.iconst 2, 1) := by decide +kernel
theorem d_Tape_partOf_32 : decode b_Tape_partOf 32 = .ok (.ireturn, 1) := by decide +kernel
theorem d_Tape_partOf_33 : decode b_Tape_partOf 33 = .ok (.aload_n 0, 1) := by decide +kernel
theorem d_Tape_partOf_34 : decode b_Tape_partOf 34 = .ok (.ldc 101, 2) := by decide +kernel
theorem d_Tape_partOf_36 : decode b_Tape_partOf 36 = .ok (.invokevirtual 43, 3) := by decide +kernel
theorem d_Tape_partOf_39 : decode b_Tape_partOf 39 = .ok (.ifCond .eq 5, 3) := by decide +kernel
theorem d_Tape_partOf_42 : decode b_Tape_partOf 42 = .ok (.iconst 3, 1) := by decide +kernel
theorem d_Tape_partOf_43 : decode b_Tape_partOf 43 = .ok (.ireturn, 1) := by decide +kernel
theorem d_Tape_partOf_44 : decode b_Tape_partOf 44 = .ok (.aload_n 0, 1) := by decide +kernel
theorem d_Tape_partOf_45 : decode b_Tape_partOf 45 = .ok (.ldc 103, 2) := by decide +kernel
theorem d_Tape_partOf_47 : decode b_Tape_partOf 47 = .ok (.invokevirtual 43, 3) := by decide +kernel
theorem d_Tape_partOf_50 : decode b_Tape_partOf 50 = .ok (.ifCond .eq 5, 3) := by decide +kernel
theorem d_Tape_partOf_53 : decode b_Tape_partOf 53 = .ok (.iconst 4, 1) := by decide +kernel
theorem d_Tape_partOf_54 : decode b_Tape_partOf 54 = .ok (.ireturn, 1) := by decide +kernel
theorem d_Tape_partOf_55 : decode b_Tape_partOf 55 = .ok (.aload_n 0, 1) := by decide +kernel
theorem d_Tape_partOf_56 : decode b_Tape_partOf 56 = .ok (.ldc 105, 2) := by decide +kernel
theorem d_Tape_partOf_58 : decode b_Tape_partOf 58 = .ok (.invokevirtual 43, 3) := by decide +kernel
theorem d_Tape_partOf_61 : decode b_Tape_partOf 61 = .ok (.ifCond .eq 5, 3) := by decide +kernel
theorem d_Tape_partOf_64 : decode b_Tape_partOf 64 = .ok (.iconst 5, 1) := by decide +kernel
theorem d_Tape_partOf_65 : decode b_Tape_partOf 65 = .ok (.ireturn, 1) := by decide +kernel
theorem d_Tape_partOf_66 : decode b_Tape_partOf 66 = .ok (.aload_n 0, 1) := by decide +kernel
theorem d_Tape_partOf_67 : decode b_Tape_partOf 67 = .ok (.ldc 107, 2) := by decide +kernel
theorem d_Tape_partOf_69 : decode b_Tape_partOf 69 = .ok (.invokevirtual 43, 3) := by decide +kernel
theorem d_Tape_partOf_72 : decode b_Tape_partOf 72 = .ok (.ifCond .eq 6, 3) := by decide +kernel
theorem d_Tape_partOf_75 : decode b_Tape_partOf 75 = .ok (.bipush 6, 2) := by decide +kernel
theorem d_Tape_partOf_77 : decode b_Tape_partOf 77 = .ok (.ireturn, 1) := by decide +kernel
theorem d_Tape_partOf_78 : decode b_Tape_partOf 78 = .ok (.aload_n 0, 1) := by decide +kernel
theorem d_Tape_partOf_79 : decode b_Tape_partOf 79 = .ok (.ldc 109, 2) := by decide +kernel
theorem d_Tape_partOf_81 : decode b_Tape_partOf 81 = .ok (.invokevirtual 43, 3) := by decide +kernel
theorem d_Tape_partOf_84 : decode b_Tape_partOf 84 = .ok (.ifCond .eq 6, 3) := by decide +kernel
theorem d_Tape_partOf_87 : decode b_Tape_partOf 87 = .ok (.bipush 7, 2) := by decide +kernel
theorem d_Tape_partOf_89 : decode b_Tape_partOf 89 = .ok (.ireturn, 1) := by decide +kernel
theorem d_Tape_partOf_90 : decode b_Tape_partOf 90 = .ok (.aload_n 0, 1) := by decide +kernel
theorem d_Tape_partOf_91 : decode b_Tape_partOf 91 = .ok (.ldc 111, 2) := by decide +kernel
theorem d_Tape_partOf_93 : decode b_Tape_partOf 93 = .ok (.invokevirtual 43, 3) := by decide +kernel
theorem d_Tape_partOf_96 : decode b_Tape_partOf 96 = .ok (.ifCond .eq 8, 3) := by decide +kernel
theorem d_Tape_partOf_99 : decode b_Tape_partOf 99 = .ok (.bipush 8, 2) := by decide +kernel
theorem d_Tape_partOf_101 : decode b_Tape_partOf 101 = .ok (.goto 4, 3) := by decide +kernel
theorem d_Tape_partOf_104 : decode b_Tape_partOf 104 = .ok (.iconst (-1), 1) := by decide +kernel
theorem d_Tape_partOf_105 : decode b_Tape_partOf 105 = .ok (.ireturn, 1) := by decide +kernel
theorem d_Tape_readParty_0 : decode b_Tape_readParty 0 = .ok (.aload_n 0, 1) := by decide +kernel
theorem d_Tape_readParty_1 : decode b_Tape_readParty 1 = .ok (.iconst 0, 1) := by decide +kernel
theorem d_Tape_readParty_2 : decode b_Tape_readParty 2 = .ok (.aload_n 0, 1) := by decide +kernel
theorem d_Tape_readParty_3 : decode b_Tape_readParty 3 = .ok (.getfield 18, 3) := by decide +kernel
theorem d_Tape_readParty_6 : decode b_Tape_readParty 6 = .ok (.getfield 55, 3) := by decide +kernel
theorem d_Tape_readParty_9 : decode b_Tape_readParty 9 = .ok (.iconst 1, 1) := by decide +kernel
theorem d_Tape_readParty_10 : decode b_Tape_readParty 10 = .ok (.isub, 1) := by decide +kernel
theorem d_Tape_readParty_11 : decode b_Tape_readParty 11 = .ok (.invokevirtual 51, 3) := by decide +kernel
theorem d_Tape_readParty_14 : decode b_Tape_readParty 14 = .ok (.ireturn, 1) := by decide +kernel
theorem d_Tape_hasNumber_0 : decode b_Tape_hasNumber 0 = .ok (.aload_n 0, 1) := by decide +kernel
theorem d_Tape_hasNumber_1 : decode b_Tape_hasNumber 1 = .ok (.invokevirtual 58, 3) := by decide +kernel
theorem d_Tape_hasNumber_4 : decode b_Tape_hasNumber 4 = .ok (.aload_n 0, 1) := by decide +kernel
theorem d_Tape_hasNumber_5 : decode b_Tape_hasNumber 5 = .ok (.getfield 29, 3) := by decide +kernel
theorem d_Tape_hasNumber_8 : decode b_Tape_hasNumber 8 = .ok (.aload_n 0, 1) := by decide +kernel
theorem d_Tape_hasNumber_9 : decode b_Tape_hasNumber 9 = .ok (.getfield 22, 3) := by decide +kernel
theorem d_Tape_hasNumber_12 : decode b_Tape_hasNumber 12 = .ok (.if_icmp .ge 22, 3) := by decide +kernel
theorem d_Tape_hasNumber_15 : decode b_Tape_hasNumber 15 = .ok (.aload_n 0, 1) := by decide +kernel
theorem d_Tape_hasNumber_16 : decode b_Tape_hasNumber 16 = .ok (.getfield 9, 3) := by decide +kernel
theorem d_Tape_hasNumber_19 : decode b_Tape_hasNumber 19 = .ok (.aload_n 0, 1) := by decide +kernel
theorem d_Tape_hasNumber_20 : decode b_Tape_hasNumber 20 = .ok (.getfield 29, 3) := by decide +kernel
theorem d_Tape_hasNumber_23 : decode b_Tape_hasNumber 23 = .ok (.caload, 1) := by decide +kernel
theorem d_Tape_hasNumber_24 : decode b_Tape_hasNumber 24 = .ok (.invokestatic 168, 3) := by decide +kernel
theorem d_Tape_hasNumber_27 : decode b_Tape_hasNumber 27 = .ok (.ifCond .eq 7, 3) := by decide +kernel
theorem d_Tape_hasNumber_30 : decode b_Tape_hasNumber 30 = .ok (.iconst 1, 1) := by decide +kernel
theorem d_Tape_hasNumber_31 : decode b_Tape_hasNumber 31 = .ok (.goto 4, 3) := by decide +kernel
theorem d_Tape_hasNumber_34 : decode b_Tape_hasNumber 34 = .ok (.iconst 0, 1) := by decide +kernel
theorem d_Tape_hasNumber_35 : decode b_Tape_hasNumber 35 = .ok (.ireturn, 1) := by decide +kernel
theorem d_Tape_readLiars_0 : decode b_Tape_readLiars 0 = .ok (.aload_n 0, 1) := by decide +kernel
theorem d_Tape_readLiars_1 : decode b_Tape_readLiars 1 = .ok (.getfield 18, 3) := by decide +kernel
theorem d_Tape_readLiars_4 : decode b_Tape_readLiars 4 = .ok (.dup, 1) := by decide +kernel
theorem d_Tape_readLiars_5 : decode b_Tape_readLiars 5 = .ok (.getfield 113, 3) := by decide +kernel
theorem d_Tape_readLiars_8 : decode b_Tape_readLiars 8 = .ok (.iconst 1, 1) := by decide +kernel
theorem d_Tape_readLiars_9 : decode b_Tape_readLiars 9 = .ok (.aload_n 0, 1) := by decide +kernel
theorem d_Tape_readLiars_10 : decode b_Tape_readLiars 10 = .ok (.invokevirtual 116, 3) := by decide +kernel
theorem d_Tape_readLiars_13 : decode b_Tape_readLiars 13 = .ok (.ishl, 1) := by decide +kernel
theorem d_Tape_readLiars_14 : decode b_Tape_readLiars 14 = .ok (.ior, 1) := by decide +kernel
theorem d_Tape_readLiars_15 : decode b_Tape_readLiars 15 = .ok (.putfield 113, 3) := by decide +kernel
theorem d_Tape_readLiars_18 : decode b_Tape_readLiars 18 = .ok (.iconst 0, 1) := by decide +kernel
theorem d_Tape_readLiars_19 : decode b_Tape_readLiars 19 = .ok (.istore_n 1, 1) := by decide +kernel
theorem d_Tape_readLiars_20 : decode b_Tape_readLiars 20 = .ok (.iload_n 1, 1) := by decide +kernel
theorem d_Tape_readLiars_21 : decode b_Tape_readLiars 21 = .ok (.sipush 400, 3) := by decide +kernel
theorem d_Tape_readLiars_24 : decode b_Tape_readLiars 24 = .ok (.if_icmp .ge 41, 3) := by decide +kernel
theorem d_Tape_readLiars_27 : decode b_Tape_readLiars 27 = .ok (.aload_n 0, 1) := by decide +kernel
theorem d_Tape_readLiars_28 : decode b_Tape_readLiars 28 = .ok (.getfield 26, 3) := by decide +kernel
theorem d_Tape_readLiars_31 : decode b_Tape_readLiars 31 = .ok (.ifCond .ne 34, 3) := by decide +kernel
theorem d_Tape_readLiars_34 : decode b_Tape_readLiars 34 = .ok (.aload_n 0, 1) := by decide +kernel
theorem d_Tape_readLiars_35 : decode b_Tape_readLiars 35 = .ok (.invokevirtual 119, 3) := by decide +kernel
theorem d_Tape_readLiars_38 : decode b_Tape_readLiars 38 = .ok (.ifCond .eq 27, 3) := by decide +kernel
theorem d_Tape_readLiars_41 : decode b_Tape_readLiars 41 = .ok (.aload_n 0, 1) := by decide +kernel
theorem d_Tape_readLiars_42 : decode b_Tape_readLiars 42 = .ok (.getfield 18, 3) := by decide +kernel
theorem d_Tape_readLiars_45 : decode b_Tape_readLiars 45 = .ok (.dup, 1) := by decide +kernel
theorem d_Tape_readLiars_46 : decode b_Tape_readLiars 46 = .ok (.getfield 113, 3) := by decide +kernel
theorem d_Tape_readLiars_49 : decode b_Tape_readLiars 49 = .ok (.iconst 1, 1) := by decide +kernel
theorem d_Tape_readLiars_50 : decode b_Tape_readLiars 50 = .ok (.aload_n 0, 1) := by decide +kernel
theorem d_Tape_readLiars_51 : decode b_Tape_readLiars 51 = .ok (.invokevirtual 116, 3) := by decide +kernel
theorem d_Tape_readLiars_54 : decode b_Tape_readLiars 54 = .ok (.ishl, 1) := by decide +kernel
theorem d_Tape_readLiars_55 : decode b_Tape_readLiars 55 = .ok (.ior, 1) := by decide +kernel
theorem d_Tape_readLiars_56 : decode b_Tape_readLiars 56 = .ok (.putfield 113, 3) := by decide +kernel
theorem d_Tape_readLiars_59 : decode b_Tape_readLiars 59 = .ok (.iinc 1 1, 3) := by decide +kernel
theorem d_Tape_readLiars_62 : decode b_Tape_readLiars 62 = .ok (.goto (-42), 3) := by decide +kernel
theorem d_Tape_readLiars_65 : decode b_Tape_readLiars 65 = .ok (.return_, 1) := by decide +kernel
theorem d_Tape_readRoute_0 : decode b_Tape_readRoute 0 = .ok (.aload_n 0, 1) := by decide +kernel
theorem d_Tape_readRoute_1 : decode b_Tape_readRoute 1 = .ok (.iconst 1, 1) := by decide +kernel
theorem d_Tape_readRoute_2 : decode b_Tape_readRoute 2 = .ok (.bipush 8, 2) := by decide +kernel
theorem d_Tape_readRoute_4 : decode b_Tape_readRoute 4 = .ok (.invokevirtual 51, 3) := by decide +kernel
theorem d_Tape_readRoute_7 : decode b_Tape_readRoute 7 = .ok (.istore_n 1, 1) := by decide +kernel
theorem d_Tape_readRoute_8 : decode b_Tape_readRoute 8 = .ok (.aload_n 0, 1) := by decide +kernel
theorem d_Tape_readRoute_9 : decode b_Tape_readRoute 9 = .ok (.invokevirtual 116, 3) := by decide +kernel
theorem d_Tape_readRoute_12 : decode b_Tape_readRoute 12 = .ok (.istore_n 2, 1) := by decide +kernel
theorem d_Tape_readRoute_13 : decode b_Tape_readRoute 13 = .ok (.aload_n 0, 1) := by decide +kernel
theorem d_Tape_readRoute_14 : decode b_Tape_readRoute 14 = .ok (.invokevirtual 116, 3) := by decide +kernel
theorem d_Tape_readRoute_17 : decode b_Tape_readRoute 17 = .ok (.istore_n 3, 1) := by decide +kernel
theorem d_Tape_readRoute_18 : decode b_Tape_readRoute 18 = .ok (.iload_n 3, 1) := by decide +kernel
theorem d_Tape_readRoute_19 : decode b_Tape_readRoute 19 = .ok (.iload_n 2, 1) := by decide +kernel
theorem d_Tape_readRoute_20 : decode b_Tape_readRoute 20 = .ok (.if_icmp .ne 12, 3) := by decide +kernel
theorem d_Tape_readRoute_23 : decode b_Tape_readRoute 23 = .ok (.aload_n 0, 1) := by decide +kernel
theorem d_Tape_readRoute_24 : decode b_Tape_readRoute 24 = .ok (.aload_n 0, 1) := by decide +kernel
theorem d_Tape_readRoute_25 : decode b_Tape_readRoute 25 = .ok (.getfield 32, 3) := by decide +kernel
theorem d_Tape_readRoute_28 : decode b_Tape_readRoute 28 = .ok (.iconst 2, 1) := by decide +kernel
theorem d_Tape_readRoute_29 : decode b_Tape_readRoute 29 = .ok (.invokevirtual 47, 3) := by decide +kernel
theorem d_Tape_readRoute_32 : decode b_Tape_readRoute 32 = .ok (.iload_n 1, 1) := by decide +kernel
theorem d_Tape_readRoute_33 : decode b_Tape_readRoute 33 = .ok (.iload_n 2, 1) := by decide +kernel
theorem d_Tape_readRoute_34 : decode b_Tape_readRoute 34 = .ok (.iload_n 3, 1) := by decide +kernel
theorem d_Tape_readRoute_35 : decode b_Tape_readRoute 35 = .ok (.invokestatic 162, 3) := by decide +kernel
theorem d_Tape_readRoute_38 : decode b_Tape_readRoute 38 = .ok (.ireturn, 1) := by decide +kernel
theorem d_Tape_readLetter_0 : decode b_Tape_readLetter 0 = .ok (.aload_n 0, 1) := by decide +kernel
theorem d_Tape_readLetter_1 : decode b_Tape_readLetter 1 = .ok (.getfield 18, 3) := by decide +kernel
theorem d_Tape_readLetter_4 : decode b_Tape_readLetter 4 = .ok (.getfield 123, 3) := by decide +kernel
theorem d_Tape_readLetter_7 : decode b_Tape_readLetter 7 = .ok (.bipush 16, 2) := by decide +kernel
theorem d_Tape_readLetter_9 : decode b_Tape_readLetter 9 = .ok (.if_icmp .lt 12, 3) := by decide +kernel
theorem d_Tape_readLetter_12 : decode b_Tape_readLetter 12 = .ok (.aload_n 0, 1) := by decide +kernel
theorem d_Tape_readLetter_13 : decode b_Tape_readLetter 13 = .ok (.aload_n 0, 1) := by decide +kernel
theorem d_Tape_readLetter_14 : decode b_Tape_readLetter 14 = .ok (.getfield 32, 3) := by decide +kernel
theorem d_Tape_readLetter_17 : decode b_Tape_readLetter 17 = .ok (.iconst 3, 1) := by decide +kernel
theorem d_Tape_readLetter_18 : decode b_Tape_readLetter 18 = .ok (.invokevirtual 47, 3) := by decide +kernel
theorem d_Tape_readLetter_21 : decode b_Tape_readLetter 21 = .ok (.aload_n 0, 1) := by decide +kernel
theorem d_Tape_readLetter_22 : decode b_Tape_readLetter 22 = .ok (.invokevirtual 126, 3) := by decide +kernel
theorem d_Tape_readLetter_25 : decode b_Tape_readLetter 25 = .ok (.istore_n 1, 1) := by decide +kernel
theorem d_Tape_readLetter_26 : decode b_Tape_readLetter 26 = .ok (.aload_n 0, 1) := by decide +kernel
theorem d_Tape_readLetter_27 : decode b_Tape_readLetter 27 = .ok (.iconst 0, 1) := by decide +kernel
theorem d_Tape_readLetter_28 : decode b_Tape_readLetter 28 = .ok (.iconst 3, 1) := by decide +kernel
theorem d_Tape_readLetter_29 : decode b_Tape_readLetter 29 = .ok (.invokevirtual 51, 3) := by decide +kernel
theorem d_Tape_readLetter_32 : decode b_Tape_readLetter 32 = .ok (.istore_n 2, 1) := by decide +kernel
theorem d_Tape_readLetter_33 : decode b_Tape_readLetter 33 = .ok (.aload_n 0, 1) := by decide +kernel
theorem d_Tape_readLetter_34 : decode b_Tape_readLetter 34 = .ok (.bipush 58, 2) := by decide +kernel
theorem d_Tape_readLetter_36 : decode b_Tape_readLetter 36 = .ok (.invokevirtual 61, 3) := by decide +kernel
theorem d_Tape_readLetter_39 : decode b_Tape_readLetter 39 = .ok (.iconst 0, 1) := by decide +kernel
theorem d_Tape_readLetter_40 : decode b_Tape_readLetter 40 = .ok (.aload_n 0, 1) := by decide +kernel
theorem d_Tape_readLetter_41 : decode b_Tape_readLetter 41 = .ok (.invokevirtual 116, 3) := by decide +kernel
theorem d_Tape_readLetter_44 : decode b_Tape_readLetter 44 = .ok (.invokestatic 131, 3) := by decide +kernel
theorem d_Tape_readLetter_47 : decode b_Tape_readLetter 47 = .ok (.istore_n 3, 1) := by decide +kernel
theorem d_Tape_readLetter_48 : decode b_Tape_readLetter 48 = .ok (.iconst 0, 1) := by decide +kernel
theorem d_Tape_readLetter_49 : decode b_Tape_readLetter 49 = .ok (.istore 4, 2) := by decide +kernel
theorem d_Tape_readLetter_51 : decode b_Tape_readLetter 51 = .ok (.iload 4, 2) := by decide +kernel
theorem d_Tape_readLetter_53 : decode b_Tape_readLetter 53 = .ok (.sipush 400, 3) := by decide +kernel
theorem d_Tape_readLetter_56 : decode b_Tape_readLetter 56 = .ok (.if_icmp .ge 54, 3) := by decide +kernel
theorem d_Tape_readLetter_59 : decode b_Tape_readLetter 59 = .ok (.aload_n 0, 1) := by decide +kernel
theorem d_Tape_readLetter_60 : decode b_Tape_readLetter 60 = .ok (.getfield 26, 3) := by decide +kernel
theorem d_Tape_readLetter_63 : decode b_Tape_readLetter 63 = .ok (.ifCond .ne 47, 3) := by decide +kernel
theorem d_Tape_readLetter_66 : decode b_Tape_readLetter 66 = .ok (.aload_n 0, 1) := by decide +kernel
theorem d_Tape_readLetter_67 : decode b_Tape_readLetter 67 = .ok (.invokevirtual 119, 3) := by decide +kernel
theorem d_Tape_readLetter_70 : decode b_Tape_readLetter 70 = .ok (.ifCond .eq 40, 3) := by decide +kernel
theorem d_Tape_readLetter_73 : decode b_Tape_readLetter 73 = .ok (.aload_n 0, 1) := by decide +kernel
theorem d_Tape_readLetter_74 : decode b_Tape_readLetter 74 = .ok (.invokevirtual 116, 3) := by decide +kernel
theorem d_Tape_readLetter_77 : decode b_Tape_readLetter 77 = .ok (.istore 5, 2) := by decide +kernel
theorem d_Tape_readLetter_79 : decode b_Tape_readLetter 79 = .ok (.iload_n 3, 1) := by decide +kernel
theorem d_Tape_readLetter_80 : decode b_Tape_readLetter 80 = .ok (.iload 5, 2) := by decide +kernel
theorem d_Tape_readLetter_82 : decode b_Tape_readLetter 82 = .ok (.invokestatic 134, 3) := by decide +kernel
theorem d_Tape_readLetter_85 : decode b_Tape_readLetter 85 = .ok (.ifCond .eq 12, 3) := by decide +kernel
theorem d_Tape_readLetter_88 : decode b_Tape_readLetter 88 = .ok (.aload_n 0, 1) := by decide +kernel
theorem d_Tape_readLetter_89 : decode b_Tape_readLetter 89 = .ok (.aload_n 0, 1) := by decide +kernel
theorem d_Tape_readLetter_90 : decode b_Tape_readLetter 90 = .ok (.getfield 32, 3) := by decide +kernel
theorem d_Tape_readLetter_93 : decode b_Tape_readLetter 93 = .ok (.iconst 2, 1) := by decide +kernel
theorem d_Tape_readLetter_94 : decode b_Tape_readLetter 94 = .ok (.invokevirtual 47, 3) := by decide +kernel
theorem d_Tape_readLetter_97 : decode b_Tape_readLetter 97 = .ok (.iload_n 3, 1) := by decide +kernel
theorem d_Tape_readLetter_98 : decode b_Tape_readLetter 98 = .ok (.iload 5, 2) := by decide +kernel
theorem d_Tape_readLetter_100 : decode b_Tape_readLetter 100 = .ok (.invokestatic 131, 3) := by decide +kernel
theorem d_Tape_readLetter_103 : decode b_Tape_readLetter 103 = .ok (.istore_n 3, 1) := by decide +kernel
theorem d_Tape_readLetter_104 : decode b_Tape_readLetter 104 = .ok (.iinc 4 1, 3) := by decide +kernel
theorem d_Tape_readLetter_107 : decode b_Tape_readLetter 107 = .ok (.goto (-56), 3) := by decide +kernel
theorem d_Tape_readLetter_110 : decode b_Tape_readLetter 110 = .ok (.aload_n 0, 1) := by decide +kernel
theorem d_Tape_readLetter_111 : decode b_Tape_readLetter 111 = .ok (.getfield 18, 3) := by decide +kernel
theorem d_Tape_readLetter_114 : decode b_Tape_readLetter 114 = .ok (.iload_n 1, 1) := by decide +kernel
theorem d_Tape_readLetter_115 : decode b_Tape_readLetter 115 = .ok (.iload_n 2, 1) := by decide +kernel
theorem d_Tape_readLetter_116 : decode b_Tape_readLetter 116 = .ok (.iload_n 3, 1) := by decide +kernel
theorem d_Tape_readLetter_117 : decode b_Tape_readLetter 117 = .ok (.invokevirtual 138, 3) := by decide +kernel
theorem d_Tape_readLetter_120 : decode b_Tape_readLetter 120 = .ok (.return_, 1) := by decide +kernel
theorem d_Tape_readOmit_0 : decode b_Tape_readOmit 0 = .ok (.aload_n 0, 1) := by decide +kernel
theorem d_Tape_readOmit_1 : decode b_Tape_readOmit 1 = .ok (.getfield 18, 3) := by decide +kernel
theorem d_Tape_readOmit_4 : decode b_Tape_readOmit 4 = .ok (.getfield 142, 3) := by decide +kernel
theorem d_Tape_readOmit_7 : decode b_Tape_readOmit 7 = .ok (.bipush 12, 2) := by decide +kernel
theorem d_Tape_readOmit_9 : decode b_Tape_readOmit 9 = .ok (.if_icmp .lt 12, 3) := by decide +kernel
theorem d_Tape_readOmit_12 : decode b_Tape_readOmit 12 = .ok (.aload_n 0, 1) := by decide +kernel
theorem d_Tape_readOmit_13 : decode b_Tape_readOmit 13 = .ok (.aload_n 0, 1) := by decide +kernel
theorem d_Tape_readOmit_14 : decode b_Tape_readOmit 14 = .ok (.getfield 32, 3) := by decide +kernel
theorem d_Tape_readOmit_17 : decode b_Tape_readOmit 17 = .ok (.iconst 3, 1) := by decide +kernel
theorem d_Tape_readOmit_18 : decode b_Tape_readOmit 18 = .ok (.invokevirtual 47, 3) := by decide +kernel
theorem d_Tape_readOmit_21 : decode b_Tape_readOmit 21 = .ok (.aload_n 0, 1) := by decide +kernel
theorem d_Tape_readOmit_22 : decode b_Tape_readOmit 22 = .ok (.invokevirtual 126, 3) := by decide +kernel
theorem d_Tape_readOmit_25 : decode b_Tape_readOmit 25 = .ok (.istore_n 1, 1) := by decide +kernel
theorem d_Tape_readOmit_26 : decode b_Tape_readOmit 26 = .ok (.aload_n 0, 1) := by decide +kernel
theorem d_Tape_readOmit_27 : decode b_Tape_readOmit 27 = .ok (.getfield 18, 3) := by decide +kernel
theorem d_Tape_readOmit_30 : decode b_Tape_readOmit 30 = .ok (.iload_n 1, 1) := by decide +kernel
theorem d_Tape_readOmit_31 : decode b_Tape_readOmit 31 = .ok (.invokevirtual 145, 3) := by decide +kernel
theorem d_Tape_readOmit_34 : decode b_Tape_readOmit 34 = .ok (.ifCond .eq 12, 3) := by decide +kernel
theorem d_Tape_readOmit_37 : decode b_Tape_readOmit 37 = .ok (.aload_n 0, 1) := by decide +kernel
theorem d_Tape_readOmit_38 : decode b_Tape_readOmit 38 = .ok (.aload_n 0, 1) := by decide +kernel
theorem d_Tape_readOmit_39 : decode b_Tape_readOmit 39 = .ok (.getfield 32, 3) := by decide +kernel
theorem d_Tape_readOmit_42 : decode b_Tape_readOmit 42 = .ok (.iconst 4, 1) := by decide +kernel
theorem d_Tape_readOmit_43 : decode b_Tape_readOmit 43 = .ok (.invokevirtual 47, 3) := by decide +kernel
theorem d_Tape_readOmit_46 : decode b_Tape_readOmit 46 = .ok (.aload_n 0, 1) := by decide +kernel
theorem d_Tape_readOmit_47 : decode b_Tape_readOmit 47 = .ok (.getfield 18, 3) := by decide +kernel
theorem d_Tape_readOmit_50 : decode b_Tape_readOmit 50 = .ok (.iload_n 1, 1) := by decide +kernel
theorem d_Tape_readOmit_51 : decode b_Tape_readOmit 51 = .ok (.invokevirtual 149, 3) := by decide +kernel
theorem d_Tape_readOmit_54 : decode b_Tape_readOmit 54 = .ok (.return_, 1) := by decide +kernel
theorem d_Tape_readLate_0 : decode b_Tape_readLate 0 = .ok (.aload_n 0, 1) := by decide +kernel
theorem d_Tape_readLate_1 : decode b_Tape_readLate 1 = .ok (.getfield 18, 3) := by decide +kernel
theorem d_Tape_readLate_4 : decode b_Tape_readLate 4 = .ok (.getfield 153, 3) := by decide +kernel
theorem d_Tape_readLate_7 : decode b_Tape_readLate 7 = .ok (.bipush 12, 2) := by decide +kernel
theorem d_Tape_readLate_9 : decode b_Tape_readLate 9 = .ok (.if_icmp .lt 12, 3) := by decide +kernel
theorem d_Tape_readLate_12 : decode b_Tape_readLate 12 = .ok (.aload_n 0, 1) := by decide +kernel
theorem d_Tape_readLate_13 : decode b_Tape_readLate 13 = .ok (.aload_n 0, 1) := by decide +kernel
theorem d_Tape_readLate_14 : decode b_Tape_readLate 14 = .ok (.getfield 32, 3) := by decide +kernel
theorem d_Tape_readLate_17 : decode b_Tape_readLate 17 = .ok (.iconst 3, 1) := by decide +kernel
theorem d_Tape_readLate_18 : decode b_Tape_readLate 18 = .ok (.invokevirtual 47, 3) := by decide +kernel
theorem d_Tape_readLate_21 : decode b_Tape_readLate 21 = .ok (.aload_n 0, 1) := by decide +kernel
theorem d_Tape_readLate_22 : decode b_Tape_readLate 22 = .ok (.invokevirtual 126, 3) := by decide +kernel
theorem d_Tape_readLate_25 : decode b_Tape_readLate 25 = .ok (.istore_n 1, 1) := by decide +kernel
theorem d_Tape_readLate_26 : decode b_Tape_readLate 26 = .ok (.aload_n 0, 1) := by decide +kernel
theorem d_Tape_readLate_27 : decode b_Tape_readLate 27 = .ok (.getfield 18, 3) := by decide +kernel
theorem d_Tape_readLate_30 : decode b_Tape_readLate 30 = .ok (.iload_n 1, 1) := by decide +kernel
theorem d_Tape_readLate_31 : decode b_Tape_readLate 31 = .ok (.invokevirtual 156, 3) := by decide +kernel
theorem d_Tape_readLate_34 : decode b_Tape_readLate 34 = .ok (.ifCond .eq 12, 3) := by decide +kernel
theorem d_Tape_readLate_37 : decode b_Tape_readLate 37 = .ok (.aload_n 0, 1) := by decide +kernel
theorem d_Tape_readLate_38 : decode b_Tape_readLate 38 = .ok (.aload_n 0, 1) := by decide +kernel
theorem d_Tape_readLate_39 : decode b_Tape_readLate 39 = .ok (.getfield 32, 3) := by decide +kernel
theorem d_Tape_readLate_42 : decode b_Tape_readLate 42 = .ok (.iconst 4, 1) := by decide +kernel
theorem d_Tape_readLate_43 : decode b_Tape_readLate 43 = .ok (.invokevirtual 47, 3) := by decide +kernel
theorem d_Tape_readLate_46 : decode b_Tape_readLate 46 = .ok (.aload_n 0, 1) := by decide +kernel
theorem d_Tape_readLate_47 : decode b_Tape_readLate 47 = .ok (.getfield 18, 3) := by decide +kernel
theorem d_Tape_readLate_50 : decode b_Tape_readLate 50 = .ok (.iload_n 1, 1) := by decide +kernel
theorem d_Tape_readLate_51 : decode b_Tape_readLate 51 = .ok (.aload_n 0, 1) := by decide +kernel
theorem d_Tape_readLate_52 : decode b_Tape_readLate 52 = .ok (.iconst 1, 1) := by decide +kernel
theorem d_Tape_readLate_53 : decode b_Tape_readLate 53 = .ok (.bipush 7, 2) := by decide +kernel
theorem d_Tape_readLate_55 : decode b_Tape_readLate 55 = .ok (.invokevirtual 51, 3) := by decide +kernel
theorem d_Tape_readLate_58 : decode b_Tape_readLate 58 = .ok (.invokevirtual 159, 3) := by decide +kernel
theorem d_Tape_readLate_61 : decode b_Tape_readLate 61 = .ok (.return_, 1) := by decide +kernel
theorem d_Tape_readPart_0 : decode b_Tape_readPart 0 = .ok (.aload_n 0, 1) := by decide +kernel
theorem d_Tape_readPart_1 : decode b_Tape_readPart 1 = .ok (.invokevirtual 38, 3) := by decide +kernel
theorem d_Tape_readPart_4 : decode b_Tape_readPart 4 = .ok (.aload_n 0, 1) := by decide +kernel
theorem d_Tape_readPart_5 : decode b_Tape_readPart 5 = .ok (.invokevirtual 68, 3) := by decide +kernel
theorem d_Tape_readPart_8 : decode b_Tape_readPart 8 = .ok (.istore_n 1, 1) := by decide +kernel
theorem d_Tape_readPart_9 : decode b_Tape_readPart 9 = .ok (.iload_n 1, 1) := by decide +kernel
theorem d_Tape_readPart_10 : decode b_Tape_readPart 10 = .ok (.tableswitch 94 (-1) 8 #[54, 94, 94, 94, 94, 94, 66, 73, 80, 87], 54) := by decide +kernel
theorem d_Tape_readPart_64 : decode b_Tape_readPart 64 = .ok (.aload_n 0, 1) := by decide +kernel
theorem d_Tape_readPart_65 : decode b_Tape_readPart 65 = .ok (.aload_n 0, 1) := by decide +kernel
theorem d_Tape_readPart_66 : decode b_Tape_readPart 66 = .ok (.getfield 32, 3) := by decide +kernel
theorem d_Tape_readPart_69 : decode b_Tape_readPart 69 = .ok (.iconst 1, 1) := by decide +kernel
theorem d_Tape_readPart_70 : decode b_Tape_readPart 70 = .ok (.invokevirtual 47, 3) := by decide +kernel
theorem d_Tape_readPart_73 : decode b_Tape_readPart 73 = .ok (.goto 60, 3) := by decide +kernel
theorem d_Tape_readPart_76 : decode b_Tape_readPart 76 = .ok (.aload_n 0, 1) := by decide +kernel
theorem d_Tape_readPart_77 : decode b_Tape_readPart 77 = .ok (.invokevirtual 72, 3) := by decide +kernel
theorem d_Tape_readPart_80 : decode b_Tape_readPart 80 = .ok (.goto 53, 3) := by decide +kernel
theorem d_Tape_readPart_83 : decode b_Tape_readPart 83 = .ok (.aload_n 0, 1) := by decide +kernel
theorem d_Tape_readPart_84 : decode b_Tape_readPart 84 = .ok (.invokevirtual 75, 3) := by decide +kernel
theorem d_Tape_readPart_87 : decode b_Tape_readPart 87 = .ok (.goto 46, 3) := by decide +kernel
theorem d_Tape_readPart_90 : decode b_Tape_readPart 90 = .ok (.aload_n 0, 1) := by decide +kernel
theorem d_Tape_readPart_91 : decode b_Tape_readPart 91 = .ok (.invokevirtual 78, 3) := by decide +kernel
theorem d_Tape_readPart_94 : decode b_Tape_readPart 94 = .ok (.goto 39, 3) := by decide +kernel
theorem d_Tape_readPart_97 : decode b_Tape_readPart 97 = .ok (.aload_n 0, 1) := by decide +kernel
theorem d_Tape_readPart_98 : decode b_Tape_readPart 98 = .ok (.invokevirtual 81, 3) := by decide +kernel
theorem d_Tape_readPart_101 : decode b_Tape_readPart 101 = .ok (.goto 32, 3) := by decide +kernel
theorem d_Tape_readPart_104 : decode b_Tape_readPart 104 = .ok (.aload_n 0, 1) := by decide +kernel
theorem d_Tape_readPart_105 : decode b_Tape_readPart 105 = .ok (.getfield 18, 3) := by decide +kernel
theorem d_Tape_readPart_108 : decode b_Tape_readPart 108 = .ok (.getfield 84, 3) := by decide +kernel
theorem d_Tape_readPart_111 : decode b_Tape_readPart 111 = .ok (.iload_n 1, 1) := by decide +kernel
theorem d_Tape_readPart_112 : decode b_Tape_readPart 112 = .ok (.aload_n 0, 1) := by decide +kernel
theorem d_Tape_readPart_113 : decode b_Tape_readPart 113 = .ok (.aload_n 0, 1) := by decide +kernel
theorem d_Tape_readPart_114 : decode b_Tape_readPart 114 = .ok (.getfield 18, 3) := by decide +kernel
theorem d_Tape_readPart_117 : decode b_Tape_readPart 117 = .ok (.iload_n 1, 1) := by decide +kernel
theorem d_Tape_readPart_118 : decode b_Tape_readPart 118 = .ok (.invokevirtual 88, 3) := by decide +kernel
theorem d_Tape_readPart_121 : decode b_Tape_readPart 121 = .ok (.aload_n 0, 1) := by decide +kernel
theorem d_Tape_readPart_122 : decode b_Tape_readPart 122 = .ok (.getfield 18, 3) := by decide +kernel
theorem d_Tape_readPart_125 : decode b_Tape_readPart 125 = .ok (.iload_n 1, 1) := by decide +kernel
theorem d_Tape_readPart_126 : decode b_Tape_readPart 126 = .ok (.invokevirtual 92, 3) := by decide +kernel
theorem d_Tape_readPart_129 : decode b_Tape_readPart 129 = .ok (.invokevirtual 51, 3) := by decide +kernel
theorem d_Tape_readPart_132 : decode b_Tape_readPart 132 = .ok (.iastore, 1) := by decide +kernel
theorem d_Tape_readPart_133 : decode b_Tape_readPart 133 = .ok (.return_, 1) := by decide +kernel
theorem d_Tape_read_0 : decode b_Tape_read 0 = .ok (.aload_n 0, 1) := by decide +kernel
theorem d_Tape_read_1 : decode b_Tape_read 1 = .ok (.getfield 18, 3) := by decide +kernel
theorem d_Tape_read_4 : decode b_Tape_read 4 = .ok (.invokevirtual 35, 3) := by decide +kernel
theorem d_Tape_read_7 : decode b_Tape_read 7 = .ok (.aload_n 0, 1) := by decide +kernel
theorem d_Tape_read_8 : decode b_Tape_read 8 = .ok (.iconst 0, 1) := by decide +kernel
theorem d_Tape_read_9 : decode b_Tape_read 9 = .ok (.putfield 26, 3) := by decide +kernel
theorem d_Tape_read_12 : decode b_Tape_read 12 = .ok (.aload_n 0, 1) := by decide +kernel
theorem d_Tape_read_13 : decode b_Tape_read 13 = .ok (.iconst 0, 1) := by decide +kernel
theorem d_Tape_read_14 : decode b_Tape_read 14 = .ok (.putfield 29, 3) := by decide +kernel
theorem d_Tape_read_17 : decode b_Tape_read 17 = .ok (.aload_n 0, 1) := by decide +kernel
theorem d_Tape_read_18 : decode b_Tape_read 18 = .ok (.invokevirtual 38, 3) := by decide +kernel
theorem d_Tape_read_21 : decode b_Tape_read 21 = .ok (.aload_n 0, 1) := by decide +kernel
theorem d_Tape_read_22 : decode b_Tape_read 22 = .ok (.ldc 41, 2) := by decide +kernel
theorem d_Tape_read_24 : decode b_Tape_read 24 = .ok (.invokevirtual 43, 3) := by decide +kernel
theorem d_Tape_read_27 : decode b_Tape_read 27 = .ok (.ifCond .ne 12, 3) := by decide +kernel
theorem d_Tape_read_30 : decode b_Tape_read 30 = .ok (.aload_n 0, 1) := by decide +kernel
theorem d_Tape_read_31 : decode b_Tape_read 31 = .ok (.aload_n 0, 1) := by decide +kernel
theorem d_Tape_read_32 : decode b_Tape_read 32 = .ok (.getfield 32, 3) := by decide +kernel
theorem d_Tape_read_35 : decode b_Tape_read 35 = .ok (.iconst 1, 1) := by decide +kernel
theorem d_Tape_read_36 : decode b_Tape_read 36 = .ok (.invokevirtual 47, 3) := by decide +kernel
theorem d_Tape_read_39 : decode b_Tape_read 39 = .ok (.aload_n 0, 1) := by decide +kernel
theorem d_Tape_read_40 : decode b_Tape_read 40 = .ok (.getfield 18, 3) := by decide +kernel
theorem d_Tape_read_43 : decode b_Tape_read 43 = .ok (.aload_n 0, 1) := by decide +kernel
theorem d_Tape_read_44 : decode b_Tape_read 44 = .ok (.iconst 3, 1) := by decide +kernel
theorem d_Tape_read_45 : decode b_Tape_read 45 = .ok (.bipush 8, 2) := by decide +kernel
theorem d_Tape_read_47 : decode b_Tape_read 47 = .ok (.invokevirtual 51, 3) := by decide +kernel
theorem d_Tape_read_50 : decode b_Tape_read 50 = .ok (.putfield 55, 3) := by decide +kernel
theorem d_Tape_read_53 : decode b_Tape_read 53 = .ok (.aload_n 0, 1) := by decide +kernel
theorem d_Tape_read_54 : decode b_Tape_read 54 = .ok (.invokevirtual 58, 3) := by decide +kernel
theorem d_Tape_read_57 : decode b_Tape_read 57 = .ok (.iconst 0, 1) := by decide +kernel
theorem d_Tape_read_58 : decode b_Tape_read 58 = .ok (.istore_n 1, 1) := by decide +kernel
theorem d_Tape_read_59 : decode b_Tape_read 59 = .ok (.iload_n 1, 1) := by decide +kernel
theorem d_Tape_read_60 : decode b_Tape_read 60 = .ok (.sipush 400, 3) := by decide +kernel
theorem d_Tape_read_63 : decode b_Tape_read 63 = .ok (.if_icmp .ge 41, 3) := by decide +kernel
theorem d_Tape_read_66 : decode b_Tape_read 66 = .ok (.aload_n 0, 1) := by decide +kernel
theorem d_Tape_read_67 : decode b_Tape_read 67 = .ok (.getfield 26, 3) := by decide +kernel
theorem d_Tape_read_70 : decode b_Tape_read 70 = .ok (.ifCond .ne 34, 3) := by decide +kernel
theorem d_Tape_read_73 : decode b_Tape_read 73 = .ok (.aload_n 0, 1) := by decide +kernel
theorem d_Tape_read_74 : decode b_Tape_read 74 = .ok (.getfield 29, 3) := by decide +kernel
theorem d_Tape_read_77 : decode b_Tape_read 77 = .ok (.aload_n 0, 1) := by decide +kernel
theorem d_Tape_read_78 : decode b_Tape_read 78 = .ok (.getfield 22, 3) := by decide +kernel
theorem d_Tape_read_81 : decode b_Tape_read 81 = .ok (.if_icmp .ge 23, 3) := by decide +kernel
theorem d_Tape_read_84 : decode b_Tape_read 84 = .ok (.aload_n 0, 1) := by decide +kernel
theorem d_Tape_read_85 : decode b_Tape_read 85 = .ok (.bipush 59, 2) := by decide +kernel
theorem d_Tape_read_87 : decode b_Tape_read 87 = .ok (.invokevirtual 61, 3) := by decide +kernel
theorem d_Tape_read_90 : decode b_Tape_read 90 = .ok (.aload_n 0, 1) := by decide +kernel
theorem d_Tape_read_91 : decode b_Tape_read 91 = .ok (.invokevirtual 65, 3) := by decide +kernel
theorem d_Tape_read_94 : decode b_Tape_read 94 = .ok (.aload_n 0, 1) := by decide +kernel
theorem d_Tape_read_95 : decode b_Tape_read 95 = .ok (.invokevirtual 58, 3) := by decide +kernel
theorem d_Tape_read_98 : decode b_Tape_read 98 = .ok (.iinc 1 1, 3) := by decide +kernel
theorem d_Tape_read_101 : decode b_Tape_read 101 = .ok (.goto (-42), 3) := by decide +kernel
theorem d_Tape_read_104 : decode b_Tape_read 104 = .ok (.return_, 1) := by decide +kernel
theorem d_Run_setOf_0 : decode b_Run_setOf 0 = .ok (.aload_n 0, 1) := by decide +kernel
theorem d_Run_setOf_1 : decode b_Run_setOf 1 = .ok (.getfield 44, 3) := by decide +kernel
theorem d_Run_setOf_4 : decode b_Run_setOf 4 = .ok (.iload_n 2, 1) := by decide +kernel
theorem d_Run_setOf_5 : decode b_Run_setOf 5 = .ok (.invokestatic 97, 3) := by decide +kernel
theorem d_Run_setOf_8 : decode b_Run_setOf 8 = .ok (.iload_n 1, 1) := by decide +kernel
theorem d_Run_setOf_9 : decode b_Run_setOf 9 = .ok (.iadd, 1) := by decide +kernel
theorem d_Run_setOf_10 : decode b_Run_setOf 10 = .ok (.iaload, 1) := by decide +kernel
theorem d_Run_setOf_11 : decode b_Run_setOf 11 = .ok (.ireturn, 1) := by decide +kernel
theorem d_Run_decisionOf_0 : decode b_Run_decisionOf 0 = .ok (.aload_n 0, 1) := by decide +kernel
theorem d_Run_decisionOf_1 : decode b_Run_decisionOf 1 = .ok (.iload_n 1, 1) := by decide +kernel
theorem d_Run_decisionOf_2 : decode b_Run_decisionOf 2 = .ok (.aload_n 0, 1) := by decide +kernel
theorem d_Run_decisionOf_3 : decode b_Run_decisionOf 3 = .ok (.getfield 56, 3) := by decide +kernel
theorem d_Run_decisionOf_6 : decode b_Run_decisionOf 6 = .ok (.invokevirtual 195, 3) := by decide +kernel
theorem d_Run_decisionOf_9 : decode b_Run_decisionOf 9 = .ok (.istore_n 2, 1) := by decide +kernel
theorem d_Run_decisionOf_10 : decode b_Run_decisionOf 10 = .ok (.iconst 0, 1) := by decide +kernel
theorem d_Run_decisionOf_11 : decode b_Run_decisionOf 11 = .ok (.istore_n 3, 1) := by decide +kernel
theorem d_Run_decisionOf_12 : decode b_Run_decisionOf 12 = .ok (.iload_n 3, 1) := by decide +kernel
theorem d_Run_decisionOf_13 : decode b_Run_decisionOf 13 = .ok (.iconst 4, 1) := by decide +kernel
theorem d_Run_decisionOf_14 : decode b_Run_decisionOf 14 = .ok (.if_icmp .ge 18, 3) := by decide +kernel
theorem d_Run_decisionOf_17 : decode b_Run_decisionOf 17 = .ok (.iload_n 2, 1) := by decide +kernel
theorem d_Run_decisionOf_18 : decode b_Run_decisionOf 18 = .ok (.iconst 1, 1) := by decide +kernel
theorem d_Run_decisionOf_19 : decode b_Run_decisionOf 19 = .ok (.iload_n 3, 1) := by decide +kernel
theorem d_Run_decisionOf_20 : decode b_Run_decisionOf 20 = .ok (.ishl, 1) := by decide +kernel
theorem d_Run_decisionOf_21 : decode b_Run_decisionOf 21 = .ok (.if_icmp .ne 5, 3) := by decide +kernel
theorem d_Run_decisionOf_24 : decode b_Run_decisionOf 24 = .ok (.iload_n 3, 1) := by decide +kernel
theorem d_Run_decisionOf_25 : decode b_Run_decisionOf 25 = .ok (.ireturn, 1) := by decide +kernel
theorem d_Run_decisionOf_26 : decode b_Run_decisionOf 26 = .ok (.iinc 3 1, 3) := by decide +kernel
theorem d_Run_decisionOf_29 : decode b_Run_decisionOf 29 = .ok (.goto (-17), 3) := by decide +kernel
theorem d_Run_decisionOf_32 : decode b_Run_decisionOf 32 = .ok (.aload_n 0, 1) := by decide +kernel
theorem d_Run_decisionOf_33 : decode b_Run_decisionOf 33 = .ok (.getfield 47, 3) := by decide +kernel
theorem d_Run_decisionOf_36 : decode b_Run_decisionOf 36 = .ok (.getfield 51, 3) := by decide +kernel
theorem d_Run_decisionOf_39 : decode b_Run_decisionOf 39 = .ok (.iconst 3, 1) := by decide +kernel
theorem d_Run_decisionOf_40 : decode b_Run_decisionOf 40 = .ok (.iaload, 1) := by decide +kernel
theorem d_Run_decisionOf_41 : decode b_Run_decisionOf 41 = .ok (.ireturn, 1) := by decide +kernel
theorem d_Run_firstTwoFaced_0 : decode b_Run_firstTwoFaced 0 = .ok (.aload_n 0, 1) := by decide +kernel
theorem d_Run_firstTwoFaced_1 : decode b_Run_firstTwoFaced 1 = .ok (.getfield 47, 3) := by decide +kernel
theorem d_Run_firstTwoFaced_4 : decode b_Run_firstTwoFaced 4 = .ok (.getfield 51, 3) := by decide +kernel
theorem d_Run_firstTwoFaced_7 : decode b_Run_firstTwoFaced 7 = .ok (.iconst 0, 1) := by decide +kernel
theorem d_Run_firstTwoFaced_8 : decode b_Run_firstTwoFaced 8 = .ok (.iaload, 1) := by decide +kernel
theorem d_Run_firstTwoFaced_9 : decode b_Run_firstTwoFaced 9 = .ok (.istore_n 2, 1) := by decide +kernel
theorem d_Run_firstTwoFaced_10 : decode b_Run_firstTwoFaced 10 = .ok (.iload_n 1, 1) := by decide +kernel
theorem d_Run_firstTwoFaced_11 : decode b_Run_firstTwoFaced 11 = .ok (.iload_n 2, 1) := by decide +kernel
theorem d_Run_firstTwoFaced_12 : decode b_Run_firstTwoFaced 12 = .ok (.if_icmp .ne 17, 3) := by decide +kernel
theorem d_Run_firstTwoFaced_15 : decode b_Run_firstTwoFaced 15 = .ok (.iconst 1, 1) := by decide +kernel
theorem d_Run_firstTwoFaced_16 : decode b_Run_firstTwoFaced 16 = .ok (.aload_n 0, 1) := by decide +kernel
theorem d_Run_firstTwoFaced_17 : decode b_Run_firstTwoFaced 17 = .ok (.getfield 47, 3) := by decide +kernel
theorem d_Run_firstTwoFaced_20 : decode b_Run_firstTwoFaced 20 = .ok (.getfield 51, 3) := by decide +kernel
theorem d_Run_firstTwoFaced_23 : decode b_Run_firstTwoFaced 23 = .ok (.iconst 1, 1) := by decide +kernel
theorem d_Run_firstTwoFaced_24 : decode b_Run_firstTwoFaced 24 = .ok (.iaload, 1) := by decide +kernel
theorem d_Run_firstTwoFaced_25 : decode b_Run_firstTwoFaced 25 = .ok (.ishl, 1) := by decide +kernel
theorem d_Run_firstTwoFaced_26 : decode b_Run_firstTwoFaced 26 = .ok (.goto 4, 3) := by decide +kernel
theorem d_Run_firstTwoFaced_29 : decode b_Run_firstTwoFaced 29 = .ok (.iconst 0, 1) := by decide +kernel
theorem d_Run_firstTwoFaced_30 : decode b_Run_firstTwoFaced 30 = .ok (.istore_n 3, 1) := by decide +kernel
theorem d_Run_firstTwoFaced_31 : decode b_Run_firstTwoFaced 31 = .ok (.iconst 1, 1) := by decide +kernel
theorem d_Run_firstTwoFaced_32 : decode b_Run_firstTwoFaced 32 = .ok (.istore 4, 2) := by decide +kernel
theorem d_Run_firstTwoFaced_34 : decode b_Run_firstTwoFaced 34 = .ok (.iload 4, 2) := by decide +kernel
theorem d_Run_firstTwoFaced_36 : decode b_Run_firstTwoFaced 36 = .ok (.aload_n 0, 1) := by decide +kernel
theorem d_Run_firstTwoFaced_37 : decode b_Run_firstTwoFaced 37 = .ok (.getfield 56, 3) := by decide +kernel
theorem d_Run_firstTwoFaced_40 : decode b_Run_firstTwoFaced 40 = .ok (.if_icmp .gt 102, 3) := by decide +kernel
theorem d_Run_firstTwoFaced_43 : decode b_Run_firstTwoFaced 43 = .ok (.iconst 0, 1) := by decide +kernel
theorem d_Run_firstTwoFaced_44 : decode b_Run_firstTwoFaced 44 = .ok (.istore 5, 2) := by decide +kernel
theorem d_Run_firstTwoFaced_46 : decode b_Run_firstTwoFaced 46 = .ok (.iload 5, 2) := by decide +kernel
theorem d_Run_firstTwoFaced_48 : decode b_Run_firstTwoFaced 48 = .ok (.aload_n 0, 1) := by decide +kernel
theorem d_Run_firstTwoFaced_49 : decode b_Run_firstTwoFaced 49 = .ok (.getfield 110, 3) := by decide +kernel
theorem d_Run_firstTwoFaced_52 : decode b_Run_firstTwoFaced 52 = .ok (.if_icmp .ge 73, 3) := by decide +kernel
theorem d_Run_firstTwoFaced_55 : decode b_Run_firstTwoFaced 55 = .ok (.aload_n 0, 1) := by decide +kernel
theorem d_Run_firstTwoFaced_56 : decode b_Run_firstTwoFaced 56 = .ok (.getfield 26, 3) := by decide +kernel
theorem d_Run_firstTwoFaced_59 : decode b_Run_firstTwoFaced 59 = .ok (.iload 5, 2) := by decide +kernel
theorem d_Run_firstTwoFaced_61 : decode b_Run_firstTwoFaced 61 = .ok (.iaload, 1) := by decide +kernel
theorem d_Run_firstTwoFaced_62 : decode b_Run_firstTwoFaced 62 = .ok (.iload 4, 2) := by decide +kernel
theorem d_Run_firstTwoFaced_64 : decode b_Run_firstTwoFaced 64 = .ok (.if_icmp .ne 21, 3) := by decide +kernel
theorem d_Run_firstTwoFaced_67 : decode b_Run_firstTwoFaced 67 = .ok (.aload_n 0, 1) := by decide +kernel
theorem d_Run_firstTwoFaced_68 : decode b_Run_firstTwoFaced 68 = .ok (.getfield 17, 3) := by decide +kernel
theorem d_Run_firstTwoFaced_71 : decode b_Run_firstTwoFaced 71 = .ok (.iload 5, 2) := by decide +kernel
theorem d_Run_firstTwoFaced_73 : decode b_Run_firstTwoFaced 73 = .ok (.iaload, 1) := by decide +kernel
theorem d_Run_firstTwoFaced_74 : decode b_Run_firstTwoFaced 74 = .ok (.invokestatic 178, 3) := by decide +kernel
theorem d_Run_firstTwoFaced_77 : decode b_Run_firstTwoFaced 77 = .ok (.iload_n 1, 1) := by decide +kernel
theorem d_Run_firstTwoFaced_78 : decode b_Run_firstTwoFaced 78 = .ok (.if_icmp .ne 7, 3) := by decide +kernel
theorem d_Run_firstTwoFaced_81 : decode b_Run_firstTwoFaced 81 = .ok (.iconst 1, 1) := by decide +kernel
theorem d_Run_firstTwoFaced_82 : decode b_Run_firstTwoFaced 82 = .ok (.goto 4, 3) := by decide +kernel
theorem d_Run_firstTwoFaced_85 : decode b_Run_firstTwoFaced 85 = .ok (.iconst 0, 1) := by decide +kernel
theorem d_Run_firstTwoFaced_86 : decode b_Run_firstTwoFaced 86 = .ok (.istore 6, 2) := by decide +kernel
theorem d_Run_firstTwoFaced_88 : decode b_Run_firstTwoFaced 88 = .ok (.iload 6, 2) := by decide +kernel
theorem d_Run_firstTwoFaced_90 : decode b_Run_firstTwoFaced 90 = .ok (.ifCond .eq 29, 3) := by decide +kernel
theorem d_Run_firstTwoFaced_93 : decode b_Run_firstTwoFaced 93 = .ok (.aload_n 0, 1) := by decide +kernel
theorem d_Run_firstTwoFaced_94 : decode b_Run_firstTwoFaced 94 = .ok (.getfield 23, 3) := by decide +kernel
theorem d_Run_firstTwoFaced_97 : decode b_Run_firstTwoFaced 97 = .ok (.iload 5, 2) := by decide +kernel
theorem d_Run_firstTwoFaced_99 : decode b_Run_firstTwoFaced 99 = .ok (.iaload, 1) := by decide +kernel
theorem d_Run_firstTwoFaced_100 : decode b_Run_firstTwoFaced 100 = .ok (.iload_n 2, 1) := by decide +kernel
theorem d_Run_firstTwoFaced_101 : decode b_Run_firstTwoFaced 101 = .ok (.invokestatic 207, 3) := by decide +kernel
theorem d_Run_firstTwoFaced_104 : decode b_Run_firstTwoFaced 104 = .ok (.ifCond .eq 15, 3) := by decide +kernel
theorem d_Run_firstTwoFaced_107 : decode b_Run_firstTwoFaced 107 = .ok (.iload_n 3, 1) := by decide +kernel
theorem d_Run_firstTwoFaced_108 : decode b_Run_firstTwoFaced 108 = .ok (.iconst 1, 1) := by decide +kernel
theorem d_Run_firstTwoFaced_109 : decode b_Run_firstTwoFaced 109 = .ok (.aload_n 0, 1) := by decide +kernel
theorem d_Run_firstTwoFaced_110 : decode b_Run_firstTwoFaced 110 = .ok (.getfield 20, 3) := by decide +kernel
theorem d_Run_firstTwoFaced_113 : decode b_Run_firstTwoFaced 113 = .ok (.iload 5, 2) := by decide +kernel
theorem d_Run_firstTwoFaced_115 : decode b_Run_firstTwoFaced 115 = .ok (.iaload, 1) := by decide +kernel
theorem d_Run_firstTwoFaced_116 : decode b_Run_firstTwoFaced 116 = .ok (.ishl, 1) := by decide +kernel
theorem d_Run_firstTwoFaced_117 : decode b_Run_firstTwoFaced 117 = .ok (.ior, 1) := by decide +kernel
theorem d_Run_firstTwoFaced_118 : decode b_Run_firstTwoFaced 118 = .ok (.istore_n 3, 1) := by decide +kernel
theorem d_Run_firstTwoFaced_119 : decode b_Run_firstTwoFaced 119 = .ok (.iinc 5 1, 3) := by decide +kernel
theorem d_Run_firstTwoFaced_122 : decode b_Run_firstTwoFaced 122 = .ok (.goto (-76), 3) := by decide +kernel
theorem d_Run_firstTwoFaced_125 : decode b_Run_firstTwoFaced 125 = .ok (.iload_n 3, 1) := by decide +kernel
theorem d_Run_firstTwoFaced_126 : decode b_Run_firstTwoFaced 126 = .ok (.invokestatic 210, 3) := by decide +kernel
theorem d_Run_firstTwoFaced_129 : decode b_Run_firstTwoFaced 129 = .ok (.iconst 1, 1) := by decide +kernel
theorem d_Run_firstTwoFaced_130 : decode b_Run_firstTwoFaced 130 = .ok (.if_icmp .le 6, 3) := by decide +kernel
theorem d_Run_firstTwoFaced_133 : decode b_Run_firstTwoFaced 133 = .ok (.iload 4, 2) := by decide +kernel
theorem d_Run_firstTwoFaced_135 : decode b_Run_firstTwoFaced 135 = .ok (.ireturn, 1) := by decide +kernel
theorem d_Run_firstTwoFaced_136 : decode b_Run_firstTwoFaced 136 = .ok (.iinc 4 1, 3) := by decide +kernel
theorem d_Run_firstTwoFaced_139 : decode b_Run_firstTwoFaced 139 = .ok (.goto (-105), 3) := by decide +kernel
theorem d_Run_firstTwoFaced_142 : decode b_Run_firstTwoFaced 142 = .ok (.bipush (-2), 2) := by decide +kernel
theorem d_Run_firstTwoFaced_144 : decode b_Run_firstTwoFaced 144 = .ok (.ireturn, 1) := by decide +kernel
theorem d_Run_lettersOf_0 : decode b_Run_lettersOf 0 = .ok (.iconst 0, 1) := by decide +kernel
theorem d_Run_lettersOf_1 : decode b_Run_lettersOf 1 = .ok (.istore_n 2, 1) := by decide +kernel
theorem d_Run_lettersOf_2 : decode b_Run_lettersOf 2 = .ok (.iconst 0, 1) := by decide +kernel
theorem d_Run_lettersOf_3 : decode b_Run_lettersOf 3 = .ok (.istore_n 3, 1) := by decide +kernel
theorem d_Run_lettersOf_4 : decode b_Run_lettersOf 4 = .ok (.iload_n 3, 1) := by decide +kernel
theorem d_Run_lettersOf_5 : decode b_Run_lettersOf 5 = .ok (.aload_n 0, 1) := by decide +kernel
theorem d_Run_lettersOf_6 : decode b_Run_lettersOf 6 = .ok (.getfield 110, 3) := by decide +kernel
theorem d_Run_lettersOf_9 : decode b_Run_lettersOf 9 = .ok (.if_icmp .ge 25, 3) := by decide +kernel
theorem d_Run_lettersOf_12 : decode b_Run_lettersOf 12 = .ok (.aload_n 0, 1) := by decide +kernel
theorem d_Run_lettersOf_13 : decode b_Run_lettersOf 13 = .ok (.getfield 17, 3) := by decide +kernel
theorem d_Run_lettersOf_16 : decode b_Run_lettersOf 16 = .ok (.iload_n 3, 1) := by decide +kernel
theorem d_Run_lettersOf_17 : decode b_Run_lettersOf 17 = .ok (.iaload, 1) := by decide +kernel
theorem d_Run_lettersOf_18 : decode b_Run_lettersOf 18 = .ok (.invokestatic 156, 3) := by decide +kernel
theorem d_Run_lettersOf_21 : decode b_Run_lettersOf 21 = .ok (.iload_n 1, 1) := by decide +kernel
theorem d_Run_lettersOf_22 : decode b_Run_lettersOf 22 = .ok (.if_icmp .ne 6, 3) := by decide +kernel
theorem d_Run_lettersOf_25 : decode b_Run_lettersOf 25 = .ok (.iinc 2 1, 3) := by decide +kernel
theorem d_Run_lettersOf_28 : decode b_Run_lettersOf 28 = .ok (.iinc 3 1, 3) := by decide +kernel
theorem d_Run_lettersOf_31 : decode b_Run_lettersOf 31 = .ok (.goto (-27), 3) := by decide +kernel
theorem d_Run_lettersOf_34 : decode b_Run_lettersOf 34 = .ok (.iload_n 2, 1) := by decide +kernel
theorem d_Run_lettersOf_35 : decode b_Run_lettersOf 35 = .ok (.ireturn, 1) := by decide +kernel
theorem d_Run_bitsOfLetter_0 : decode b_Run_bitsOfLetter 0 = .ok (.iconst 5, 1) := by decide +kernel
theorem d_Run_bitsOfLetter_1 : decode b_Run_bitsOfLetter 1 = .ok (.iconst 3, 1) := by decide +kernel
theorem d_Run_bitsOfLetter_2 : decode b_Run_bitsOfLetter 2 = .ok (.aload_n 0, 1) := by decide +kernel
theorem d_Run_bitsOfLetter_3 : decode b_Run_bitsOfLetter 3 = .ok (.getfield 23, 3) := by decide +kernel
theorem d_Run_bitsOfLetter_6 : decode b_Run_bitsOfLetter 6 = .ok (.iload_n 1, 1) := by decide +kernel
theorem d_Run_bitsOfLetter_7 : decode b_Run_bitsOfLetter 7 = .ok (.iaload, 1) := by decide +kernel
theorem d_Run_bitsOfLetter_8 : decode b_Run_bitsOfLetter 8 = .ok (.invokestatic 172, 3) := by decide +kernel
theorem d_Run_bitsOfLetter_11 : decode b_Run_bitsOfLetter 11 = .ok (.imul, 1) := by decide +kernel
theorem d_Run_bitsOfLetter_12 : decode b_Run_bitsOfLetter 12 = .ok (.iadd, 1) := by decide +kernel
theorem d_Run_bitsOfLetter_13 : decode b_Run_bitsOfLetter 13 = .ok (.ireturn, 1) := by decide +kernel
theorem d_Run_greatestBits_0 : decode b_Run_greatestBits 0 = .ok (.iconst 0, 1) := by decide +kernel
theorem d_Run_greatestBits_1 : decode b_Run_greatestBits 1 = .ok (.istore_n 1, 1) := by decide +kernel
theorem d_Run_greatestBits_2 : decode b_Run_greatestBits 2 = .ok (.iconst 0, 1) := by decide +kernel
theorem d_Run_greatestBits_3 : decode b_Run_greatestBits 3 = .ok (.istore_n 2, 1) := by decide +kernel
theorem d_Run_greatestBits_4 : decode b_Run_greatestBits 4 = .ok (.iload_n 2, 1) := by decide +kernel
theorem d_Run_greatestBits_5 : decode b_Run_greatestBits 5 = .ok (.aload_n 0, 1) := by decide +kernel
theorem d_Run_greatestBits_6 : decode b_Run_greatestBits 6 = .ok (.getfield 110, 3) := by decide +kernel
theorem d_Run_greatestBits_9 : decode b_Run_greatestBits 9 = .ok (.if_icmp .ge 19, 3) := by decide +kernel
theorem d_Run_greatestBits_12 : decode b_Run_greatestBits 12 = .ok (.iload_n 1, 1) := by decide +kernel
theorem d_Run_greatestBits_13 : decode b_Run_greatestBits 13 = .ok (.aload_n 0, 1) := by decide +kernel
theorem d_Run_greatestBits_14 : decode b_Run_greatestBits 14 = .ok (.iload_n 2, 1) := by decide +kernel
theorem d_Run_greatestBits_15 : decode b_Run_greatestBits 15 = .ok (.invokevirtual 215, 3) := by decide +kernel
theorem d_Run_greatestBits_18 : decode b_Run_greatestBits 18 = .ok (.invokestatic 218, 3) := by decide +kernel
theorem d_Run_greatestBits_21 : decode b_Run_greatestBits 21 = .ok (.istore_n 1, 1) := by decide +kernel
theorem d_Run_greatestBits_22 : decode b_Run_greatestBits 22 = .ok (.iinc 2 1, 3) := by decide +kernel
theorem d_Run_greatestBits_25 : decode b_Run_greatestBits 25 = .ok (.goto (-21), 3) := by decide +kernel
theorem d_Run_greatestBits_28 : decode b_Run_greatestBits 28 = .ok (.iload_n 1, 1) := by decide +kernel
theorem d_Run_greatestBits_29 : decode b_Run_greatestBits 29 = .ok (.ireturn, 1) := by decide +kernel
theorem d_Run_bitsOf_0 : decode b_Run_bitsOf 0 = .ok (.iconst 0, 1) := by decide +kernel
theorem d_Run_bitsOf_1 : decode b_Run_bitsOf 1 = .ok (.istore_n 2, 1) := by decide +kernel
theorem d_Run_bitsOf_2 : decode b_Run_bitsOf 2 = .ok (.iconst 0, 1) := by decide +kernel
theorem d_Run_bitsOf_3 : decode b_Run_bitsOf 3 = .ok (.istore_n 3, 1) := by decide +kernel
theorem d_Run_bitsOf_4 : decode b_Run_bitsOf 4 = .ok (.iload_n 3, 1) := by decide +kernel
theorem d_Run_bitsOf_5 : decode b_Run_bitsOf 5 = .ok (.aload_n 0, 1) := by decide +kernel
theorem d_Run_bitsOf_6 : decode b_Run_bitsOf 6 = .ok (.getfield 110, 3) := by decide +kernel
theorem d_Run_bitsOf_9 : decode b_Run_bitsOf 9 = .ok (.if_icmp .ge 30, 3) := by decide +kernel
theorem d_Run_bitsOf_12 : decode b_Run_bitsOf 12 = .ok (.aload_n 0, 1) := by decide +kernel
theorem d_Run_bitsOf_13 : decode b_Run_bitsOf 13 = .ok (.getfield 17, 3) := by decide +kernel
theorem d_Run_bitsOf_16 : decode b_Run_bitsOf 16 = .ok (.iload_n 3, 1) := by decide +kernel
theorem d_Run_bitsOf_17 : decode b_Run_bitsOf 17 = .ok (.iaload, 1) := by decide +kernel
theorem d_Run_bitsOf_18 : decode b_Run_bitsOf 18 = .ok (.invokestatic 156, 3) := by decide +kernel
theorem d_Run_bitsOf_21 : decode b_Run_bitsOf 21 = .ok (.iload_n 1, 1) := by decide +kernel
theorem d_Run_bitsOf_22 : decode b_Run_bitsOf 22 = .ok (.if_icmp .ne 11, 3) := by decide +kernel
theorem d_Run_bitsOf_25 : decode b_Run_bitsOf 25 = .ok (.iload_n 2, 1) := by decide +kernel
theorem d_Run_bitsOf_26 : decode b_Run_bitsOf 26 = .ok (.aload_n 0, 1) := by decide +kernel
theorem d_Run_bitsOf_27 : decode b_Run_bitsOf 27 = .ok (.iload_n 3, 1) := by decide +kernel
theorem d_Run_bitsOf_28 : decode b_Run_bitsOf 28 = .ok (.invokevirtual 215, 3) := by decide +kernel
theorem d_Run_bitsOf_31 : decode b_Run_bitsOf 31 = .ok (.iadd, 1) := by decide +kernel
theorem d_Run_bitsOf_32 : decode b_Run_bitsOf 32 = .ok (.istore_n 2, 1) := by decide +kernel
theorem d_Run_bitsOf_33 : decode b_Run_bitsOf 33 = .ok (.iinc 3 1, 3) := by decide +kernel
theorem d_Run_bitsOf_36 : decode b_Run_bitsOf 36 = .ok (.goto (-32), 3) := by decide +kernel
theorem d_Run_bitsOf_39 : decode b_Run_bitsOf 39 = .ok (.iload_n 2, 1) := by decide +kernel
theorem d_Run_bitsOf_40 : decode b_Run_bitsOf 40 = .ok (.ireturn, 1) := by decide +kernel
theorem d_Run_loadOf_0 : decode b_Run_loadOf 0 = .ok (.iconst 0, 1) := by decide +kernel
theorem d_Run_loadOf_1 : decode b_Run_loadOf 1 = .ok (.istore_n 3, 1) := by decide +kernel
theorem d_Run_loadOf_2 : decode b_Run_loadOf 2 = .ok (.iconst 0, 1) := by decide +kernel
theorem d_Run_loadOf_3 : decode b_Run_loadOf 3 = .ok (.istore 4, 2) := by decide +kernel
theorem d_Run_loadOf_5 : decode b_Run_loadOf 5 = .ok (.iload 4, 2) := by decide +kernel
theorem d_Run_loadOf_7 : decode b_Run_loadOf 7 = .ok (.aload_n 0, 1) := by decide +kernel
theorem d_Run_loadOf_8 : decode b_Run_loadOf 8 = .ok (.getfield 110, 3) := by decide +kernel
theorem d_Run_loadOf_11 : decode b_Run_loadOf 11 = .ok (.if_icmp .ge 40, 3) := by decide +kernel
theorem d_Run_loadOf_14 : decode b_Run_loadOf 14 = .ok (.aload_n 0, 1) := by decide +kernel
theorem d_Run_loadOf_15 : decode b_Run_loadOf 15 = .ok (.getfield 17, 3) := by decide +kernel
theorem d_Run_loadOf_18 : decode b_Run_loadOf 18 = .ok (.iload 4, 2) := by decide +kernel
theorem d_Run_loadOf_20 : decode b_Run_loadOf 20 = .ok (.iaload, 1) := by decide +kernel
theorem d_Run_loadOf_21 : decode b_Run_loadOf 21 = .ok (.invokestatic 159, 3) := by decide +kernel
theorem d_Run_loadOf_24 : decode b_Run_loadOf 24 = .ok (.iload_n 1, 1) := by decide +kernel
theorem d_Run_loadOf_25 : decode b_Run_loadOf 25 = .ok (.if_icmp .ne 20, 3) := by decide +kernel
theorem d_Run_loadOf_28 : decode b_Run_loadOf 28 = .ok (.aload_n 0, 1) := by decide +kernel
theorem d_Run_loadOf_29 : decode b_Run_loadOf 29 = .ok (.getfield 17, 3) := by decide +kernel
theorem d_Run_loadOf_32 : decode b_Run_loadOf 32 = .ok (.iload 4, 2) := by decide +kernel
theorem d_Run_loadOf_34 : decode b_Run_loadOf 34 = .ok (.iaload, 1) := by decide +kernel
theorem d_Run_loadOf_35 : decode b_Run_loadOf 35 = .ok (.invokestatic 178, 3) := by decide +kernel
theorem d_Run_loadOf_38 : decode b_Run_loadOf 38 = .ok (.iload_n 2, 1) := by decide +kernel
theorem d_Run_loadOf_39 : decode b_Run_loadOf 39 = .ok (.if_icmp .ne 6, 3) := by decide +kernel
theorem d_Run_loadOf_42 : decode b_Run_loadOf 42 = .ok (.iinc 3 1, 3) := by decide +kernel
theorem d_Run_loadOf_45 : decode b_Run_loadOf 45 = .ok (.iinc 4 1, 3) := by decide +kernel
theorem d_Run_loadOf_48 : decode b_Run_loadOf 48 = .ok (.goto (-43), 3) := by decide +kernel
theorem d_Run_loadOf_51 : decode b_Run_loadOf 51 = .ok (.iload_n 3, 1) := by decide +kernel
theorem d_Run_loadOf_52 : decode b_Run_loadOf 52 = .ok (.ireturn, 1) := by decide +kernel
theorem d_Run_greatestLoad_0 : decode b_Run_greatestLoad 0 = .ok (.iconst 0, 1) := by decide +kernel
theorem d_Run_greatestLoad_1 : decode b_Run_greatestLoad 1 = .ok (.istore_n 1, 1) := by decide +kernel
theorem d_Run_greatestLoad_2 : decode b_Run_greatestLoad 2 = .ok (.iconst 0, 1) := by decide +kernel
theorem d_Run_greatestLoad_3 : decode b_Run_greatestLoad 3 = .ok (.istore_n 2, 1) := by decide +kernel
theorem d_Run_greatestLoad_4 : decode b_Run_greatestLoad 4 = .ok (.iload_n 2, 1) := by decide +kernel
theorem d_Run_greatestLoad_5 : decode b_Run_greatestLoad 5 = .ok (.aload_n 0, 1) := by decide +kernel
theorem d_Run_greatestLoad_6 : decode b_Run_greatestLoad 6 = .ok (.getfield 47, 3) := by decide +kernel
theorem d_Run_greatestLoad_9 : decode b_Run_greatestLoad 9 = .ok (.getfield 133, 3) := by decide +kernel
theorem d_Run_greatestLoad_12 : decode b_Run_greatestLoad 12 = .ok (.if_icmp .ge 39, 3) := by decide +kernel
theorem d_Run_greatestLoad_15 : decode b_Run_greatestLoad 15 = .ok (.iconst 0, 1) := by decide +kernel
theorem d_Run_greatestLoad_16 : decode b_Run_greatestLoad 16 = .ok (.istore_n 3, 1) := by decide +kernel
theorem d_Run_greatestLoad_17 : decode b_Run_greatestLoad 17 = .ok (.iload_n 3, 1) := by decide +kernel
theorem d_Run_greatestLoad_18 : decode b_Run_greatestLoad 18 = .ok (.aload_n 0, 1) := by decide +kernel
theorem d_Run_greatestLoad_19 : decode b_Run_greatestLoad 19 = .ok (.getfield 47, 3) := by decide +kernel
theorem d_Run_greatestLoad_22 : decode b_Run_greatestLoad 22 = .ok (.getfield 133, 3) := by decide +kernel
theorem d_Run_greatestLoad_25 : decode b_Run_greatestLoad 25 = .ok (.if_icmp .ge 20, 3) := by decide +kernel
theorem d_Run_greatestLoad_28 : decode b_Run_greatestLoad 28 = .ok (.iload_n 1, 1) := by decide +kernel
theorem d_Run_greatestLoad_29 : decode b_Run_greatestLoad 29 = .ok (.aload_n 0, 1) := by decide +kernel
theorem d_Run_greatestLoad_30 : decode b_Run_greatestLoad 30 = .ok (.iload_n 2, 1) := by decide +kernel
theorem d_Run_greatestLoad_31 : decode b_Run_greatestLoad 31 = .ok (.iload_n 3, 1) := by decide +kernel
theorem d_Run_greatestLoad_32 : decode b_Run_greatestLoad 32 = .ok (.invokevirtual 221, 3) := by decide +kernel
theorem d_Run_greatestLoad_35 : decode b_Run_greatestLoad 35 = .ok (.invokestatic 218, 3) := by decide +kernel
theorem d_Run_greatestLoad_38 : decode b_Run_greatestLoad 38 = .ok (.istore_n 1, 1) := by decide +kernel
theorem d_Run_greatestLoad_39 : decode b_Run_greatestLoad 39 = .ok (.iinc 3 1, 3) := by decide +kernel
theorem d_Run_greatestLoad_42 : decode b_Run_greatestLoad 42 = .ok (.goto (-25), 3) := by decide +kernel
theorem d_Run_greatestLoad_45 : decode b_Run_greatestLoad 45 = .ok (.iinc 2 1, 3) := by decide +kernel
theorem d_Run_greatestLoad_48 : decode b_Run_greatestLoad 48 = .ok (.goto (-44), 3) := by decide +kernel
theorem d_Run_greatestLoad_51 : decode b_Run_greatestLoad 51 = .ok (.iload_n 1, 1) := by decide +kernel
theorem d_Run_greatestLoad_52 : decode b_Run_greatestLoad 52 = .ok (.ireturn, 1) := by decide +kernel
theorem d_Run_haveOneDecision_0 : decode b_Run_haveOneDecision 0 = .ok (.iconst (-1), 1) := by decide +kernel
theorem d_Run_haveOneDecision_1 : decode b_Run_haveOneDecision 1 = .ok (.istore_n 2, 1) := by decide +kernel
theorem d_Run_haveOneDecision_2 : decode b_Run_haveOneDecision 2 = .ok (.iconst 0, 1) := by decide +kernel
theorem d_Run_haveOneDecision_3 : decode b_Run_haveOneDecision 3 = .ok (.istore_n 3, 1) := by decide +kernel
theorem d_Run_haveOneDecision_4 : decode b_Run_haveOneDecision 4 = .ok (.iload_n 3, 1) := by decide +kernel
theorem d_Run_haveOneDecision_5 : decode b_Run_haveOneDecision 5 = .ok (.aload_n 0, 1) := by decide +kernel
theorem d_Run_haveOneDecision_6 : decode b_Run_haveOneDecision 6 = .ok (.getfield 47, 3) := by decide +kernel
theorem d_Run_haveOneDecision_9 : decode b_Run_haveOneDecision 9 = .ok (.getfield 133, 3) := by decide +kernel
theorem d_Run_haveOneDecision_12 : decode b_Run_haveOneDecision 12 = .ok (.if_icmp .ge 40, 3) := by decide +kernel
theorem d_Run_haveOneDecision_15 : decode b_Run_haveOneDecision 15 = .ok (.iload_n 1, 1) := by decide +kernel
theorem d_Run_haveOneDecision_16 : decode b_Run_haveOneDecision 16 = .ok (.iload_n 3, 1) := by decide +kernel
theorem d_Run_haveOneDecision_17 : decode b_Run_haveOneDecision 17 = .ok (.ishr, 1) := by decide +kernel
theorem d_Run_haveOneDecision_18 : decode b_Run_haveOneDecision 18 = .ok (.iconst 1, 1) := by decide +kernel
theorem d_Run_haveOneDecision_19 : decode b_Run_haveOneDecision 19 = .ok (.iand, 1) := by decide +kernel
theorem d_Run_haveOneDecision_20 : decode b_Run_haveOneDecision 20 = .ok (.ifCond .eq 26, 3) := by decide +kernel
theorem d_Run_haveOneDecision_23 : decode b_Run_haveOneDecision 23 = .ok (.aload_n 0, 1) := by decide +kernel
theorem d_Run_haveOneDecision_24 : decode b_Run_haveOneDecision 24 = .ok (.iload_n 3, 1) := by decide +kernel
theorem d_Run_haveOneDecision_25 : decode b_Run_haveOneDecision 25 = .ok (.invokevirtual 198, 3) := by decide +kernel
theorem d_Run_haveOneDecision_28 : decode b_Run_haveOneDecision 28 = .ok (.istore 4, 2) := by decide +kernel
theorem d_Run_haveOneDecision_30 : decode b_Run_haveOneDecision 30 = .ok (.iload_n 2, 1) := by decide +kernel
theorem d_Run_haveOneDecision_31 : decode b_Run_haveOneDecision 31 = .ok (.iconst (-1), 1) := by decide +kernel
theorem d_Run_haveOneDecision_32 : decode b_Run_haveOneDecision 32 = .ok (.if_icmp .eq 11, 3) := by decide +kernel
theorem d_Run_haveOneDecision_35 : decode b_Run_haveOneDecision 35 = .ok (.iload_n 2, 1) := by decide +kernel
theorem d_Run_haveOneDecision_36 : decode b_Run_haveOneDecision 36 = .ok (.iload 4, 2) := by decide +kernel
theorem d_Run_haveOneDecision_38 : decode b_Run_haveOneDecision 38 = .ok (.if_icmp .eq 5, 3) := by decide +kernel
theorem d_Run_haveOneDecision_41 : decode b_Run_haveOneDecision 41 = .ok (.iconst 0, 1) := by decide +kernel
theorem d_Run_haveOneDecision_42 : decode b_Run_haveOneDecision 42 = .ok (.ireturn, 1) := by decide +kernel
theorem d_Run_haveOneDecision_43 : decode b_Run_haveOneDecision 43 = .ok (.iload 4, 2) := by decide +kernel
theorem d_Run_haveOneDecision_45 : decode b_Run_haveOneDecision 45 = .ok (.istore_n 2, 1) := by decide +kernel
theorem d_Run_haveOneDecision_46 : decode b_Run_haveOneDecision 46 = .ok (.iinc 3 1, 3) := by decide +kernel
theorem d_Run_haveOneDecision_49 : decode b_Run_haveOneDecision 49 = .ok (.goto (-45), 3) := by decide +kernel
theorem d_Run_haveOneDecision_52 : decode b_Run_haveOneDecision 52 = .ok (.iconst 1, 1) := by decide +kernel
theorem d_Run_haveOneDecision_53 : decode b_Run_haveOneDecision 53 = .ok (.ireturn, 1) := by decide +kernel
theorem d_Run_someSetChanges_0 : decode b_Run_someSetChanges 0 = .ok (.iconst 0, 1) := by decide +kernel
theorem d_Run_someSetChanges_1 : decode b_Run_someSetChanges 1 = .ok (.istore_n 2, 1) := by decide +kernel
theorem d_Run_someSetChanges_2 : decode b_Run_someSetChanges 2 = .ok (.iload_n 2, 1) := by decide +kernel
theorem d_Run_someSetChanges_3 : decode b_Run_someSetChanges 3 = .ok (.aload_n 0, 1) := by decide +kernel
theorem d_Run_someSetChanges_4 : decode b_Run_someSetChanges 4 = .ok (.getfield 47, 3) := by decide +kernel
theorem d_Run_someSetChanges_7 : decode b_Run_someSetChanges 7 = .ok (.getfield 133, 3) := by decide +kernel
theorem d_Run_someSetChanges_10 : decode b_Run_someSetChanges 10 = .ok (.if_icmp .ge 28, 3) := by decide +kernel
theorem d_Run_someSetChanges_13 : decode b_Run_someSetChanges 13 = .ok (.aload_n 0, 1) := by decide +kernel
theorem d_Run_someSetChanges_14 : decode b_Run_someSetChanges 14 = .ok (.iload_n 2, 1) := by decide +kernel
theorem d_Run_someSetChanges_15 : decode b_Run_someSetChanges 15 = .ok (.iload_n 1, 1) := by decide +kernel
theorem d_Run_someSetChanges_16 : decode b_Run_someSetChanges 16 = .ok (.invokevirtual 195, 3) := by decide +kernel
theorem d_Run_someSetChanges_19 : decode b_Run_someSetChanges 19 = .ok (.aload_n 0, 1) := by decide +kernel
theorem d_Run_someSetChanges_20 : decode b_Run_someSetChanges 20 = .ok (.iload_n 2, 1) := by decide +kernel
theorem d_Run_someSetChanges_21 : decode b_Run_someSetChanges 21 = .ok (.iload_n 1, 1) := by decide +kernel
theorem d_Run_someSetChanges_22 : decode b_Run_someSetChanges 22 = .ok (.iconst 1, 1) := by decide +kernel
theorem d_Run_someSetChanges_23 : decode b_Run_someSetChanges 23 = .ok (.isub, 1) := by decide +kernel
theorem d_Run_someSetChanges_24 : decode b_Run_someSetChanges 24 = .ok (.invokevirtual 195, 3) := by decide +kernel
theorem d_Run_someSetChanges_27 : decode b_Run_someSetChanges 27 = .ok (.if_icmp .eq 5, 3) := by decide +kernel
theorem d_Run_someSetChanges_30 : decode b_Run_someSetChanges 30 = .ok (.iconst 1, 1) := by decide +kernel
theorem d_Run_someSetChanges_31 : decode b_Run_someSetChanges 31 = .ok (.ireturn, 1) := by decide +kernel
theorem d_Run_someSetChanges_32 : decode b_Run_someSetChanges 32 = .ok (.iinc 2 1, 3) := by decide +kernel
theorem d_Run_someSetChanges_35 : decode b_Run_someSetChanges 35 = .ok (.goto (-33), 3) := by decide +kernel
theorem d_Run_someSetChanges_38 : decode b_Run_someSetChanges 38 = .ok (.iconst 0, 1) := by decide +kernel
theorem d_Run_someSetChanges_39 : decode b_Run_someSetChanges 39 = .ok (.ireturn, 1) := by decide +kernel
theorem d_Run_firstStill_0 : decode b_Run_firstStill 0 = .ok (.aload_n 0, 1) := by decide +kernel
theorem d_Run_firstStill_1 : decode b_Run_firstStill 1 = .ok (.getfield 56, 3) := by decide +kernel
theorem d_Run_firstStill_4 : decode b_Run_firstStill 4 = .ok (.istore_n 1, 1) := by decide +kernel
theorem d_Run_firstStill_5 : decode b_Run_firstStill 5 = .ok (.iload_n 1, 1) := by decide +kernel
theorem d_Run_firstStill_6 : decode b_Run_firstStill 6 = .ok (.iconst 1, 1) := by decide +kernel
theorem d_Run_firstStill_7 : decode b_Run_firstStill 7 = .ok (.if_icmp .lt 19, 3) := by decide +kernel
theorem d_Run_firstStill_10 : decode b_Run_firstStill 10 = .ok (.aload_n 0, 1) := by decide +kernel
theorem d_Run_firstStill_11 : decode b_Run_firstStill 11 = .ok (.iload_n 1, 1) := by decide +kernel
theorem d_Run_firstStill_12 : decode b_Run_firstStill 12 = .ok (.invokevirtual 204, 3) := by decide +kernel
theorem d_Run_firstStill_15 : decode b_Run_firstStill 15 = .ok (.ifCond .eq 5, 3) := by decide +kernel
theorem d_Run_firstStill_18 : decode b_Run_firstStill 18 = .ok (.iload_n 1, 1) := by decide +kernel
theorem d_Run_firstStill_19 : decode b_Run_firstStill 19 = .ok (.ireturn, 1) := by decide +kernel
theorem d_Run_firstStill_20 : decode b_Run_firstStill 20 = .ok (.iinc 1 (-1), 3) := by decide +kernel
theorem d_Run_firstStill_23 : decode b_Run_firstStill 23 = .ok (.goto (-18), 3) := by decide +kernel
theorem d_Run_firstStill_26 : decode b_Run_firstStill 26 = .ok (.iconst 0, 1) := by decide +kernel
theorem d_Run_firstStill_27 : decode b_Run_firstStill 27 = .ok (.ireturn, 1) := by decide +kernel
theorem d_Run_haveOneSet_0 : decode b_Run_haveOneSet 0 = .ok (.iconst (-1), 1) := by decide +kernel
theorem d_Run_haveOneSet_1 : decode b_Run_haveOneSet 1 = .ok (.istore_n 3, 1) := by decide +kernel
theorem d_Run_haveOneSet_2 : decode b_Run_haveOneSet 2 = .ok (.iconst 0, 1) := by decide +kernel
theorem d_Run_haveOneSet_3 : decode b_Run_haveOneSet 3 = .ok (.istore 4, 2) := by decide +kernel
theorem d_Run_haveOneSet_5 : decode b_Run_haveOneSet 5 = .ok (.iload 4, 2) := by decide +kernel
theorem d_Run_haveOneSet_7 : decode b_Run_haveOneSet 7 = .ok (.aload_n 0, 1) := by decide +kernel
theorem d_Run_haveOneSet_8 : decode b_Run_haveOneSet 8 = .ok (.getfield 47, 3) := by decide +kernel
theorem d_Run_haveOneSet_11 : decode b_Run_haveOneSet 11 = .ok (.getfield 133, 3) := by decide +kernel
theorem d_Run_haveOneSet_14 : decode b_Run_haveOneSet 14 = .ok (.if_icmp .ge 43, 3) := by decide +kernel
theorem d_Run_haveOneSet_17 : decode b_Run_haveOneSet 17 = .ok (.iload_n 1, 1) := by decide +kernel
theorem d_Run_haveOneSet_18 : decode b_Run_haveOneSet 18 = .ok (.iload 4, 2) := by decide +kernel
theorem d_Run_haveOneSet_20 : decode b_Run_haveOneSet 20 = .ok (.ishr, 1) := by decide +kernel
theorem d_Run_haveOneSet_21 : decode b_Run_haveOneSet 21 = .ok (.iconst 1, 1) := by decide +kernel
theorem d_Run_haveOneSet_22 : decode b_Run_haveOneSet 22 = .ok (.iand, 1) := by decide +kernel
theorem d_Run_haveOneSet_23 : decode b_Run_haveOneSet 23 = .ok (.ifCond .eq 28, 3) := by decide +kernel
theorem d_Run_haveOneSet_26 : decode b_Run_haveOneSet 26 = .ok (.aload_n 0, 1) := by decide +kernel
theorem d_Run_haveOneSet_27 : decode b_Run_haveOneSet 27 = .ok (.iload 4, 2) := by decide +kernel
theorem d_Run_haveOneSet_29 : decode b_Run_haveOneSet 29 = .ok (.iload_n 2, 1) := by decide +kernel
theorem d_Run_haveOneSet_30 : decode b_Run_haveOneSet 30 = .ok (.invokevirtual 195, 3) := by decide +kernel
theorem d_Run_haveOneSet_33 : decode b_Run_haveOneSet 33 = .ok (.istore 5, 2) := by decide +kernel
theorem d_Run_haveOneSet_35 : decode b_Run_haveOneSet 35 = .ok (.iload_n 3, 1) := by decide +kernel
theorem d_Run_haveOneSet_36 : decode b_Run_haveOneSet 36 = .ok (.iconst (-1), 1) := by decide +kernel
theorem d_Run_haveOneSet_37 : decode b_Run_haveOneSet 37 = .ok (.if_icmp .eq 11, 3) := by decide +kernel
theorem d_Run_haveOneSet_40 : decode b_Run_haveOneSet 40 = .ok (.iload_n 3, 1) := by decide +kernel
theorem d_Run_haveOneSet_41 : decode b_Run_haveOneSet 41 = .ok (.iload 5, 2) := by decide +kernel
theorem d_Run_haveOneSet_43 : decode b_Run_haveOneSet 43 = .ok (.if_icmp .eq 5, 3) := by decide +kernel
theorem d_Run_haveOneSet_46 : decode b_Run_haveOneSet 46 = .ok (.iconst 0, 1) := by decide +kernel
theorem d_Run_haveOneSet_47 : decode b_Run_haveOneSet 47 = .ok (.ireturn, 1) := by decide +kernel
theorem d_Run_haveOneSet_48 : decode b_Run_haveOneSet 48 = .ok (.iload 5, 2) := by decide +kernel
theorem d_Run_haveOneSet_50 : decode b_Run_haveOneSet 50 = .ok (.istore_n 3, 1) := by decide +kernel
theorem d_Run_haveOneSet_51 : decode b_Run_haveOneSet 51 = .ok (.iinc 4 1, 3) := by decide +kernel
theorem d_Run_haveOneSet_54 : decode b_Run_haveOneSet 54 = .ok (.goto (-49), 3) := by decide +kernel
theorem d_Run_haveOneSet_57 : decode b_Run_haveOneSet 57 = .ok (.iconst 1, 1) := by decide +kernel
theorem d_Run_haveOneSet_58 : decode b_Run_haveOneSet 58 = .ok (.ireturn, 1) := by decide +kernel
theorem d_Run_firstUnited_0 : decode b_Run_firstUnited 0 = .ok (.aload_n 0, 1) := by decide +kernel
theorem d_Run_firstUnited_1 : decode b_Run_firstUnited 1 = .ok (.getfield 56, 3) := by decide +kernel
theorem d_Run_firstUnited_4 : decode b_Run_firstUnited 4 = .ok (.istore_n 2, 1) := by decide +kernel
theorem d_Run_firstUnited_5 : decode b_Run_firstUnited 5 = .ok (.iload_n 2, 1) := by decide +kernel
theorem d_Run_firstUnited_6 : decode b_Run_firstUnited 6 = .ok (.ifCond .lt 35, 3) := by decide +kernel
theorem d_Run_firstUnited_9 : decode b_Run_firstUnited 9 = .ok (.aload_n 0, 1) := by decide +kernel
theorem d_Run_firstUnited_10 : decode b_Run_firstUnited 10 = .ok (.iload_n 1, 1) := by decide +kernel
theorem d_Run_firstUnited_11 : decode b_Run_firstUnited 11 = .ok (.iload_n 2, 1) := by decide +kernel
theorem d_Run_firstUnited_12 : decode b_Run_firstUnited 12 = .ok (.invokevirtual 201, 3) := by decide +kernel
theorem d_Run_firstUnited_15 : decode b_Run_firstUnited 15 = .ok (.ifCond .ne 20, 3) := by decide +kernel
theorem d_Run_firstUnited_18 : decode b_Run_firstUnited 18 = .ok (.iload_n 2, 1) := by decide +kernel
theorem d_Run_firstUnited_19 : decode b_Run_firstUnited 19 = .ok (.aload_n 0, 1) := by decide +kernel
theorem d_Run_firstUnited_20 : decode b_Run_firstUnited 20 = .ok (.getfield 56, 3) := by decide +kernel
theorem d_Run_firstUnited_23 : decode b_Run_firstUnited 23 = .ok (.if_icmp .ne 8, 3) := by decide +kernel
theorem d_Run_firstUnited_26 : decode b_Run_firstUnited 26 = .ok (.bipush (-2), 2) := by decide +kernel
theorem d_Run_firstUnited_28 : decode b_Run_firstUnited 28 = .ok (.goto 6, 3) := by decide +kernel
theorem d_Run_firstUnited_31 : decode b_Run_firstUnited 31 = .ok (.iload_n 2, 1) := by decide +kernel
theorem d_Run_firstUnited_32 : decode b_Run_firstUnited 32 = .ok (.iconst 1, 1) := by decide +kernel
theorem d_Run_firstUnited_33 : decode b_Run_firstUnited 33 = .ok (.iadd, 1) := by decide +kernel
theorem d_Run_firstUnited_34 : decode b_Run_firstUnited 34 = .ok (.ireturn, 1) := by decide +kernel
theorem d_Run_firstUnited_35 : decode b_Run_firstUnited 35 = .ok (.iinc 2 (-1), 3) := by decide +kernel
theorem d_Run_firstUnited_38 : decode b_Run_firstUnited 38 = .ok (.goto (-33), 3) := by decide +kernel
theorem d_Run_firstUnited_41 : decode b_Run_firstUnited 41 = .ok (.iconst 0, 1) := by decide +kernel
theorem d_Run_firstUnited_42 : decode b_Run_firstUnited 42 = .ok (.ireturn, 1) := by decide +kernel
theorem d_Run_anyComes_0 : decode b_Run_anyComes 0 = .ok (.iconst 0, 1) := by decide +kernel
theorem d_Run_anyComes_1 : decode b_Run_anyComes 1 = .ok (.istore_n 2, 1) := by decide +kernel
theorem d_Run_anyComes_2 : decode b_Run_anyComes 2 = .ok (.iload_n 2, 1) := by decide +kernel
theorem d_Run_anyComes_3 : decode b_Run_anyComes 3 = .ok (.aload_n 0, 1) := by decide +kernel
theorem d_Run_anyComes_4 : decode b_Run_anyComes 4 = .ok (.getfield 110, 3) := by decide +kernel
theorem d_Run_anyComes_7 : decode b_Run_anyComes 7 = .ok (.if_icmp .ge 31, 3) := by decide +kernel
theorem d_Run_anyComes_10 : decode b_Run_anyComes 10 = .ok (.aload_n 0, 1) := by decide +kernel
theorem d_Run_anyComes_11 : decode b_Run_anyComes 11 = .ok (.getfield 17, 3) := by decide +kernel
theorem d_Run_anyComes_14 : decode b_Run_anyComes 14 = .ok (.iload_n 2, 1) := by decide +kernel
theorem d_Run_anyComes_15 : decode b_Run_anyComes 15 = .ok (.iaload, 1) := by decide +kernel
theorem d_Run_anyComes_16 : decode b_Run_anyComes 16 = .ok (.iload_n 1, 1) := by decide +kernel
theorem d_Run_anyComes_17 : decode b_Run_anyComes 17 = .ok (.if_icmp .ne 15, 3) := by decide +kernel
theorem d_Run_anyComes_20 : decode b_Run_anyComes 20 = .ok (.aload_n 0, 1) := by decide +kernel
theorem d_Run_anyComes_21 : decode b_Run_anyComes 21 = .ok (.getfield 26, 3) := by decide +kernel
theorem d_Run_anyComes_24 : decode b_Run_anyComes 24 = .ok (.iload_n 2, 1) := by decide +kernel
theorem d_Run_anyComes_25 : decode b_Run_anyComes 25 = .ok (.iaload, 1) := by decide +kernel
theorem d_Run_anyComes_26 : decode b_Run_anyComes 26 = .ok (.iconst (-1), 1) := by decide +kernel
theorem d_Run_anyComes_27 : decode b_Run_anyComes 27 = .ok (.if_icmp .eq 5, 3) := by decide +kernel
theorem d_Run_anyComes_30 : decode b_Run_anyComes 30 = .ok (.iconst 1, 1) := by decide +kernel
theorem d_Run_anyComes_31 : decode b_Run_anyComes 31 = .ok (.ireturn, 1) := by decide +kernel
theorem d_Run_anyComes_32 : decode b_Run_anyComes 32 = .ok (.iinc 2 1, 3) := by decide +kernel
theorem d_Run_anyComes_35 : decode b_Run_anyComes 35 = .ok (.goto (-33), 3) := by decide +kernel
theorem d_Run_anyComes_38 : decode b_Run_anyComes 38 = .ok (.iconst 0, 1) := by decide +kernel
theorem d_Run_anyComes_39 : decode b_Run_anyComes 39 = .ok (.ireturn, 1) := by decide +kernel
theorem d_Run_shortLetters_0 : decode b_Run_shortLetters 0 = .ok (.iconst 0, 1) := by decide +kernel
theorem d_Run_shortLetters_1 : decode b_Run_shortLetters 1 = .ok (.istore_n 1, 1) := by decide +kernel
theorem d_Run_shortLetters_2 : decode b_Run_shortLetters 2 = .ok (.iconst 0, 1) := by decide +kernel
theorem d_Run_shortLetters_3 : decode b_Run_shortLetters 3 = .ok (.istore_n 2, 1) := by decide +kernel
theorem d_Run_shortLetters_4 : decode b_Run_shortLetters 4 = .ok (.iload_n 2, 1) := by decide +kernel
theorem d_Run_shortLetters_5 : decode b_Run_shortLetters 5 = .ok (.aload_n 0, 1) := by decide +kernel
theorem d_Run_shortLetters_6 : decode b_Run_shortLetters 6 = .ok (.getfield 110, 3) := by decide +kernel
theorem d_Run_shortLetters_9 : decode b_Run_shortLetters 9 = .ok (.if_icmp .ge 69, 3) := by decide +kernel
theorem d_Run_shortLetters_12 : decode b_Run_shortLetters 12 = .ok (.aload_n 0, 1) := by decide +kernel
theorem d_Run_shortLetters_13 : decode b_Run_shortLetters 13 = .ok (.getfield 26, 3) := by decide +kernel
theorem d_Run_shortLetters_16 : decode b_Run_shortLetters 16 = .ok (.iload_n 2, 1) := by decide +kernel
theorem d_Run_shortLetters_17 : decode b_Run_shortLetters 17 = .ok (.iaload, 1) := by decide +kernel
theorem d_Run_shortLetters_18 : decode b_Run_shortLetters 18 = .ok (.iconst (-1), 1) := by decide +kernel
theorem d_Run_shortLetters_19 : decode b_Run_shortLetters 19 = .ok (.if_icmp .eq 25, 3) := by decide +kernel
theorem d_Run_shortLetters_22 : decode b_Run_shortLetters 22 = .ok (.aload_n 0, 1) := by decide +kernel
theorem d_Run_shortLetters_23 : decode b_Run_shortLetters 23 = .ok (.getfield 23, 3) := by decide +kernel
theorem d_Run_shortLetters_26 : decode b_Run_shortLetters 26 = .ok (.iload_n 2, 1) := by decide +kernel
theorem d_Run_shortLetters_27 : decode b_Run_shortLetters 27 = .ok (.iaload, 1) := by decide +kernel
theorem d_Run_shortLetters_28 : decode b_Run_shortLetters 28 = .ok (.invokestatic 172, 3) := by decide +kernel
theorem d_Run_shortLetters_31 : decode b_Run_shortLetters 31 = .ok (.aload_n 0, 1) := by decide +kernel
theorem d_Run_shortLetters_32 : decode b_Run_shortLetters 32 = .ok (.getfield 26, 3) := by decide +kernel
theorem d_Run_shortLetters_35 : decode b_Run_shortLetters 35 = .ok (.iload_n 2, 1) := by decide +kernel
theorem d_Run_shortLetters_36 : decode b_Run_shortLetters 36 = .ok (.iaload, 1) := by decide +kernel
theorem d_Run_shortLetters_37 : decode b_Run_shortLetters 37 = .ok (.if_icmp .ge 7, 3) := by decide +kernel
theorem d_Run_shortLetters_40 : decode b_Run_shortLetters 40 = .ok (.iconst 1, 1) := by decide +kernel
theorem d_Run_shortLetters_41 : decode b_Run_shortLetters 41 = .ok (.goto 4, 3) := by decide +kernel
theorem d_Run_shortLetters_44 : decode b_Run_shortLetters 44 = .ok (.iconst 0, 1) := by decide +kernel
theorem d_Run_shortLetters_45 : decode b_Run_shortLetters 45 = .ok (.istore_n 3, 1) := by decide +kernel
theorem d_Run_shortLetters_46 : decode b_Run_shortLetters 46 = .ok (.iload_n 3, 1) := by decide +kernel
theorem d_Run_shortLetters_47 : decode b_Run_shortLetters 47 = .ok (.ifCond .eq 25, 3) := by decide +kernel
theorem d_Run_shortLetters_50 : decode b_Run_shortLetters 50 = .ok (.aload_n 0, 1) := by decide +kernel
theorem d_Run_shortLetters_51 : decode b_Run_shortLetters 51 = .ok (.getfield 47, 3) := by decide +kernel
theorem d_Run_shortLetters_54 : decode b_Run_shortLetters 54 = .ok (.aload_n 0, 1) := by decide +kernel
theorem d_Run_shortLetters_55 : decode b_Run_shortLetters 55 = .ok (.getfield 17, 3) := by decide +kernel
theorem d_Run_shortLetters_58 : decode b_Run_shortLetters 58 = .ok (.iload_n 2, 1) := by decide +kernel
theorem d_Run_shortLetters_59 : decode b_Run_shortLetters 59 = .ok (.iaload, 1) := by decide +kernel
theorem d_Run_shortLetters_60 : decode b_Run_shortLetters 60 = .ok (.invokestatic 178, 3) := by decide +kernel
theorem d_Run_shortLetters_63 : decode b_Run_shortLetters 63 = .ok (.invokevirtual 122, 3) := by decide +kernel
theorem d_Run_shortLetters_66 : decode b_Run_shortLetters 66 = .ok (.ifCond .eq 6, 3) := by decide +kernel
theorem d_Run_shortLetters_69 : decode b_Run_shortLetters 69 = .ok (.iinc 1 1, 3) := by decide +kernel
theorem d_Run_shortLetters_72 : decode b_Run_shortLetters 72 = .ok (.iinc 2 1, 3) := by decide +kernel
theorem d_Run_shortLetters_75 : decode b_Run_shortLetters 75 = .ok (.goto (-71), 3) := by decide +kernel
theorem d_Run_shortLetters_78 : decode b_Run_shortLetters 78 = .ok (.iload_n 1, 1) := by decide +kernel
theorem d_Run_shortLetters_79 : decode b_Run_shortLetters 79 = .ok (.ireturn, 1) := by decide +kernel
theorem d_Tape_init_0 : decode b_Tape_init 0 = .ok (.aload_n 0, 1) := by decide +kernel
theorem d_Tape_init_1 : decode b_Tape_init 1 = .ok (.invokespecial 3, 3) := by decide +kernel
theorem d_Tape_init_4 : decode b_Tape_init 4 = .ok (.aload_n 0, 1) := by decide +kernel
theorem d_Tape_init_5 : decode b_Tape_init 5 = .ok (.sipush 400, 3) := by decide +kernel
theorem d_Tape_init_8 : decode b_Tape_init 8 = .ok (.newarray .char, 2) := by decide +kernel
theorem d_Tape_init_10 : decode b_Tape_init 10 = .ok (.putfield 9, 3) := by decide +kernel
theorem d_Tape_init_13 : decode b_Tape_init 13 = .ok (.aload_n 0, 1) := by decide +kernel
theorem d_Tape_init_14 : decode b_Tape_init 14 = .ok (.new 15, 3) := by decide +kernel
theorem d_Tape_init_17 : decode b_Tape_init 17 = .ok (.dup, 1) := by decide +kernel
theorem d_Tape_init_18 : decode b_Tape_init 18 = .ok (.invokespecial 17, 3) := by decide +kernel
theorem d_Tape_init_21 : decode b_Tape_init 21 = .ok (.putfield 18, 3) := by decide +kernel
theorem d_Tape_init_24 : decode b_Tape_init 24 = .ok (.aload_n 0, 1) := by decide +kernel
theorem d_Tape_init_25 : decode b_Tape_init 25 = .ok (.iconst 0, 1) := by decide +kernel
theorem d_Tape_init_26 : decode b_Tape_init 26 = .ok (.putfield 22, 3) := by decide +kernel
theorem d_Tape_init_29 : decode b_Tape_init 29 = .ok (.aload_n 0, 1) := by decide +kernel
theorem d_Tape_init_30 : decode b_Tape_init 30 = .ok (.iconst 0, 1) := by decide +kernel
theorem d_Tape_init_31 : decode b_Tape_init 31 = .ok (.putfield 26, 3) := by decide +kernel
theorem d_Tape_init_34 : decode b_Tape_init 34 = .ok (.aload_n 0, 1) := by decide +kernel
theorem d_Tape_init_35 : decode b_Tape_init 35 = .ok (.iconst 0, 1) := by decide +kernel
theorem d_Tape_init_36 : decode b_Tape_init 36 = .ok (.putfield 29, 3) := by decide +kernel
theorem d_Tape_init_39 : decode b_Tape_init 39 = .ok (.aload_n 0, 1) := by decide +kernel
theorem d_Tape_init_40 : decode b_Tape_init 40 = .ok (.iconst 0, 1) := by decide +kernel
theorem d_Tape_init_41 : decode b_Tape_init 41 = .ok (.putfield 32, 3) := by decide +kernel
theorem d_Tape_init_44 : decode b_Tape_init 44 = .ok (.return_, 1) := by decide +kernel
theorem d_Run_init_0 : decode b_Run_init 0 = .ok (.aload_n 0, 1) := by decide +kernel
theorem d_Run_init_1 : decode b_Run_init 1 = .ok (.invokespecial 3, 3) := by decide +kernel
theorem d_Run_init_4 : decode b_Run_init 4 = .ok (.aload_n 0, 1) := by decide +kernel
theorem d_Run_init_5 : decode b_Run_init 5 = .ok (.sipush 576, 3) := by decide +kernel
theorem d_Run_init_8 : decode b_Run_init 8 = .ok (.newarray .int, 2) := by decide +kernel
theorem d_Run_init_10 : decode b_Run_init 10 = .ok (.putfield 11, 3) := by decide +kernel
theorem d_Run_init_13 : decode b_Run_init 13 = .ok (.aload_n 0, 1) := by decide +kernel
theorem d_Run_init_14 : decode b_Run_init 14 = .ok (.sipush 212, 3) := by decide +kernel
theorem d_Run_init_17 : decode b_Run_init 17 = .ok (.newarray .int, 2) := by decide +kernel
theorem d_Run_init_19 : decode b_Run_init 19 = .ok (.putfield 17, 3) := by decide +kernel
theorem d_Run_init_22 : decode b_Run_init 22 = .ok (.aload_n 0, 1) := by decide +kernel
theorem d_Run_init_23 : decode b_Run_init 23 = .ok (.sipush 212, 3) := by decide +kernel
theorem d_Run_init_26 : decode b_Run_init 26 = .ok (.newarray .int, 2) := by decide +kernel
theorem d_Run_init_28 : decode b_Run_init 28 = .ok (.putfield 20, 3) := by decide +kernel
theorem d_Run_init_31 : decode b_Run_init 31 = .ok (.aload_n 0, 1) := by decide +kernel
theorem d_Run_init_32 : decode b_Run_init 32 = .ok (.sipush 212, 3) := by decide +kernel
theorem d_Run_init_35 : decode b_Run_init 35 = .ok (.newarray .int, 2) := by decide +kernel
theorem d_Run_init_37 : decode b_Run_init 37 = .ok (.putfield 23, 3) := by decide +kernel
theorem d_Run_init_40 : decode b_Run_init 40 = .ok (.aload_n 0, 1) := by decide +kernel
theorem d_Run_init_41 : decode b_Run_init 41 = .ok (.sipush 212, 3) := by decide +kernel
theorem d_Run_init_44 : decode b_Run_init 44 = .ok (.newarray .int, 2) := by decide +kernel
theorem d_Run_init_46 : decode b_Run_init 46 = .ok (.putfield 26, 3) := by decide +kernel
theorem d_Run_init_49 : decode b_Run_init 49 = .ok (.aload_n 0, 1) := by decide +kernel
theorem d_Run_init_50 : decode b_Run_init 50 = .ok (.sipush 212, 3) := by decide +kernel
theorem d_Run_init_53 : decode b_Run_init 53 = .ok (.newarray .int, 2) := by decide +kernel
theorem d_Run_init_55 : decode b_Run_init 55 = .ok (.putfield 29, 3) := by decide +kernel
theorem d_Run_init_58 : decode b_Run_init 58 = .ok (.aload_n 0, 1) := by decide +kernel
theorem d_Run_init_59 : decode b_Run_init 59 = .ok (.bipush 32, 2) := by decide +kernel
theorem d_Run_init_61 : decode b_Run_init 61 = .ok (.newarray .int, 2) := by decide +kernel
theorem d_Run_init_63 : decode b_Run_init 63 = .ok (.putfield 32, 3) := by decide +kernel
theorem d_Run_init_66 : decode b_Run_init 66 = .ok (.aload_n 0, 1) := by decide +kernel
theorem d_Run_init_67 : decode b_Run_init 67 = .ok (.bipush 32, 2) := by decide +kernel
theorem d_Run_init_69 : decode b_Run_init 69 = .ok (.newarray .int, 2) := by decide +kernel
theorem d_Run_init_71 : decode b_Run_init 71 = .ok (.putfield 35, 3) := by decide +kernel
theorem d_Run_init_74 : decode b_Run_init 74 = .ok (.aload_n 0, 1) := by decide +kernel
theorem d_Run_init_75 : decode b_Run_init 75 = .ok (.bipush 32, 2) := by decide +kernel
theorem d_Run_init_77 : decode b_Run_init 77 = .ok (.newarray .int, 2) := by decide +kernel
theorem d_Run_init_79 : decode b_Run_init 79 = .ok (.putfield 38, 3) := by decide +kernel
theorem d_Run_init_82 : decode b_Run_init 82 = .ok (.aload_n 0, 1) := by decide +kernel
theorem d_Run_init_83 : decode b_Run_init 83 = .ok (.bipush 32, 2) := by decide +kernel
theorem d_Run_init_85 : decode b_Run_init 85 = .ok (.newarray .int, 2) := by decide +kernel
theorem d_Run_init_87 : decode b_Run_init 87 = .ok (.putfield 41, 3) := by decide +kernel
theorem d_Run_init_90 : decode b_Run_init 90 = .ok (.aload_n 0, 1) := by decide +kernel
theorem d_Run_init_91 : decode b_Run_init 91 = .ok (.bipush 72, 2) := by decide +kernel
theorem d_Run_init_93 : decode b_Run_init 93 = .ok (.newarray .int, 2) := by decide +kernel
theorem d_Run_init_95 : decode b_Run_init 95 = .ok (.putfield 44, 3) := by decide +kernel
theorem d_Run_init_98 : decode b_Run_init 98 = .ok (.aload_n 0, 1) := by decide +kernel
theorem d_Run_init_99 : decode b_Run_init 99 = .ok (.aload_n 1, 1) := by decide +kernel
theorem d_Run_init_100 : decode b_Run_init 100 = .ok (.putfield 47, 3) := by decide +kernel
theorem d_Run_init_103 : decode b_Run_init 103 = .ok (.return_, 1) := by decide +kernel
