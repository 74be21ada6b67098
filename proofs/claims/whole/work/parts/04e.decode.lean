theorem d_MM_adds_32 : decode b_MM_adds 32 = .ok (.ifCond .ne 5, 3) := by decide +kernel
theorem d_MM_adds_35 : decode b_MM_adds 35 = .ok (.iconst (-1), 1) := by decide +kernel
theorem d_MM_adds_36 : decode b_MM_adds 36 = .ok (.ireturn, 1) := by decide +kernel
theorem d_MM_adds_37 : decode b_MM_adds 37 = .ok (.aload_n 0, 1) := by decide +kernel
theorem d_MM_adds_38 : decode b_MM_adds 38 = .ok (.iload_n 1, 1) := by decide +kernel
theorem d_MM_adds_39 : decode b_MM_adds 39 = .ok (.iload_n 2, 1) := by decide +kernel
theorem d_MM_adds_40 : decode b_MM_adds 40 = .ok (.iload_n 3, 1) := by decide +kernel
theorem d_MM_adds_41 : decode b_MM_adds 41 = .ok (.iload 4, 2) := by decide +kernel
theorem d_MM_adds_43 : decode b_MM_adds 43 = .ok (.invokevirtual 244, 3) := by decide +kernel
theorem d_MM_adds_46 : decode b_MM_adds 46 = .ok (.iconst (-1), 1) := by decide +kernel
theorem d_MM_adds_47 : decode b_MM_adds 47 = .ok (.if_icmp .eq 6, 3) := by decide +kernel
theorem d_MM_adds_50 : decode b_MM_adds 50 = .ok (.bipush (-2), 2) := by decide +kernel
theorem d_MM_adds_52 : decode b_MM_adds 52 = .ok (.ireturn, 1) := by decide +kernel
theorem d_MM_adds_53 : decode b_MM_adds 53 = .ok (.aload_n 0, 1) := by decide +kernel
theorem d_MM_adds_54 : decode b_MM_adds 54 = .ok (.getfield 9, 3) := by decide +kernel
theorem d_MM_adds_57 : decode b_MM_adds 57 = .ok (.bipush 7, 2) := by decide +kernel
theorem d_MM_adds_59 : decode b_MM_adds 59 = .ok (.iload_n 1, 1) := by decide +kernel
theorem d_MM_adds_60 : decode b_MM_adds 60 = .ok (.iadd, 1) := by decide +kernel
theorem d_MM_adds_61 : decode b_MM_adds 61 = .ok (.iaload, 1) := by decide +kernel
theorem d_MM_adds_62 : decode b_MM_adds 62 = .ok (.bipush 12, 2) := by decide +kernel
theorem d_MM_adds_64 : decode b_MM_adds 64 = .ok (.if_icmp .ne 6, 3) := by decide +kernel
theorem d_MM_adds_67 : decode b_MM_adds 67 = .ok (.bipush (-3), 2) := by decide +kernel
theorem d_MM_adds_69 : decode b_MM_adds 69 = .ok (.ireturn, 1) := by decide +kernel
theorem d_MM_adds_70 : decode b_MM_adds 70 = .ok (.aload_n 0, 1) := by decide +kernel
theorem d_MM_adds_71 : decode b_MM_adds 71 = .ok (.invokevirtual 217, 3) := by decide +kernel
theorem d_MM_adds_74 : decode b_MM_adds 74 = .ok (.aload_n 0, 1) := by decide +kernel
theorem d_MM_adds_75 : decode b_MM_adds 75 = .ok (.iload_n 1, 1) := by decide +kernel
theorem d_MM_adds_76 : decode b_MM_adds 76 = .ok (.iload_n 2, 1) := by decide +kernel
theorem d_MM_adds_77 : decode b_MM_adds 77 = .ok (.iload_n 3, 1) := by decide +kernel
theorem d_MM_adds_78 : decode b_MM_adds 78 = .ok (.iload 4, 2) := by decide +kernel
theorem d_MM_adds_80 : decode b_MM_adds 80 = .ok (.iload 5, 2) := by decide +kernel
theorem d_MM_adds_82 : decode b_MM_adds 82 = .ok (.invokevirtual 248, 3) := by decide +kernel
theorem d_MM_adds_85 : decode b_MM_adds 85 = .ok (.aload_n 0, 1) := by decide +kernel
theorem d_MM_adds_86 : decode b_MM_adds 86 = .ok (.getfield 9, 3) := by decide +kernel
theorem d_MM_adds_89 : decode b_MM_adds 89 = .ok (.bipush 7, 2) := by decide +kernel
theorem d_MM_adds_91 : decode b_MM_adds 91 = .ok (.iload_n 1, 1) := by decide +kernel
theorem d_MM_adds_92 : decode b_MM_adds 92 = .ok (.iadd, 1) := by decide +kernel
theorem d_MM_adds_93 : decode b_MM_adds 93 = .ok (.iaload, 1) := by decide +kernel
theorem d_MM_adds_94 : decode b_MM_adds 94 = .ok (.iconst 1, 1) := by decide +kernel
theorem d_MM_adds_95 : decode b_MM_adds 95 = .ok (.isub, 1) := by decide +kernel
theorem d_MM_adds_96 : decode b_MM_adds 96 = .ok (.ireturn, 1) := by decide +kernel
theorem d_MM_omit_0 : decode b_MM_omit 0 = .ok (.aload_n 0, 1) := by decide +kernel
theorem d_MM_omit_1 : decode b_MM_omit 1 = .ok (.iconst 1, 1) := by decide +kernel
theorem d_MM_omit_2 : decode b_MM_omit 2 = .ok (.iload_n 1, 1) := by decide +kernel
theorem d_MM_omit_3 : decode b_MM_omit 3 = .ok (.iload_n 2, 1) := by decide +kernel
theorem d_MM_omit_4 : decode b_MM_omit 4 = .ok (.iload_n 3, 1) := by decide +kernel
theorem d_MM_omit_5 : decode b_MM_omit 5 = .ok (.iconst 1, 1) := by decide +kernel
theorem d_MM_omit_6 : decode b_MM_omit 6 = .ok (.invokevirtual 251, 3) := by decide +kernel
theorem d_MM_omit_9 : decode b_MM_omit 9 = .ok (.ireturn, 1) := by decide +kernel
theorem d_MM_late_0 : decode b_MM_late 0 = .ok (.aload_n 0, 1) := by decide +kernel
theorem d_MM_late_1 : decode b_MM_late 1 = .ok (.iconst 2, 1) := by decide +kernel
theorem d_MM_late_2 : decode b_MM_late 2 = .ok (.iload_n 1, 1) := by decide +kernel
theorem d_MM_late_3 : decode b_MM_late 3 = .ok (.iload_n 2, 1) := by decide +kernel
theorem d_MM_late_4 : decode b_MM_late 4 = .ok (.iload_n 3, 1) := by decide +kernel
theorem d_MM_late_5 : decode b_MM_late 5 = .ok (.iload 4, 2) := by decide +kernel
theorem d_MM_late_7 : decode b_MM_late 7 = .ok (.invokevirtual 251, 3) := by decide +kernel
theorem d_MM_late_10 : decode b_MM_late 10 = .ok (.ireturn, 1) := by decide +kernel
theorem d_MM_attack_0 : decode b_MM_attack 0 = .ok (.aload_n 0, 1) := by decide +kernel
theorem d_MM_attack_1 : decode b_MM_attack 1 = .ok (.getfield 9, 3) := by decide +kernel
theorem d_MM_attack_4 : decode b_MM_attack 4 = .ok (.iconst 0, 1) := by decide +kernel
theorem d_MM_attack_5 : decode b_MM_attack 5 = .ok (.iaload, 1) := by decide +kernel
theorem d_MM_attack_6 : decode b_MM_attack 6 = .ok (.ifCond .ne 5, 3) := by decide +kernel
theorem d_MM_attack_9 : decode b_MM_attack 9 = .ok (.iconst (-1), 1) := by decide +kernel
theorem d_MM_attack_10 : decode b_MM_attack 10 = .ok (.ireturn, 1) := by decide +kernel
theorem d_MM_attack_11 : decode b_MM_attack 11 = .ok (.iconst (-1), 1) := by decide +kernel
theorem d_MM_attack_12 : decode b_MM_attack 12 = .ok (.istore_n 1, 1) := by decide +kernel
theorem d_MM_attack_13 : decode b_MM_attack 13 = .ok (.iconst 0, 1) := by decide +kernel
theorem d_MM_attack_14 : decode b_MM_attack 14 = .ok (.istore_n 2, 1) := by decide +kernel
theorem d_MM_attack_15 : decode b_MM_attack 15 = .ok (.aload_n 0, 1) := by decide +kernel
theorem d_MM_attack_16 : decode b_MM_attack 16 = .ok (.getfield 9, 3) := by decide +kernel
theorem d_MM_attack_19 : decode b_MM_attack 19 = .ok (.iconst 0, 1) := by decide +kernel
theorem d_MM_attack_20 : decode b_MM_attack 20 = .ok (.iaload, 1) := by decide +kernel
theorem d_MM_attack_21 : decode b_MM_attack 21 = .ok (.iconst 1, 1) := by decide +kernel
theorem d_MM_attack_22 : decode b_MM_attack 22 = .ok (.isub, 1) := by decide +kernel
theorem d_MM_attack_23 : decode b_MM_attack 23 = .ok (.istore_n 3, 1) := by decide +kernel
theorem d_MM_attack_24 : decode b_MM_attack 24 = .ok (.iload_n 3, 1) := by decide +kernel
theorem d_MM_attack_25 : decode b_MM_attack 25 = .ok (.ifCond .lt 42, 3) := by decide +kernel
theorem d_MM_attack_28 : decode b_MM_attack 28 = .ok (.aload_n 0, 1) := by decide +kernel
theorem d_MM_attack_29 : decode b_MM_attack 29 = .ok (.iload_n 3, 1) := by decide +kernel
theorem d_MM_attack_30 : decode b_MM_attack 30 = .ok (.invokevirtual 205, 3) := by decide +kernel
theorem d_MM_attack_33 : decode b_MM_attack 33 = .ok (.ifCond .eq 7, 3) := by decide +kernel
theorem d_MM_attack_36 : decode b_MM_attack 36 = .ok (.iload_n 1, 1) := by decide +kernel
theorem d_MM_attack_37 : decode b_MM_attack 37 = .ok (.goto 4, 3) := by decide +kernel
theorem d_MM_attack_40 : decode b_MM_attack 40 = .ok (.iload_n 3, 1) := by decide +kernel
theorem d_MM_attack_41 : decode b_MM_attack 41 = .ok (.istore_n 1, 1) := by decide +kernel
theorem d_MM_attack_42 : decode b_MM_attack 42 = .ok (.iload_n 2, 1) := by decide +kernel
theorem d_MM_attack_43 : decode b_MM_attack 43 = .ok (.aload_n 0, 1) := by decide +kernel
theorem d_MM_attack_44 : decode b_MM_attack 44 = .ok (.iload_n 3, 1) := by decide +kernel
theorem d_MM_attack_45 : decode b_MM_attack 45 = .ok (.invokevirtual 205, 3) := by decide +kernel
theorem d_MM_attack_48 : decode b_MM_attack 48 = .ok (.ifCond .ne 7, 3) := by decide +kernel
theorem d_MM_attack_51 : decode b_MM_attack 51 = .ok (.iconst 1, 1) := by decide +kernel
theorem d_MM_attack_52 : decode b_MM_attack 52 = .ok (.goto 4, 3) := by decide +kernel
theorem d_MM_attack_55 : decode b_MM_attack 55 = .ok (.iconst 0, 1) := by decide +kernel
theorem d_MM_attack_56 : decode b_MM_attack 56 = .ok (.invokestatic 150, 3) := by decide +kernel
theorem d_MM_attack_59 : decode b_MM_attack 59 = .ok (.iadd, 1) := by decide +kernel
theorem d_MM_attack_60 : decode b_MM_attack 60 = .ok (.istore_n 2, 1) := by decide +kernel
theorem d_MM_attack_61 : decode b_MM_attack 61 = .ok (.iinc 3 (-1), 3) := by decide +kernel
theorem d_MM_attack_64 : decode b_MM_attack 64 = .ok (.goto (-40), 3) := by decide +kernel
theorem d_MM_attack_67 : decode b_MM_attack 67 = .ok (.aload_n 0, 1) := by decide +kernel
theorem d_MM_attack_68 : decode b_MM_attack 68 = .ok (.aload_n 0, 1) := by decide +kernel
theorem d_MM_attack_69 : decode b_MM_attack 69 = .ok (.getfield 9, 3) := by decide +kernel
theorem d_MM_attack_72 : decode b_MM_attack 72 = .ok (.iconst 1, 1) := by decide +kernel
theorem d_MM_attack_73 : decode b_MM_attack 73 = .ok (.iaload, 1) := by decide +kernel
theorem d_MM_attack_74 : decode b_MM_attack 74 = .ok (.invokevirtual 205, 3) := by decide +kernel
theorem d_MM_attack_77 : decode b_MM_attack 77 = .ok (.ifCond .eq 27, 3) := by decide +kernel
theorem d_MM_attack_80 : decode b_MM_attack 80 = .ok (.aload_n 0, 1) := by decide +kernel
theorem d_MM_attack_81 : decode b_MM_attack 81 = .ok (.getfield 9, 3) := by decide +kernel
theorem d_MM_attack_84 : decode b_MM_attack 84 = .ok (.bipush 6, 2) := by decide +kernel
theorem d_MM_attack_86 : decode b_MM_attack 86 = .ok (.iaload, 1) := by decide +kernel
theorem d_MM_attack_87 : decode b_MM_attack 87 = .ok (.invokestatic 255, 3) := by decide +kernel
theorem d_MM_attack_90 : decode b_MM_attack 90 = .ok (.aload_n 0, 1) := by decide +kernel
theorem d_MM_attack_91 : decode b_MM_attack 91 = .ok (.getfield 9, 3) := by decide +kernel
theorem d_MM_attack_94 : decode b_MM_attack 94 = .ok (.iconst 3, 1) := by decide +kernel
theorem d_MM_attack_95 : decode b_MM_attack 95 = .ok (.iaload, 1) := by decide +kernel
theorem d_MM_attack_96 : decode b_MM_attack 96 = .ok (.if_icmp .lt 8, 3) := by decide +kernel
theorem d_MM_attack_99 : decode b_MM_attack 99 = .ok (.iload_n 2, 1) := by decide +kernel
theorem d_MM_attack_100 : decode b_MM_attack 100 = .ok (.iconst 2, 1) := by decide +kernel
theorem d_MM_attack_101 : decode b_MM_attack 101 = .ok (.if_icmp .ge 6, 3) := by decide +kernel
theorem d_MM_attack_104 : decode b_MM_attack 104 = .ok (.bipush (-2), 2) := by decide +kernel
theorem d_MM_attack_106 : decode b_MM_attack 106 = .ok (.ireturn, 1) := by decide +kernel
theorem d_MM_attack_107 : decode b_MM_attack 107 = .ok (.aload_n 0, 1) := by decide +kernel
theorem d_MM_attack_108 : decode b_MM_attack 108 = .ok (.invokevirtual 217, 3) := by decide +kernel
theorem d_MM_attack_111 : decode b_MM_attack 111 = .ok (.aload_n 0, 1) := by decide +kernel
theorem d_MM_attack_112 : decode b_MM_attack 112 = .ok (.getfield 9, 3) := by decide +kernel
theorem d_MM_attack_115 : decode b_MM_attack 115 = .ok (.bipush 7, 2) := by decide +kernel
theorem d_MM_attack_117 : decode b_MM_attack 117 = .ok (.iconst 0, 1) := by decide +kernel
theorem d_MM_attack_118 : decode b_MM_attack 118 = .ok (.iastore, 1) := by decide +kernel
theorem d_MM_attack_119 : decode b_MM_attack 119 = .ok (.aload_n 0, 1) := by decide +kernel
theorem d_MM_attack_120 : decode b_MM_attack 120 = .ok (.getfield 33, 3) := by decide +kernel
theorem d_MM_attack_123 : decode b_MM_attack 123 = .ok (.iconst 0, 1) := by decide +kernel
theorem d_MM_attack_124 : decode b_MM_attack 124 = .ok (.aload_n 0, 1) := by decide +kernel
theorem d_MM_attack_125 : decode b_MM_attack 125 = .ok (.getfield 9, 3) := by decide +kernel
theorem d_MM_attack_128 : decode b_MM_attack 128 = .ok (.iconst 1, 1) := by decide +kernel
theorem d_MM_attack_129 : decode b_MM_attack 129 = .ok (.iaload, 1) := by decide +kernel
theorem d_MM_attack_130 : decode b_MM_attack 130 = .ok (.iastore, 1) := by decide +kernel
theorem d_MM_attack_131 : decode b_MM_attack 131 = .ok (.iconst 1, 1) := by decide +kernel
theorem d_MM_attack_132 : decode b_MM_attack 132 = .ok (.istore_n 3, 1) := by decide +kernel
theorem d_MM_attack_133 : decode b_MM_attack 133 = .ok (.iconst 0, 1) := by decide +kernel
theorem d_MM_attack_134 : decode b_MM_attack 134 = .ok (.istore 4, 2) := by decide +kernel
theorem d_MM_attack_136 : decode b_MM_attack 136 = .ok (.iload_n 3, 1) := by decide +kernel
theorem d_MM_attack_137 : decode b_MM_attack 137 = .ok (.aload_n 0, 1) := by decide +kernel
theorem d_MM_attack_138 : decode b_MM_attack 138 = .ok (.getfield 9, 3) := by decide +kernel
theorem d_MM_attack_141 : decode b_MM_attack 141 = .ok (.iconst 3, 1) := by decide +kernel
theorem d_MM_attack_142 : decode b_MM_attack 142 = .ok (.iaload, 1) := by decide +kernel
theorem d_MM_attack_143 : decode b_MM_attack 143 = .ok (.if_icmp .ge 40, 3) := by decide +kernel
theorem d_MM_attack_146 : decode b_MM_attack 146 = .ok (.aload_n 0, 1) := by decide +kernel
theorem d_MM_attack_147 : decode b_MM_attack 147 = .ok (.iload 4, 2) := by decide +kernel
theorem d_MM_attack_149 : decode b_MM_attack 149 = .ok (.invokevirtual 205, 3) := by decide +kernel
theorem d_MM_attack_152 : decode b_MM_attack 152 = .ok (.ifCond .eq 25, 3) := by decide +kernel
theorem d_MM_attack_155 : decode b_MM_attack 155 = .ok (.iload 4, 2) := by decide +kernel
theorem d_MM_attack_157 : decode b_MM_attack 157 = .ok (.aload_n 0, 1) := by decide +kernel
theorem d_MM_attack_158 : decode b_MM_attack 158 = .ok (.getfield 9, 3) := by decide +kernel
theorem d_MM_attack_161 : decode b_MM_attack 161 = .ok (.iconst 1, 1) := by decide +kernel
theorem d_MM_attack_162 : decode b_MM_attack 162 = .ok (.iaload, 1) := by decide +kernel
theorem d_MM_attack_163 : decode b_MM_attack 163 = .ok (.if_icmp .eq 14, 3) := by decide +kernel
theorem d_MM_attack_166 : decode b_MM_attack 166 = .ok (.aload_n 0, 1) := by decide +kernel
theorem d_MM_attack_167 : decode b_MM_attack 167 = .ok (.getfield 33, 3) := by decide +kernel
theorem d_MM_attack_170 : decode b_MM_attack 170 = .ok (.iload_n 3, 1) := by decide +kernel
theorem d_MM_attack_171 : decode b_MM_attack 171 = .ok (.iload 4, 2) := by decide +kernel
theorem d_MM_attack_173 : decode b_MM_attack 173 = .ok (.iastore, 1) := by decide +kernel
theorem d_MM_attack_174 : decode b_MM_attack 174 = .ok (.iinc 3 1, 3) := by decide +kernel
theorem d_MM_attack_177 : decode b_MM_attack 177 = .ok (.iinc 4 1, 3) := by decide +kernel
theorem d_MM_attack_180 : decode b_MM_attack 180 = .ok (.goto (-44), 3) := by decide +kernel
theorem d_MM_attack_183 : decode b_MM_attack 183 = .ok (.aload_n 0, 1) := by decide +kernel
theorem d_MM_attack_184 : decode b_MM_attack 184 = .ok (.aload_n 0, 1) := by decide +kernel
theorem d_MM_attack_185 : decode b_MM_attack 185 = .ok (.getfield 9, 3) := by decide +kernel
theorem d_MM_attack_188 : decode b_MM_attack 188 = .ok (.iconst 3, 1) := by decide +kernel
theorem d_MM_attack_189 : decode b_MM_attack 189 = .ok (.iaload, 1) := by decide +kernel
theorem d_MM_attack_190 : decode b_MM_attack 190 = .ok (.aload_n 0, 1) := by decide +kernel
theorem d_MM_attack_191 : decode b_MM_attack 191 = .ok (.getfield 33, 3) := by decide +kernel
theorem d_MM_attack_194 : decode b_MM_attack 194 = .ok (.iload_n 3, 1) := by decide +kernel
theorem d_MM_attack_195 : decode b_MM_attack 195 = .ok (.iconst 1, 1) := by decide +kernel
theorem d_MM_attack_196 : decode b_MM_attack 196 = .ok (.isub, 1) := by decide +kernel
theorem d_MM_attack_197 : decode b_MM_attack 197 = .ok (.iaload, 1) := by decide +kernel
theorem d_MM_attack_198 : decode b_MM_attack 198 = .ok (.iload_n 1, 1) := by decide +kernel
theorem d_MM_attack_199 : decode b_MM_attack 199 = .ok (.aload_n 0, 1) := by decide +kernel
theorem d_MM_attack_200 : decode b_MM_attack 200 = .ok (.getfield 9, 3) := by decide +kernel
theorem d_MM_attack_203 : decode b_MM_attack 203 = .ok (.iconst 4, 1) := by decide +kernel
theorem d_MM_attack_204 : decode b_MM_attack 204 = .ok (.iaload, 1) := by decide +kernel
theorem d_MM_attack_205 : decode b_MM_attack 205 = .ok (.iconst 1, 1) := by decide +kernel
theorem d_MM_attack_206 : decode b_MM_attack 206 = .ok (.iadd, 1) := by decide +kernel
theorem d_MM_attack_207 : decode b_MM_attack 207 = .ok (.iconst 4, 1) := by decide +kernel
theorem d_MM_attack_208 : decode b_MM_attack 208 = .ok (.irem, 1) := by decide +kernel
theorem d_MM_attack_209 : decode b_MM_attack 209 = .ok (.iload_n 3, 1) := by decide +kernel
theorem d_MM_attack_210 : decode b_MM_attack 210 = .ok (.invokevirtual 227, 3) := by decide +kernel
theorem d_MM_attack_213 : decode b_MM_attack 213 = .ok (.iload_n 3, 1) := by decide +kernel
theorem d_MM_attack_214 : decode b_MM_attack 214 = .ok (.ireturn, 1) := by decide +kernel
theorem d_MM_traded_0 : decode b_MM_traded 0 = .ok (.iload_n 0, 1) := by decide +kernel
theorem d_MM_traded_1 : decode b_MM_traded 1 = .ok (.iload_n 1, 1) := by decide +kernel
theorem d_MM_traded_2 : decode b_MM_traded 2 = .ok (.if_icmp .ne 7, 3) := by decide +kernel
theorem d_MM_traded_5 : decode b_MM_traded 5 = .ok (.iload_n 2, 1) := by decide +kernel
theorem d_MM_traded_6 : decode b_MM_traded 6 = .ok (.goto 13, 3) := by decide +kernel
theorem d_MM_traded_9 : decode b_MM_traded 9 = .ok (.iload_n 0, 1) := by decide +kernel
theorem d_MM_traded_10 : decode b_MM_traded 10 = .ok (.iload_n 2, 1) := by decide +kernel
theorem d_MM_traded_11 : decode b_MM_traded 11 = .ok (.if_icmp .ne 7, 3) := by decide +kernel
theorem d_MM_traded_14 : decode b_MM_traded 14 = .ok (.iload_n 1, 1) := by decide +kernel
theorem d_MM_traded_15 : decode b_MM_traded 15 = .ok (.goto 4, 3) := by decide +kernel
theorem d_MM_traded_18 : decode b_MM_traded 18 = .ok (.iload_n 0, 1) := by decide +kernel
theorem d_MM_traded_19 : decode b_MM_traded 19 = .ok (.ireturn, 1) := by decide +kernel
theorem d_MM_trade_0 : decode b_MM_trade 0 = .ok (.aload_n 0, 1) := by decide +kernel
theorem d_MM_trade_1 : decode b_MM_trade 1 = .ok (.iload_n 1, 1) := by decide +kernel
theorem d_MM_trade_2 : decode b_MM_trade 2 = .ok (.iload_n 2, 1) := by decide +kernel
theorem d_MM_trade_3 : decode b_MM_trade 3 = .ok (.invokevirtual 224, 3) := by decide +kernel
theorem d_MM_trade_6 : decode b_MM_trade 6 = .ok (.ifCond .ne 5, 3) := by decide +kernel
theorem d_MM_trade_9 : decode b_MM_trade 9 = .ok (.iconst (-1), 1) := by decide +kernel
theorem d_MM_trade_10 : decode b_MM_trade 10 = .ok (.ireturn, 1) := by decide +kernel
theorem d_MM_trade_11 : decode b_MM_trade 11 = .ok (.aload_n 0, 1) := by decide +kernel
theorem d_MM_trade_12 : decode b_MM_trade 12 = .ok (.invokevirtual 217, 3) := by decide +kernel
theorem d_MM_trade_15 : decode b_MM_trade 15 = .ok (.aload_n 0, 1) := by decide +kernel
theorem d_MM_trade_16 : decode b_MM_trade 16 = .ok (.getfield 9, 3) := by decide +kernel
theorem d_MM_trade_19 : decode b_MM_trade 19 = .ok (.iconst 1, 1) := by decide +kernel
theorem d_MM_trade_20 : decode b_MM_trade 20 = .ok (.aload_n 0, 1) := by decide +kernel
theorem d_MM_trade_21 : decode b_MM_trade 21 = .ok (.getfield 9, 3) := by decide +kernel
theorem d_MM_trade_24 : decode b_MM_trade 24 = .ok (.iconst 1, 1) := by decide +kernel
theorem d_MM_trade_25 : decode b_MM_trade 25 = .ok (.iaload, 1) := by decide +kernel
theorem d_MM_trade_26 : decode b_MM_trade 26 = .ok (.iload_n 1, 1) := by decide +kernel
theorem d_MM_trade_27 : decode b_MM_trade 27 = .ok (.iload_n 2, 1) := by decide +kernel
theorem d_MM_trade_28 : decode b_MM_trade 28 = .ok (.invokestatic 260, 3) := by decide +kernel
theorem d_MM_trade_31 : decode b_MM_trade 31 = .ok (.iastore, 1) := by decide +kernel
theorem d_MM_trade_32 : decode b_MM_trade 32 = .ok (.iconst 0, 1) := by decide +kernel
theorem d_MM_trade_33 : decode b_MM_trade 33 = .ok (.istore_n 3, 1) := by decide +kernel
theorem d_MM_trade_34 : decode b_MM_trade 34 = .ok (.iconst 0, 1) := by decide +kernel
theorem d_MM_trade_35 : decode b_MM_trade 35 = .ok (.istore 4, 2) := by decide +kernel
theorem d_MM_trade_37 : decode b_MM_trade 37 = .ok (.iload 4, 2) := by decide +kernel
theorem d_MM_trade_39 : decode b_MM_trade 39 = .ok (.bipush 8, 2) := by decide +kernel
theorem d_MM_trade_41 : decode b_MM_trade 41 = .ok (.if_icmp .ge 34, 3) := by decide +kernel
theorem d_MM_trade_44 : decode b_MM_trade 44 = .ok (.iload_n 3, 1) := by decide +kernel
theorem d_MM_trade_45 : decode b_MM_trade 45 = .ok (.aload_n 0, 1) := by decide +kernel
theorem d_MM_trade_46 : decode b_MM_trade 46 = .ok (.iload 4, 2) := by decide +kernel
theorem d_MM_trade_48 : decode b_MM_trade 48 = .ok (.invokevirtual 205, 3) := by decide +kernel
theorem d_MM_trade_51 : decode b_MM_trade 51 = .ok (.ifCond .eq 15, 3) := by decide +kernel
theorem d_MM_trade_54 : decode b_MM_trade 54 = .ok (.iconst 1, 1) := by decide +kernel
theorem d_MM_trade_55 : decode b_MM_trade 55 = .ok (.iload 4, 2) := by decide +kernel
theorem d_MM_trade_57 : decode b_MM_trade 57 = .ok (.iload_n 1, 1) := by decide +kernel
theorem d_MM_trade_58 : decode b_MM_trade 58 = .ok (.iload_n 2, 1) := by decide +kernel
theorem d_MM_trade_59 : decode b_MM_trade 59 = .ok (.invokestatic 260, 3) := by decide +kernel
theorem d_MM_trade_62 : decode b_MM_trade 62 = .ok (.ishl, 1) := by decide +kernel
theorem d_MM_trade_63 : decode b_MM_trade 63 = .ok (.goto 4, 3) := by decide +kernel
theorem d_MM_trade_66 : decode b_MM_trade 66 = .ok (.iconst 0, 1) := by decide +kernel
theorem d_MM_trade_67 : decode b_MM_trade 67 = .ok (.ior, 1) := by decide +kernel
theorem d_MM_trade_68 : decode b_MM_trade 68 = .ok (.istore_n 3, 1) := by decide +kernel
theorem d_MM_trade_69 : decode b_MM_trade 69 = .ok (.iinc 4 1, 3) := by decide +kernel
theorem d_MM_trade_72 : decode b_MM_trade 72 = .ok (.goto (-35), 3) := by decide +kernel
theorem d_MM_trade_75 : decode b_MM_trade 75 = .ok (.aload_n 0, 1) := by decide +kernel
theorem d_MM_trade_76 : decode b_MM_trade 76 = .ok (.getfield 9, 3) := by decide +kernel
theorem d_MM_trade_79 : decode b_MM_trade 79 = .ok (.bipush 6, 2) := by decide +kernel
theorem d_MM_trade_81 : decode b_MM_trade 81 = .ok (.iload_n 3, 1) := by decide +kernel
theorem d_MM_trade_82 : decode b_MM_trade 82 = .ok (.iastore, 1) := by decide +kernel
theorem d_MM_trade_83 : decode b_MM_trade 83 = .ok (.iconst 0, 1) := by decide +kernel
theorem d_MM_trade_84 : decode b_MM_trade 84 = .ok (.istore 4, 2) := by decide +kernel
theorem d_MM_trade_86 : decode b_MM_trade 86 = .ok (.iload 4, 2) := by decide +kernel
theorem d_MM_trade_88 : decode b_MM_trade 88 = .ok (.iconst 3, 1) := by decide +kernel
theorem d_MM_trade_89 : decode b_MM_trade 89 = .ok (.if_icmp .ge 163, 3) := by decide +kernel
theorem d_MM_trade_92 : decode b_MM_trade 92 = .ok (.iconst 0, 1) := by decide +kernel
theorem d_MM_trade_93 : decode b_MM_trade 93 = .ok (.istore 5, 2) := by decide +kernel
theorem d_MM_trade_95 : decode b_MM_trade 95 = .ok (.iload 5, 2) := by decide +kernel
theorem d_MM_trade_97 : decode b_MM_trade 97 = .ok (.aload_n 0, 1) := by decide +kernel
theorem d_MM_trade_98 : decode b_MM_trade 98 = .ok (.getfield 9, 3) := by decide +kernel
theorem d_MM_trade_101 : decode b_MM_trade 101 = .ok (.bipush 7, 2) := by decide +kernel
theorem d_MM_trade_103 : decode b_MM_trade 103 = .ok (.iload 4, 2) := by decide +kernel
theorem d_MM_trade_105 : decode b_MM_trade 105 = .ok (.iadd, 1) := by decide +kernel
theorem d_MM_trade_106 : decode b_MM_trade 106 = .ok (.iaload, 1) := by decide +kernel
theorem d_MM_trade_107 : decode b_MM_trade 107 = .ok (.if_icmp .ge 139, 3) := by decide +kernel
theorem d_MM_trade_110 : decode b_MM_trade 110 = .ok (.iload 4, 2) := by decide +kernel
theorem d_MM_trade_112 : decode b_MM_trade 112 = .ok (.invokestatic 234, 3) := by decide +kernel
theorem d_MM_trade_115 : decode b_MM_trade 115 = .ok (.iload 4, 2) := by decide +kernel
theorem d_MM_trade_117 : decode b_MM_trade 117 = .ok (.invokestatic 231, 3) := by decide +kernel
theorem d_MM_trade_120 : decode b_MM_trade 120 = .ok (.iload 5, 2) := by decide +kernel
theorem d_MM_trade_122 : decode b_MM_trade 122 = .ok (.imul, 1) := by decide +kernel
theorem d_MM_trade_123 : decode b_MM_trade 123 = .ok (.iadd, 1) := by decide +kernel
theorem d_MM_trade_124 : decode b_MM_trade 124 = .ok (.istore 6, 2) := by decide +kernel
theorem d_MM_trade_126 : decode b_MM_trade 126 = .ok (.aload_n 0, 1) := by decide +kernel
theorem d_MM_trade_127 : decode b_MM_trade 127 = .ok (.getfield 9, 3) := by decide +kernel
theorem d_MM_trade_130 : decode b_MM_trade 130 = .ok (.iload 6, 2) := by decide +kernel
theorem d_MM_trade_132 : decode b_MM_trade 132 = .ok (.iconst 1, 1) := by decide +kernel
theorem d_MM_trade_133 : decode b_MM_trade 133 = .ok (.iadd, 1) := by decide +kernel
theorem d_MM_trade_134 : decode b_MM_trade 134 = .ok (.aload_n 0, 1) := by decide +kernel
theorem d_MM_trade_135 : decode b_MM_trade 135 = .ok (.getfield 9, 3) := by decide +kernel
theorem d_MM_trade_138 : decode b_MM_trade 138 = .ok (.iload 6, 2) := by decide +kernel
theorem d_MM_trade_140 : decode b_MM_trade 140 = .ok (.iconst 1, 1) := by decide +kernel
theorem d_MM_trade_141 : decode b_MM_trade 141 = .ok (.iadd, 1) := by decide +kernel
theorem d_MM_trade_142 : decode b_MM_trade 142 = .ok (.iaload, 1) := by decide +kernel
theorem d_MM_trade_143 : decode b_MM_trade 143 = .ok (.iload_n 1, 1) := by decide +kernel
theorem d_MM_trade_144 : decode b_MM_trade 144 = .ok (.iload_n 2, 1) := by decide +kernel
theorem d_MM_trade_145 : decode b_MM_trade 145 = .ok (.invokestatic 260, 3) := by decide +kernel
theorem d_MM_trade_148 : decode b_MM_trade 148 = .ok (.iastore, 1) := by decide +kernel
theorem d_MM_trade_149 : decode b_MM_trade 149 = .ok (.aload_n 0, 1) := by decide +kernel
theorem d_MM_trade_150 : decode b_MM_trade 150 = .ok (.getfield 9, 3) := by decide +kernel
theorem d_MM_trade_153 : decode b_MM_trade 153 = .ok (.iload 6, 2) := by decide +kernel
theorem d_MM_trade_155 : decode b_MM_trade 155 = .ok (.iconst 2, 1) := by decide +kernel
theorem d_MM_trade_156 : decode b_MM_trade 156 = .ok (.iadd, 1) := by decide +kernel
theorem d_MM_trade_157 : decode b_MM_trade 157 = .ok (.aload_n 0, 1) := by decide +kernel
theorem d_MM_trade_158 : decode b_MM_trade 158 = .ok (.getfield 9, 3) := by decide +kernel
theorem d_MM_trade_161 : decode b_MM_trade 161 = .ok (.iload 6, 2) := by decide +kernel
theorem d_MM_trade_163 : decode b_MM_trade 163 = .ok (.iconst 2, 1) := by decide +kernel
theorem d_MM_trade_164 : decode b_MM_trade 164 = .ok (.iadd, 1) := by decide +kernel
theorem d_MM_trade_165 : decode b_MM_trade 165 = .ok (.iaload, 1) := by decide +kernel
theorem d_MM_trade_166 : decode b_MM_trade 166 = .ok (.iload_n 1, 1) := by decide +kernel
theorem d_MM_trade_167 : decode b_MM_trade 167 = .ok (.iload_n 2, 1) := by decide +kernel
theorem d_MM_trade_168 : decode b_MM_trade 168 = .ok (.invokestatic 260, 3) := by decide +kernel
theorem d_MM_trade_171 : decode b_MM_trade 171 = .ok (.iastore, 1) := by decide +kernel
theorem d_MM_trade_172 : decode b_MM_trade 172 = .ok (.iconst 0, 1) := by decide +kernel
theorem d_MM_trade_173 : decode b_MM_trade 173 = .ok (.istore 7, 2) := by decide +kernel
theorem d_MM_trade_175 : decode b_MM_trade 175 = .ok (.iload 7, 2) := by decide +kernel
theorem d_MM_trade_177 : decode b_MM_trade 177 = .ok (.bipush 8, 2) := by decide +kernel
theorem d_MM_trade_179 : decode b_MM_trade 179 = .ok (.if_icmp .ge 61, 3) := by decide +kernel
theorem d_MM_trade_182 : decode b_MM_trade 182 = .ok (.iload 4, 2) := by decide +kernel
theorem d_MM_trade_184 : decode b_MM_trade 184 = .ok (.ifCond .ne 56, 3) := by decide +kernel
theorem d_MM_trade_187 : decode b_MM_trade 187 = .ok (.aload_n 0, 1) := by decide +kernel
theorem d_MM_trade_188 : decode b_MM_trade 188 = .ok (.getfield 9, 3) := by decide +kernel
theorem d_MM_trade_191 : decode b_MM_trade 191 = .ok (.iload 6, 2) := by decide +kernel
theorem d_MM_trade_193 : decode b_MM_trade 193 = .ok (.iconst 5, 1) := by decide +kernel
theorem d_MM_trade_194 : decode b_MM_trade 194 = .ok (.iadd, 1) := by decide +kernel
theorem d_MM_trade_195 : decode b_MM_trade 195 = .ok (.iload 7, 2) := by decide +kernel
theorem d_MM_trade_197 : decode b_MM_trade 197 = .ok (.iadd, 1) := by decide +kernel
theorem d_MM_trade_198 : decode b_MM_trade 198 = .ok (.iload 7, 2) := by decide +kernel
theorem d_MM_trade_200 : decode b_MM_trade 200 = .ok (.aload_n 0, 1) := by decide +kernel
theorem d_MM_trade_201 : decode b_MM_trade 201 = .ok (.getfield 9, 3) := by decide +kernel
theorem d_MM_trade_204 : decode b_MM_trade 204 = .ok (.iload 6, 2) := by decide +kernel
theorem d_MM_trade_206 : decode b_MM_trade 206 = .ok (.iconst 4, 1) := by decide +kernel
theorem d_MM_trade_207 : decode b_MM_trade 207 = .ok (.iadd, 1) := by decide +kernel
theorem d_MM_trade_208 : decode b_MM_trade 208 = .ok (.iaload, 1) := by decide +kernel
theorem d_MM_trade_209 : decode b_MM_trade 209 = .ok (.if_icmp .ge 23, 3) := by decide +kernel
theorem d_MM_trade_212 : decode b_MM_trade 212 = .ok (.aload_n 0, 1) := by decide +kernel
theorem d_MM_trade_213 : decode b_MM_trade 213 = .ok (.getfield 9, 3) := by decide +kernel
theorem d_MM_trade_216 : decode b_MM_trade 216 = .ok (.iload 6, 2) := by decide +kernel
theorem d_MM_trade_218 : decode b_MM_trade 218 = .ok (.iconst 5, 1) := by decide +kernel
theorem d_MM_trade_219 : decode b_MM_trade 219 = .ok (.iadd, 1) := by decide +kernel
theorem d_MM_trade_220 : decode b_MM_trade 220 = .ok (.iload 7, 2) := by decide +kernel
theorem d_MM_trade_222 : decode b_MM_trade 222 = .ok (.iadd, 1) := by decide +kernel
theorem d_MM_trade_223 : decode b_MM_trade 223 = .ok (.iaload, 1) := by decide +kernel
theorem d_MM_trade_224 : decode b_MM_trade 224 = .ok (.iload_n 1, 1) := by decide +kernel
theorem d_MM_trade_225 : decode b_MM_trade 225 = .ok (.iload_n 2, 1) := by decide +kernel
theorem d_MM_trade_226 : decode b_MM_trade 226 = .ok (.invokestatic 260, 3) := by decide +kernel
theorem d_MM_trade_229 : decode b_MM_trade 229 = .ok (.goto 4, 3) := by decide +kernel
theorem d_MM_trade_232 : decode b_MM_trade 232 = .ok (.iconst 0, 1) := by decide +kernel
theorem d_MM_trade_233 : decode b_MM_trade 233 = .ok (.iastore, 1) := by decide +kernel
theorem d_MM_trade_234 : decode b_MM_trade 234 = .ok (.iinc 7 1, 3) := by decide +kernel
theorem d_MM_trade_237 : decode b_MM_trade 237 = .ok (.goto (-62), 3) := by decide +kernel
theorem d_MM_trade_240 : decode b_MM_trade 240 = .ok (.iinc 5 1, 3) := by decide +kernel
theorem d_MM_trade_243 : decode b_MM_trade 243 = .ok (.goto (-148), 3) := by decide +kernel
theorem d_MM_trade_246 : decode b_MM_trade 246 = .ok (.iinc 4 1, 3) := by decide +kernel
theorem d_MM_trade_249 : decode b_MM_trade 249 = .ok (.goto (-163), 3) := by decide +kernel
theorem d_MM_trade_252 : decode b_MM_trade 252 = .ok (.aload_n 0, 1) := by decide +kernel
theorem d_MM_trade_253 : decode b_MM_trade 253 = .ok (.getfield 9, 3) := by decide +kernel
theorem d_MM_trade_256 : decode b_MM_trade 256 = .ok (.iconst 0, 1) := by decide +kernel
theorem d_MM_trade_257 : decode b_MM_trade 257 = .ok (.iaload, 1) := by decide +kernel
theorem d_MM_trade_258 : decode b_MM_trade 258 = .ok (.ireturn, 1) := by decide +kernel
theorem d_MM_isHonest_0 : decode b_MM_isHonest 0 = .ok (.aload_n 0, 1) := by decide +kernel
theorem d_MM_isHonest_1 : decode b_MM_isHonest 1 = .ok (.iload_n 1, 1) := by decide +kernel
theorem d_MM_isHonest_2 : decode b_MM_isHonest 2 = .ok (.invokevirtual 197, 3) := by decide +kernel
theorem d_MM_isHonest_5 : decode b_MM_isHonest 5 = .ok (.ifCond .eq 15, 3) := by decide +kernel
theorem d_MM_isHonest_8 : decode b_MM_isHonest 8 = .ok (.aload_n 0, 1) := by decide +kernel
theorem d_MM_isHonest_9 : decode b_MM_isHonest 9 = .ok (.iload_n 1, 1) := by decide +kernel
theorem d_MM_isHonest_10 : decode b_MM_isHonest 10 = .ok (.invokevirtual 205, 3) := by decide +kernel
theorem d_MM_isHonest_13 : decode b_MM_isHonest 13 = .ok (.ifCond .ne 7, 3) := by decide +kernel
theorem d_MM_isHonest_16 : decode b_MM_isHonest 16 = .ok (.iconst 1, 1) := by decide +kernel
theorem d_MM_isHonest_17 : decode b_MM_isHonest 17 = .ok (.goto 4, 3) := by decide +kernel
theorem d_MM_isHonest_20 : decode b_MM_isHonest 20 = .ok (.iconst 0, 1) := by decide +kernel
theorem d_MM_isHonest_21 : decode b_MM_isHonest 21 = .ok (.ireturn, 1) := by decide +kernel
theorem d_MM_cell_0 : decode b_MM_cell 0 = .ok (.iconst 4, 1) := by decide +kernel
theorem d_MM_cell_1 : decode b_MM_cell 1 = .ok (.iload_n 0, 1) := by decide +kernel
theorem d_MM_cell_2 : decode b_MM_cell 2 = .ok (.imul, 1) := by decide +kernel
theorem d_MM_cell_3 : decode b_MM_cell 3 = .ok (.iload_n 1, 1) := by decide +kernel
theorem d_MM_cell_4 : decode b_MM_cell 4 = .ok (.iadd, 1) := by decide +kernel
theorem d_MM_cell_5 : decode b_MM_cell 5 = .ok (.ireturn, 1) := by decide +kernel
theorem d_MM_sends_0 : decode b_MM_sends 0 = .ok (.aload_n 0, 1) := by decide +kernel
theorem d_MM_sends_1 : decode b_MM_sends 1 = .ok (.getfield 264, 3) := by decide +kernel
theorem d_MM_sends_4 : decode b_MM_sends 4 = .ok (.istore 6, 2) := by decide +kernel
theorem d_MM_sends_6 : decode b_MM_sends 6 = .ok (.aload_n 0, 1) := by decide +kernel
theorem d_MM_sends_7 : decode b_MM_sends 7 = .ok (.getfield 36, 3) := by decide +kernel
theorem d_MM_sends_10 : decode b_MM_sends 10 = .ok (.iload 6, 2) := by decide +kernel
theorem d_MM_sends_12 : decode b_MM_sends 12 = .ok (.iload_n 1, 1) := by decide +kernel
theorem d_MM_sends_13 : decode b_MM_sends 13 = .ok (.iastore, 1) := by decide +kernel
theorem d_MM_sends_14 : decode b_MM_sends 14 = .ok (.aload_n 0, 1) := by decide +kernel
theorem d_MM_sends_15 : decode b_MM_sends 15 = .ok (.getfield 39, 3) := by decide +kernel
theorem d_MM_sends_18 : decode b_MM_sends 18 = .ok (.iload 6, 2) := by decide +kernel
theorem d_MM_sends_20 : decode b_MM_sends 20 = .ok (.iload_n 2, 1) := by decide +kernel
theorem d_MM_sends_21 : decode b_MM_sends 21 = .ok (.iastore, 1) := by decide +kernel
theorem d_MM_sends_22 : decode b_MM_sends 22 = .ok (.aload_n 0, 1) := by decide +kernel
theorem d_MM_sends_23 : decode b_MM_sends 23 = .ok (.getfield 42, 3) := by decide +kernel
theorem d_MM_sends_26 : decode b_MM_sends 26 = .ok (.iload 6, 2) := by decide +kernel
theorem d_MM_sends_28 : decode b_MM_sends 28 = .ok (.iload_n 3, 1) := by decide +kernel
theorem d_MM_sends_29 : decode b_MM_sends 29 = .ok (.iastore, 1) := by decide +kernel
theorem d_MM_sends_30 : decode b_MM_sends 30 = .ok (.aload_n 0, 1) := by decide +kernel
theorem d_MM_sends_31 : decode b_MM_sends 31 = .ok (.getfield 45, 3) := by decide +kernel
theorem d_MM_sends_34 : decode b_MM_sends 34 = .ok (.iload 6, 2) := by decide +kernel
theorem d_MM_sends_36 : decode b_MM_sends 36 = .ok (.iload 4, 2) := by decide +kernel
theorem d_MM_sends_38 : decode b_MM_sends 38 = .ok (.iastore, 1) := by decide +kernel
theorem d_MM_sends_39 : decode b_MM_sends 39 = .ok (.aload_n 0, 1) := by decide +kernel
theorem d_MM_sends_40 : decode b_MM_sends 40 = .ok (.getfield 48, 3) := by decide +kernel
theorem d_MM_sends_43 : decode b_MM_sends 43 = .ok (.iload 6, 2) := by decide +kernel
theorem d_MM_sends_45 : decode b_MM_sends 45 = .ok (.iload 5, 2) := by decide +kernel
theorem d_MM_sends_47 : decode b_MM_sends 47 = .ok (.iastore, 1) := by decide +kernel
theorem d_MM_sends_48 : decode b_MM_sends 48 = .ok (.aload_n 0, 1) := by decide +kernel
theorem d_MM_sends_49 : decode b_MM_sends 49 = .ok (.getfield 54, 3) := by decide +kernel
theorem d_MM_sends_52 : decode b_MM_sends 52 = .ok (.iload 6, 2) := by decide +kernel
theorem d_MM_sends_54 : decode b_MM_sends 54 = .ok (.iconst 0, 1) := by decide +kernel
theorem d_MM_sends_55 : decode b_MM_sends 55 = .ok (.iastore, 1) := by decide +kernel
theorem d_MM_sends_56 : decode b_MM_sends 56 = .ok (.iconst 0, 1) := by decide +kernel
theorem d_MM_sends_57 : decode b_MM_sends 57 = .ok (.istore 7, 2) := by decide +kernel
theorem d_MM_sends_59 : decode b_MM_sends 59 = .ok (.iload 7, 2) := by decide +kernel
theorem d_MM_sends_61 : decode b_MM_sends 61 = .ok (.iload 5, 2) := by decide +kernel
theorem d_MM_sends_63 : decode b_MM_sends 63 = .ok (.if_icmp .ge 29, 3) := by decide +kernel
theorem d_MM_sends_66 : decode b_MM_sends 66 = .ok (.aload_n 0, 1) := by decide +kernel
theorem d_MM_sends_67 : decode b_MM_sends 67 = .ok (.getfield 57, 3) := by decide +kernel
theorem d_MM_sends_70 : decode b_MM_sends 70 = .ok (.bipush 8, 2) := by decide +kernel
theorem d_MM_sends_72 : decode b_MM_sends 72 = .ok (.iload 6, 2) := by decide +kernel
theorem d_MM_sends_74 : decode b_MM_sends 74 = .ok (.imul, 1) := by decide +kernel
theorem d_MM_sends_75 : decode b_MM_sends 75 = .ok (.iload 7, 2) := by decide +kernel
theorem d_MM_sends_77 : decode b_MM_sends 77 = .ok (.iadd, 1) := by decide +kernel
theorem d_MM_sends_78 : decode b_MM_sends 78 = .ok (.aload_n 0, 1) := by decide +kernel
theorem d_MM_sends_79 : decode b_MM_sends 79 = .ok (.getfield 33, 3) := by decide +kernel
theorem d_MM_sends_82 : decode b_MM_sends 82 = .ok (.iload 7, 2) := by decide +kernel
theorem d_MM_sends_84 : decode b_MM_sends 84 = .ok (.iaload, 1) := by decide +kernel
theorem d_MM_sends_85 : decode b_MM_sends 85 = .ok (.iastore, 1) := by decide +kernel
theorem d_MM_sends_86 : decode b_MM_sends 86 = .ok (.iinc 7 1, 3) := by decide +kernel
theorem d_MM_sends_89 : decode b_MM_sends 89 = .ok (.goto (-30), 3) := by decide +kernel
theorem d_MM_sends_92 : decode b_MM_sends 92 = .ok (.aload_n 0, 1) := by decide +kernel
theorem d_MM_sends_93 : decode b_MM_sends 93 = .ok (.iconst 2, 1) := by decide +kernel
theorem d_MM_sends_94 : decode b_MM_sends 94 = .ok (.iload_n 1, 1) := by decide +kernel
theorem d_MM_sends_95 : decode b_MM_sends 95 = .ok (.iload_n 2, 1) := by decide +kernel
theorem d_MM_sends_96 : decode b_MM_sends 96 = .ok (.iload_n 3, 1) := by decide +kernel
theorem d_MM_sends_97 : decode b_MM_sends 97 = .ok (.invokevirtual 244, 3) := by decide +kernel
theorem d_MM_sends_100 : decode b_MM_sends 100 = .ok (.istore 7, 2) := by decide +kernel
theorem d_MM_sends_102 : decode b_MM_sends 102 = .ok (.aload_n 0, 1) := by decide +kernel
theorem d_MM_sends_103 : decode b_MM_sends 103 = .ok (.getfield 72, 3) := by decide +kernel
theorem d_MM_sends_106 : decode b_MM_sends 106 = .ok (.iload_n 1, 1) := by decide +kernel
theorem d_MM_sends_107 : decode b_MM_sends 107 = .ok (.if_icmp .ne 23, 3) := by decide +kernel
theorem d_MM_sends_110 : decode b_MM_sends 110 = .ok (.aload_n 0, 1) := by decide +kernel
theorem d_MM_sends_111 : decode b_MM_sends 111 = .ok (.getfield 267, 3) := by decide +kernel
theorem d_MM_sends_114 : decode b_MM_sends 114 = .ok (.iload_n 2, 1) := by decide +kernel
theorem d_MM_sends_115 : decode b_MM_sends 115 = .ok (.if_icmp .ne 15, 3) := by decide +kernel
theorem d_MM_sends_118 : decode b_MM_sends 118 = .ok (.aload_n 0, 1) := by decide +kernel
theorem d_MM_sends_119 : decode b_MM_sends 119 = .ok (.getfield 270, 3) := by decide +kernel
theorem d_MM_sends_122 : decode b_MM_sends 122 = .ok (.iload_n 3, 1) := by decide +kernel
theorem d_MM_sends_123 : decode b_MM_sends 123 = .ok (.if_icmp .ne 7, 3) := by decide +kernel
theorem d_MM_sends_126 : decode b_MM_sends 126 = .ok (.iconst 1, 1) := by decide +kernel
theorem d_MM_sends_127 : decode b_MM_sends 127 = .ok (.goto 4, 3) := by decide +kernel
theorem d_MM_sends_130 : decode b_MM_sends 130 = .ok (.iconst 0, 1) := by decide +kernel
theorem d_MM_sends_131 : decode b_MM_sends 131 = .ok (.istore 8, 2) := by decide +kernel
theorem d_MM_sends_133 : decode b_MM_sends 133 = .ok (.iload_n 1, 1) := by decide +kernel
theorem d_MM_sends_134 : decode b_MM_sends 134 = .ok (.iload 8, 2) := by decide +kernel
theorem d_MM_sends_136 : decode b_MM_sends 136 = .ok (.ifCond .eq 10, 3) := by decide +kernel
theorem d_MM_sends_139 : decode b_MM_sends 139 = .ok (.aload_n 0, 1) := by decide +kernel
theorem d_MM_sends_140 : decode b_MM_sends 140 = .ok (.getfield 273, 3) := by decide +kernel
theorem d_MM_sends_143 : decode b_MM_sends 143 = .ok (.goto 28, 3) := by decide +kernel
theorem d_MM_sends_146 : decode b_MM_sends 146 = .ok (.iload 7, 2) := by decide +kernel
theorem d_MM_sends_148 : decode b_MM_sends 148 = .ok (.iconst (-1), 1) := by decide +kernel
theorem d_MM_sends_149 : decode b_MM_sends 149 = .ok (.if_icmp .ne 7, 3) := by decide +kernel
theorem d_MM_sends_152 : decode b_MM_sends 152 = .ok (.iconst 0, 1) := by decide +kernel
theorem d_MM_sends_153 : decode b_MM_sends 153 = .ok (.goto 18, 3) := by decide +kernel
theorem d_MM_sends_156 : decode b_MM_sends 156 = .ok (.aload_n 0, 1) := by decide +kernel
theorem d_MM_sends_157 : decode b_MM_sends 157 = .ok (.getfield 9, 3) := by decide +kernel
theorem d_MM_sends_160 : decode b_MM_sends 160 = .ok (.sipush 254, 3) := by decide +kernel
theorem d_MM_sends_163 : decode b_MM_sends 163 = .ok (.iconst 4, 1) := by decide +kernel
theorem d_MM_sends_164 : decode b_MM_sends 164 = .ok (.iload 7, 2) := by decide +kernel
theorem d_MM_sends_166 : decode b_MM_sends 166 = .ok (.imul, 1) := by decide +kernel
theorem d_MM_sends_167 : decode b_MM_sends 167 = .ok (.iadd, 1) := by decide +kernel
theorem d_MM_sends_168 : decode b_MM_sends 168 = .ok (.iconst 3, 1) := by decide +kernel
theorem d_MM_sends_169 : decode b_MM_sends 169 = .ok (.iadd, 1) := by decide +kernel
theorem d_MM_sends_170 : decode b_MM_sends 170 = .ok (.iaload, 1) := by decide +kernel
theorem d_MM_sends_171 : decode b_MM_sends 171 = .ok (.iadd, 1) := by decide +kernel
theorem d_MM_sends_172 : decode b_MM_sends 172 = .ok (.istore 9, 2) := by decide +kernel
theorem d_MM_sends_174 : decode b_MM_sends 174 = .ok (.aload_n 0, 1) := by decide +kernel
theorem d_MM_sends_175 : decode b_MM_sends 175 = .ok (.getfield 51, 3) := by decide +kernel
theorem d_MM_sends_178 : decode b_MM_sends 178 = .ok (.iload 6, 2) := by decide +kernel
theorem d_MM_sends_180 : decode b_MM_sends 180 = .ok (.aload_n 0, 1) := by decide +kernel
theorem d_MM_sends_181 : decode b_MM_sends 181 = .ok (.iconst 1, 1) := by decide +kernel
theorem d_MM_sends_182 : decode b_MM_sends 182 = .ok (.iload_n 1, 1) := by decide +kernel
theorem d_MM_sends_183 : decode b_MM_sends 183 = .ok (.iload_n 2, 1) := by decide +kernel
theorem d_MM_sends_184 : decode b_MM_sends 184 = .ok (.iload_n 3, 1) := by decide +kernel
theorem d_MM_sends_185 : decode b_MM_sends 185 = .ok (.invokevirtual 244, 3) := by decide +kernel
theorem d_MM_sends_188 : decode b_MM_sends 188 = .ok (.iconst (-1), 1) := by decide +kernel
theorem d_MM_sends_189 : decode b_MM_sends 189 = .ok (.if_icmp .ne 26, 3) := by decide +kernel
theorem d_MM_sends_192 : decode b_MM_sends 192 = .ok (.iload 8, 2) := by decide +kernel
theorem d_MM_sends_194 : decode b_MM_sends 194 = .ok (.ifCond .eq 10, 3) := by decide +kernel
theorem d_MM_sends_197 : decode b_MM_sends 197 = .ok (.aload_n 0, 1) := by decide +kernel
theorem d_MM_sends_198 : decode b_MM_sends 198 = .ok (.getfield 273, 3) := by decide +kernel
theorem d_MM_sends_201 : decode b_MM_sends 201 = .ok (.ifCond .eq 14, 3) := by decide +kernel
theorem d_MM_sends_204 : decode b_MM_sends 204 = .ok (.iload 9, 2) := by decide +kernel
theorem d_MM_sends_206 : decode b_MM_sends 206 = .ok (.aload_n 0, 1) := by decide +kernel
theorem d_MM_sends_207 : decode b_MM_sends 207 = .ok (.getfield 9, 3) := by decide +kernel
theorem d_MM_sends_210 : decode b_MM_sends 210 = .ok (.iconst 3, 1) := by decide +kernel
theorem d_MM_sends_211 : decode b_MM_sends 211 = .ok (.iaload, 1) := by decide +kernel
theorem d_MM_sends_212 : decode b_MM_sends 212 = .ok (.if_icmp .le 7, 3) := by decide +kernel
theorem d_MM_sends_215 : decode b_MM_sends 215 = .ok (.iconst (-1), 1) := by decide +kernel
theorem d_MM_sends_216 : decode b_MM_sends 216 = .ok (.goto 5, 3) := by decide +kernel
theorem d_MM_sends_219 : decode b_MM_sends 219 = .ok (.iload 9, 2) := by decide +kernel
theorem d_MM_sends_221 : decode b_MM_sends 221 = .ok (.iastore, 1) := by decide +kernel
theorem d_MM_sends_222 : decode b_MM_sends 222 = .ok (.aload_n 0, 1) := by decide +kernel
theorem d_MM_sends_223 : decode b_MM_sends 223 = .ok (.dup, 1) := by decide +kernel
theorem d_MM_sends_224 : decode b_MM_sends 224 = .ok (.getfield 264, 3) := by decide +kernel
theorem d_MM_sends_227 : decode b_MM_sends 227 = .ok (.iconst 1, 1) := by decide +kernel
theorem d_MM_sends_228 : decode b_MM_sends 228 = .ok (.iadd, 1) := by decide +kernel
theorem d_MM_sends_229 : decode b_MM_sends 229 = .ok (.putfield 264, 3) := by decide +kernel
theorem d_MM_sends_232 : decode b_MM_sends 232 = .ok (.iconst 0, 1) := by decide +kernel
theorem d_MM_sends_233 : decode b_MM_sends 233 = .ok (.istore 10, 2) := by decide +kernel
theorem d_MM_sends_235 : decode b_MM_sends 235 = .ok (.iload 10, 2) := by decide +kernel
theorem d_MM_sends_237 : decode b_MM_sends 237 = .ok (.iload 5, 2) := by decide +kernel
theorem d_MM_sends_239 : decode b_MM_sends 239 = .ok (.if_icmp .ge 74, 3) := by decide +kernel
theorem d_MM_sends_242 : decode b_MM_sends 242 = .ok (.aload_n 0, 1) := by decide +kernel
theorem d_MM_sends_243 : decode b_MM_sends 243 = .ok (.getfield 51, 3) := by decide +kernel
theorem d_MM_sends_246 : decode b_MM_sends 246 = .ok (.iload 6, 2) := by decide +kernel
theorem d_MM_sends_248 : decode b_MM_sends 248 = .ok (.iaload, 1) := by decide +kernel
theorem d_MM_sends_249 : decode b_MM_sends 249 = .ok (.iconst (-1), 1) := by decide +kernel
theorem d_MM_sends_250 : decode b_MM_sends 250 = .ok (.if_icmp .eq 63, 3) := by decide +kernel
theorem d_MM_sends_253 : decode b_MM_sends 253 = .ok (.aload_n 0, 1) := by decide +kernel
theorem d_MM_sends_254 : decode b_MM_sends 254 = .ok (.iload_n 3, 1) := by decide +kernel
theorem d_MM_sends_255 : decode b_MM_sends 255 = .ok (.invokevirtual 205, 3) := by decide +kernel
theorem d_MM_sends_258 : decode b_MM_sends 258 = .ok (.ifCond .eq 55, 3) := by decide +kernel
theorem d_MM_sends_261 : decode b_MM_sends 261 = .ok (.aload_n 0, 1) := by decide +kernel
theorem d_MM_sends_262 : decode b_MM_sends 262 = .ok (.getfield 66, 3) := by decide +kernel
theorem d_MM_sends_265 : decode b_MM_sends 265 = .ok (.aload_n 0, 1) := by decide +kernel
theorem d_MM_sends_266 : decode b_MM_sends 266 = .ok (.getfield 33, 3) := by decide +kernel
theorem d_MM_sends_269 : decode b_MM_sends 269 = .ok (.iload 10, 2) := by decide +kernel
theorem d_MM_sends_271 : decode b_MM_sends 271 = .ok (.iaload, 1) := by decide +kernel
theorem d_MM_sends_272 : decode b_MM_sends 272 = .ok (.iload 4, 2) := by decide +kernel
theorem d_MM_sends_274 : decode b_MM_sends 274 = .ok (.invokestatic 276, 3) := by decide +kernel
theorem d_MM_sends_277 : decode b_MM_sends 277 = .ok (.aload_n 0, 1) := by decide +kernel
theorem d_MM_sends_278 : decode b_MM_sends 278 = .ok (.getfield 66, 3) := by decide +kernel
theorem d_MM_sends_281 : decode b_MM_sends 281 = .ok (.aload_n 0, 1) := by decide +kernel
theorem d_MM_sends_282 : decode b_MM_sends 282 = .ok (.getfield 33, 3) := by decide +kernel
theorem d_MM_sends_285 : decode b_MM_sends 285 = .ok (.iload 10, 2) := by decide +kernel
theorem d_MM_sends_287 : decode b_MM_sends 287 = .ok (.iaload, 1) := by decide +kernel
theorem d_MM_sends_288 : decode b_MM_sends 288 = .ok (.iload 4, 2) := by decide +kernel
theorem d_MM_sends_290 : decode b_MM_sends 290 = .ok (.invokestatic 276, 3) := by decide +kernel
theorem d_MM_sends_293 : decode b_MM_sends 293 = .ok (.iaload, 1) := by decide +kernel
theorem d_MM_sends_294 : decode b_MM_sends 294 = .ok (.aload_n 0, 1) := by decide +kernel
theorem d_MM_sends_295 : decode b_MM_sends 295 = .ok (.getfield 51, 3) := by decide +kernel
theorem d_MM_sends_298 : decode b_MM_sends 298 = .ok (.iload 6, 2) := by decide +kernel
theorem d_MM_sends_300 : decode b_MM_sends 300 = .ok (.iaload, 1) := by decide +kernel
theorem d_MM_sends_301 : decode b_MM_sends 301 = .ok (.iconst 1, 1) := by decide +kernel
theorem d_MM_sends_302 : decode b_MM_sends 302 = .ok (.iadd, 1) := by decide +kernel
theorem d_MM_sends_303 : decode b_MM_sends 303 = .ok (.invokestatic 135, 3) := by decide +kernel
theorem d_MM_sends_306 : decode b_MM_sends 306 = .ok (.iastore, 1) := by decide +kernel
theorem d_MM_sends_307 : decode b_MM_sends 307 = .ok (.iinc 10 1, 3) := by decide +kernel
theorem d_MM_sends_310 : decode b_MM_sends 310 = .ok (.goto (-75), 3) := by decide +kernel
theorem d_MM_sends_313 : decode b_MM_sends 313 = .ok (.return_, 1) := by decide +kernel
theorem d_MM_sendsAll_0 : decode b_MM_sendsAll 0 = .ok (.iconst 0, 1) := by decide +kernel
theorem d_MM_sendsAll_1 : decode b_MM_sendsAll 1 = .ok (.istore 5, 2) := by decide +kernel
theorem d_MM_sendsAll_3 : decode b_MM_sendsAll 3 = .ok (.iload 5, 2) := by decide +kernel
theorem d_MM_sendsAll_5 : decode b_MM_sendsAll 5 = .ok (.aload_n 0, 1) := by decide +kernel
theorem d_MM_sendsAll_6 : decode b_MM_sendsAll 6 = .ok (.getfield 9, 3) := by decide +kernel
theorem d_MM_sendsAll_9 : decode b_MM_sendsAll 9 = .ok (.iconst 0, 1) := by decide +kernel
theorem d_MM_sendsAll_10 : decode b_MM_sendsAll 10 = .ok (.iaload, 1) := by decide +kernel
theorem d_MM_sendsAll_11 : decode b_MM_sendsAll 11 = .ok (.if_icmp .ge 26, 3) := by decide +kernel
theorem d_MM_sendsAll_14 : decode b_MM_sendsAll 14 = .ok (.iload 5, 2) := by decide +kernel
theorem d_MM_sendsAll_16 : decode b_MM_sendsAll 16 = .ok (.iload_n 2, 1) := by decide +kernel
theorem d_MM_sendsAll_17 : decode b_MM_sendsAll 17 = .ok (.if_icmp .eq 14, 3) := by decide +kernel
theorem d_MM_sendsAll_20 : decode b_MM_sendsAll 20 = .ok (.aload_n 0, 1) := by decide +kernel
theorem d_MM_sendsAll_21 : decode b_MM_sendsAll 21 = .ok (.iload_n 1, 1) := by decide +kernel
theorem d_MM_sendsAll_22 : decode b_MM_sendsAll 22 = .ok (.iload_n 2, 1) := by decide +kernel
theorem d_MM_sendsAll_23 : decode b_MM_sendsAll 23 = .ok (.iload 5, 2) := by decide +kernel
theorem d_MM_sendsAll_25 : decode b_MM_sendsAll 25 = .ok (.iload_n 3, 1) := by decide +kernel
theorem d_MM_sendsAll_26 : decode b_MM_sendsAll 26 = .ok (.iload 4, 2) := by decide +kernel
theorem d_MM_sendsAll_28 : decode b_MM_sendsAll 28 = .ok (.invokevirtual 279, 3) := by decide +kernel
theorem d_MM_sendsAll_31 : decode b_MM_sendsAll 31 = .ok (.iinc 5 1, 3) := by decide +kernel
theorem d_MM_sendsAll_34 : decode b_MM_sendsAll 34 = .ok (.goto (-31), 3) := by decide +kernel
theorem d_MM_sendsAll_37 : decode b_MM_sendsAll 37 = .ok (.return_, 1) := by decide +kernel
theorem d_MM_rank_0 : decode b_MM_rank 0 = .ok (.iconst 0, 1) := by decide +kernel
theorem d_MM_rank_1 : decode b_MM_rank 1 = .ok (.istore_n 3, 1) := by decide +kernel
theorem d_MM_rank_2 : decode b_MM_rank 2 = .ok (.iconst 0, 1) := by decide +kernel
theorem d_MM_rank_3 : decode b_MM_rank 3 = .ok (.istore 4, 2) := by decide +kernel
theorem d_MM_rank_5 : decode b_MM_rank 5 = .ok (.iload 4, 2) := by decide +kernel
theorem d_MM_rank_7 : decode b_MM_rank 7 = .ok (.iconst 4, 1) := by decide +kernel
theorem d_MM_rank_8 : decode b_MM_rank 8 = .ok (.if_icmp .ge 81, 3) := by decide +kernel
theorem d_MM_rank_11 : decode b_MM_rank 11 = .ok (.aload_n 0, 1) := by decide +kernel
theorem d_MM_rank_12 : decode b_MM_rank 12 = .ok (.getfield 60, 3) := by decide +kernel
theorem d_MM_rank_15 : decode b_MM_rank 15 = .ok (.iload_n 1, 1) := by decide +kernel
theorem d_MM_rank_16 : decode b_MM_rank 16 = .ok (.iload 4, 2) := by decide +kernel
theorem d_MM_rank_18 : decode b_MM_rank 18 = .ok (.invokestatic 276, 3) := by decide +kernel
theorem d_MM_rank_21 : decode b_MM_rank 21 = .ok (.iaload, 1) := by decide +kernel
theorem d_MM_rank_22 : decode b_MM_rank 22 = .ok (.istore 5, 2) := by decide +kernel
theorem d_MM_rank_24 : decode b_MM_rank 24 = .ok (.iload_n 3, 1) := by decide +kernel
theorem d_MM_rank_25 : decode b_MM_rank 25 = .ok (.iload 4, 2) := by decide +kernel
theorem d_MM_rank_27 : decode b_MM_rank 27 = .ok (.iload_n 2, 1) := by decide +kernel
theorem d_MM_rank_28 : decode b_MM_rank 28 = .ok (.if_icmp .eq 49, 3) := by decide +kernel
theorem d_MM_rank_31 : decode b_MM_rank 31 = .ok (.iload 5, 2) := by decide +kernel
theorem d_MM_rank_33 : decode b_MM_rank 33 = .ok (.iconst (-1), 1) := by decide +kernel
theorem d_MM_rank_34 : decode b_MM_rank 34 = .ok (.if_icmp .eq 43, 3) := by decide +kernel
theorem d_MM_rank_37 : decode b_MM_rank 37 = .ok (.iload 5, 2) := by decide +kernel
theorem d_MM_rank_39 : decode b_MM_rank 39 = .ok (.aload_n 0, 1) := by decide +kernel
theorem d_MM_rank_40 : decode b_MM_rank 40 = .ok (.getfield 60, 3) := by decide +kernel
theorem d_MM_rank_43 : decode b_MM_rank 43 = .ok (.iload_n 1, 1) := by decide +kernel
theorem d_MM_rank_44 : decode b_MM_rank 44 = .ok (.iload_n 2, 1) := by decide +kernel
theorem d_MM_rank_45 : decode b_MM_rank 45 = .ok (.invokestatic 276, 3) := by decide +kernel
theorem d_MM_rank_48 : decode b_MM_rank 48 = .ok (.iaload, 1) := by decide +kernel
theorem d_MM_rank_49 : decode b_MM_rank 49 = .ok (.if_icmp .lt 24, 3) := by decide +kernel
theorem d_MM_rank_52 : decode b_MM_rank 52 = .ok (.iload 5, 2) := by decide +kernel
theorem d_MM_rank_54 : decode b_MM_rank 54 = .ok (.aload_n 0, 1) := by decide +kernel
theorem d_MM_rank_55 : decode b_MM_rank 55 = .ok (.getfield 60, 3) := by decide +kernel
theorem d_MM_rank_58 : decode b_MM_rank 58 = .ok (.iload_n 1, 1) := by decide +kernel
theorem d_MM_rank_59 : decode b_MM_rank 59 = .ok (.iload_n 2, 1) := by decide +kernel
theorem d_MM_rank_60 : decode b_MM_rank 60 = .ok (.invokestatic 276, 3) := by decide +kernel
theorem d_MM_rank_63 : decode b_MM_rank 63 = .ok (.iaload, 1) := by decide +kernel
theorem d_MM_rank_64 : decode b_MM_rank 64 = .ok (.if_icmp .ne 13, 3) := by decide +kernel
theorem d_MM_rank_67 : decode b_MM_rank 67 = .ok (.iload 4, 2) := by decide +kernel
theorem d_MM_rank_69 : decode b_MM_rank 69 = .ok (.iload_n 2, 1) := by decide +kernel
theorem d_MM_rank_70 : decode b_MM_rank 70 = .ok (.if_icmp .ge 7, 3) := by decide +kernel
theorem d_MM_rank_73 : decode b_MM_rank 73 = .ok (.iconst 1, 1) := by decide +kernel
theorem d_MM_rank_74 : decode b_MM_rank 74 = .ok (.goto 4, 3) := by decide +kernel
theorem d_MM_rank_77 : decode b_MM_rank 77 = .ok (.iconst 0, 1) := by decide +kernel
theorem d_MM_rank_78 : decode b_MM_rank 78 = .ok (.invokestatic 150, 3) := by decide +kernel
theorem d_MM_rank_81 : decode b_MM_rank 81 = .ok (.iadd, 1) := by decide +kernel
theorem d_MM_rank_82 : decode b_MM_rank 82 = .ok (.istore_n 3, 1) := by decide +kernel
theorem d_MM_rank_83 : decode b_MM_rank 83 = .ok (.iinc 4 1, 3) := by decide +kernel
theorem d_MM_rank_86 : decode b_MM_rank 86 = .ok (.goto (-81), 3) := by decide +kernel
theorem d_MM_rank_89 : decode b_MM_rank 89 = .ok (.iload_n 3, 1) := by decide +kernel
theorem d_MM_rank_90 : decode b_MM_rank 90 = .ok (.ireturn, 1) := by decide +kernel
theorem d_MM_relays_0 : decode b_MM_relays 0 = .ok (.aload_n 0, 1) := by decide +kernel
theorem d_MM_relays_1 : decode b_MM_relays 1 = .ok (.getfield 60, 3) := by decide +kernel
theorem d_MM_relays_4 : decode b_MM_relays 4 = .ok (.iload_n 1, 1) := by decide +kernel
theorem d_MM_relays_5 : decode b_MM_relays 5 = .ok (.iload_n 2, 1) := by decide +kernel
theorem d_MM_relays_6 : decode b_MM_relays 6 = .ok (.invokestatic 276, 3) := by decide +kernel
theorem d_MM_relays_9 : decode b_MM_relays 9 = .ok (.iaload, 1) := by decide +kernel
theorem d_MM_relays_10 : decode b_MM_relays 10 = .ok (.ifCond .le 22, 3) := by decide +kernel
theorem d_MM_relays_13 : decode b_MM_relays 13 = .ok (.aload_n 0, 1) := by decide +kernel
theorem d_MM_relays_14 : decode b_MM_relays 14 = .ok (.iload_n 1, 1) := by decide +kernel
theorem d_MM_relays_15 : decode b_MM_relays 15 = .ok (.iload_n 2, 1) := by decide +kernel
theorem d_MM_relays_16 : decode b_MM_relays 16 = .ok (.invokevirtual 282, 3) := by decide +kernel
theorem d_MM_relays_19 : decode b_MM_relays 19 = .ok (.aload_n 0, 1) := by decide +kernel
theorem d_MM_relays_20 : decode b_MM_relays 20 = .ok (.getfield 9, 3) := by decide +kernel
theorem d_MM_relays_23 : decode b_MM_relays 23 = .ok (.iconst 5, 1) := by decide +kernel
theorem d_MM_relays_24 : decode b_MM_relays 24 = .ok (.iaload, 1) := by decide +kernel
theorem d_MM_relays_25 : decode b_MM_relays 25 = .ok (.if_icmp .ge 7, 3) := by decide +kernel
theorem d_MM_relays_28 : decode b_MM_relays 28 = .ok (.iconst 1, 1) := by decide +kernel
theorem d_MM_relays_29 : decode b_MM_relays 29 = .ok (.goto 4, 3) := by decide +kernel
theorem d_MM_relays_32 : decode b_MM_relays 32 = .ok (.iconst 0, 1) := by decide +kernel
theorem d_MM_relays_33 : decode b_MM_relays 33 = .ok (.ireturn, 1) := by decide +kernel
theorem d_MM_sendsHonest_0 : decode b_MM_sendsHonest 0 = .ok (.iload_n 1, 1) := by decide +kernel
theorem d_MM_sendsHonest_1 : decode b_MM_sendsHonest 1 = .ok (.iconst 1, 1) := by decide +kernel
theorem d_MM_sendsHonest_2 : decode b_MM_sendsHonest 2 = .ok (.if_icmp .ne 33, 3) := by decide +kernel
theorem d_MM_sendsHonest_5 : decode b_MM_sendsHonest 5 = .ok (.iload_n 2, 1) := by decide +kernel
theorem d_MM_sendsHonest_6 : decode b_MM_sendsHonest 6 = .ok (.aload_n 0, 1) := by decide +kernel
theorem d_MM_sendsHonest_7 : decode b_MM_sendsHonest 7 = .ok (.getfield 9, 3) := by decide +kernel
theorem d_MM_sendsHonest_10 : decode b_MM_sendsHonest 10 = .ok (.iconst 1, 1) := by decide +kernel
theorem d_MM_sendsHonest_11 : decode b_MM_sendsHonest 11 = .ok (.iaload, 1) := by decide +kernel
theorem d_MM_sendsHonest_12 : decode b_MM_sendsHonest 12 = .ok (.if_icmp .ne 23, 3) := by decide +kernel
theorem d_MM_sendsHonest_15 : decode b_MM_sendsHonest 15 = .ok (.aload_n 0, 1) := by decide +kernel
theorem d_MM_sendsHonest_16 : decode b_MM_sendsHonest 16 = .ok (.getfield 33, 3) := by decide +kernel
theorem d_MM_sendsHonest_19 : decode b_MM_sendsHonest 19 = .ok (.iconst 0, 1) := by decide +kernel
theorem d_MM_sendsHonest_20 : decode b_MM_sendsHonest 20 = .ok (.iload_n 2, 1) := by decide +kernel
theorem d_MM_sendsHonest_21 : decode b_MM_sendsHonest 21 = .ok (.iastore, 1) := by decide +kernel
theorem d_MM_sendsHonest_22 : decode b_MM_sendsHonest 22 = .ok (.aload_n 0, 1) := by decide +kernel
theorem d_MM_sendsHonest_23 : decode b_MM_sendsHonest 23 = .ok (.iload_n 1, 1) := by decide +kernel
theorem d_MM_sendsHonest_24 : decode b_MM_sendsHonest 24 = .ok (.iload_n 2, 1) := by decide +kernel
theorem d_MM_sendsHonest_25 : decode b_MM_sendsHonest 25 = .ok (.aload_n 0, 1) := by decide +kernel
theorem d_MM_sendsHonest_26 : decode b_MM_sendsHonest 26 = .ok (.getfield 9, 3) := by decide +kernel
theorem d_MM_sendsHonest_29 : decode b_MM_sendsHonest 29 = .ok (.iconst 2, 1) := by decide +kernel
theorem d_MM_sendsHonest_30 : decode b_MM_sendsHonest 30 = .ok (.iaload, 1) := by decide +kernel
theorem d_MM_sendsHonest_31 : decode b_MM_sendsHonest 31 = .ok (.iconst 1, 1) := by decide +kernel
theorem d_MM_sendsHonest_32 : decode b_MM_sendsHonest 32 = .ok (.invokevirtual 285, 3) := by decide +kernel
theorem d_MM_sendsHonest_35 : decode b_MM_sendsHonest 35 = .ok (.iconst 0, 1) := by decide +kernel
theorem d_MM_sendsHonest_36 : decode b_MM_sendsHonest 36 = .ok (.istore_n 3, 1) := by decide +kernel
theorem d_MM_sendsHonest_37 : decode b_MM_sendsHonest 37 = .ok (.iload_n 3, 1) := by decide +kernel
theorem d_MM_sendsHonest_38 : decode b_MM_sendsHonest 38 = .ok (.iconst 4, 1) := by decide +kernel
theorem d_MM_sendsHonest_39 : decode b_MM_sendsHonest 39 = .ok (.if_icmp .ge 121, 3) := by decide +kernel
theorem d_MM_sendsHonest_42 : decode b_MM_sendsHonest 42 = .ok (.iload_n 1, 1) := by decide +kernel
theorem d_MM_sendsHonest_43 : decode b_MM_sendsHonest 43 = .ok (.iconst 1, 1) := by decide +kernel
theorem d_MM_sendsHonest_44 : decode b_MM_sendsHonest 44 = .ok (.if_icmp .le 116, 3) := by decide +kernel
theorem d_MM_sendsHonest_47 : decode b_MM_sendsHonest 47 = .ok (.aload_n 0, 1) := by decide +kernel
theorem d_MM_sendsHonest_48 : decode b_MM_sendsHonest 48 = .ok (.getfield 60, 3) := by decide +kernel
theorem d_MM_sendsHonest_51 : decode b_MM_sendsHonest 51 = .ok (.iload_n 2, 1) := by decide +kernel
theorem d_MM_sendsHonest_52 : decode b_MM_sendsHonest 52 = .ok (.iload_n 3, 1) := by decide +kernel
theorem d_MM_sendsHonest_53 : decode b_MM_sendsHonest 53 = .ok (.invokestatic 276, 3) := by decide +kernel
theorem d_MM_sendsHonest_56 : decode b_MM_sendsHonest 56 = .ok (.iaload, 1) := by decide +kernel
theorem d_MM_sendsHonest_57 : decode b_MM_sendsHonest 57 = .ok (.iload_n 1, 1) := by decide +kernel
theorem d_MM_sendsHonest_58 : decode b_MM_sendsHonest 58 = .ok (.iconst 1, 1) := by decide +kernel
theorem d_MM_sendsHonest_59 : decode b_MM_sendsHonest 59 = .ok (.isub, 1) := by decide +kernel
theorem d_MM_sendsHonest_60 : decode b_MM_sendsHonest 60 = .ok (.if_icmp .ne 94, 3) := by decide +kernel
theorem d_MM_sendsHonest_63 : decode b_MM_sendsHonest 63 = .ok (.aload_n 0, 1) := by decide +kernel
theorem d_MM_sendsHonest_64 : decode b_MM_sendsHonest 64 = .ok (.iload_n 2, 1) := by decide +kernel
theorem d_MM_sendsHonest_65 : decode b_MM_sendsHonest 65 = .ok (.iload_n 3, 1) := by decide +kernel
theorem d_MM_sendsHonest_66 : decode b_MM_sendsHonest 66 = .ok (.invokevirtual 288, 3) := by decide +kernel
theorem d_MM_sendsHonest_69 : decode b_MM_sendsHonest 69 = .ok (.ifCond .eq 85, 3) := by decide +kernel
theorem d_MM_sendsHonest_72 : decode b_MM_sendsHonest 72 = .ok (.aload_n 0, 1) := by decide +kernel
theorem d_MM_sendsHonest_73 : decode b_MM_sendsHonest 73 = .ok (.getfield 63, 3) := by decide +kernel
theorem d_MM_sendsHonest_76 : decode b_MM_sendsHonest 76 = .ok (.iload_n 2, 1) := by decide +kernel
theorem d_MM_sendsHonest_77 : decode b_MM_sendsHonest 77 = .ok (.iload_n 3, 1) := by decide +kernel
theorem d_MM_sendsHonest_78 : decode b_MM_sendsHonest 78 = .ok (.invokestatic 276, 3) := by decide +kernel
theorem d_MM_sendsHonest_81 : decode b_MM_sendsHonest 81 = .ok (.iaload, 1) := by decide +kernel
theorem d_MM_sendsHonest_82 : decode b_MM_sendsHonest 82 = .ok (.istore 4, 2) := by decide +kernel
theorem d_MM_sendsHonest_84 : decode b_MM_sendsHonest 84 = .ok (.iconst 0, 1) := by decide +kernel
theorem d_MM_sendsHonest_85 : decode b_MM_sendsHonest 85 = .ok (.istore 5, 2) := by decide +kernel
theorem d_MM_sendsHonest_87 : decode b_MM_sendsHonest 87 = .ok (.iload 5, 2) := by decide +kernel
theorem d_MM_sendsHonest_89 : decode b_MM_sendsHonest 89 = .ok (.aload_n 0, 1) := by decide +kernel
theorem d_MM_sendsHonest_90 : decode b_MM_sendsHonest 90 = .ok (.getfield 48, 3) := by decide +kernel
theorem d_MM_sendsHonest_93 : decode b_MM_sendsHonest 93 = .ok (.iload 4, 2) := by decide +kernel
theorem d_MM_sendsHonest_95 : decode b_MM_sendsHonest 95 = .ok (.iaload, 1) := by decide +kernel
theorem d_MM_sendsHonest_96 : decode b_MM_sendsHonest 96 = .ok (.if_icmp .ge 29, 3) := by decide +kernel
theorem d_MM_sendsHonest_99 : decode b_MM_sendsHonest 99 = .ok (.aload_n 0, 1) := by decide +kernel
theorem d_MM_sendsHonest_100 : decode b_MM_sendsHonest 100 = .ok (.getfield 33, 3) := by decide +kernel
theorem d_MM_sendsHonest_103 : decode b_MM_sendsHonest 103 = .ok (.iload 5, 2) := by decide +kernel
theorem d_MM_sendsHonest_105 : decode b_MM_sendsHonest 105 = .ok (.aload_n 0, 1) := by decide +kernel
theorem d_MM_sendsHonest_106 : decode b_MM_sendsHonest 106 = .ok (.getfield 57, 3) := by decide +kernel
theorem d_MM_sendsHonest_109 : decode b_MM_sendsHonest 109 = .ok (.bipush 8, 2) := by decide +kernel
theorem d_MM_sendsHonest_111 : decode b_MM_sendsHonest 111 = .ok (.iload 4, 2) := by decide +kernel
theorem d_MM_sendsHonest_113 : decode b_MM_sendsHonest 113 = .ok (.imul, 1) := by decide +kernel
theorem d_MM_sendsHonest_114 : decode b_MM_sendsHonest 114 = .ok (.iload 5, 2) := by decide +kernel
theorem d_MM_sendsHonest_116 : decode b_MM_sendsHonest 116 = .ok (.iadd, 1) := by decide +kernel
theorem d_MM_sendsHonest_117 : decode b_MM_sendsHonest 117 = .ok (.iaload, 1) := by decide +kernel
theorem d_MM_sendsHonest_118 : decode b_MM_sendsHonest 118 = .ok (.iastore, 1) := by decide +kernel
theorem d_MM_sendsHonest_119 : decode b_MM_sendsHonest 119 = .ok (.iinc 5 1, 3) := by decide +kernel
theorem d_MM_sendsHonest_122 : decode b_MM_sendsHonest 122 = .ok (.goto (-35), 3) := by decide +kernel
theorem d_MM_sendsHonest_125 : decode b_MM_sendsHonest 125 = .ok (.aload_n 0, 1) := by decide +kernel
theorem d_MM_sendsHonest_126 : decode b_MM_sendsHonest 126 = .ok (.getfield 33, 3) := by decide +kernel
theorem d_MM_sendsHonest_129 : decode b_MM_sendsHonest 129 = .ok (.aload_n 0, 1) := by decide +kernel
theorem d_MM_sendsHonest_130 : decode b_MM_sendsHonest 130 = .ok (.getfield 48, 3) := by decide +kernel
theorem d_MM_sendsHonest_133 : decode b_MM_sendsHonest 133 = .ok (.iload 4, 2) := by decide +kernel
theorem d_MM_sendsHonest_135 : decode b_MM_sendsHonest 135 = .ok (.iaload, 1) := by decide +kernel
theorem d_MM_sendsHonest_136 : decode b_MM_sendsHonest 136 = .ok (.iload_n 2, 1) := by decide +kernel
theorem d_MM_sendsHonest_137 : decode b_MM_sendsHonest 137 = .ok (.iastore, 1) := by decide +kernel
theorem d_MM_sendsHonest_138 : decode b_MM_sendsHonest 138 = .ok (.aload_n 0, 1) := by decide +kernel
theorem d_MM_sendsHonest_139 : decode b_MM_sendsHonest 139 = .ok (.iload_n 1, 1) := by decide +kernel
theorem d_MM_sendsHonest_140 : decode b_MM_sendsHonest 140 = .ok (.iload_n 2, 1) := by decide +kernel
theorem d_MM_sendsHonest_141 : decode b_MM_sendsHonest 141 = .ok (.iload_n 3, 1) := by decide +kernel
theorem d_MM_sendsHonest_142 : decode b_MM_sendsHonest 142 = .ok (.aload_n 0, 1) := by decide +kernel
theorem d_MM_sendsHonest_143 : decode b_MM_sendsHonest 143 = .ok (.getfield 48, 3) := by decide +kernel
theorem d_MM_sendsHonest_146 : decode b_MM_sendsHonest 146 = .ok (.iload 4, 2) := by decide +kernel
theorem d_MM_sendsHonest_148 : decode b_MM_sendsHonest 148 = .ok (.iaload, 1) := by decide +kernel
theorem d_MM_sendsHonest_149 : decode b_MM_sendsHonest 149 = .ok (.iconst 1, 1) := by decide +kernel
theorem d_MM_sendsHonest_150 : decode b_MM_sendsHonest 150 = .ok (.iadd, 1) := by decide +kernel
theorem d_MM_sendsHonest_151 : decode b_MM_sendsHonest 151 = .ok (.invokevirtual 285, 3) := by decide +kernel
theorem d_MM_sendsHonest_154 : decode b_MM_sendsHonest 154 = .ok (.iinc 3 1, 3) := by decide +kernel
theorem d_MM_sendsHonest_157 : decode b_MM_sendsHonest 157 = .ok (.goto (-120), 3) := by decide +kernel
theorem d_MM_sendsHonest_160 : decode b_MM_sendsHonest 160 = .ok (.return_, 1) := by decide +kernel
theorem d_MM_isForged_0 : decode b_MM_isForged 0 = .ok (.iconst 0, 1) := by decide +kernel
theorem d_MM_isForged_1 : decode b_MM_isForged 1 = .ok (.istore_n 3, 1) := by decide +kernel
theorem d_MM_isForged_2 : decode b_MM_isForged 2 = .ok (.iload_n 3, 1) := by decide +kernel
theorem d_MM_isForged_3 : decode b_MM_isForged 3 = .ok (.aload_n 0, 1) := by decide +kernel
theorem d_MM_isForged_4 : decode b_MM_isForged 4 = .ok (.getfield 9, 3) := by decide +kernel
theorem d_MM_isForged_7 : decode b_MM_isForged 7 = .ok (.iload_n 1, 1) := by decide +kernel
theorem d_MM_isForged_8 : decode b_MM_isForged 8 = .ok (.iconst 4, 1) := by decide +kernel
theorem d_MM_isForged_9 : decode b_MM_isForged 9 = .ok (.iadd, 1) := by decide +kernel
theorem d_MM_isForged_10 : decode b_MM_isForged 10 = .ok (.iaload, 1) := by decide +kernel
theorem d_MM_isForged_11 : decode b_MM_isForged 11 = .ok (.if_icmp .ge 41, 3) := by decide +kernel
theorem d_MM_isForged_14 : decode b_MM_isForged 14 = .ok (.aload_n 0, 1) := by decide +kernel
theorem d_MM_isForged_15 : decode b_MM_isForged 15 = .ok (.getfield 66, 3) := by decide +kernel
theorem d_MM_isForged_18 : decode b_MM_isForged 18 = .ok (.aload_n 0, 1) := by decide +kernel
theorem d_MM_isForged_19 : decode b_MM_isForged 19 = .ok (.getfield 9, 3) := by decide +kernel
theorem d_MM_isForged_22 : decode b_MM_isForged 22 = .ok (.iload_n 1, 1) := by decide +kernel
theorem d_MM_isForged_23 : decode b_MM_isForged 23 = .ok (.iconst 5, 1) := by decide +kernel
theorem d_MM_isForged_24 : decode b_MM_isForged 24 = .ok (.iadd, 1) := by decide +kernel
theorem d_MM_isForged_25 : decode b_MM_isForged 25 = .ok (.iload_n 3, 1) := by decide +kernel
theorem d_MM_isForged_26 : decode b_MM_isForged 26 = .ok (.iadd, 1) := by decide +kernel
theorem d_MM_isForged_27 : decode b_MM_isForged 27 = .ok (.iaload, 1) := by decide +kernel
theorem d_MM_isForged_28 : decode b_MM_isForged 28 = .ok (.aload_n 0, 1) := by decide +kernel
theorem d_MM_isForged_29 : decode b_MM_isForged 29 = .ok (.getfield 9, 3) := by decide +kernel
theorem d_MM_isForged_32 : decode b_MM_isForged 32 = .ok (.iload_n 1, 1) := by decide +kernel
theorem d_MM_isForged_33 : decode b_MM_isForged 33 = .ok (.iconst 3, 1) := by decide +kernel
theorem d_MM_isForged_34 : decode b_MM_isForged 34 = .ok (.iadd, 1) := by decide +kernel
theorem d_MM_isForged_35 : decode b_MM_isForged 35 = .ok (.iaload, 1) := by decide +kernel
theorem d_MM_isForged_36 : decode b_MM_isForged 36 = .ok (.invokestatic 276, 3) := by decide +kernel
theorem d_MM_isForged_39 : decode b_MM_isForged 39 = .ok (.iaload, 1) := by decide +kernel
theorem d_MM_isForged_40 : decode b_MM_isForged 40 = .ok (.iload_n 2, 1) := by decide +kernel
theorem d_MM_isForged_41 : decode b_MM_isForged 41 = .ok (.if_icmp .le 5, 3) := by decide +kernel
theorem d_MM_isForged_44 : decode b_MM_isForged 44 = .ok (.iconst 1, 1) := by decide +kernel
theorem d_MM_isForged_45 : decode b_MM_isForged 45 = .ok (.ireturn, 1) := by decide +kernel
theorem d_MM_isForged_46 : decode b_MM_isForged 46 = .ok (.iinc 3 1, 3) := by decide +kernel
theorem d_MM_isForged_49 : decode b_MM_isForged 49 = .ok (.goto (-47), 3) := by decide +kernel
theorem d_MM_isForged_52 : decode b_MM_isForged 52 = .ok (.iconst 0, 1) := by decide +kernel
theorem d_MM_isForged_53 : decode b_MM_isForged 53 = .ok (.ireturn, 1) := by decide +kernel
theorem d_MM_sendsPlanned_0 : decode b_MM_sendsPlanned 0 = .ok (.iconst 0, 1) := by decide +kernel
theorem d_MM_sendsPlanned_1 : decode b_MM_sendsPlanned 1 = .ok (.istore_n 2, 1) := by decide +kernel
theorem d_MM_sendsPlanned_2 : decode b_MM_sendsPlanned 2 = .ok (.iload_n 2, 1) := by decide +kernel
theorem d_MM_sendsPlanned_3 : decode b_MM_sendsPlanned 3 = .ok (.aload_n 0, 1) := by decide +kernel
theorem d_MM_sendsPlanned_4 : decode b_MM_sendsPlanned 4 = .ok (.getfield 9, 3) := by decide +kernel
theorem d_MM_sendsPlanned_7 : decode b_MM_sendsPlanned 7 = .ok (.bipush 7, 2) := by decide +kernel
theorem d_MM_sendsPlanned_9 : decode b_MM_sendsPlanned 9 = .ok (.iaload, 1) := by decide +kernel
theorem d_MM_sendsPlanned_10 : decode b_MM_sendsPlanned 10 = .ok (.if_icmp .ge 146, 3) := by decide +kernel
theorem d_MM_sendsPlanned_13 : decode b_MM_sendsPlanned 13 = .ok (.bipush 10, 2) := by decide +kernel
theorem d_MM_sendsPlanned_15 : decode b_MM_sendsPlanned 15 = .ok (.bipush 13, 2) := by decide +kernel
theorem d_MM_sendsPlanned_17 : decode b_MM_sendsPlanned 17 = .ok (.iload_n 2, 1) := by decide +kernel
theorem d_MM_sendsPlanned_18 : decode b_MM_sendsPlanned 18 = .ok (.imul, 1) := by decide +kernel
theorem d_MM_sendsPlanned_19 : decode b_MM_sendsPlanned 19 = .ok (.iadd, 1) := by decide +kernel
theorem d_MM_sendsPlanned_20 : decode b_MM_sendsPlanned 20 = .ok (.istore_n 3, 1) := by decide +kernel
theorem d_MM_sendsPlanned_21 : decode b_MM_sendsPlanned 21 = .ok (.aload_n 0, 1) := by decide +kernel
theorem d_MM_sendsPlanned_22 : decode b_MM_sendsPlanned 22 = .ok (.getfield 9, 3) := by decide +kernel
theorem d_MM_sendsPlanned_25 : decode b_MM_sendsPlanned 25 = .ok (.iload_n 3, 1) := by decide +kernel
theorem d_MM_sendsPlanned_26 : decode b_MM_sendsPlanned 26 = .ok (.iaload, 1) := by decide +kernel
theorem d_MM_sendsPlanned_27 : decode b_MM_sendsPlanned 27 = .ok (.iload_n 1, 1) := by decide +kernel
theorem d_MM_sendsPlanned_28 : decode b_MM_sendsPlanned 28 = .ok (.if_icmp .ne 122, 3) := by decide +kernel
theorem d_MM_sendsPlanned_31 : decode b_MM_sendsPlanned 31 = .ok (.aload_n 0, 1) := by decide +kernel
theorem d_MM_sendsPlanned_32 : decode b_MM_sendsPlanned 32 = .ok (.aload_n 0, 1) := by decide +kernel
theorem d_MM_sendsPlanned_33 : decode b_MM_sendsPlanned 33 = .ok (.getfield 9, 3) := by decide +kernel
theorem d_MM_sendsPlanned_36 : decode b_MM_sendsPlanned 36 = .ok (.iload_n 3, 1) := by decide +kernel
theorem d_MM_sendsPlanned_37 : decode b_MM_sendsPlanned 37 = .ok (.iconst 1, 1) := by decide +kernel
theorem d_MM_sendsPlanned_38 : decode b_MM_sendsPlanned 38 = .ok (.iadd, 1) := by decide +kernel
theorem d_MM_sendsPlanned_39 : decode b_MM_sendsPlanned 39 = .ok (.iaload, 1) := by decide +kernel
theorem d_MM_sendsPlanned_40 : decode b_MM_sendsPlanned 40 = .ok (.invokevirtual 205, 3) := by decide +kernel
theorem d_MM_sendsPlanned_43 : decode b_MM_sendsPlanned 43 = .ok (.ifCond .ne 6, 3) := by decide +kernel
theorem d_MM_sendsPlanned_46 : decode b_MM_sendsPlanned 46 = .ok (.goto 104, 3) := by decide +kernel
theorem d_MM_sendsPlanned_49 : decode b_MM_sendsPlanned 49 = .ok (.aload_n 0, 1) := by decide +kernel
theorem d_MM_sendsPlanned_50 : decode b_MM_sendsPlanned 50 = .ok (.iload_n 3, 1) := by decide +kernel
theorem d_MM_sendsPlanned_51 : decode b_MM_sendsPlanned 51 = .ok (.iload_n 1, 1) := by decide +kernel
theorem d_MM_sendsPlanned_52 : decode b_MM_sendsPlanned 52 = .ok (.invokevirtual 291, 3) := by decide +kernel
theorem d_MM_sendsPlanned_55 : decode b_MM_sendsPlanned 55 = .ok (.ifCond .eq 18, 3) := by decide +kernel
theorem d_MM_sendsPlanned_58 : decode b_MM_sendsPlanned 58 = .ok (.aload_n 0, 1) := by decide +kernel
theorem d_MM_sendsPlanned_59 : decode b_MM_sendsPlanned 59 = .ok (.dup, 1) := by decide +kernel
theorem d_MM_sendsPlanned_60 : decode b_MM_sendsPlanned 60 = .ok (.getfield 294, 3) := by decide +kernel
theorem d_MM_sendsPlanned_63 : decode b_MM_sendsPlanned 63 = .ok (.iconst 1, 1) := by decide +kernel
theorem d_MM_sendsPlanned_64 : decode b_MM_sendsPlanned 64 = .ok (.iload_n 2, 1) := by decide +kernel
theorem d_MM_sendsPlanned_65 : decode b_MM_sendsPlanned 65 = .ok (.ishl, 1) := by decide +kernel
theorem d_MM_sendsPlanned_66 : decode b_MM_sendsPlanned 66 = .ok (.ior, 1) := by decide +kernel
theorem d_MM_sendsPlanned_67 : decode b_MM_sendsPlanned 67 = .ok (.putfield 294, 3) := by decide +kernel
theorem d_MM_sendsPlanned_70 : decode b_MM_sendsPlanned 70 = .ok (.goto 80, 3) := by decide +kernel
theorem d_MM_sendsPlanned_73 : decode b_MM_sendsPlanned 73 = .ok (.iconst 0, 1) := by decide +kernel
theorem d_MM_sendsPlanned_74 : decode b_MM_sendsPlanned 74 = .ok (.istore 4, 2) := by decide +kernel
theorem d_MM_sendsPlanned_76 : decode b_MM_sendsPlanned 76 = .ok (.iload 4, 2) := by decide +kernel
theorem d_MM_sendsPlanned_78 : decode b_MM_sendsPlanned 78 = .ok (.aload_n 0, 1) := by decide +kernel
theorem d_MM_sendsPlanned_79 : decode b_MM_sendsPlanned 79 = .ok (.getfield 9, 3) := by decide +kernel
theorem d_MM_sendsPlanned_82 : decode b_MM_sendsPlanned 82 = .ok (.iload_n 3, 1) := by decide +kernel
theorem d_MM_sendsPlanned_83 : decode b_MM_sendsPlanned 83 = .ok (.iconst 4, 1) := by decide +kernel
theorem d_MM_sendsPlanned_84 : decode b_MM_sendsPlanned 84 = .ok (.iadd, 1) := by decide +kernel
theorem d_MM_sendsPlanned_85 : decode b_MM_sendsPlanned 85 = .ok (.iaload, 1) := by decide +kernel
theorem d_MM_sendsPlanned_86 : decode b_MM_sendsPlanned 86 = .ok (.if_icmp .ge 27, 3) := by decide +kernel
theorem d_MM_sendsPlanned_89 : decode b_MM_sendsPlanned 89 = .ok (.aload_n 0, 1) := by decide +kernel
theorem d_MM_sendsPlanned_90 : decode b_MM_sendsPlanned 90 = .ok (.getfield 33, 3) := by decide +kernel
theorem d_MM_sendsPlanned_93 : decode b_MM_sendsPlanned 93 = .ok (.iload 4, 2) := by decide +kernel
theorem d_MM_sendsPlanned_95 : decode b_MM_sendsPlanned 95 = .ok (.aload_n 0, 1) := by decide +kernel
theorem d_MM_sendsPlanned_96 : decode b_MM_sendsPlanned 96 = .ok (.getfield 9, 3) := by decide +kernel
theorem d_MM_sendsPlanned_99 : decode b_MM_sendsPlanned 99 = .ok (.iload_n 3, 1) := by decide +kernel
theorem d_MM_sendsPlanned_100 : decode b_MM_sendsPlanned 100 = .ok (.iconst 5, 1) := by decide +kernel
theorem d_MM_sendsPlanned_101 : decode b_MM_sendsPlanned 101 = .ok (.iadd, 1) := by decide +kernel
theorem d_MM_sendsPlanned_102 : decode b_MM_sendsPlanned 102 = .ok (.iload 4, 2) := by decide +kernel
theorem d_MM_sendsPlanned_104 : decode b_MM_sendsPlanned 104 = .ok (.iadd, 1) := by decide +kernel
theorem d_MM_sendsPlanned_105 : decode b_MM_sendsPlanned 105 = .ok (.iaload, 1) := by decide +kernel
theorem d_MM_sendsPlanned_106 : decode b_MM_sendsPlanned 106 = .ok (.iastore, 1) := by decide +kernel
theorem d_MM_sendsPlanned_107 : decode b_MM_sendsPlanned 107 = .ok (.iinc 4 1, 3) := by decide +kernel
theorem d_MM_sendsPlanned_110 : decode b_MM_sendsPlanned 110 = .ok (.goto (-34), 3) := by decide +kernel
theorem d_MM_sendsPlanned_113 : decode b_MM_sendsPlanned 113 = .ok (.aload_n 0, 1) := by decide +kernel
theorem d_MM_sendsPlanned_114 : decode b_MM_sendsPlanned 114 = .ok (.iload_n 1, 1) := by decide +kernel
theorem d_MM_sendsPlanned_115 : decode b_MM_sendsPlanned 115 = .ok (.aload_n 0, 1) := by decide +kernel
theorem d_MM_sendsPlanned_116 : decode b_MM_sendsPlanned 116 = .ok (.getfield 9, 3) := by decide +kernel
theorem d_MM_sendsPlanned_119 : decode b_MM_sendsPlanned 119 = .ok (.iload_n 3, 1) := by decide +kernel
theorem d_MM_sendsPlanned_120 : decode b_MM_sendsPlanned 120 = .ok (.iconst 1, 1) := by decide +kernel
theorem d_MM_sendsPlanned_121 : decode b_MM_sendsPlanned 121 = .ok (.iadd, 1) := by decide +kernel
theorem d_MM_sendsPlanned_122 : decode b_MM_sendsPlanned 122 = .ok (.iaload, 1) := by decide +kernel
theorem d_MM_sendsPlanned_123 : decode b_MM_sendsPlanned 123 = .ok (.aload_n 0, 1) := by decide +kernel
theorem d_MM_sendsPlanned_124 : decode b_MM_sendsPlanned 124 = .ok (.getfield 9, 3) := by decide +kernel
theorem d_MM_sendsPlanned_127 : decode b_MM_sendsPlanned 127 = .ok (.iload_n 3, 1) := by decide +kernel
theorem d_MM_sendsPlanned_128 : decode b_MM_sendsPlanned 128 = .ok (.iconst 2, 1) := by decide +kernel
theorem d_MM_sendsPlanned_129 : decode b_MM_sendsPlanned 129 = .ok (.iadd, 1) := by decide +kernel
theorem d_MM_sendsPlanned_130 : decode b_MM_sendsPlanned 130 = .ok (.iaload, 1) := by decide +kernel
theorem d_MM_sendsPlanned_131 : decode b_MM_sendsPlanned 131 = .ok (.aload_n 0, 1) := by decide +kernel
theorem d_MM_sendsPlanned_132 : decode b_MM_sendsPlanned 132 = .ok (.getfield 9, 3) := by decide +kernel
theorem d_MM_sendsPlanned_135 : decode b_MM_sendsPlanned 135 = .ok (.iload_n 3, 1) := by decide +kernel
theorem d_MM_sendsPlanned_136 : decode b_MM_sendsPlanned 136 = .ok (.iconst 3, 1) := by decide +kernel
theorem d_MM_sendsPlanned_137 : decode b_MM_sendsPlanned 137 = .ok (.iadd, 1) := by decide +kernel
theorem d_MM_sendsPlanned_138 : decode b_MM_sendsPlanned 138 = .ok (.iaload, 1) := by decide +kernel
theorem d_MM_sendsPlanned_139 : decode b_MM_sendsPlanned 139 = .ok (.aload_n 0, 1) := by decide +kernel
theorem d_MM_sendsPlanned_140 : decode b_MM_sendsPlanned 140 = .ok (.getfield 9, 3) := by decide +kernel
theorem d_MM_sendsPlanned_143 : decode b_MM_sendsPlanned 143 = .ok (.iload_n 3, 1) := by decide +kernel
theorem d_MM_sendsPlanned_144 : decode b_MM_sendsPlanned 144 = .ok (.iconst 4, 1) := by decide +kernel
theorem d_MM_sendsPlanned_145 : decode b_MM_sendsPlanned 145 = .ok (.iadd, 1) := by decide +kernel
theorem d_MM_sendsPlanned_146 : decode b_MM_sendsPlanned 146 = .ok (.iaload, 1) := by decide +kernel
theorem d_MM_sendsPlanned_147 : decode b_MM_sendsPlanned 147 = .ok (.invokevirtual 279, 3) := by decide +kernel
theorem d_MM_sendsPlanned_150 : decode b_MM_sendsPlanned 150 = .ok (.iinc 2 1, 3) := by decide +kernel
theorem d_MM_sendsPlanned_153 : decode b_MM_sendsPlanned 153 = .ok (.goto (-151), 3) := by decide +kernel
theorem d_MM_sendsPlanned_156 : decode b_MM_sendsPlanned 156 = .ok (.return_, 1) := by decide +kernel
theorem d_MM_reads_0 : decode b_MM_reads 0 = .ok (.iconst 0, 1) := by decide +kernel
theorem d_MM_reads_1 : decode b_MM_reads 1 = .ok (.istore_n 2, 1) := by decide +kernel
theorem d_MM_reads_2 : decode b_MM_reads 2 = .ok (.iload_n 2, 1) := by decide +kernel
theorem d_MM_reads_3 : decode b_MM_reads 3 = .ok (.aload_n 0, 1) := by decide +kernel
theorem d_MM_reads_4 : decode b_MM_reads 4 = .ok (.getfield 264, 3) := by decide +kernel
theorem d_MM_reads_7 : decode b_MM_reads 7 = .ok (.if_icmp .ge 124, 3) := by decide +kernel
theorem d_MM_reads_10 : decode b_MM_reads 10 = .ok (.aload_n 0, 1) := by decide +kernel
theorem d_MM_reads_11 : decode b_MM_reads 11 = .ok (.getfield 51, 3) := by decide +kernel
theorem d_MM_reads_14 : decode b_MM_reads 14 = .ok (.iload_n 2, 1) := by decide +kernel
theorem d_MM_reads_15 : decode b_MM_reads 15 = .ok (.iaload, 1) := by decide +kernel
theorem d_MM_reads_16 : decode b_MM_reads 16 = .ok (.iload_n 1, 1) := by decide +kernel
theorem d_MM_reads_17 : decode b_MM_reads 17 = .ok (.if_icmp .ne 108, 3) := by decide +kernel
theorem d_MM_reads_20 : decode b_MM_reads 20 = .ok (.aload_n 0, 1) := by decide +kernel
theorem d_MM_reads_21 : decode b_MM_reads 21 = .ok (.aload_n 0, 1) := by decide +kernel
theorem d_MM_reads_22 : decode b_MM_reads 22 = .ok (.getfield 42, 3) := by decide +kernel
theorem d_MM_reads_25 : decode b_MM_reads 25 = .ok (.iload_n 2, 1) := by decide +kernel
theorem d_MM_reads_26 : decode b_MM_reads 26 = .ok (.iaload, 1) := by decide +kernel
theorem d_MM_reads_27 : decode b_MM_reads 27 = .ok (.invokevirtual 205, 3) := by decide +kernel
theorem d_MM_reads_30 : decode b_MM_reads 30 = .ok (.ifCond .ne 95, 3) := by decide +kernel
theorem d_MM_reads_33 : decode b_MM_reads 33 = .ok (.aload_n 0, 1) := by decide +kernel
theorem d_MM_reads_34 : decode b_MM_reads 34 = .ok (.getfield 57, 3) := by decide +kernel
theorem d_MM_reads_37 : decode b_MM_reads 37 = .ok (.bipush 8, 2) := by decide +kernel
theorem d_MM_reads_39 : decode b_MM_reads 39 = .ok (.iload_n 2, 1) := by decide +kernel
theorem d_MM_reads_40 : decode b_MM_reads 40 = .ok (.imul, 1) := by decide +kernel
theorem d_MM_reads_41 : decode b_MM_reads 41 = .ok (.iaload, 1) := by decide +kernel
theorem d_MM_reads_42 : decode b_MM_reads 42 = .ok (.aload_n 0, 1) := by decide +kernel
theorem d_MM_reads_43 : decode b_MM_reads 43 = .ok (.getfield 9, 3) := by decide +kernel
theorem d_MM_reads_46 : decode b_MM_reads 46 = .ok (.iconst 1, 1) := by decide +kernel
theorem d_MM_reads_47 : decode b_MM_reads 47 = .ok (.iaload, 1) := by decide +kernel
theorem d_MM_reads_48 : decode b_MM_reads 48 = .ok (.if_icmp .ne 77, 3) := by decide +kernel
theorem d_MM_reads_51 : decode b_MM_reads 51 = .ok (.aload_n 0, 1) := by decide +kernel
theorem d_MM_reads_52 : decode b_MM_reads 52 = .ok (.getfield 48, 3) := by decide +kernel
theorem d_MM_reads_55 : decode b_MM_reads 55 = .ok (.iload_n 2, 1) := by decide +kernel
theorem d_MM_reads_56 : decode b_MM_reads 56 = .ok (.iaload, 1) := by decide +kernel
theorem d_MM_reads_57 : decode b_MM_reads 57 = .ok (.iload_n 1, 1) := by decide +kernel
theorem d_MM_reads_58 : decode b_MM_reads 58 = .ok (.if_icmp .ge 6, 3) := by decide +kernel
theorem d_MM_reads_61 : decode b_MM_reads 61 = .ok (.goto 64, 3) := by decide +kernel
theorem d_MM_reads_64 : decode b_MM_reads 64 = .ok (.aload_n 0, 1) := by decide +kernel
theorem d_MM_reads_65 : decode b_MM_reads 65 = .ok (.getfield 42, 3) := by decide +kernel
theorem d_MM_reads_68 : decode b_MM_reads 68 = .ok (.iload_n 2, 1) := by decide +kernel
theorem d_MM_reads_69 : decode b_MM_reads 69 = .ok (.iaload, 1) := by decide +kernel
theorem d_MM_reads_70 : decode b_MM_reads 70 = .ok (.aload_n 0, 1) := by decide +kernel
theorem d_MM_reads_71 : decode b_MM_reads 71 = .ok (.getfield 45, 3) := by decide +kernel
theorem d_MM_reads_74 : decode b_MM_reads 74 = .ok (.iload_n 2, 1) := by decide +kernel
theorem d_MM_reads_75 : decode b_MM_reads 75 = .ok (.iaload, 1) := by decide +kernel
theorem d_MM_reads_76 : decode b_MM_reads 76 = .ok (.invokestatic 276, 3) := by decide +kernel
theorem d_MM_reads_79 : decode b_MM_reads 79 = .ok (.istore_n 3, 1) := by decide +kernel
theorem d_MM_reads_80 : decode b_MM_reads 80 = .ok (.aload_n 0, 1) := by decide +kernel
theorem d_MM_reads_81 : decode b_MM_reads 81 = .ok (.getfield 54, 3) := by decide +kernel
theorem d_MM_reads_84 : decode b_MM_reads 84 = .ok (.iload_n 2, 1) := by decide +kernel
theorem d_MM_reads_85 : decode b_MM_reads 85 = .ok (.aload_n 0, 1) := by decide +kernel
theorem d_MM_reads_86 : decode b_MM_reads 86 = .ok (.getfield 60, 3) := by decide +kernel
theorem d_MM_reads_89 : decode b_MM_reads 89 = .ok (.iload_n 3, 1) := by decide +kernel
theorem d_MM_reads_90 : decode b_MM_reads 90 = .ok (.iaload, 1) := by decide +kernel
theorem d_MM_reads_91 : decode b_MM_reads 91 = .ok (.iconst (-1), 1) := by decide +kernel
theorem d_MM_reads_92 : decode b_MM_reads 92 = .ok (.if_icmp .ne 7, 3) := by decide +kernel
theorem d_MM_reads_95 : decode b_MM_reads 95 = .ok (.iconst 2, 1) := by decide +kernel
theorem d_MM_reads_96 : decode b_MM_reads 96 = .ok (.goto 4, 3) := by decide +kernel
theorem d_MM_reads_99 : decode b_MM_reads 99 = .ok (.iconst 1, 1) := by decide +kernel
theorem d_MM_reads_100 : decode b_MM_reads 100 = .ok (.iastore, 1) := by decide +kernel
theorem d_MM_reads_101 : decode b_MM_reads 101 = .ok (.aload_n 0, 1) := by decide +kernel
theorem d_MM_reads_102 : decode b_MM_reads 102 = .ok (.getfield 60, 3) := by decide +kernel
theorem d_MM_reads_105 : decode b_MM_reads 105 = .ok (.iload_n 3, 1) := by decide +kernel
theorem d_MM_reads_106 : decode b_MM_reads 106 = .ok (.iaload, 1) := by decide +kernel
theorem d_MM_reads_107 : decode b_MM_reads 107 = .ok (.iconst (-1), 1) := by decide +kernel
theorem d_MM_reads_108 : decode b_MM_reads 108 = .ok (.if_icmp .ne 17, 3) := by decide +kernel
theorem d_MM_reads_111 : decode b_MM_reads 111 = .ok (.aload_n 0, 1) := by decide +kernel
theorem d_MM_reads_112 : decode b_MM_reads 112 = .ok (.getfield 60, 3) := by decide +kernel
theorem d_MM_reads_115 : decode b_MM_reads 115 = .ok (.iload_n 3, 1) := by decide +kernel
theorem d_MM_reads_116 : decode b_MM_reads 116 = .ok (.iload_n 1, 1) := by decide +kernel
theorem d_MM_reads_117 : decode b_MM_reads 117 = .ok (.iastore, 1) := by decide +kernel
theorem d_MM_reads_118 : decode b_MM_reads 118 = .ok (.aload_n 0, 1) := by decide +kernel
theorem d_MM_reads_119 : decode b_MM_reads 119 = .ok (.getfield 63, 3) := by decide +kernel
theorem d_MM_reads_122 : decode b_MM_reads 122 = .ok (.iload_n 3, 1) := by decide +kernel
theorem d_MM_reads_123 : decode b_MM_reads 123 = .ok (.iload_n 2, 1) := by decide +kernel
theorem d_MM_reads_124 : decode b_MM_reads 124 = .ok (.iastore, 1) := by decide +kernel
theorem d_MM_reads_125 : decode b_MM_reads 125 = .ok (.iinc 2 1, 3) := by decide +kernel
theorem d_MM_reads_128 : decode b_MM_reads 128 = .ok (.goto (-126), 3) := by decide +kernel
theorem d_MM_reads_131 : decode b_MM_reads 131 = .ok (.return_, 1) := by decide +kernel
theorem d_MM_runs_0 : decode b_MM_runs 0 = .ok (.aload_n 0, 1) := by decide +kernel
theorem d_MM_runs_1 : decode b_MM_runs 1 = .ok (.iconst 0, 1) := by decide +kernel
theorem d_MM_runs_2 : decode b_MM_runs 2 = .ok (.putfield 264, 3) := by decide +kernel
theorem d_MM_runs_5 : decode b_MM_runs 5 = .ok (.aload_n 0, 1) := by decide +kernel
theorem d_MM_runs_6 : decode b_MM_runs 6 = .ok (.iconst 0, 1) := by decide +kernel
theorem d_MM_runs_7 : decode b_MM_runs 7 = .ok (.putfield 294, 3) := by decide +kernel
theorem d_MM_runs_10 : decode b_MM_runs 10 = .ok (.aload_n 0, 1) := by decide +kernel
theorem d_MM_runs_11 : decode b_MM_runs 11 = .ok (.iconst 0, 1) := by decide +kernel
theorem d_MM_runs_12 : decode b_MM_runs 12 = .ok (.putfield 297, 3) := by decide +kernel
theorem d_MM_runs_15 : decode b_MM_runs 15 = .ok (.iconst 0, 1) := by decide +kernel
theorem d_MM_runs_16 : decode b_MM_runs 16 = .ok (.istore_n 1, 1) := by decide +kernel
theorem d_MM_runs_17 : decode b_MM_runs 17 = .ok (.iload_n 1, 1) := by decide +kernel
theorem d_MM_runs_18 : decode b_MM_runs 18 = .ok (.bipush 8, 2) := by decide +kernel
theorem d_MM_runs_20 : decode b_MM_runs 20 = .ok (.if_icmp .ge 69, 3) := by decide +kernel
theorem d_MM_runs_23 : decode b_MM_runs 23 = .ok (.iconst 0, 1) := by decide +kernel
theorem d_MM_runs_24 : decode b_MM_runs 24 = .ok (.istore_n 2, 1) := by decide +kernel
theorem d_MM_runs_25 : decode b_MM_runs 25 = .ok (.iload_n 2, 1) := by decide +kernel
theorem d_MM_runs_26 : decode b_MM_runs 26 = .ok (.iconst 4, 1) := by decide +kernel
theorem d_MM_runs_27 : decode b_MM_runs 27 = .ok (.if_icmp .ge 56, 3) := by decide +kernel
theorem d_MM_runs_30 : decode b_MM_runs 30 = .ok (.aload_n 0, 1) := by decide +kernel
theorem d_MM_runs_31 : decode b_MM_runs 31 = .ok (.getfield 60, 3) := by decide +kernel
theorem d_MM_runs_34 : decode b_MM_runs 34 = .ok (.iload_n 1, 1) := by decide +kernel
theorem d_MM_runs_35 : decode b_MM_runs 35 = .ok (.iload_n 2, 1) := by decide +kernel
theorem d_MM_runs_36 : decode b_MM_runs 36 = .ok (.invokestatic 276, 3) := by decide +kernel
theorem d_MM_runs_39 : decode b_MM_runs 39 = .ok (.iconst (-1), 1) := by decide +kernel
theorem d_MM_runs_40 : decode b_MM_runs 40 = .ok (.iastore, 1) := by decide +kernel
theorem d_MM_runs_41 : decode b_MM_runs 41 = .ok (.aload_n 0, 1) := by decide +kernel
theorem d_MM_runs_42 : decode b_MM_runs 42 = .ok (.getfield 63, 3) := by decide +kernel
theorem d_MM_runs_45 : decode b_MM_runs 45 = .ok (.iload_n 1, 1) := by decide +kernel
theorem d_MM_runs_46 : decode b_MM_runs 46 = .ok (.iload_n 2, 1) := by decide +kernel
theorem d_MM_runs_47 : decode b_MM_runs 47 = .ok (.invokestatic 276, 3) := by decide +kernel
theorem d_MM_runs_50 : decode b_MM_runs 50 = .ok (.iconst (-1), 1) := by decide +kernel
theorem d_MM_runs_51 : decode b_MM_runs 51 = .ok (.iastore, 1) := by decide +kernel
theorem d_MM_runs_52 : decode b_MM_runs 52 = .ok (.aload_n 0, 1) := by decide +kernel
theorem d_MM_runs_53 : decode b_MM_runs 53 = .ok (.getfield 66, 3) := by decide +kernel
theorem d_MM_runs_56 : decode b_MM_runs 56 = .ok (.iload_n 1, 1) := by decide +kernel
theorem d_MM_runs_57 : decode b_MM_runs 57 = .ok (.iload_n 2, 1) := by decide +kernel
theorem d_MM_runs_58 : decode b_MM_runs 58 = .ok (.invokestatic 276, 3) := by decide +kernel
theorem d_MM_runs_61 : decode b_MM_runs 61 = .ok (.aload_n 0, 1) := by decide +kernel
theorem d_MM_runs_62 : decode b_MM_runs 62 = .ok (.iload_n 1, 1) := by decide +kernel
theorem d_MM_runs_63 : decode b_MM_runs 63 = .ok (.invokevirtual 205, 3) := by decide +kernel
theorem d_MM_runs_66 : decode b_MM_runs 66 = .ok (.ifCond .eq 7, 3) := by decide +kernel
theorem d_MM_runs_69 : decode b_MM_runs 69 = .ok (.iconst 0, 1) := by decide +kernel
theorem d_MM_runs_70 : decode b_MM_runs 70 = .ok (.goto 6, 3) := by decide +kernel
theorem d_MM_runs_73 : decode b_MM_runs 73 = .ok (.sipush 1000, 3) := by decide +kernel
theorem d_MM_runs_76 : decode b_MM_runs 76 = .ok (.iastore, 1) := by decide +kernel
theorem d_MM_runs_77 : decode b_MM_runs 77 = .ok (.iinc 2 1, 3) := by decide +kernel
theorem d_MM_runs_80 : decode b_MM_runs 80 = .ok (.goto (-55), 3) := by decide +kernel
theorem d_MM_runs_83 : decode b_MM_runs 83 = .ok (.iinc 1 1, 3) := by decide +kernel
theorem d_MM_runs_86 : decode b_MM_runs 86 = .ok (.goto (-69), 3) := by decide +kernel
theorem d_MM_runs_89 : decode b_MM_runs 89 = .ok (.aload_n 0, 1) := by decide +kernel
theorem d_MM_runs_90 : decode b_MM_runs 90 = .ok (.aload_n 0, 1) := by decide +kernel
theorem d_MM_runs_91 : decode b_MM_runs 91 = .ok (.getfield 9, 3) := by decide +kernel
theorem d_MM_runs_94 : decode b_MM_runs 94 = .ok (.iconst 1, 1) := by decide +kernel
theorem d_MM_runs_95 : decode b_MM_runs 95 = .ok (.iaload, 1) := by decide +kernel
theorem d_MM_runs_96 : decode b_MM_runs 96 = .ok (.invokevirtual 300, 3) := by decide +kernel
theorem d_MM_runs_99 : decode b_MM_runs 99 = .ok (.ifCond .eq 24, 3) := by decide +kernel
theorem d_MM_runs_102 : decode b_MM_runs 102 = .ok (.aload_n 0, 1) := by decide +kernel
theorem d_MM_runs_103 : decode b_MM_runs 103 = .ok (.getfield 60, 3) := by decide +kernel
theorem d_MM_runs_106 : decode b_MM_runs 106 = .ok (.aload_n 0, 1) := by decide +kernel
theorem d_MM_runs_107 : decode b_MM_runs 107 = .ok (.getfield 9, 3) := by decide +kernel
theorem d_MM_runs_110 : decode b_MM_runs 110 = .ok (.iconst 1, 1) := by decide +kernel
theorem d_MM_runs_111 : decode b_MM_runs 111 = .ok (.iaload, 1) := by decide +kernel
theorem d_MM_runs_112 : decode b_MM_runs 112 = .ok (.aload_n 0, 1) := by decide +kernel
theorem d_MM_runs_113 : decode b_MM_runs 113 = .ok (.getfield 9, 3) := by decide +kernel
theorem d_MM_runs_116 : decode b_MM_runs 116 = .ok (.iconst 2, 1) := by decide +kernel
theorem d_MM_runs_117 : decode b_MM_runs 117 = .ok (.iaload, 1) := by decide +kernel
theorem d_MM_runs_118 : decode b_MM_runs 118 = .ok (.invokestatic 276, 3) := by decide +kernel
theorem d_MM_runs_121 : decode b_MM_runs 121 = .ok (.iconst 0, 1) := by decide +kernel
theorem d_MM_runs_122 : decode b_MM_runs 122 = .ok (.iastore, 1) := by decide +kernel
theorem d_MM_runs_123 : decode b_MM_runs 123 = .ok (.iconst 0, 1) := by decide +kernel
theorem d_MM_runs_124 : decode b_MM_runs 124 = .ok (.istore_n 1, 1) := by decide +kernel
theorem d_MM_runs_125 : decode b_MM_runs 125 = .ok (.iload_n 1, 1) := by decide +kernel
theorem d_MM_runs_126 : decode b_MM_runs 126 = .ok (.aload_n 0, 1) := by decide +kernel
theorem d_MM_runs_127 : decode b_MM_runs 127 = .ok (.getfield 9, 3) := by decide +kernel
theorem d_MM_runs_130 : decode b_MM_runs 130 = .ok (.bipush 7, 2) := by decide +kernel
theorem d_MM_runs_132 : decode b_MM_runs 132 = .ok (.iaload, 1) := by decide +kernel
theorem d_MM_runs_133 : decode b_MM_runs 133 = .ok (.if_icmp .ge 63, 3) := by decide +kernel
theorem d_MM_runs_136 : decode b_MM_runs 136 = .ok (.bipush 10, 2) := by decide +kernel
theorem d_MM_runs_138 : decode b_MM_runs 138 = .ok (.bipush 13, 2) := by decide +kernel
theorem d_MM_runs_140 : decode b_MM_runs 140 = .ok (.iload_n 1, 1) := by decide +kernel
theorem d_MM_runs_141 : decode b_MM_runs 141 = .ok (.imul, 1) := by decide +kernel
theorem d_MM_runs_142 : decode b_MM_runs 142 = .ok (.iadd, 1) := by decide +kernel
theorem d_MM_runs_143 : decode b_MM_runs 143 = .ok (.istore_n 2, 1) := by decide +kernel
theorem d_MM_runs_144 : decode b_MM_runs 144 = .ok (.aload_n 0, 1) := by decide +kernel
theorem d_MM_runs_145 : decode b_MM_runs 145 = .ok (.dup, 1) := by decide +kernel
theorem d_MM_runs_146 : decode b_MM_runs 146 = .ok (.getfield 297, 3) := by decide +kernel
theorem d_MM_runs_149 : decode b_MM_runs 149 = .ok (.aload_n 0, 1) := by decide +kernel
theorem d_MM_runs_150 : decode b_MM_runs 150 = .ok (.getfield 9, 3) := by decide +kernel
theorem d_MM_runs_153 : decode b_MM_runs 153 = .ok (.iload_n 2, 1) := by decide +kernel
theorem d_MM_runs_154 : decode b_MM_runs 154 = .ok (.iaload, 1) := by decide +kernel
theorem d_MM_runs_155 : decode b_MM_runs 155 = .ok (.aload_n 0, 1) := by decide +kernel
theorem d_MM_runs_156 : decode b_MM_runs 156 = .ok (.getfield 9, 3) := by decide +kernel
theorem d_MM_runs_159 : decode b_MM_runs 159 = .ok (.iconst 3, 1) := by decide +kernel
theorem d_MM_runs_160 : decode b_MM_runs 160 = .ok (.iaload, 1) := by decide +kernel
theorem d_MM_runs_161 : decode b_MM_runs 161 = .ok (.if_icmp .gt 18, 3) := by decide +kernel
theorem d_MM_runs_164 : decode b_MM_runs 164 = .ok (.aload_n 0, 1) := by decide +kernel
theorem d_MM_runs_165 : decode b_MM_runs 165 = .ok (.aload_n 0, 1) := by decide +kernel
theorem d_MM_runs_166 : decode b_MM_runs 166 = .ok (.getfield 9, 3) := by decide +kernel
theorem d_MM_runs_169 : decode b_MM_runs 169 = .ok (.iload_n 2, 1) := by decide +kernel
theorem d_MM_runs_170 : decode b_MM_runs 170 = .ok (.iconst 1, 1) := by decide +kernel
theorem d_MM_runs_171 : decode b_MM_runs 171 = .ok (.iadd, 1) := by decide +kernel
theorem d_MM_runs_172 : decode b_MM_runs 172 = .ok (.iaload, 1) := by decide +kernel
theorem d_MM_runs_173 : decode b_MM_runs 173 = .ok (.invokevirtual 205, 3) := by decide +kernel
theorem d_MM_runs_176 : decode b_MM_runs 176 = .ok (.ifCond .ne 9, 3) := by decide +kernel
theorem d_MM_runs_179 : decode b_MM_runs 179 = .ok (.iconst 1, 1) := by decide +kernel
theorem d_MM_runs_180 : decode b_MM_runs 180 = .ok (.iload_n 1, 1) := by decide +kernel
theorem d_MM_runs_181 : decode b_MM_runs 181 = .ok (.ishl, 1) := by decide +kernel
theorem d_MM_runs_182 : decode b_MM_runs 182 = .ok (.goto 4, 3) := by decide +kernel
theorem d_MM_runs_185 : decode b_MM_runs 185 = .ok (.iconst 0, 1) := by decide +kernel
theorem d_MM_runs_186 : decode b_MM_runs 186 = .ok (.ior, 1) := by decide +kernel
theorem d_MM_runs_187 : decode b_MM_runs 187 = .ok (.putfield 297, 3) := by decide +kernel
theorem d_MM_runs_190 : decode b_MM_runs 190 = .ok (.iinc 1 1, 3) := by decide +kernel
theorem d_MM_runs_193 : decode b_MM_runs 193 = .ok (.goto (-68), 3) := by decide +kernel
theorem d_MM_runs_196 : decode b_MM_runs 196 = .ok (.iconst 1, 1) := by decide +kernel
theorem d_MM_runs_197 : decode b_MM_runs 197 = .ok (.istore_n 1, 1) := by decide +kernel
theorem d_MM_runs_198 : decode b_MM_runs 198 = .ok (.iload_n 1, 1) := by decide +kernel
theorem d_MM_runs_199 : decode b_MM_runs 199 = .ok (.aload_n 0, 1) := by decide +kernel
theorem d_MM_runs_200 : decode b_MM_runs 200 = .ok (.getfield 9, 3) := by decide +kernel
theorem d_MM_runs_203 : decode b_MM_runs 203 = .ok (.iconst 3, 1) := by decide +kernel
theorem d_MM_runs_204 : decode b_MM_runs 204 = .ok (.iaload, 1) := by decide +kernel
theorem d_MM_runs_205 : decode b_MM_runs 205 = .ok (.if_icmp .gt 60, 3) := by decide +kernel
theorem d_MM_runs_208 : decode b_MM_runs 208 = .ok (.aload_n 0, 1) := by decide +kernel
theorem d_MM_runs_209 : decode b_MM_runs 209 = .ok (.getfield 9, 3) := by decide +kernel
theorem d_MM_runs_212 : decode b_MM_runs 212 = .ok (.iconst 0, 1) := by decide +kernel
theorem d_MM_runs_213 : decode b_MM_runs 213 = .ok (.iaload, 1) := by decide +kernel
theorem d_MM_runs_214 : decode b_MM_runs 214 = .ok (.ifCond .le 51, 3) := by decide +kernel
theorem d_MM_runs_217 : decode b_MM_runs 217 = .ok (.iconst 0, 1) := by decide +kernel
theorem d_MM_runs_218 : decode b_MM_runs 218 = .ok (.istore_n 2, 1) := by decide +kernel
theorem d_MM_runs_219 : decode b_MM_runs 219 = .ok (.iload_n 2, 1) := by decide +kernel
theorem d_MM_runs_220 : decode b_MM_runs 220 = .ok (.aload_n 0, 1) := by decide +kernel
theorem d_MM_runs_221 : decode b_MM_runs 221 = .ok (.getfield 9, 3) := by decide +kernel
theorem d_MM_runs_224 : decode b_MM_runs 224 = .ok (.iconst 0, 1) := by decide +kernel
theorem d_MM_runs_225 : decode b_MM_runs 225 = .ok (.iaload, 1) := by decide +kernel
theorem d_MM_runs_226 : decode b_MM_runs 226 = .ok (.if_icmp .ge 23, 3) := by decide +kernel
theorem d_MM_runs_229 : decode b_MM_runs 229 = .ok (.aload_n 0, 1) := by decide +kernel
theorem d_MM_runs_230 : decode b_MM_runs 230 = .ok (.iload_n 2, 1) := by decide +kernel
theorem d_MM_runs_231 : decode b_MM_runs 231 = .ok (.invokevirtual 205, 3) := by decide +kernel
theorem d_MM_runs_234 : decode b_MM_runs 234 = .ok (.ifCond .ne 9, 3) := by decide +kernel
theorem d_MM_runs_237 : decode b_MM_runs 237 = .ok (.aload_n 0, 1) := by decide +kernel
theorem d_MM_runs_238 : decode b_MM_runs 238 = .ok (.iload_n 1, 1) := by decide +kernel
theorem d_MM_runs_239 : decode b_MM_runs 239 = .ok (.iload_n 2, 1) := by decide +kernel
theorem d_MM_runs_240 : decode b_MM_runs 240 = .ok (.invokevirtual 303, 3) := by decide +kernel
theorem d_MM_runs_243 : decode b_MM_runs 243 = .ok (.iinc 2 1, 3) := by decide +kernel
theorem d_MM_runs_246 : decode b_MM_runs 246 = .ok (.goto (-27), 3) := by decide +kernel
theorem d_MM_runs_249 : decode b_MM_runs 249 = .ok (.aload_n 0, 1) := by decide +kernel
theorem d_MM_runs_250 : decode b_MM_runs 250 = .ok (.iload_n 1, 1) := by decide +kernel
theorem d_MM_runs_251 : decode b_MM_runs 251 = .ok (.invokevirtual 306, 3) := by decide +kernel
theorem d_MM_runs_254 : decode b_MM_runs 254 = .ok (.aload_n 0, 1) := by decide +kernel
theorem d_MM_runs_255 : decode b_MM_runs 255 = .ok (.iload_n 1, 1) := by decide +kernel
theorem d_MM_runs_256 : decode b_MM_runs 256 = .ok (.invokevirtual 309, 3) := by decide +kernel
theorem d_MM_runs_259 : decode b_MM_runs 259 = .ok (.iinc 1 1, 3) := by decide +kernel
theorem d_MM_runs_262 : decode b_MM_runs 262 = .ok (.goto (-64), 3) := by decide +kernel
theorem d_MM_runs_265 : decode b_MM_runs 265 = .ok (.return_, 1) := by decide +kernel
theorem d_MM_setOf_0 : decode b_MM_setOf 0 = .ok (.iconst 0, 1) := by decide +kernel
theorem d_MM_setOf_1 : decode b_MM_setOf 1 = .ok (.istore_n 3, 1) := by decide +kernel
theorem d_MM_setOf_2 : decode b_MM_setOf 2 = .ok (.iconst 0, 1) := by decide +kernel
theorem d_MM_setOf_3 : decode b_MM_setOf 3 = .ok (.istore 4, 2) := by decide +kernel
theorem d_MM_setOf_5 : decode b_MM_setOf 5 = .ok (.iload 4, 2) := by decide +kernel
theorem d_MM_setOf_7 : decode b_MM_setOf 7 = .ok (.iconst 4, 1) := by decide +kernel
theorem d_MM_setOf_8 : decode b_MM_setOf 8 = .ok (.if_icmp .ge 50, 3) := by decide +kernel
theorem d_MM_setOf_11 : decode b_MM_setOf 11 = .ok (.iload_n 3, 1) := by decide +kernel
theorem d_MM_setOf_12 : decode b_MM_setOf 12 = .ok (.aload_n 0, 1) := by decide +kernel
theorem d_MM_setOf_13 : decode b_MM_setOf 13 = .ok (.getfield 60, 3) := by decide +kernel
theorem d_MM_setOf_16 : decode b_MM_setOf 16 = .ok (.iload_n 1, 1) := by decide +kernel
theorem d_MM_setOf_17 : decode b_MM_setOf 17 = .ok (.iload 4, 2) := by decide +kernel
theorem d_MM_setOf_19 : decode b_MM_setOf 19 = .ok (.invokestatic 276, 3) := by decide +kernel
theorem d_MM_setOf_22 : decode b_MM_setOf 22 = .ok (.iaload, 1) := by decide +kernel
theorem d_MM_setOf_23 : decode b_MM_setOf 23 = .ok (.iconst (-1), 1) := by decide +kernel
theorem d_MM_setOf_24 : decode b_MM_setOf 24 = .ok (.if_icmp .eq 25, 3) := by decide +kernel
theorem d_MM_setOf_27 : decode b_MM_setOf 27 = .ok (.aload_n 0, 1) := by decide +kernel
theorem d_MM_setOf_28 : decode b_MM_setOf 28 = .ok (.getfield 60, 3) := by decide +kernel
theorem d_MM_setOf_31 : decode b_MM_setOf 31 = .ok (.iload_n 1, 1) := by decide +kernel
theorem d_MM_setOf_32 : decode b_MM_setOf 32 = .ok (.iload 4, 2) := by decide +kernel
theorem d_MM_setOf_34 : decode b_MM_setOf 34 = .ok (.invokestatic 276, 3) := by decide +kernel
theorem d_MM_setOf_37 : decode b_MM_setOf 37 = .ok (.iaload, 1) := by decide +kernel
theorem d_MM_setOf_38 : decode b_MM_setOf 38 = .ok (.iload_n 2, 1) := by decide +kernel
theorem d_MM_setOf_39 : decode b_MM_setOf 39 = .ok (.if_icmp .gt 10, 3) := by decide +kernel
theorem d_MM_setOf_42 : decode b_MM_setOf 42 = .ok (.iconst 1, 1) := by decide +kernel
theorem d_MM_setOf_43 : decode b_MM_setOf 43 = .ok (.iload 4, 2) := by decide +kernel
theorem d_MM_setOf_45 : decode b_MM_setOf 45 = .ok (.ishl, 1) := by decide +kernel
theorem d_MM_setOf_46 : decode b_MM_setOf 46 = .ok (.goto 4, 3) := by decide +kernel
theorem d_MM_setOf_49 : decode b_MM_setOf 49 = .ok (.iconst 0, 1) := by decide +kernel
theorem d_MM_setOf_50 : decode b_MM_setOf 50 = .ok (.ior, 1) := by decide +kernel
theorem d_MM_setOf_51 : decode b_MM_setOf 51 = .ok (.istore_n 3, 1) := by decide +kernel
theorem d_MM_setOf_52 : decode b_MM_setOf 52 = .ok (.iinc 4 1, 3) := by decide +kernel
theorem d_MM_setOf_55 : decode b_MM_setOf 55 = .ok (.goto (-50), 3) := by decide +kernel
theorem d_MM_setOf_58 : decode b_MM_setOf 58 = .ok (.iload_n 3, 1) := by decide +kernel
theorem d_MM_setOf_59 : decode b_MM_setOf 59 = .ok (.ireturn, 1) := by decide +kernel
theorem d_MM_set_0 : decode b_MM_set 0 = .ok (.aload_n 0, 1) := by decide +kernel
theorem d_MM_set_1 : decode b_MM_set 1 = .ok (.iload_n 1, 1) := by decide +kernel
theorem d_MM_set_2 : decode b_MM_set 2 = .ok (.invokevirtual 300, 3) := by decide +kernel
theorem d_MM_set_5 : decode b_MM_set 5 = .ok (.ifCond .eq 19, 3) := by decide +kernel
theorem d_MM_set_8 : decode b_MM_set 8 = .ok (.iload_n 2, 1) := by decide +kernel
theorem d_MM_set_9 : decode b_MM_set 9 = .ok (.i2l, 1) := by decide +kernel
theorem d_MM_set_10 : decode b_MM_set 10 = .ok (.lconst 0, 1) := by decide +kernel
theorem d_MM_set_11 : decode b_MM_set 11 = .ok (.aload_n 0, 1) := by decide +kernel
theorem d_MM_set_12 : decode b_MM_set 12 = .ok (.getfield 9, 3) := by decide +kernel
theorem d_MM_set_15 : decode b_MM_set 15 = .ok (.iconst 3, 1) := by decide +kernel
theorem d_MM_set_16 : decode b_MM_set 16 = .ok (.iaload, 1) := by decide +kernel
theorem d_MM_set_17 : decode b_MM_set 17 = .ok (.i2l, 1) := by decide +kernel
theorem d_MM_set_18 : decode b_MM_set 18 = .ok (.invokestatic 108, 3) := by decide +kernel
theorem d_MM_set_21 : decode b_MM_set 21 = .ok (.ifCond .ne 5, 3) := by decide +kernel
theorem d_MM_set_24 : decode b_MM_set 24 = .ok (.iconst (-1), 1) := by decide +kernel
theorem d_MM_set_25 : decode b_MM_set 25 = .ok (.ireturn, 1) := by decide +kernel
theorem d_MM_set_26 : decode b_MM_set 26 = .ok (.aload_n 0, 1) := by decide +kernel
theorem d_MM_set_27 : decode b_MM_set 27 = .ok (.invokevirtual 321, 3) := by decide +kernel
theorem d_MM_set_30 : decode b_MM_set 30 = .ok (.aload_n 0, 1) := by decide +kernel
theorem d_MM_set_31 : decode b_MM_set 31 = .ok (.iload_n 1, 1) := by decide +kernel
theorem d_MM_set_32 : decode b_MM_set 32 = .ok (.iload_n 2, 1) := by decide +kernel
theorem d_MM_set_33 : decode b_MM_set 33 = .ok (.invokevirtual 312, 3) := by decide +kernel
theorem d_MM_set_36 : decode b_MM_set 36 = .ok (.ireturn, 1) := by decide +kernel
theorem d_MM_decisionOf_0 : decode b_MM_decisionOf 0 = .ok (.aload_n 0, 1) := by decide +kernel
theorem d_MM_decisionOf_1 : decode b_MM_decisionOf 1 = .ok (.iload_n 1, 1) := by decide +kernel
theorem d_MM_decisionOf_2 : decode b_MM_decisionOf 2 = .ok (.bipush 8, 2) := by decide +kernel
theorem d_MM_decisionOf_4 : decode b_MM_decisionOf 4 = .ok (.invokevirtual 312, 3) := by decide +kernel
theorem d_MM_decisionOf_7 : decode b_MM_decisionOf 7 = .ok (.istore_n 2, 1) := by decide +kernel
theorem d_MM_decisionOf_8 : decode b_MM_decisionOf 8 = .ok (.iload_n 2, 1) := by decide +kernel
theorem d_MM_decisionOf_9 : decode b_MM_decisionOf 9 = .ok (.invokestatic 255, 3) := by decide +kernel
theorem d_MM_decisionOf_12 : decode b_MM_decisionOf 12 = .ok (.iconst 1, 1) := by decide +kernel
theorem d_MM_decisionOf_13 : decode b_MM_decisionOf 13 = .ok (.if_icmp .ne 10, 3) := by decide +kernel
theorem d_MM_decisionOf_16 : decode b_MM_decisionOf 16 = .ok (.iload_n 2, 1) := by decide +kernel
theorem d_MM_decisionOf_17 : decode b_MM_decisionOf 17 = .ok (.invokestatic 315, 3) := by decide +kernel
theorem d_MM_decisionOf_20 : decode b_MM_decisionOf 20 = .ok (.goto 9, 3) := by decide +kernel
theorem d_MM_decisionOf_23 : decode b_MM_decisionOf 23 = .ok (.aload_n 0, 1) := by decide +kernel
theorem d_MM_decisionOf_24 : decode b_MM_decisionOf 24 = .ok (.getfield 9, 3) := by decide +kernel
theorem d_MM_decisionOf_27 : decode b_MM_decisionOf 27 = .ok (.iconst 4, 1) := by decide +kernel
theorem d_MM_decisionOf_28 : decode b_MM_decisionOf 28 = .ok (.iaload, 1) := by decide +kernel
theorem d_MM_decisionOf_29 : decode b_MM_decisionOf 29 = .ok (.ireturn, 1) := by decide +kernel
theorem d_MM_decision_0 : decode b_MM_decision 0 = .ok (.aload_n 0, 1) := by decide +kernel
theorem d_MM_decision_1 : decode b_MM_decision 1 = .ok (.iload_n 1, 1) := by decide +kernel
theorem d_MM_decision_2 : decode b_MM_decision 2 = .ok (.invokevirtual 300, 3) := by decide +kernel
theorem d_MM_decision_5 : decode b_MM_decision 5 = .ok (.ifCond .ne 5, 3) := by decide +kernel
theorem d_MM_decision_8 : decode b_MM_decision 8 = .ok (.iconst (-1), 1) := by decide +kernel
theorem d_MM_decision_9 : decode b_MM_decision 9 = .ok (.ireturn, 1) := by decide +kernel
theorem d_MM_decision_10 : decode b_MM_decision 10 = .ok (.aload_n 0, 1) := by decide +kernel
theorem d_MM_decision_11 : decode b_MM_decision 11 = .ok (.invokevirtual 321, 3) := by decide +kernel
theorem d_MM_decision_14 : decode b_MM_decision 14 = .ok (.aload_n 0, 1) := by decide +kernel
theorem d_MM_decision_15 : decode b_MM_decision 15 = .ok (.iload_n 1, 1) := by decide +kernel
theorem d_MM_decision_16 : decode b_MM_decision 16 = .ok (.invokevirtual 318, 3) := by decide +kernel
theorem d_MM_decision_19 : decode b_MM_decision 19 = .ok (.ireturn, 1) := by decide +kernel
theorem d_MM_extracted_0 : decode b_MM_extracted 0 = .ok (.aload_n 0, 1) := by decide +kernel
theorem d_MM_extracted_1 : decode b_MM_extracted 1 = .ok (.iload_n 1, 1) := by decide +kernel
theorem d_MM_extracted_2 : decode b_MM_extracted 2 = .ok (.invokevirtual 300, 3) := by decide +kernel
theorem d_MM_extracted_5 : decode b_MM_extracted 5 = .ok (.ifCond .eq 27, 3) := by decide +kernel
theorem d_MM_extracted_8 : decode b_MM_extracted 8 = .ok (.iload_n 2, 1) := by decide +kernel
theorem d_MM_extracted_9 : decode b_MM_extracted 9 = .ok (.i2l, 1) := by decide +kernel
theorem d_MM_extracted_10 : decode b_MM_extracted 10 = .ok (.lconst 0, 1) := by decide +kernel
theorem d_MM_extracted_11 : decode b_MM_extracted 11 = .ok (.ldc2_w 212, 3) := by decide +kernel
theorem d_MM_extracted_14 : decode b_MM_extracted 14 = .ok (.invokestatic 108, 3) := by decide +kernel
theorem d_MM_extracted_17 : decode b_MM_extracted 17 = .ok (.ifCond .eq 15, 3) := by decide +kernel
theorem d_MM_extracted_20 : decode b_MM_extracted 20 = .ok (.iload_n 3, 1) := by decide +kernel
theorem d_MM_extracted_21 : decode b_MM_extracted 21 = .ok (.i2l, 1) := by decide +kernel
theorem d_MM_extracted_22 : decode b_MM_extracted 22 = .ok (.lconst 0, 1) := by decide +kernel
theorem d_MM_extracted_23 : decode b_MM_extracted 23 = .ok (.ldc2_w 212, 3) := by decide +kernel
theorem d_MM_extracted_26 : decode b_MM_extracted 26 = .ok (.invokestatic 108, 3) := by decide +kernel
theorem d_MM_extracted_29 : decode b_MM_extracted 29 = .ok (.ifCond .ne 5, 3) := by decide +kernel
theorem d_MM_extracted_32 : decode b_MM_extracted 32 = .ok (.iconst (-1), 1) := by decide +kernel
theorem d_MM_extracted_33 : decode b_MM_extracted 33 = .ok (.ireturn, 1) := by decide +kernel
theorem d_MM_extracted_34 : decode b_MM_extracted 34 = .ok (.aload_n 0, 1) := by decide +kernel
theorem d_MM_extracted_35 : decode b_MM_extracted 35 = .ok (.invokevirtual 321, 3) := by decide +kernel
theorem d_MM_extracted_38 : decode b_MM_extracted 38 = .ok (.aload_n 0, 1) := by decide +kernel
theorem d_MM_extracted_39 : decode b_MM_extracted 39 = .ok (.getfield 60, 3) := by decide +kernel
theorem d_MM_extracted_42 : decode b_MM_extracted 42 = .ok (.iload_n 1, 1) := by decide +kernel
theorem d_MM_extracted_43 : decode b_MM_extracted 43 = .ok (.iload_n 2, 1) := by decide +kernel
theorem d_MM_extracted_44 : decode b_MM_extracted 44 = .ok (.invokestatic 276, 3) := by decide +kernel
theorem d_MM_extracted_47 : decode b_MM_extracted 47 = .ok (.iaload, 1) := by decide +kernel
theorem d_MM_extracted_48 : decode b_MM_extracted 48 = .ok (.istore 4, 2) := by decide +kernel
theorem d_MM_extracted_50 : decode b_MM_extracted 50 = .ok (.iload 4, 2) := by decide +kernel
theorem d_MM_extracted_52 : decode b_MM_extracted 52 = .ok (.iconst (-1), 1) := by decide +kernel
theorem d_MM_extracted_53 : decode b_MM_extracted 53 = .ok (.if_icmp .ne 6, 3) := by decide +kernel
theorem d_MM_extracted_56 : decode b_MM_extracted 56 = .ok (.bipush (-2), 2) := by decide +kernel
theorem d_MM_extracted_58 : decode b_MM_extracted 58 = .ok (.ireturn, 1) := by decide +kernel
theorem d_MM_extracted_59 : decode b_MM_extracted 59 = .ok (.aload_n 0, 1) := by decide +kernel
theorem d_MM_extracted_60 : decode b_MM_extracted 60 = .ok (.getfield 63, 3) := by decide +kernel
theorem d_MM_extracted_63 : decode b_MM_extracted 63 = .ok (.iload_n 1, 1) := by decide +kernel
theorem d_MM_extracted_64 : decode b_MM_extracted 64 = .ok (.iload_n 2, 1) := by decide +kernel
theorem d_MM_extracted_65 : decode b_MM_extracted 65 = .ok (.invokestatic 276, 3) := by decide +kernel
theorem d_MM_extracted_68 : decode b_MM_extracted 68 = .ok (.iaload, 1) := by decide +kernel
theorem d_MM_extracted_69 : decode b_MM_extracted 69 = .ok (.istore 5, 2) := by decide +kernel
theorem d_MM_extracted_71 : decode b_MM_extracted 71 = .ok (.iload_n 3, 1) := by decide +kernel
theorem d_MM_extracted_72 : decode b_MM_extracted 72 = .ok (.tableswitch 67 0 2 #[28, 31, 49], 28) := by decide +kernel
theorem d_MM_extracted_100 : decode b_MM_extracted 100 = .ok (.iload 4, 2) := by decide +kernel
theorem d_MM_extracted_102 : decode b_MM_extracted 102 = .ok (.ireturn, 1) := by decide +kernel
theorem d_MM_extracted_103 : decode b_MM_extracted 103 = .ok (.iload 5, 2) := by decide +kernel
theorem d_MM_extracted_105 : decode b_MM_extracted 105 = .ok (.iconst (-1), 1) := by decide +kernel
theorem d_MM_extracted_106 : decode b_MM_extracted 106 = .ok (.if_icmp .ne 7, 3) := by decide +kernel
theorem d_MM_extracted_109 : decode b_MM_extracted 109 = .ok (.iconst (-1), 1) := by decide +kernel
theorem d_MM_extracted_110 : decode b_MM_extracted 110 = .ok (.goto 10, 3) := by decide +kernel
theorem d_MM_extracted_113 : decode b_MM_extracted 113 = .ok (.aload_n 0, 1) := by decide +kernel
theorem d_MM_extracted_114 : decode b_MM_extracted 114 = .ok (.getfield 39, 3) := by decide +kernel
theorem d_MM_extracted_117 : decode b_MM_extracted 117 = .ok (.iload 5, 2) := by decide +kernel
theorem d_MM_extracted_119 : decode b_MM_extracted 119 = .ok (.iaload, 1) := by decide +kernel
theorem d_MM_extracted_120 : decode b_MM_extracted 120 = .ok (.ireturn, 1) := by decide +kernel
theorem d_MM_extracted_121 : decode b_MM_extracted 121 = .ok (.iload 5, 2) := by decide +kernel
theorem d_MM_extracted_123 : decode b_MM_extracted 123 = .ok (.iconst (-1), 1) := by decide +kernel
theorem d_MM_extracted_124 : decode b_MM_extracted 124 = .ok (.if_icmp .ne 7, 3) := by decide +kernel
theorem d_MM_extracted_127 : decode b_MM_extracted 127 = .ok (.iconst 0, 1) := by decide +kernel
theorem d_MM_extracted_128 : decode b_MM_extracted 128 = .ok (.goto 10, 3) := by decide +kernel
theorem d_MM_extracted_131 : decode b_MM_extracted 131 = .ok (.aload_n 0, 1) := by decide +kernel
theorem d_MM_extracted_132 : decode b_MM_extracted 132 = .ok (.getfield 48, 3) := by decide +kernel
theorem d_MM_extracted_135 : decode b_MM_extracted 135 = .ok (.iload 5, 2) := by decide +kernel
theorem d_MM_extracted_137 : decode b_MM_extracted 137 = .ok (.iaload, 1) := by decide +kernel
theorem d_MM_extracted_138 : decode b_MM_extracted 138 = .ok (.ireturn, 1) := by decide +kernel
theorem d_MM_extracted_139 : decode b_MM_extracted 139 = .ok (.aload_n 0, 1) := by decide +kernel
theorem d_MM_extracted_140 : decode b_MM_extracted 140 = .ok (.iload_n 1, 1) := by decide +kernel
theorem d_MM_extracted_141 : decode b_MM_extracted 141 = .ok (.iload_n 2, 1) := by decide +kernel
theorem d_MM_extracted_142 : decode b_MM_extracted 142 = .ok (.invokevirtual 288, 3) := by decide +kernel
theorem d_MM_extracted_145 : decode b_MM_extracted 145 = .ok (.invokestatic 150, 3) := by decide +kernel
theorem d_MM_extracted_148 : decode b_MM_extracted 148 = .ok (.ireturn, 1) := by decide +kernel
theorem d_MM_letter_0 : decode b_MM_letter 0 = .ok (.aload_n 0, 1) := by decide +kernel
theorem d_MM_letter_1 : decode b_MM_letter 1 = .ok (.invokevirtual 321, 3) := by decide +kernel
theorem d_MM_letter_4 : decode b_MM_letter 4 = .ok (.iload_n 1, 1) := by decide +kernel
theorem d_MM_letter_5 : decode b_MM_letter 5 = .ok (.iconst (-1), 1) := by decide +kernel
theorem d_MM_letter_6 : decode b_MM_letter 6 = .ok (.if_icmp .ne 25, 3) := by decide +kernel
theorem d_MM_letter_9 : decode b_MM_letter 9 = .ok (.aload_n 0, 1) := by decide +kernel
theorem d_MM_letter_10 : decode b_MM_letter 10 = .ok (.getfield 9, 3) := by decide +kernel
theorem d_MM_letter_13 : decode b_MM_letter 13 = .ok (.iconst 0, 1) := by decide +kernel
theorem d_MM_letter_14 : decode b_MM_letter 14 = .ok (.iaload, 1) := by decide +kernel
theorem d_MM_letter_15 : decode b_MM_letter 15 = .ok (.ifCond .le 14, 3) := by decide +kernel
theorem d_MM_letter_18 : decode b_MM_letter 18 = .ok (.iload_n 2, 1) := by decide +kernel
theorem d_MM_letter_19 : decode b_MM_letter 19 = .ok (.ifCond .ne 10, 3) := by decide +kernel
theorem d_MM_letter_22 : decode b_MM_letter 22 = .ok (.aload_n 0, 1) := by decide +kernel
theorem d_MM_letter_23 : decode b_MM_letter 23 = .ok (.getfield 264, 3) := by decide +kernel
theorem d_MM_letter_26 : decode b_MM_letter 26 = .ok (.goto 4, 3) := by decide +kernel
theorem d_MM_letter_29 : decode b_MM_letter 29 = .ok (.iconst (-1), 1) := by decide +kernel
theorem d_MM_letter_30 : decode b_MM_letter 30 = .ok (.ireturn, 1) := by decide +kernel
theorem d_MM_letter_31 : decode b_MM_letter 31 = .ok (.iload_n 1, 1) := by decide +kernel
theorem d_MM_letter_32 : decode b_MM_letter 32 = .ok (.i2l, 1) := by decide +kernel
theorem d_MM_letter_33 : decode b_MM_letter 33 = .ok (.lconst 0, 1) := by decide +kernel
theorem d_MM_letter_34 : decode b_MM_letter 34 = .ok (.aload_n 0, 1) := by decide +kernel
theorem d_MM_letter_35 : decode b_MM_letter 35 = .ok (.getfield 264, 3) := by decide +kernel
theorem d_MM_letter_38 : decode b_MM_letter 38 = .ok (.iconst 1, 1) := by decide +kernel
theorem d_MM_letter_39 : decode b_MM_letter 39 = .ok (.isub, 1) := by decide +kernel
theorem d_MM_letter_40 : decode b_MM_letter 40 = .ok (.i2l, 1) := by decide +kernel
theorem d_MM_letter_41 : decode b_MM_letter 41 = .ok (.invokestatic 108, 3) := by decide +kernel
theorem d_MM_letter_44 : decode b_MM_letter 44 = .ok (.ifCond .ne 5, 3) := by decide +kernel
theorem d_MM_letter_47 : decode b_MM_letter 47 = .ok (.iconst (-1), 1) := by decide +kernel
theorem d_MM_letter_48 : decode b_MM_letter 48 = .ok (.ireturn, 1) := by decide +kernel
theorem d_MM_letter_49 : decode b_MM_letter 49 = .ok (.iload_n 2, 1) := by decide +kernel
theorem d_MM_letter_50 : decode b_MM_letter 50 = .ok (.tableswitch 91 0 6 #[42, 49, 56, 63, 70, 77, 84], 42) := by decide +kernel
theorem d_MM_letter_92 : decode b_MM_letter 92 = .ok (.aload_n 0, 1) := by decide +kernel
theorem d_MM_letter_93 : decode b_MM_letter 93 = .ok (.getfield 36, 3) := by decide +kernel
theorem d_MM_letter_96 : decode b_MM_letter 96 = .ok (.iload_n 1, 1) := by decide +kernel
theorem d_MM_letter_97 : decode b_MM_letter 97 = .ok (.iaload, 1) := by decide +kernel
theorem d_MM_letter_98 : decode b_MM_letter 98 = .ok (.ireturn, 1) := by decide +kernel
theorem d_MM_letter_99 : decode b_MM_letter 99 = .ok (.aload_n 0, 1) := by decide +kernel
theorem d_MM_letter_100 : decode b_MM_letter 100 = .ok (.getfield 39, 3) := by decide +kernel
theorem d_MM_letter_103 : decode b_MM_letter 103 = .ok (.iload_n 1, 1) := by decide +kernel
theorem d_MM_letter_104 : decode b_MM_letter 104 = .ok (.iaload, 1) := by decide +kernel
theorem d_MM_letter_105 : decode b_MM_letter 105 = .ok (.ireturn, 1) := by decide +kernel
theorem d_MM_letter_106 : decode b_MM_letter 106 = .ok (.aload_n 0, 1) := by decide +kernel
theorem d_MM_letter_107 : decode b_MM_letter 107 = .ok (.getfield 42, 3) := by decide +kernel
theorem d_MM_letter_110 : decode b_MM_letter 110 = .ok (.iload_n 1, 1) := by decide +kernel
theorem d_MM_letter_111 : decode b_MM_letter 111 = .ok (.iaload, 1) := by decide +kernel
theorem d_MM_letter_112 : decode b_MM_letter 112 = .ok (.ireturn, 1) := by decide +kernel
theorem d_MM_letter_113 : decode b_MM_letter 113 = .ok (.aload_n 0, 1) := by decide +kernel
theorem d_MM_letter_114 : decode b_MM_letter 114 = .ok (.getfield 45, 3) := by decide +kernel
theorem d_MM_letter_117 : decode b_MM_letter 117 = .ok (.iload_n 1, 1) := by decide +kernel
theorem d_MM_letter_118 : decode b_MM_letter 118 = .ok (.iaload, 1) := by decide +kernel
theorem d_MM_letter_119 : decode b_MM_letter 119 = .ok (.ireturn, 1) := by decide +kernel
theorem d_MM_letter_120 : decode b_MM_letter 120 = .ok (.aload_n 0, 1) := by decide +kernel
theorem d_MM_letter_121 : decode b_MM_letter 121 = .ok (.getfield 48, 3) := by decide +kernel
theorem d_MM_letter_124 : decode b_MM_letter 124 = .ok (.iload_n 1, 1) := by decide +kernel
theorem d_MM_letter_125 : decode b_MM_letter 125 = .ok (.iaload, 1) := by decide +kernel
theorem d_MM_letter_126 : decode b_MM_letter 126 = .ok (.ireturn, 1) := by decide +kernel
theorem d_MM_letter_127 : decode b_MM_letter 127 = .ok (.aload_n 0, 1) := by decide +kernel
theorem d_MM_letter_128 : decode b_MM_letter 128 = .ok (.getfield 51, 3) := by decide +kernel
theorem d_MM_letter_131 : decode b_MM_letter 131 = .ok (.iload_n 1, 1) := by decide +kernel
theorem d_MM_letter_132 : decode b_MM_letter 132 = .ok (.iaload, 1) := by decide +kernel
theorem d_MM_letter_133 : decode b_MM_letter 133 = .ok (.ireturn, 1) := by decide +kernel
theorem d_MM_letter_134 : decode b_MM_letter 134 = .ok (.aload_n 0, 1) := by decide +kernel
theorem d_MM_letter_135 : decode b_MM_letter 135 = .ok (.getfield 54, 3) := by decide +kernel
theorem d_MM_letter_138 : decode b_MM_letter 138 = .ok (.iload_n 1, 1) := by decide +kernel
theorem d_MM_letter_139 : decode b_MM_letter 139 = .ok (.iaload, 1) := by decide +kernel
theorem d_MM_letter_140 : decode b_MM_letter 140 = .ok (.ireturn, 1) := by decide +kernel
theorem d_MM_letter_141 : decode b_MM_letter 141 = .ok (.iconst (-1), 1) := by decide +kernel
theorem d_MM_letter_142 : decode b_MM_letter 142 = .ok (.ireturn, 1) := by decide +kernel
theorem d_MM_mark_0 : decode b_MM_mark 0 = .ok (.aload_n 0, 1) := by decide +kernel
theorem d_MM_mark_1 : decode b_MM_mark 1 = .ok (.invokevirtual 321, 3) := by decide +kernel
theorem d_MM_mark_4 : decode b_MM_mark 4 = .ok (.iload_n 1, 1) := by decide +kernel
theorem d_MM_mark_5 : decode b_MM_mark 5 = .ok (.i2l, 1) := by decide +kernel
theorem d_MM_mark_6 : decode b_MM_mark 6 = .ok (.lconst 0, 1) := by decide +kernel
theorem d_MM_mark_7 : decode b_MM_mark 7 = .ok (.aload_n 0, 1) := by decide +kernel
theorem d_MM_mark_8 : decode b_MM_mark 8 = .ok (.getfield 264, 3) := by decide +kernel
theorem d_MM_mark_11 : decode b_MM_mark 11 = .ok (.iconst 1, 1) := by decide +kernel
theorem d_MM_mark_12 : decode b_MM_mark 12 = .ok (.isub, 1) := by decide +kernel
theorem d_MM_mark_13 : decode b_MM_mark 13 = .ok (.i2l, 1) := by decide +kernel
theorem d_MM_mark_14 : decode b_MM_mark 14 = .ok (.invokestatic 108, 3) := by decide +kernel
theorem d_MM_mark_17 : decode b_MM_mark 17 = .ok (.ifCond .eq 35, 3) := by decide +kernel
theorem d_MM_mark_20 : decode b_MM_mark 20 = .ok (.iload_n 2, 1) := by decide +kernel
theorem d_MM_mark_21 : decode b_MM_mark 21 = .ok (.i2l, 1) := by decide +kernel
theorem d_MM_mark_22 : decode b_MM_mark 22 = .ok (.lconst 0, 1) := by decide +kernel
theorem d_MM_mark_23 : decode b_MM_mark 23 = .ok (.aload_n 0, 1) := by decide +kernel
theorem d_MM_mark_24 : decode b_MM_mark 24 = .ok (.getfield 48, 3) := by decide +kernel
theorem d_MM_mark_27 : decode b_MM_mark 27 = .ok (.iload_n 1, 1) := by decide +kernel
theorem d_MM_mark_28 : decode b_MM_mark 28 = .ok (.iaload, 1) := by decide +kernel
theorem d_MM_mark_29 : decode b_MM_mark 29 = .ok (.iconst 1, 1) := by decide +kernel
theorem d_MM_mark_30 : decode b_MM_mark 30 = .ok (.isub, 1) := by decide +kernel
theorem d_MM_mark_31 : decode b_MM_mark 31 = .ok (.i2l, 1) := by decide +kernel
theorem d_MM_mark_32 : decode b_MM_mark 32 = .ok (.invokestatic 108, 3) := by decide +kernel
theorem d_MM_mark_35 : decode b_MM_mark 35 = .ok (.ifCond .eq 17, 3) := by decide +kernel
theorem d_MM_mark_38 : decode b_MM_mark 38 = .ok (.aload_n 0, 1) := by decide +kernel
theorem d_MM_mark_39 : decode b_MM_mark 39 = .ok (.getfield 57, 3) := by decide +kernel
theorem d_MM_mark_42 : decode b_MM_mark 42 = .ok (.bipush 8, 2) := by decide +kernel
theorem d_MM_mark_44 : decode b_MM_mark 44 = .ok (.iload_n 1, 1) := by decide +kernel
theorem d_MM_mark_45 : decode b_MM_mark 45 = .ok (.imul, 1) := by decide +kernel
theorem d_MM_mark_46 : decode b_MM_mark 46 = .ok (.iload_n 2, 1) := by decide +kernel
theorem d_MM_mark_47 : decode b_MM_mark 47 = .ok (.iadd, 1) := by decide +kernel
theorem d_MM_mark_48 : decode b_MM_mark 48 = .ok (.iaload, 1) := by decide +kernel
theorem d_MM_mark_49 : decode b_MM_mark 49 = .ok (.goto 4, 3) := by decide +kernel
theorem d_MM_mark_52 : decode b_MM_mark 52 = .ok (.iconst (-1), 1) := by decide +kernel
theorem d_MM_mark_53 : decode b_MM_mark 53 = .ok (.ireturn, 1) := by decide +kernel
theorem d_MM_packed_0 : decode b_MM_packed 0 = .ok (.aload_n 0, 1) := by decide +kernel
theorem d_MM_packed_1 : decode b_MM_packed 1 = .ok (.invokevirtual 321, 3) := by decide +kernel
theorem d_MM_packed_4 : decode b_MM_packed 4 = .ok (.iload_n 1, 1) := by decide +kernel
theorem d_MM_packed_5 : decode b_MM_packed 5 = .ok (.i2l, 1) := by decide +kernel
theorem d_MM_packed_6 : decode b_MM_packed 6 = .ok (.lconst 0, 1) := by decide +kernel
theorem d_MM_packed_7 : decode b_MM_packed 7 = .ok (.aload_n 0, 1) := by decide +kernel
theorem d_MM_packed_8 : decode b_MM_packed 8 = .ok (.getfield 264, 3) := by decide +kernel
theorem d_MM_packed_11 : decode b_MM_packed 11 = .ok (.iconst 1, 1) := by decide +kernel
theorem d_MM_packed_12 : decode b_MM_packed 12 = .ok (.isub, 1) := by decide +kernel
theorem d_MM_packed_13 : decode b_MM_packed 13 = .ok (.i2l, 1) := by decide +kernel
theorem d_MM_packed_14 : decode b_MM_packed 14 = .ok (.invokestatic 108, 3) := by decide +kernel
theorem d_MM_packed_17 : decode b_MM_packed 17 = .ok (.ifCond .ne 7, 3) := by decide +kernel
theorem d_MM_packed_20 : decode b_MM_packed 20 = .ok (.ldc2_w 324, 3) := by decide +kernel
theorem d_MM_packed_23 : decode b_MM_packed 23 = .ok (.lreturn, 1) := by decide +kernel
theorem d_MM_packed_24 : decode b_MM_packed 24 = .ok (.lconst 0, 1) := by decide +kernel
theorem d_MM_packed_25 : decode b_MM_packed 25 = .ok (.lstore_n 2, 1) := by decide +kernel
theorem d_MM_packed_26 : decode b_MM_packed 26 = .ok (.aload_n 0, 1) := by decide +kernel
theorem d_MM_packed_27 : decode b_MM_packed 27 = .ok (.getfield 48, 3) := by decide +kernel
theorem d_MM_packed_30 : decode b_MM_packed 30 = .ok (.iload_n 1, 1) := by decide +kernel
theorem d_MM_packed_31 : decode b_MM_packed 31 = .ok (.iaload, 1) := by decide +kernel
theorem d_MM_packed_32 : decode b_MM_packed 32 = .ok (.iconst 1, 1) := by decide +kernel
theorem d_MM_packed_33 : decode b_MM_packed 33 = .ok (.isub, 1) := by decide +kernel
theorem d_MM_packed_34 : decode b_MM_packed 34 = .ok (.istore 4, 2) := by decide +kernel
theorem d_MM_packed_36 : decode b_MM_packed 36 = .ok (.iload 4, 2) := by decide +kernel
theorem d_MM_packed_38 : decode b_MM_packed 38 = .ok (.ifCond .lt 31, 3) := by decide +kernel
theorem d_MM_packed_41 : decode b_MM_packed 41 = .ok (.ldc2_w 326, 3) := by decide +kernel
theorem d_MM_packed_44 : decode b_MM_packed 44 = .ok (.lload_n 2, 1) := by decide +kernel
theorem d_MM_packed_45 : decode b_MM_packed 45 = .ok (.lmul, 1) := by decide +kernel
theorem d_MM_packed_46 : decode b_MM_packed 46 = .ok (.aload_n 0, 1) := by decide +kernel
theorem d_MM_packed_47 : decode b_MM_packed 47 = .ok (.getfield 57, 3) := by decide +kernel
theorem d_MM_packed_50 : decode b_MM_packed 50 = .ok (.bipush 8, 2) := by decide +kernel
theorem d_MM_packed_52 : decode b_MM_packed 52 = .ok (.iload_n 1, 1) := by decide +kernel
theorem d_MM_packed_53 : decode b_MM_packed 53 = .ok (.imul, 1) := by decide +kernel
theorem d_MM_packed_54 : decode b_MM_packed 54 = .ok (.iload 4, 2) := by decide +kernel
theorem d_MM_packed_56 : decode b_MM_packed 56 = .ok (.iadd, 1) := by decide +kernel
theorem d_MM_packed_57 : decode b_MM_packed 57 = .ok (.iaload, 1) := by decide +kernel
theorem d_MM_packed_58 : decode b_MM_packed 58 = .ok (.i2l, 1) := by decide +kernel
theorem d_MM_packed_59 : decode b_MM_packed 59 = .ok (.ladd, 1) := by decide +kernel
theorem d_MM_packed_60 : decode b_MM_packed 60 = .ok (.lconst 1, 1) := by decide +kernel
theorem d_MM_packed_61 : decode b_MM_packed 61 = .ok (.ladd, 1) := by decide +kernel
theorem d_MM_packed_62 : decode b_MM_packed 62 = .ok (.lstore_n 2, 1) := by decide +kernel
theorem d_MM_packed_63 : decode b_MM_packed 63 = .ok (.iinc 4 (-1), 3) := by decide +kernel
theorem d_MM_packed_66 : decode b_MM_packed 66 = .ok (.goto (-30), 3) := by decide +kernel
theorem d_MM_packed_69 : decode b_MM_packed 69 = .ok (.ldc2_w 210, 3) := by decide +kernel
theorem d_MM_packed_72 : decode b_MM_packed 72 = .ok (.lload_n 2, 1) := by decide +kernel
theorem d_MM_packed_73 : decode b_MM_packed 73 = .ok (.lmul, 1) := by decide +kernel
theorem d_MM_packed_74 : decode b_MM_packed 74 = .ok (.aload_n 0, 1) := by decide +kernel
theorem d_MM_packed_75 : decode b_MM_packed 75 = .ok (.getfield 45, 3) := by decide +kernel
theorem d_MM_packed_78 : decode b_MM_packed 78 = .ok (.iload_n 1, 1) := by decide +kernel
theorem d_MM_packed_79 : decode b_MM_packed 79 = .ok (.iaload, 1) := by decide +kernel
theorem d_MM_packed_80 : decode b_MM_packed 80 = .ok (.i2l, 1) := by decide +kernel
theorem d_MM_packed_81 : decode b_MM_packed 81 = .ok (.ladd, 1) := by decide +kernel
theorem d_MM_packed_82 : decode b_MM_packed 82 = .ok (.lreturn, 1) := by decide +kernel
theorem d_MM_open_0 : decode b_MM_open 0 = .ok (.lload_n 1, 1) := by decide +kernel
theorem d_MM_open_1 : decode b_MM_open 1 = .ok (.lconst 0, 1) := by decide +kernel
theorem d_MM_open_2 : decode b_MM_open 2 = .ok (.lcmp, 1) := by decide +kernel
theorem d_MM_open_3 : decode b_MM_open 3 = .ok (.ifCond .ge 5, 3) := by decide +kernel
theorem d_MM_open_6 : decode b_MM_open 6 = .ok (.iconst (-1), 1) := by decide +kernel
theorem d_MM_open_7 : decode b_MM_open 7 = .ok (.ireturn, 1) := by decide +kernel
theorem d_MM_open_8 : decode b_MM_open 8 = .ok (.iconst 0, 1) := by decide +kernel
theorem d_MM_open_9 : decode b_MM_open 9 = .ok (.istore 4, 2) := by decide +kernel
theorem d_MM_open_11 : decode b_MM_open 11 = .ok (.iconst 0, 1) := by decide +kernel
theorem d_MM_open_12 : decode b_MM_open 12 = .ok (.istore 5, 2) := by decide +kernel
theorem d_MM_open_14 : decode b_MM_open 14 = .ok (.bipush (-2), 2) := by decide +kernel
theorem d_MM_open_16 : decode b_MM_open 16 = .ok (.istore 6, 2) := by decide +kernel
theorem d_MM_open_18 : decode b_MM_open 18 = .ok (.lload_n 1, 1) := by decide +kernel
theorem d_MM_open_19 : decode b_MM_open 19 = .ok (.ldc2_w 210, 3) := by decide +kernel
theorem d_MM_open_22 : decode b_MM_open 22 = .ok (.ldiv, 1) := by decide +kernel
theorem d_MM_open_23 : decode b_MM_open 23 = .ok (.lstore 7, 2) := by decide +kernel
theorem d_MM_open_25 : decode b_MM_open 25 = .ok (.lload 7, 2) := by decide +kernel
theorem d_MM_open_27 : decode b_MM_open 27 = .ok (.lconst 0, 1) := by decide +kernel
theorem d_MM_open_28 : decode b_MM_open 28 = .ok (.lcmp, 1) := by decide +kernel
theorem d_MM_open_29 : decode b_MM_open 29 = .ok (.ifCond .le 79, 3) := by decide +kernel
theorem d_MM_open_32 : decode b_MM_open 32 = .ok (.lload 7, 2) := by decide +kernel
theorem d_MM_open_34 : decode b_MM_open 34 = .ok (.ldc2_w 326, 3) := by decide +kernel
theorem d_MM_open_37 : decode b_MM_open 37 = .ok (.lrem, 1) := by decide +kernel
theorem d_MM_open_38 : decode b_MM_open 38 = .ok (.l2i, 1) := by decide +kernel
theorem d_MM_open_39 : decode b_MM_open 39 = .ok (.iconst 1, 1) := by decide +kernel
theorem d_MM_open_40 : decode b_MM_open 40 = .ok (.isub, 1) := by decide +kernel
theorem d_MM_open_41 : decode b_MM_open 41 = .ok (.istore 9, 2) := by decide +kernel
theorem d_MM_open_43 : decode b_MM_open 43 = .ok (.iload 9, 2) := by decide +kernel
theorem d_MM_open_45 : decode b_MM_open 45 = .ok (.ifCond .lt 20, 3) := by decide +kernel
theorem d_MM_open_48 : decode b_MM_open 48 = .ok (.iload 4, 2) := by decide +kernel
theorem d_MM_open_50 : decode b_MM_open 50 = .ok (.bipush 8, 2) := by decide +kernel
theorem d_MM_open_52 : decode b_MM_open 52 = .ok (.if_icmp .eq 13, 3) := by decide +kernel
theorem d_MM_open_55 : decode b_MM_open 55 = .ok (.iload 5, 2) := by decide +kernel
theorem d_MM_open_57 : decode b_MM_open 57 = .ok (.iload 9, 2) := by decide +kernel
theorem d_MM_open_59 : decode b_MM_open 59 = .ok (.invokestatic 201, 3) := by decide +kernel
theorem d_MM_open_62 : decode b_MM_open 62 = .ok (.ifCond .eq 5, 3) := by decide +kernel
theorem d_MM_open_65 : decode b_MM_open 65 = .ok (.iconst (-1), 1) := by decide +kernel
theorem d_MM_open_66 : decode b_MM_open 66 = .ok (.ireturn, 1) := by decide +kernel
theorem d_MM_open_67 : decode b_MM_open 67 = .ok (.iload 5, 2) := by decide +kernel
theorem d_MM_open_69 : decode b_MM_open 69 = .ok (.iconst 1, 1) := by decide +kernel
theorem d_MM_open_70 : decode b_MM_open 70 = .ok (.iload 9, 2) := by decide +kernel
theorem d_MM_open_72 : decode b_MM_open 72 = .ok (.ishl, 1) := by decide +kernel
theorem d_MM_open_73 : decode b_MM_open 73 = .ok (.ior, 1) := by decide +kernel
theorem d_MM_open_74 : decode b_MM_open 74 = .ok (.istore 5, 2) := by decide +kernel
theorem d_MM_open_76 : decode b_MM_open 76 = .ok (.iload_n 3, 1) := by decide +kernel
theorem d_MM_open_77 : decode b_MM_open 77 = .ok (.bipush 10, 2) := by decide +kernel
theorem d_MM_open_79 : decode b_MM_open 79 = .ok (.iload 4, 2) := by decide +kernel
theorem d_MM_open_81 : decode b_MM_open 81 = .ok (.iadd, 1) := by decide +kernel
theorem d_MM_open_82 : decode b_MM_open 82 = .ok (.if_icmp .ne 8, 3) := by decide +kernel
theorem d_MM_open_85 : decode b_MM_open 85 = .ok (.iload 9, 2) := by decide +kernel
theorem d_MM_open_87 : decode b_MM_open 87 = .ok (.goto 5, 3) := by decide +kernel
theorem d_MM_open_90 : decode b_MM_open 90 = .ok (.iload 6, 2) := by decide +kernel
theorem d_MM_open_92 : decode b_MM_open 92 = .ok (.istore 6, 2) := by decide +kernel
theorem d_MM_open_94 : decode b_MM_open 94 = .ok (.iinc 4 1, 3) := by decide +kernel
theorem d_MM_open_97 : decode b_MM_open 97 = .ok (.lload 7, 2) := by decide +kernel
theorem d_MM_open_99 : decode b_MM_open 99 = .ok (.ldc2_w 326, 3) := by decide +kernel
theorem d_MM_open_102 : decode b_MM_open 102 = .ok (.ldiv, 1) := by decide +kernel
theorem d_MM_open_103 : decode b_MM_open 103 = .ok (.lstore 7, 2) := by decide +kernel
theorem d_MM_open_105 : decode b_MM_open 105 = .ok (.goto (-80), 3) := by decide +kernel
theorem d_MM_open_108 : decode b_MM_open 108 = .ok (.iload 4, 2) := by decide +kernel
theorem d_MM_open_110 : decode b_MM_open 110 = .ok (.ifCond .eq 27, 3) := by decide +kernel
theorem d_MM_open_113 : decode b_MM_open 113 = .ok (.iload_n 3, 1) := by decide +kernel
theorem d_MM_open_114 : decode b_MM_open 114 = .ok (.i2l, 1) := by decide +kernel
theorem d_MM_open_115 : decode b_MM_open 115 = .ok (.lconst 0, 1) := by decide +kernel
theorem d_MM_open_116 : decode b_MM_open 116 = .ok (.lconst 1, 1) := by decide +kernel
theorem d_MM_open_117 : decode b_MM_open 117 = .ok (.invokestatic 108, 3) := by decide +kernel
theorem d_MM_open_120 : decode b_MM_open 120 = .ok (.ifCond .ne 19, 3) := by decide +kernel
theorem d_MM_open_123 : decode b_MM_open 123 = .ok (.iload_n 3, 1) := by decide +kernel
theorem d_MM_open_124 : decode b_MM_open 124 = .ok (.i2l, 1) := by decide +kernel
theorem d_MM_open_125 : decode b_MM_open 125 = .ok (.ldc2_w 328, 3) := by decide +kernel
theorem d_MM_open_128 : decode b_MM_open 128 = .ok (.ldc2_w 330, 3) := by decide +kernel
theorem d_MM_open_131 : decode b_MM_open 131 = .ok (.invokestatic 108, 3) := by decide +kernel
theorem d_MM_open_134 : decode b_MM_open 134 = .ok (.ifCond .ne 5, 3) := by decide +kernel
theorem d_MM_open_137 : decode b_MM_open 137 = .ok (.iconst (-1), 1) := by decide +kernel
theorem d_MM_open_138 : decode b_MM_open 138 = .ok (.ireturn, 1) := by decide +kernel
theorem d_MM_open_139 : decode b_MM_open 139 = .ok (.iload_n 3, 1) := by decide +kernel
theorem d_MM_open_140 : decode b_MM_open 140 = .ok (.ifCond .ne 12, 3) := by decide +kernel
theorem d_MM_open_143 : decode b_MM_open 143 = .ok (.lload_n 1, 1) := by decide +kernel
theorem d_MM_open_144 : decode b_MM_open 144 = .ok (.ldc2_w 210, 3) := by decide +kernel
theorem d_MM_open_147 : decode b_MM_open 147 = .ok (.lrem, 1) := by decide +kernel
theorem d_MM_open_148 : decode b_MM_open 148 = .ok (.l2i, 1) := by decide +kernel
theorem d_MM_open_149 : decode b_MM_open 149 = .ok (.goto 15, 3) := by decide +kernel
theorem d_MM_open_152 : decode b_MM_open 152 = .ok (.iload_n 3, 1) := by decide +kernel
theorem d_MM_open_153 : decode b_MM_open 153 = .ok (.iconst 1, 1) := by decide +kernel
theorem d_MM_open_154 : decode b_MM_open 154 = .ok (.if_icmp .ne 8, 3) := by decide +kernel
theorem d_MM_open_157 : decode b_MM_open 157 = .ok (.iload 4, 2) := by decide +kernel
theorem d_MM_open_159 : decode b_MM_open 159 = .ok (.goto 5, 3) := by decide +kernel
theorem d_MM_open_162 : decode b_MM_open 162 = .ok (.iload 6, 2) := by decide +kernel
theorem d_MM_open_164 : decode b_MM_open 164 = .ok (.ireturn, 1) := by decide +kernel
theorem d_MM_sent_0 : decode b_MM_sent 0 = .ok (.aload_n 0, 1) := by decide +kernel
theorem d_MM_sent_1 : decode b_MM_sent 1 = .ok (.getfield 9, 3) := by decide +kernel
theorem d_MM_sent_4 : decode b_MM_sent 4 = .ok (.iconst 0, 1) := by decide +kernel
theorem d_MM_sent_5 : decode b_MM_sent 5 = .ok (.iaload, 1) := by decide +kernel
theorem d_MM_sent_6 : decode b_MM_sent 6 = .ok (.ifCond .eq 20, 3) := by decide +kernel
theorem d_MM_sent_9 : decode b_MM_sent 9 = .ok (.iload_n 1, 1) := by decide +kernel
theorem d_MM_sent_10 : decode b_MM_sent 10 = .ok (.iconst (-1), 1) := by decide +kernel
theorem d_MM_sent_11 : decode b_MM_sent 11 = .ok (.if_icmp .eq 17, 3) := by decide +kernel
theorem d_MM_sent_14 : decode b_MM_sent 14 = .ok (.iload_n 1, 1) := by decide +kernel
theorem d_MM_sent_15 : decode b_MM_sent 15 = .ok (.i2l, 1) := by decide +kernel
theorem d_MM_sent_16 : decode b_MM_sent 16 = .ok (.lconst 1, 1) := by decide +kernel
theorem d_MM_sent_17 : decode b_MM_sent 17 = .ok (.ldc2_w 208, 3) := by decide +kernel
theorem d_MM_sent_20 : decode b_MM_sent 20 = .ok (.invokestatic 108, 3) := by decide +kernel
theorem d_MM_sent_23 : decode b_MM_sent 23 = .ok (.ifCond .ne 5, 3) := by decide +kernel
theorem d_MM_sent_26 : decode b_MM_sent 26 = .ok (.iconst (-1), 1) := by decide +kernel
