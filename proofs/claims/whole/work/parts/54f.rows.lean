/-! printed: each instruction is sound -/
theorem d_119_0 : decode (kby 119) 0 = .ok (.iload_n 0, 1) := by decide +kernel
theorem d_119_1 : decode (kby 119) 1 = .ok (.ifCond .eq 18, 3) := by decide +kernel
theorem d_119_4 : decode (kby 119) 4 = .ok (.iload_n 0, 1) := by decide +kernel
theorem d_119_5 : decode (kby 119) 5 = .ok (.iconst 4, 1) := by decide +kernel
theorem d_119_6 : decode (kby 119) 6 = .ok (.if_icmp .eq 13, 3) := by decide +kernel
theorem d_119_9 : decode (kby 119) 9 = .ok (.iload_n 0, 1) := by decide +kernel
theorem d_119_10 : decode (kby 119) 10 = .ok (.iconst 5, 1) := by decide +kernel
theorem d_119_11 : decode (kby 119) 11 = .ok (.if_icmp .eq 8, 3) := by decide +kernel
theorem d_119_14 : decode (kby 119) 14 = .ok (.iload_n 1, 1) := by decide +kernel
theorem d_119_15 : decode (kby 119) 15 = .ok (.iconst 2, 1) := by decide +kernel
theorem d_119_16 : decode (kby 119) 16 = .ok (.if_icmp .ne 5, 3) := by decide +kernel
theorem d_119_19 : decode (kby 119) 19 = .ok (.iconst 0, 1) := by decide +kernel
theorem d_119_20 : decode (kby 119) 20 = .ok (.ireturn, 1) := by decide +kernel
theorem d_119_21 : decode (kby 119) 21 = .ok (.iload_n 1, 1) := by decide +kernel
theorem d_119_22 : decode (kby 119) 22 = .ok (.ifCond .ne 14, 3) := by decide +kernel
theorem d_119_25 : decode (kby 119) 25 = .ok (.iload_n 0, 1) := by decide +kernel
theorem d_119_26 : decode (kby 119) 26 = .ok (.iconst 3, 1) := by decide +kernel
theorem d_119_27 : decode (kby 119) 27 = .ok (.if_icmp .eq 7, 3) := by decide +kernel
theorem d_119_30 : decode (kby 119) 30 = .ok (.iconst 1, 1) := by decide +kernel
theorem d_119_31 : decode (kby 119) 31 = .ok (.goto 4, 3) := by decide +kernel
theorem d_119_34 : decode (kby 119) 34 = .ok (.iconst 0, 1) := by decide +kernel
theorem d_119_35 : decode (kby 119) 35 = .ok (.ireturn, 1) := by decide +kernel
theorem d_119_36 : decode (kby 119) 36 = .ok (.iload_n 0, 1) := by decide +kernel
theorem d_119_37 : decode (kby 119) 37 = .ok (.bipush 8, 2) := by decide +kernel
theorem d_119_39 : decode (kby 119) 39 = .ok (.if_icmp .eq 13, 3) := by decide +kernel
theorem d_119_42 : decode (kby 119) 42 = .ok (.iload_n 0, 1) := by decide +kernel
theorem d_119_43 : decode (kby 119) 43 = .ok (.bipush 9, 2) := by decide +kernel
theorem d_119_45 : decode (kby 119) 45 = .ok (.if_icmp .eq 7, 3) := by decide +kernel
theorem d_119_48 : decode (kby 119) 48 = .ok (.iconst 1, 1) := by decide +kernel
theorem d_119_49 : decode (kby 119) 49 = .ok (.goto 4, 3) := by decide +kernel
theorem d_119_52 : decode (kby 119) 52 = .ok (.iconst 0, 1) := by decide +kernel
theorem d_119_53 : decode (kby 119) 53 = .ok (.ireturn, 1) := by decide +kernel
set_option maxRecDepth 100000 in
theorem ka_119 : kall 119 0 kc_119 := And.intro (s_iload_n d_119_0 rfl) (And.intro (s_if_eq d_119_1 (by decide +kernel)) (And.intro (s_iload_n d_119_4 rfl) (And.intro (s_iconst d_119_5 (by decide +kernel)) (And.intro (s_icmp_eq d_119_6 (by decide +kernel)) (And.intro (s_iload_n d_119_9 rfl) (And.intro (s_iconst d_119_10 (by decide +kernel)) (And.intro (s_icmp_eq d_119_11 (by decide +kernel)) (And.intro (s_iload_n d_119_14 rfl) (And.intro (s_iconst d_119_15 (by decide +kernel)) (And.intro (s_icmp_ne d_119_16 (by decide +kernel)) (And.intro (s_iconst d_119_19 (by decide +kernel)) (And.intro (s_retz d_119_20 rfl) (And.intro (s_iload_n d_119_21 rfl) (And.intro (s_if_ne d_119_22 (by decide +kernel)) (And.intro (s_iload_n d_119_25 rfl) (And.intro (s_iconst d_119_26 (by decide +kernel)) (And.intro (s_icmp_eq d_119_27 (by decide +kernel)) (And.intro (s_iconst d_119_30 (by decide +kernel)) (And.intro (s_goto d_119_31 (by decide +kernel)) (And.intro (s_iconst d_119_34 (by decide +kernel)) (And.intro (s_retz d_119_35 rfl) (And.intro (s_iload_n d_119_36 rfl) (And.intro (s_bipush d_119_37 (by decide +kernel)) (And.intro (s_icmp_eq d_119_39 (by decide +kernel)) (And.intro (s_iload_n d_119_42 rfl) (And.intro (s_bipush d_119_43 (by decide +kernel)) (And.intro (s_icmp_eq d_119_45 (by decide +kernel)) (And.intro (s_iconst d_119_48 (by decide +kernel)) (And.intro (s_goto d_119_49 (by decide +kernel)) (And.intro (s_iconst d_119_52 (by decide +kernel)) (And.intro (s_retz d_119_53 rfl) (True.intro))))))))))))))))))))))))))))))))
theorem d_120_0 : decode (kby 120) 0 = .ok (.iload_n 1, 1) := by decide +kernel
theorem d_120_1 : decode (kby 120) 1 = .ok (.ifCond .lt 15, 3) := by decide +kernel
theorem d_120_4 : decode (kby 120) 4 = .ok (.iload_n 1, 1) := by decide +kernel
theorem d_120_5 : decode (kby 120) 5 = .ok (.aload_n 0, 1) := by decide +kernel
theorem d_120_6 : decode (kby 120) 6 = .ok (.getfield 138, 3) := by decide +kernel
theorem d_120_9 : decode (kby 120) 9 = .ok (.if_icmp .ge 7, 3) := by decide +kernel
theorem d_120_12 : decode (kby 120) 12 = .ok (.iconst 1, 1) := by decide +kernel
theorem d_120_13 : decode (kby 120) 13 = .ok (.goto 4, 3) := by decide +kernel
theorem d_120_16 : decode (kby 120) 16 = .ok (.iconst 0, 1) := by decide +kernel
theorem d_120_17 : decode (kby 120) 17 = .ok (.ireturn, 1) := by decide +kernel
set_option maxRecDepth 100000 in
theorem ka_120 : kall 120 0 kc_120 := And.intro (s_iload_n d_120_0 rfl) (And.intro (s_if_lt d_120_1 (by decide +kernel)) (And.intro (s_iload_n d_120_4 rfl) (And.intro (s_aload_n d_120_5 rfl) (And.intro (s_get d_120_6 (C := kR8) (T := kT8) (N := 38) rfl kjn8 (by decide +kernel) rfl kf_8_138) (And.intro (s_icmp_ge d_120_9 (by decide +kernel)) (And.intro (s_iconst d_120_12 (by decide +kernel)) (And.intro (s_goto d_120_13 (by decide +kernel)) (And.intro (s_iconst d_120_16 (by decide +kernel)) (And.intro (s_retz d_120_17 rfl) (True.intro))))))))))
theorem d_121_0 : decode (kby 121) 0 = .ok (.iload_n 1, 1) := by decide +kernel
theorem d_121_1 : decode (kby 121) 1 = .ok (.ifCond .ne 20, 3) := by decide +kernel
theorem d_121_4 : decode (kby 121) 4 = .ok (.aload_n 0, 1) := by decide +kernel
theorem d_121_5 : decode (kby 121) 5 = .ok (.aload_n 0, 1) := by decide +kernel
theorem d_121_6 : decode (kby 121) 6 = .ok (.getfield 50, 3) := by decide +kernel
theorem d_121_9 : decode (kby 121) 9 = .ok (.iload_n 2, 1) := by decide +kernel
theorem d_121_10 : decode (kby 121) 10 = .ok (.iaload, 1) := by decide +kernel
theorem d_121_11 : decode (kby 121) 11 = .ok (.aload_n 0, 1) := by decide +kernel
theorem d_121_12 : decode (kby 121) 12 = .ok (.getfield 50, 3) := by decide +kernel
theorem d_121_15 : decode (kby 121) 15 = .ok (.iload_n 2, 1) := by decide +kernel
theorem d_121_16 : decode (kby 121) 16 = .ok (.iaload, 1) := by decide +kernel
theorem d_121_17 : decode (kby 121) 17 = .ok (.invokevirtual 205, 3) := by decide +kernel
theorem d_121_20 : decode (kby 121) 20 = .ok (.ireturn, 1) := by decide +kernel
theorem d_121_21 : decode (kby 121) 21 = .ok (.iload_n 1, 1) := by decide +kernel
theorem d_121_22 : decode (kby 121) 22 = .ok (.iconst 4, 1) := by decide +kernel
theorem d_121_23 : decode (kby 121) 23 = .ok (.if_icmp .ne 76, 3) := by decide +kernel
theorem d_121_26 : decode (kby 121) 26 = .ok (.aload_n 0, 1) := by decide +kernel
theorem d_121_27 : decode (kby 121) 27 = .ok (.getfield 50, 3) := by decide +kernel
theorem d_121_30 : decode (kby 121) 30 = .ok (.iload_n 2, 1) := by decide +kernel
theorem d_121_31 : decode (kby 121) 31 = .ok (.iaload, 1) := by decide +kernel
theorem d_121_32 : decode (kby 121) 32 = .ok (.istore 4, 2) := by decide +kernel
theorem d_121_34 : decode (kby 121) 34 = .ok (.aload_n 0, 1) := by decide +kernel
theorem d_121_35 : decode (kby 121) 35 = .ok (.getfield 32, 3) := by decide +kernel
theorem d_121_38 : decode (kby 121) 38 = .ok (.iload 4, 2) := by decide +kernel
theorem d_121_40 : decode (kby 121) 40 = .ok (.iaload, 1) := by decide +kernel
theorem d_121_41 : decode (kby 121) 41 = .ok (.iconst 3, 1) := by decide +kernel
theorem d_121_42 : decode (kby 121) 42 = .ok (.if_icmp .ne 19, 3) := by decide +kernel
theorem d_121_45 : decode (kby 121) 45 = .ok (.aload_n 0, 1) := by decide +kernel
theorem d_121_46 : decode (kby 121) 46 = .ok (.getfield 32, 3) := by decide +kernel
theorem d_121_49 : decode (kby 121) 49 = .ok (.aload_n 0, 1) := by decide +kernel
theorem d_121_50 : decode (kby 121) 50 = .ok (.getfield 35, 3) := by decide +kernel
theorem d_121_53 : decode (kby 121) 53 = .ok (.iload 4, 2) := by decide +kernel
theorem d_121_55 : decode (kby 121) 55 = .ok (.iaload, 1) := by decide +kernel
theorem d_121_56 : decode (kby 121) 56 = .ok (.iaload, 1) := by decide +kernel
theorem d_121_57 : decode (kby 121) 57 = .ok (.iconst 4, 1) := by decide +kernel
theorem d_121_58 : decode (kby 121) 58 = .ok (.if_icmp .eq 5, 3) := by decide +kernel
theorem d_121_61 : decode (kby 121) 61 = .ok (.iconst (-1), 1) := by decide +kernel
theorem d_121_62 : decode (kby 121) 62 = .ok (.ireturn, 1) := by decide +kernel
theorem d_121_63 : decode (kby 121) 63 = .ok (.aload_n 0, 1) := by decide +kernel
theorem d_121_64 : decode (kby 121) 64 = .ok (.aload_n 0, 1) := by decide +kernel
theorem d_121_65 : decode (kby 121) 65 = .ok (.getfield 38, 3) := by decide +kernel
theorem d_121_68 : decode (kby 121) 68 = .ok (.aload_n 0, 1) := by decide +kernel
theorem d_121_69 : decode (kby 121) 69 = .ok (.getfield 35, 3) := by decide +kernel
theorem d_121_72 : decode (kby 121) 72 = .ok (.iload 4, 2) := by decide +kernel
theorem d_121_74 : decode (kby 121) 74 = .ok (.iaload, 1) := by decide +kernel
theorem d_121_75 : decode (kby 121) 75 = .ok (.iaload, 1) := by decide +kernel
theorem d_121_76 : decode (kby 121) 76 = .ok (.iconst 1, 1) := by decide +kernel
theorem d_121_77 : decode (kby 121) 77 = .ok (.iconst 0, 1) := by decide +kernel
theorem d_121_78 : decode (kby 121) 78 = .ok (.aload_n 0, 1) := by decide +kernel
theorem d_121_79 : decode (kby 121) 79 = .ok (.getfield 38, 3) := by decide +kernel
theorem d_121_82 : decode (kby 121) 82 = .ok (.iload 4, 2) := by decide +kernel
theorem d_121_84 : decode (kby 121) 84 = .ok (.iaload, 1) := by decide +kernel
theorem d_121_85 : decode (kby 121) 85 = .ok (.invokevirtual 177, 3) := by decide +kernel
theorem d_121_88 : decode (kby 121) 88 = .ok (.istore 5, 2) := by decide +kernel
theorem d_121_90 : decode (kby 121) 90 = .ok (.aload_n 0, 1) := by decide +kernel
theorem d_121_91 : decode (kby 121) 91 = .ok (.iload 4, 2) := by decide +kernel
theorem d_121_93 : decode (kby 121) 93 = .ok (.iload 5, 2) := by decide +kernel
theorem d_121_95 : decode (kby 121) 95 = .ok (.invokevirtual 205, 3) := by decide +kernel
theorem d_121_98 : decode (kby 121) 98 = .ok (.ireturn, 1) := by decide +kernel
theorem d_121_99 : decode (kby 121) 99 = .ok (.aload_n 0, 1) := by decide +kernel
theorem d_121_100 : decode (kby 121) 100 = .ok (.getfield 53, 3) := by decide +kernel
theorem d_121_103 : decode (kby 121) 103 = .ok (.iload_n 3, 1) := by decide +kernel
theorem d_121_104 : decode (kby 121) 104 = .ok (.iaload, 1) := by decide +kernel
theorem d_121_105 : decode (kby 121) 105 = .ok (.istore 4, 2) := by decide +kernel
theorem d_121_107 : decode (kby 121) 107 = .ok (.aload_n 0, 1) := by decide +kernel
theorem d_121_108 : decode (kby 121) 108 = .ok (.iload 4, 2) := by decide +kernel
theorem d_121_110 : decode (kby 121) 110 = .ok (.invokevirtual 208, 3) := by decide +kernel
theorem d_121_113 : decode (kby 121) 113 = .ok (.ifCond .ne 5, 3) := by decide +kernel
theorem d_121_116 : decode (kby 121) 116 = .ok (.iconst (-1), 1) := by decide +kernel
theorem d_121_117 : decode (kby 121) 117 = .ok (.ireturn, 1) := by decide +kernel
theorem d_121_118 : decode (kby 121) 118 = .ok (.iload_n 1, 1) := by decide +kernel
theorem d_121_119 : decode (kby 121) 119 = .ok (.iconst 3, 1) := by decide +kernel
theorem d_121_120 : decode (kby 121) 120 = .ok (.if_icmp .ne 132, 3) := by decide +kernel
theorem d_121_123 : decode (kby 121) 123 = .ok (.aload_n 0, 1) := by decide +kernel
theorem d_121_124 : decode (kby 121) 124 = .ok (.getfield 50, 3) := by decide +kernel
theorem d_121_127 : decode (kby 121) 127 = .ok (.iload_n 2, 1) := by decide +kernel
theorem d_121_128 : decode (kby 121) 128 = .ok (.iaload, 1) := by decide +kernel
theorem d_121_129 : decode (kby 121) 129 = .ok (.istore 5, 2) := by decide +kernel
theorem d_121_131 : decode (kby 121) 131 = .ok (.aload_n 0, 1) := by decide +kernel
theorem d_121_132 : decode (kby 121) 132 = .ok (.getfield 32, 3) := by decide +kernel
theorem d_121_135 : decode (kby 121) 135 = .ok (.iload 5, 2) := by decide +kernel
theorem d_121_137 : decode (kby 121) 137 = .ok (.iaload, 1) := by decide +kernel
theorem d_121_138 : decode (kby 121) 138 = .ok (.ifCond .eq 7, 3) := by decide +kernel
theorem d_121_141 : decode (kby 121) 141 = .ok (.iconst 1, 1) := by decide +kernel
theorem d_121_142 : decode (kby 121) 142 = .ok (.goto 4, 3) := by decide +kernel
theorem d_121_145 : decode (kby 121) 145 = .ok (.iconst 0, 1) := by decide +kernel
theorem d_121_146 : decode (kby 121) 146 = .ok (.istore 6, 2) := by decide +kernel
theorem d_121_148 : decode (kby 121) 148 = .ok (.iconst 0, 1) := by decide +kernel
theorem d_121_149 : decode (kby 121) 149 = .ok (.istore 7, 2) := by decide +kernel
theorem d_121_151 : decode (kby 121) 151 = .ok (.iload 7, 2) := by decide +kernel
theorem d_121_153 : decode (kby 121) 153 = .ok (.aload_n 0, 1) := by decide +kernel
theorem d_121_154 : decode (kby 121) 154 = .ok (.getfield 56, 3) := by decide +kernel
theorem d_121_157 : decode (kby 121) 157 = .ok (.iload_n 3, 1) := by decide +kernel
theorem d_121_158 : decode (kby 121) 158 = .ok (.iaload, 1) := by decide +kernel
theorem d_121_159 : decode (kby 121) 159 = .ok (.if_icmp .ge 42, 3) := by decide +kernel
theorem d_121_162 : decode (kby 121) 162 = .ok (.iload 6, 2) := by decide +kernel
theorem d_121_164 : decode (kby 121) 164 = .ok (.ifCond .ne 24, 3) := by decide +kernel
theorem d_121_167 : decode (kby 121) 167 = .ok (.aload_n 0, 1) := by decide +kernel
theorem d_121_168 : decode (kby 121) 168 = .ok (.aload_n 0, 1) := by decide +kernel
theorem d_121_169 : decode (kby 121) 169 = .ok (.getfield 59, 3) := by decide +kernel
theorem d_121_172 : decode (kby 121) 172 = .ok (.bipush 12, 2) := by decide +kernel
theorem d_121_174 : decode (kby 121) 174 = .ok (.iload_n 3, 1) := by decide +kernel
theorem d_121_175 : decode (kby 121) 175 = .ok (.imul, 1) := by decide +kernel
theorem d_121_176 : decode (kby 121) 176 = .ok (.iload 7, 2) := by decide +kernel
theorem d_121_178 : decode (kby 121) 178 = .ok (.iadd, 1) := by decide +kernel
theorem d_121_179 : decode (kby 121) 179 = .ok (.iaload, 1) := by decide +kernel
theorem d_121_180 : decode (kby 121) 180 = .ok (.iload 5, 2) := by decide +kernel
theorem d_121_182 : decode (kby 121) 182 = .ok (.invokevirtual 211, 3) := by decide +kernel
theorem d_121_185 : decode (kby 121) 185 = .ok (.ifCond .eq 7, 3) := by decide +kernel
theorem d_121_188 : decode (kby 121) 188 = .ok (.iconst 1, 1) := by decide +kernel
theorem d_121_189 : decode (kby 121) 189 = .ok (.goto 4, 3) := by decide +kernel
theorem d_121_192 : decode (kby 121) 192 = .ok (.iconst 0, 1) := by decide +kernel
theorem d_121_193 : decode (kby 121) 193 = .ok (.istore 6, 2) := by decide +kernel
theorem d_121_195 : decode (kby 121) 195 = .ok (.iinc 7 1, 3) := by decide +kernel
theorem d_121_198 : decode (kby 121) 198 = .ok (.goto (-47), 3) := by decide +kernel
theorem d_121_201 : decode (kby 121) 201 = .ok (.iload 6, 2) := by decide +kernel
theorem d_121_203 : decode (kby 121) 203 = .ok (.ifCond .eq 5, 3) := by decide +kernel
theorem d_121_206 : decode (kby 121) 206 = .ok (.iconst (-1), 1) := by decide +kernel
theorem d_121_207 : decode (kby 121) 207 = .ok (.ireturn, 1) := by decide +kernel
theorem d_121_208 : decode (kby 121) 208 = .ok (.aload_n 0, 1) := by decide +kernel
theorem d_121_209 : decode (kby 121) 209 = .ok (.iload_n 3, 1) := by decide +kernel
theorem d_121_210 : decode (kby 121) 210 = .ok (.iconst (-1), 1) := by decide +kernel
theorem d_121_211 : decode (kby 121) 211 = .ok (.invokevirtual 214, 3) := by decide +kernel
theorem d_121_214 : decode (kby 121) 214 = .ok (.aload_n 0, 1) := by decide +kernel
theorem d_121_215 : decode (kby 121) 215 = .ok (.iload 5, 2) := by decide +kernel
theorem d_121_217 : decode (kby 121) 217 = .ok (.aload_n 0, 1) := by decide +kernel
theorem d_121_218 : decode (kby 121) 218 = .ok (.iload 4, 2) := by decide +kernel
theorem d_121_220 : decode (kby 121) 220 = .ok (.invokevirtual 218, 3) := by decide +kernel
theorem d_121_223 : decode (kby 121) 223 = .ok (.invokevirtual 174, 3) := by decide +kernel
theorem d_121_226 : decode (kby 121) 226 = .ok (.istore 7, 2) := by decide +kernel
theorem d_121_228 : decode (kby 121) 228 = .ok (.aload_n 0, 1) := by decide +kernel
theorem d_121_229 : decode (kby 121) 229 = .ok (.iload 5, 2) := by decide +kernel
theorem d_121_231 : decode (kby 121) 231 = .ok (.aload_n 0, 1) := by decide +kernel
theorem d_121_232 : decode (kby 121) 232 = .ok (.getfield 38, 3) := by decide +kernel
theorem d_121_235 : decode (kby 121) 235 = .ok (.iload 4, 2) := by decide +kernel
theorem d_121_237 : decode (kby 121) 237 = .ok (.iaload, 1) := by decide +kernel
theorem d_121_238 : decode (kby 121) 238 = .ok (.invokevirtual 174, 3) := by decide +kernel
theorem d_121_241 : decode (kby 121) 241 = .ok (.istore 8, 2) := by decide +kernel
theorem d_121_243 : decode (kby 121) 243 = .ok (.aload_n 0, 1) := by decide +kernel
theorem d_121_244 : decode (kby 121) 244 = .ok (.iload 7, 2) := by decide +kernel
theorem d_121_246 : decode (kby 121) 246 = .ok (.iload 8, 2) := by decide +kernel
theorem d_121_248 : decode (kby 121) 248 = .ok (.invokevirtual 205, 3) := by decide +kernel
theorem d_121_251 : decode (kby 121) 251 = .ok (.ireturn, 1) := by decide +kernel
theorem d_121_252 : decode (kby 121) 252 = .ok (.aload_n 0, 1) := by decide +kernel
theorem d_121_253 : decode (kby 121) 253 = .ok (.getfield 53, 3) := by decide +kernel
theorem d_121_256 : decode (kby 121) 256 = .ok (.iload_n 2, 1) := by decide +kernel
theorem d_121_257 : decode (kby 121) 257 = .ok (.iaload, 1) := by decide +kernel
theorem d_121_258 : decode (kby 121) 258 = .ok (.istore 5, 2) := by decide +kernel
theorem d_121_260 : decode (kby 121) 260 = .ok (.aload_n 0, 1) := by decide +kernel
theorem d_121_261 : decode (kby 121) 261 = .ok (.iload 5, 2) := by decide +kernel
theorem d_121_263 : decode (kby 121) 263 = .ok (.invokevirtual 208, 3) := by decide +kernel
theorem d_121_266 : decode (kby 121) 266 = .ok (.ifCond .ne 5, 3) := by decide +kernel
theorem d_121_269 : decode (kby 121) 269 = .ok (.iconst (-1), 1) := by decide +kernel
theorem d_121_270 : decode (kby 121) 270 = .ok (.ireturn, 1) := by decide +kernel
theorem d_121_271 : decode (kby 121) 271 = .ok (.aload_n 0, 1) := by decide +kernel
theorem d_121_272 : decode (kby 121) 272 = .ok (.iload_n 2, 1) := by decide +kernel
theorem d_121_273 : decode (kby 121) 273 = .ok (.iconst (-1), 1) := by decide +kernel
theorem d_121_274 : decode (kby 121) 274 = .ok (.invokevirtual 214, 3) := by decide +kernel
theorem d_121_277 : decode (kby 121) 277 = .ok (.aload_n 0, 1) := by decide +kernel
theorem d_121_278 : decode (kby 121) 278 = .ok (.iload_n 3, 1) := by decide +kernel
theorem d_121_279 : decode (kby 121) 279 = .ok (.iconst (-1), 1) := by decide +kernel
theorem d_121_280 : decode (kby 121) 280 = .ok (.invokevirtual 214, 3) := by decide +kernel
theorem d_121_283 : decode (kby 121) 283 = .ok (.iload_n 1, 1) := by decide +kernel
theorem d_121_284 : decode (kby 121) 284 = .ok (.iconst 1, 1) := by decide +kernel
theorem d_121_285 : decode (kby 121) 285 = .ok (.if_icmp .ne 41, 3) := by decide +kernel
theorem d_121_288 : decode (kby 121) 288 = .ok (.aload_n 0, 1) := by decide +kernel
theorem d_121_289 : decode (kby 121) 289 = .ok (.getfield 38, 3) := by decide +kernel
theorem d_121_292 : decode (kby 121) 292 = .ok (.iload 5, 2) := by decide +kernel
theorem d_121_294 : decode (kby 121) 294 = .ok (.iaload, 1) := by decide +kernel
theorem d_121_295 : decode (kby 121) 295 = .ok (.aload_n 0, 1) := by decide +kernel
theorem d_121_296 : decode (kby 121) 296 = .ok (.iload 4, 2) := by decide +kernel
theorem d_121_298 : decode (kby 121) 298 = .ok (.invokevirtual 218, 3) := by decide +kernel
theorem d_121_301 : decode (kby 121) 301 = .ok (.if_icmp .ne 23, 3) := by decide +kernel
theorem d_121_304 : decode (kby 121) 304 = .ok (.aload_n 0, 1) := by decide +kernel
theorem d_121_305 : decode (kby 121) 305 = .ok (.aload_n 0, 1) := by decide +kernel
theorem d_121_306 : decode (kby 121) 306 = .ok (.iload 5, 2) := by decide +kernel
theorem d_121_308 : decode (kby 121) 308 = .ok (.invokevirtual 218, 3) := by decide +kernel
theorem d_121_311 : decode (kby 121) 311 = .ok (.aload_n 0, 1) := by decide +kernel
theorem d_121_312 : decode (kby 121) 312 = .ok (.getfield 38, 3) := by decide +kernel
theorem d_121_315 : decode (kby 121) 315 = .ok (.iload 4, 2) := by decide +kernel
theorem d_121_317 : decode (kby 121) 317 = .ok (.iaload, 1) := by decide +kernel
theorem d_121_318 : decode (kby 121) 318 = .ok (.invokevirtual 205, 3) := by decide +kernel
theorem d_121_321 : decode (kby 121) 321 = .ok (.goto 4, 3) := by decide +kernel
theorem d_121_324 : decode (kby 121) 324 = .ok (.iconst (-1), 1) := by decide +kernel
theorem d_121_325 : decode (kby 121) 325 = .ok (.ireturn, 1) := by decide +kernel
theorem d_121_326 : decode (kby 121) 326 = .ok (.aload_n 0, 1) := by decide +kernel
theorem d_121_327 : decode (kby 121) 327 = .ok (.aload_n 0, 1) := by decide +kernel
theorem d_121_328 : decode (kby 121) 328 = .ok (.iload 5, 2) := by decide +kernel
theorem d_121_330 : decode (kby 121) 330 = .ok (.invokevirtual 218, 3) := by decide +kernel
theorem d_121_333 : decode (kby 121) 333 = .ok (.aload_n 0, 1) := by decide +kernel
theorem d_121_334 : decode (kby 121) 334 = .ok (.iload 4, 2) := by decide +kernel
theorem d_121_336 : decode (kby 121) 336 = .ok (.invokevirtual 218, 3) := by decide +kernel
theorem d_121_339 : decode (kby 121) 339 = .ok (.invokevirtual 170, 3) := by decide +kernel
theorem d_121_342 : decode (kby 121) 342 = .ok (.ifCond .ne 5, 3) := by decide +kernel
theorem d_121_345 : decode (kby 121) 345 = .ok (.iconst (-1), 1) := by decide +kernel
theorem d_121_346 : decode (kby 121) 346 = .ok (.ireturn, 1) := by decide +kernel
theorem d_121_347 : decode (kby 121) 347 = .ok (.aload_n 0, 1) := by decide +kernel
theorem d_121_348 : decode (kby 121) 348 = .ok (.aload_n 0, 1) := by decide +kernel
theorem d_121_349 : decode (kby 121) 349 = .ok (.iload 5, 2) := by decide +kernel
theorem d_121_351 : decode (kby 121) 351 = .ok (.invokevirtual 218, 3) := by decide +kernel
theorem d_121_354 : decode (kby 121) 354 = .ok (.aload_n 0, 1) := by decide +kernel
theorem d_121_355 : decode (kby 121) 355 = .ok (.iload 4, 2) := by decide +kernel
theorem d_121_357 : decode (kby 121) 357 = .ok (.invokevirtual 218, 3) := by decide +kernel
theorem d_121_360 : decode (kby 121) 360 = .ok (.invokevirtual 114, 3) := by decide +kernel
theorem d_121_363 : decode (kby 121) 363 = .ok (.istore 6, 2) := by decide +kernel
theorem d_121_365 : decode (kby 121) 365 = .ok (.aload_n 0, 1) := by decide +kernel
theorem d_121_366 : decode (kby 121) 366 = .ok (.aload_n 0, 1) := by decide +kernel
theorem d_121_367 : decode (kby 121) 367 = .ok (.getfield 38, 3) := by decide +kernel
theorem d_121_370 : decode (kby 121) 370 = .ok (.iload 5, 2) := by decide +kernel
theorem d_121_372 : decode (kby 121) 372 = .ok (.iaload, 1) := by decide +kernel
theorem d_121_373 : decode (kby 121) 373 = .ok (.aload_n 0, 1) := by decide +kernel
theorem d_121_374 : decode (kby 121) 374 = .ok (.getfield 38, 3) := by decide +kernel
theorem d_121_377 : decode (kby 121) 377 = .ok (.iload 4, 2) := by decide +kernel
theorem d_121_379 : decode (kby 121) 379 = .ok (.iaload, 1) := by decide +kernel
theorem d_121_380 : decode (kby 121) 380 = .ok (.invokevirtual 114, 3) := by decide +kernel
theorem d_121_383 : decode (kby 121) 383 = .ok (.istore 7, 2) := by decide +kernel
theorem d_121_385 : decode (kby 121) 385 = .ok (.aload_n 0, 1) := by decide +kernel
theorem d_121_386 : decode (kby 121) 386 = .ok (.iload 6, 2) := by decide +kernel
theorem d_121_388 : decode (kby 121) 388 = .ok (.iload 7, 2) := by decide +kernel
theorem d_121_390 : decode (kby 121) 390 = .ok (.invokevirtual 205, 3) := by decide +kernel
theorem d_121_393 : decode (kby 121) 393 = .ok (.ireturn, 1) := by decide +kernel
set_option maxRecDepth 100000 in
theorem ka_121 : kall 121 0 kc_121 := And.intro (s_iload_n d_121_0 rfl) (And.intro (s_if_ne d_121_1 (by decide +kernel)) (And.intro (s_aload_n d_121_4 rfl) (And.intro (s_aload_n d_121_5 rfl) (And.intro (s_get d_121_6 (C := kR8) (T := kT8) (N := 38) rfl kjn8 (by decide +kernel) rfl kf_8_50) (And.intro (s_iload_n d_121_9 rfl) (And.intro (s_iaload d_121_10) (And.intro (s_aload_n d_121_11 rfl) (And.intro (s_get d_121_12 (C := kR8) (T := kT8) (N := 38) rfl kjn8 (by decide +kernel) rfl kf_8_50) (And.intro (s_iload_n d_121_15 rfl) (And.intro (s_iaload d_121_16) (And.intro (s_cv d_121_17 kl_8_205 k_im_122 k_se_122 kok_122 rfl (by decide +kernel) rfl rfl) (And.intro (s_ret d_121_20 rfl) (And.intro (s_iload_n d_121_21 rfl) (And.intro (s_iconst d_121_22 (by decide +kernel)) (And.intro (s_icmp_ne d_121_23 (by decide +kernel)) (And.intro (s_aload_n d_121_26 rfl) (And.intro (s_get d_121_27 (C := kR8) (T := kT8) (N := 38) rfl kjn8 (by decide +kernel) rfl kf_8_50) (And.intro (s_iload_n d_121_30 rfl) (And.intro (s_iaload d_121_31) (And.intro (s_istore d_121_32 (by decide +kernel)) (And.intro (s_aload_n d_121_34 rfl) (And.intro (s_get d_121_35 (C := kR8) (T := kT8) (N := 38) rfl kjn8 (by decide +kernel) rfl kf_8_32) (And.intro (s_iload d_121_38) (And.intro (s_iaload d_121_40) (And.intro (s_iconst d_121_41 (by decide +kernel)) (And.intro (s_icmp_ne d_121_42 (by decide +kernel)) (And.intro (s_aload_n d_121_45 rfl) (And.intro (s_get d_121_46 (C := kR8) (T := kT8) (N := 38) rfl kjn8 (by decide +kernel) rfl kf_8_32) (And.intro (s_aload_n d_121_49 rfl) (And.intro (s_get d_121_50 (C := kR8) (T := kT8) (N := 38) rfl kjn8 (by decide +kernel) rfl kf_8_35) (And.intro (s_iload d_121_53) (And.intro (s_iaload d_121_55) (And.intro (s_iaload d_121_56) (And.intro (s_iconst d_121_57 (by decide +kernel)) (And.intro (s_icmp_eq d_121_58 (by decide +kernel)) (And.intro (s_iconst d_121_61 (by decide +kernel)) (And.intro (s_ret d_121_62 rfl) (And.intro (s_aload_n d_121_63 rfl) (And.intro (s_aload_n d_121_64 rfl) (And.intro (s_get d_121_65 (C := kR8) (T := kT8) (N := 38) rfl kjn8 (by decide +kernel) rfl kf_8_38) (And.intro (s_aload_n d_121_68 rfl) (And.intro (s_get d_121_69 (C := kR8) (T := kT8) (N := 38) rfl kjn8 (by decide +kernel) rfl kf_8_35) (And.intro (s_iload d_121_72) (And.intro (s_iaload d_121_74) (And.intro (s_iaload d_121_75) (And.intro (s_iconst d_121_76 (by decide +kernel)) (And.intro (s_iconst d_121_77 (by decide +kernel)) (And.intro (s_aload_n d_121_78 rfl) (And.intro (s_get d_121_79 (C := kR8) (T := kT8) (N := 38) rfl kjn8 (by decide +kernel) rfl kf_8_38) (And.intro (s_iload d_121_82) (And.intro (s_iaload d_121_84) (And.intro (s_cv d_121_85 kl_8_177 k_im_112 k_se_112 kok_112 rfl (by decide +kernel) rfl rfl) (And.intro (s_istore d_121_88 (by decide +kernel)) (And.intro (s_aload_n d_121_90 rfl) (And.intro (s_iload d_121_91) (And.intro (s_iload d_121_93) (And.intro (s_cv d_121_95 kl_8_205 k_im_122 k_se_122 kok_122 rfl (by decide +kernel) rfl rfl) (And.intro (s_ret d_121_98 rfl) (And.intro (s_aload_n d_121_99 rfl) (And.intro (s_get d_121_100 (C := kR8) (T := kT8) (N := 38) rfl kjn8 (by decide +kernel) rfl kf_8_53) (And.intro (s_iload_n d_121_103 rfl) (And.intro (s_iaload d_121_104) (And.intro (s_istore d_121_105 (by decide +kernel)) (And.intro (s_aload_n d_121_107 rfl) (And.intro (s_iload d_121_108) (And.intro (s_cv d_121_110 kl_8_208 k_im_123 k_se_123 kok_123 rfl (by decide +kernel) rfl rfl) (And.intro (s_if_ne d_121_113 (by decide +kernel)) (And.intro (s_iconst d_121_116 (by decide +kernel)) (And.intro (s_ret d_121_117 rfl) (And.intro (s_iload_n d_121_118 rfl) (And.intro (s_iconst d_121_119 (by decide +kernel)) (And.intro (s_icmp_ne d_121_120 (by decide +kernel)) (And.intro (s_aload_n d_121_123 rfl) (And.intro (s_get d_121_124 (C := kR8) (T := kT8) (N := 38) rfl kjn8 (by decide +kernel) rfl kf_8_50) (And.intro (s_iload_n d_121_127 rfl) (And.intro (s_iaload d_121_128) (And.intro (s_istore d_121_129 (by decide +kernel)) (And.intro (s_aload_n d_121_131 rfl) (And.intro (s_get d_121_132 (C := kR8) (T := kT8) (N := 38) rfl kjn8 (by decide +kernel) rfl kf_8_32) (And.intro (s_iload d_121_135) (And.intro (s_iaload d_121_137) (And.intro (s_if_eq d_121_138 (by decide +kernel)) (And.intro (s_iconst d_121_141 (by decide +kernel)) (And.intro (s_goto d_121_142 (by decide +kernel)) (And.intro (s_iconst d_121_145 (by decide +kernel)) (And.intro (s_istore d_121_146 (by decide +kernel)) (And.intro (s_iconst d_121_148 (by decide +kernel)) (And.intro (s_istore d_121_149 (by decide +kernel)) (And.intro (s_iload d_121_151) (And.intro (s_aload_n d_121_153 rfl) (And.intro (s_get d_121_154 (C := kR8) (T := kT8) (N := 38) rfl kjn8 (by decide +kernel) rfl kf_8_56) (And.intro (s_iload_n d_121_157 rfl) (And.intro (s_iaload d_121_158) (And.intro (s_icmp_ge d_121_159 (by decide +kernel)) (And.intro (s_iload d_121_162) (And.intro (s_if_ne d_121_164 (by decide +kernel)) (And.intro (s_aload_n d_121_167 rfl) (And.intro (s_aload_n d_121_168 rfl) (And.intro (s_get d_121_169 (C := kR8) (T := kT8) (N := 38) rfl kjn8 (by decide +kernel) rfl kf_8_59) (And.intro (s_bipush d_121_172 (by decide +kernel)) (And.intro (s_iload_n d_121_174 rfl) (And.intro (s_imul d_121_175) (And.intro (s_iload d_121_176) (And.intro (s_iadd d_121_178) (And.intro (s_iaload d_121_179) (And.intro (s_iload d_121_180) (And.intro (s_cv d_121_182 kl_8_211 k_im_124 k_se_124 kok_124 rfl (by decide +kernel) rfl rfl) (And.intro (s_if_eq d_121_185 (by decide +kernel)) (And.intro (s_iconst d_121_188 (by decide +kernel)) (And.intro (s_goto d_121_189 (by decide +kernel)) (And.intro (s_iconst d_121_192 (by decide +kernel)) (And.intro (s_istore d_121_193 (by decide +kernel)) (And.intro (s_iinc d_121_195 (by decide +kernel) (by decide +kernel)) (And.intro (s_goto d_121_198 (by decide +kernel)) (And.intro (s_iload d_121_201) (And.intro (s_if_eq d_121_203 (by decide +kernel)) (And.intro (s_iconst d_121_206 (by decide +kernel)) (And.intro (s_ret d_121_207 rfl) (And.intro (s_aload_n d_121_208 rfl) (And.intro (s_iload_n d_121_209 rfl) (And.intro (s_iconst d_121_210 (by decide +kernel)) (And.intro (s_cw d_121_211 kl_8_214 k_im_125 k_se_125 kok_125 rfl (by decide +kernel) rfl rfl) (And.intro (s_aload_n d_121_214 rfl) (And.intro (s_iload d_121_215) (And.intro (s_aload_n d_121_217 rfl) (And.intro (s_iload d_121_218) (And.intro (s_cv d_121_220 kl_8_218 k_im_127 k_se_127 kok_127 rfl (by decide +kernel) rfl rfl) (And.intro (s_cv d_121_223 kl_8_174 k_im_111 k_se_111 kok_111 rfl (by decide +kernel) rfl rfl) (And.intro (s_istore d_121_226 (by decide +kernel)) (And.intro (s_aload_n d_121_228 rfl) (And.intro (s_iload d_121_229) (And.intro (s_aload_n d_121_231 rfl) (And.intro (s_get d_121_232 (C := kR8) (T := kT8) (N := 38) rfl kjn8 (by decide +kernel) rfl kf_8_38) (And.intro (s_iload d_121_235) (And.intro (s_iaload d_121_237) (And.intro (s_cv d_121_238 kl_8_174 k_im_111 k_se_111 kok_111 rfl (by decide +kernel) rfl rfl) (And.intro (s_istore d_121_241 (by decide +kernel)) (And.intro (s_aload_n d_121_243 rfl) (And.intro (s_iload d_121_244) (And.intro (s_iload d_121_246) (And.intro (s_cv d_121_248 kl_8_205 k_im_122 k_se_122 kok_122 rfl (by decide +kernel) rfl rfl) (And.intro (s_ret d_121_251 rfl) (And.intro (s_aload_n d_121_252 rfl) (And.intro (s_get d_121_253 (C := kR8) (T := kT8) (N := 38) rfl kjn8 (by decide +kernel) rfl kf_8_53) (And.intro (s_iload_n d_121_256 rfl) (And.intro (s_iaload d_121_257) (And.intro (s_istore d_121_258 (by decide +kernel)) (And.intro (s_aload_n d_121_260 rfl) (And.intro (s_iload d_121_261) (And.intro (s_cv d_121_263 kl_8_208 k_im_123 k_se_123 kok_123 rfl (by decide +kernel) rfl rfl) (And.intro (s_if_ne d_121_266 (by decide +kernel)) (And.intro (s_iconst d_121_269 (by decide +kernel)) (And.intro (s_ret d_121_270 rfl) (And.intro (s_aload_n d_121_271 rfl) (And.intro (s_iload_n d_121_272 rfl) (And.intro (s_iconst d_121_273 (by decide +kernel)) (And.intro (s_cw d_121_274 kl_8_214 k_im_125 k_se_125 kok_125 rfl (by decide +kernel) rfl rfl) (And.intro (s_aload_n d_121_277 rfl) (And.intro (s_iload_n d_121_278 rfl) (And.intro (s_iconst d_121_279 (by decide +kernel)) (And.intro (s_cw d_121_280 kl_8_214 k_im_125 k_se_125 kok_125 rfl (by decide +kernel) rfl rfl) (And.intro (s_iload_n d_121_283 rfl) (And.intro (s_iconst d_121_284 (by decide +kernel)) (And.intro (s_icmp_ne d_121_285 (by decide +kernel)) (And.intro (s_aload_n d_121_288 rfl) (And.intro (s_get d_121_289 (C := kR8) (T := kT8) (N := 38) rfl kjn8 (by decide +kernel) rfl kf_8_38) (And.intro (s_iload d_121_292) (And.intro (s_iaload d_121_294) (And.intro (s_aload_n d_121_295 rfl) (And.intro (s_iload d_121_296) (And.intro (s_cv d_121_298 kl_8_218 k_im_127 k_se_127 kok_127 rfl (by decide +kernel) rfl rfl) (And.intro (s_icmp_ne d_121_301 (by decide +kernel)) (And.intro (s_aload_n d_121_304 rfl) (And.intro (s_aload_n d_121_305 rfl) (And.intro (s_iload d_121_306) (And.intro (s_cv d_121_308 kl_8_218 k_im_127 k_se_127 kok_127 rfl (by decide +kernel) rfl rfl) (And.intro (s_aload_n d_121_311 rfl) (And.intro (s_get d_121_312 (C := kR8) (T := kT8) (N := 38) rfl kjn8 (by decide +kernel) rfl kf_8_38) (And.intro (s_iload d_121_315) (And.intro (s_iaload d_121_317) (And.intro (s_cv d_121_318 kl_8_205 k_im_122 k_se_122 kok_122 rfl (by decide +kernel) rfl rfl) (And.intro (s_goto d_121_321 (by decide +kernel)) (And.intro (s_iconst d_121_324 (by decide +kernel)) (And.intro (s_ret d_121_325 rfl) (And.intro (s_aload_n d_121_326 rfl) (And.intro (s_aload_n d_121_327 rfl) (And.intro (s_iload d_121_328) (And.intro (s_cv d_121_330 kl_8_218 k_im_127 k_se_127 kok_127 rfl (by decide +kernel) rfl rfl) (And.intro (s_aload_n d_121_333 rfl) (And.intro (s_iload d_121_334) (And.intro (s_cv d_121_336 kl_8_218 k_im_127 k_se_127 kok_127 rfl (by decide +kernel) rfl rfl) (And.intro (s_cv d_121_339 kl_8_170 k_im_108 k_se_108 kok_108 rfl (by decide +kernel) rfl rfl) (And.intro (s_if_ne d_121_342 (by decide +kernel)) (And.intro (s_iconst d_121_345 (by decide +kernel)) (And.intro (s_ret d_121_346 rfl) (And.intro (s_aload_n d_121_347 rfl) (And.intro (s_aload_n d_121_348 rfl) (And.intro (s_iload d_121_349) (And.intro (s_cv d_121_351 kl_8_218 k_im_127 k_se_127 kok_127 rfl (by decide +kernel) rfl rfl) (And.intro (s_aload_n d_121_354 rfl) (And.intro (s_iload d_121_355) (And.intro (s_cv d_121_357 kl_8_218 k_im_127 k_se_127 kok_127 rfl (by decide +kernel) rfl rfl) (And.intro (s_cv d_121_360 kl_8_114 k_im_109 k_se_109 kok_109 rfl (by decide +kernel) rfl rfl) (And.intro (s_istore d_121_363 (by decide +kernel)) (And.intro (s_aload_n d_121_365 rfl) (And.intro (s_aload_n d_121_366 rfl) (And.intro (s_get d_121_367 (C := kR8) (T := kT8) (N := 38) rfl kjn8 (by decide +kernel) rfl kf_8_38) (And.intro (s_iload d_121_370) (And.intro (s_iaload d_121_372) (And.intro (s_aload_n d_121_373 rfl) (And.intro (s_get d_121_374 (C := kR8) (T := kT8) (N := 38) rfl kjn8 (by decide +kernel) rfl kf_8_38) (And.intro (s_iload d_121_377) (And.intro (s_iaload d_121_379) (And.intro (s_cv d_121_380 kl_8_114 k_im_109 k_se_109 kok_109 rfl (by decide +kernel) rfl rfl) (And.intro (s_istore d_121_383 (by decide +kernel)) (And.intro (s_aload_n d_121_385 rfl) (And.intro (s_iload d_121_386) (And.intro (s_iload d_121_388) (And.intro (s_cv d_121_390 kl_8_205 k_im_122 k_se_122 kok_122 rfl (by decide +kernel) rfl rfl) (And.intro (s_ret d_121_393 rfl) (True.intro)))))))))))))))))))))))))))))))))))))))))))))))))))))))))))))))))))))))))))))))))))))))))))))))))))))))))))))))))))))))))))))))))))))))))))))))))))))))))))))))))))))))))))))))))))))))))))))))))))))))))))))))))))))))))))))
theorem d_122_0 : decode (kby 122) 0 = .ok (.aload_n 0, 1) := by decide +kernel
theorem d_122_1 : decode (kby 122) 1 = .ok (.aload_n 0, 1) := by decide +kernel
theorem d_122_2 : decode (kby 122) 2 = .ok (.getfield 41, 3) := by decide +kernel
theorem d_122_5 : decode (kby 122) 5 = .ok (.iload_n 1, 1) := by decide +kernel
theorem d_122_6 : decode (kby 122) 6 = .ok (.iaload, 1) := by decide +kernel
theorem d_122_7 : decode (kby 122) 7 = .ok (.invokevirtual 110, 3) := by decide +kernel
theorem d_122_10 : decode (kby 122) 10 = .ok (.istore_n 3, 1) := by decide +kernel
theorem d_122_11 : decode (kby 122) 11 = .ok (.aload_n 0, 1) := by decide +kernel
theorem d_122_12 : decode (kby 122) 12 = .ok (.iload_n 3, 1) := by decide +kernel
theorem d_122_13 : decode (kby 122) 13 = .ok (.iload_n 1, 1) := by decide +kernel
theorem d_122_14 : decode (kby 122) 14 = .ok (.invokevirtual 114, 3) := by decide +kernel
theorem d_122_17 : decode (kby 122) 17 = .ok (.istore 4, 2) := by decide +kernel
theorem d_122_19 : decode (kby 122) 19 = .ok (.aload_n 0, 1) := by decide +kernel
theorem d_122_20 : decode (kby 122) 20 = .ok (.iload 4, 2) := by decide +kernel
theorem d_122_22 : decode (kby 122) 22 = .ok (.iload_n 2, 1) := by decide +kernel
theorem d_122_23 : decode (kby 122) 23 = .ok (.invokevirtual 114, 3) := by decide +kernel
theorem d_122_26 : decode (kby 122) 26 = .ok (.ireturn, 1) := by decide +kernel
set_option maxRecDepth 100000 in
theorem ka_122 : kall 122 0 kc_122 := And.intro (s_aload_n d_122_0 rfl) (And.intro (s_aload_n d_122_1 rfl) (And.intro (s_get d_122_2 (C := kR8) (T := kT8) (N := 38) rfl kjn8 (by decide +kernel) rfl kf_8_41) (And.intro (s_iload_n d_122_5 rfl) (And.intro (s_iaload d_122_6) (And.intro (s_cv d_122_7 kl_8_110 k_im_105 k_se_105 kok_105 rfl (by decide +kernel) rfl rfl) (And.intro (s_istore_n d_122_10 rfl (by decide +kernel)) (And.intro (s_aload_n d_122_11 rfl) (And.intro (s_iload_n d_122_12 rfl) (And.intro (s_iload_n d_122_13 rfl) (And.intro (s_cv d_122_14 kl_8_114 k_im_109 k_se_109 kok_109 rfl (by decide +kernel) rfl rfl) (And.intro (s_istore d_122_17 (by decide +kernel)) (And.intro (s_aload_n d_122_19 rfl) (And.intro (s_iload d_122_20) (And.intro (s_iload_n d_122_22 rfl) (And.intro (s_cv d_122_23 kl_8_114 k_im_109 k_se_109 kok_109 rfl (by decide +kernel) rfl rfl) (And.intro (s_ret d_122_26 rfl) (True.intro)))))))))))))))))
theorem d_123_0 : decode (kby 123) 0 = .ok (.aload_n 0, 1) := by decide +kernel
theorem d_123_1 : decode (kby 123) 1 = .ok (.getfield 32, 3) := by decide +kernel
theorem d_123_4 : decode (kby 123) 4 = .ok (.iload_n 1, 1) := by decide +kernel
theorem d_123_5 : decode (kby 123) 5 = .ok (.iaload, 1) := by decide +kernel
theorem d_123_6 : decode (kby 123) 6 = .ok (.iconst 3, 1) := by decide +kernel
theorem d_123_7 : decode (kby 123) 7 = .ok (.if_icmp .ne 42, 3) := by decide +kernel
theorem d_123_10 : decode (kby 123) 10 = .ok (.aload_n 0, 1) := by decide +kernel
theorem d_123_11 : decode (kby 123) 11 = .ok (.getfield 32, 3) := by decide +kernel
theorem d_123_14 : decode (kby 123) 14 = .ok (.aload_n 0, 1) := by decide +kernel
theorem d_123_15 : decode (kby 123) 15 = .ok (.getfield 35, 3) := by decide +kernel
theorem d_123_18 : decode (kby 123) 18 = .ok (.iload_n 1, 1) := by decide +kernel
theorem d_123_19 : decode (kby 123) 19 = .ok (.iaload, 1) := by decide +kernel
theorem d_123_20 : decode (kby 123) 20 = .ok (.iaload, 1) := by decide +kernel
theorem d_123_21 : decode (kby 123) 21 = .ok (.iconst 3, 1) := by decide +kernel
theorem d_123_22 : decode (kby 123) 22 = .ok (.if_icmp .ne 27, 3) := by decide +kernel
theorem d_123_25 : decode (kby 123) 25 = .ok (.aload_n 0, 1) := by decide +kernel
theorem d_123_26 : decode (kby 123) 26 = .ok (.getfield 32, 3) := by decide +kernel
theorem d_123_29 : decode (kby 123) 29 = .ok (.aload_n 0, 1) := by decide +kernel
theorem d_123_30 : decode (kby 123) 30 = .ok (.getfield 35, 3) := by decide +kernel
theorem d_123_33 : decode (kby 123) 33 = .ok (.aload_n 0, 1) := by decide +kernel
theorem d_123_34 : decode (kby 123) 34 = .ok (.getfield 35, 3) := by decide +kernel
theorem d_123_37 : decode (kby 123) 37 = .ok (.iload_n 1, 1) := by decide +kernel
theorem d_123_38 : decode (kby 123) 38 = .ok (.iaload, 1) := by decide +kernel
theorem d_123_39 : decode (kby 123) 39 = .ok (.iaload, 1) := by decide +kernel
theorem d_123_40 : decode (kby 123) 40 = .ok (.iaload, 1) := by decide +kernel
theorem d_123_41 : decode (kby 123) 41 = .ok (.iconst 1, 1) := by decide +kernel
theorem d_123_42 : decode (kby 123) 42 = .ok (.if_icmp .ne 7, 3) := by decide +kernel
theorem d_123_45 : decode (kby 123) 45 = .ok (.iconst 1, 1) := by decide +kernel
theorem d_123_46 : decode (kby 123) 46 = .ok (.goto 4, 3) := by decide +kernel
theorem d_123_49 : decode (kby 123) 49 = .ok (.iconst 0, 1) := by decide +kernel
theorem d_123_50 : decode (kby 123) 50 = .ok (.ireturn, 1) := by decide +kernel
set_option maxRecDepth 100000 in
theorem ka_123 : kall 123 0 kc_123 := And.intro (s_aload_n d_123_0 rfl) (And.intro (s_get d_123_1 (C := kR8) (T := kT8) (N := 38) rfl kjn8 (by decide +kernel) rfl kf_8_32) (And.intro (s_iload_n d_123_4 rfl) (And.intro (s_iaload d_123_5) (And.intro (s_iconst d_123_6 (by decide +kernel)) (And.intro (s_icmp_ne d_123_7 (by decide +kernel)) (And.intro (s_aload_n d_123_10 rfl) (And.intro (s_get d_123_11 (C := kR8) (T := kT8) (N := 38) rfl kjn8 (by decide +kernel) rfl kf_8_32) (And.intro (s_aload_n d_123_14 rfl) (And.intro (s_get d_123_15 (C := kR8) (T := kT8) (N := 38) rfl kjn8 (by decide +kernel) rfl kf_8_35) (And.intro (s_iload_n d_123_18 rfl) (And.intro (s_iaload d_123_19) (And.intro (s_iaload d_123_20) (And.intro (s_iconst d_123_21 (by decide +kernel)) (And.intro (s_icmp_ne d_123_22 (by decide +kernel)) (And.intro (s_aload_n d_123_25 rfl) (And.intro (s_get d_123_26 (C := kR8) (T := kT8) (N := 38) rfl kjn8 (by decide +kernel) rfl kf_8_32) (And.intro (s_aload_n d_123_29 rfl) (And.intro (s_get d_123_30 (C := kR8) (T := kT8) (N := 38) rfl kjn8 (by decide +kernel) rfl kf_8_35) (And.intro (s_aload_n d_123_33 rfl) (And.intro (s_get d_123_34 (C := kR8) (T := kT8) (N := 38) rfl kjn8 (by decide +kernel) rfl kf_8_35) (And.intro (s_iload_n d_123_37 rfl) (And.intro (s_iaload d_123_38) (And.intro (s_iaload d_123_39) (And.intro (s_iaload d_123_40) (And.intro (s_iconst d_123_41 (by decide +kernel)) (And.intro (s_icmp_ne d_123_42 (by decide +kernel)) (And.intro (s_iconst d_123_45 (by decide +kernel)) (And.intro (s_goto d_123_46 (by decide +kernel)) (And.intro (s_iconst d_123_49 (by decide +kernel)) (And.intro (s_retz d_123_50 rfl) (True.intro)))))))))))))))))))))))))))))))
theorem d_124_0 : decode (kby 124) 0 = .ok (.aload_n 0, 1) := by decide +kernel
theorem d_124_1 : decode (kby 124) 1 = .ok (.iload_n 1, 1) := by decide +kernel
theorem d_124_2 : decode (kby 124) 2 = .ok (.iconst 2, 1) := by decide +kernel
theorem d_124_3 : decode (kby 124) 3 = .ok (.iconst (-1), 1) := by decide +kernel
theorem d_124_4 : decode (kby 124) 4 = .ok (.invokevirtual 118, 3) := by decide +kernel
theorem d_124_7 : decode (kby 124) 7 = .ok (.iload_n 2, 1) := by decide +kernel
theorem d_124_8 : decode (kby 124) 8 = .ok (.iload_n 1, 1) := by decide +kernel
theorem d_124_9 : decode (kby 124) 9 = .ok (.if_icmp .gt 19, 3) := by decide +kernel
theorem d_124_12 : decode (kby 124) 12 = .ok (.aload_n 0, 1) := by decide +kernel
theorem d_124_13 : decode (kby 124) 13 = .ok (.getfield 74, 3) := by decide +kernel
theorem d_124_16 : decode (kby 124) 16 = .ok (.bipush 21, 2) := by decide +kernel
theorem d_124_18 : decode (kby 124) 18 = .ok (.iload_n 2, 1) := by decide +kernel
theorem d_124_19 : decode (kby 124) 19 = .ok (.imul, 1) := by decide +kernel
theorem d_124_20 : decode (kby 124) 20 = .ok (.baload, 1) := by decide +kernel
theorem d_124_21 : decode (kby 124) 21 = .ok (.ifCond .eq 7, 3) := by decide +kernel
theorem d_124_24 : decode (kby 124) 24 = .ok (.iconst 1, 1) := by decide +kernel
theorem d_124_25 : decode (kby 124) 25 = .ok (.goto 4, 3) := by decide +kernel
theorem d_124_28 : decode (kby 124) 28 = .ok (.iconst 0, 1) := by decide +kernel
theorem d_124_29 : decode (kby 124) 29 = .ok (.ireturn, 1) := by decide +kernel
set_option maxRecDepth 100000 in
theorem ka_124 : kall 124 0 kc_124 := And.intro (s_aload_n d_124_0 rfl) (And.intro (s_iload_n d_124_1 rfl) (And.intro (s_iconst d_124_2 (by decide +kernel)) (And.intro (s_iconst d_124_3 (by decide +kernel)) (And.intro (s_cw d_124_4 kl_8_118 k_im_113 k_se_113 kok_113 rfl (by decide +kernel) rfl rfl) (And.intro (s_iload_n d_124_7 rfl) (And.intro (s_iload_n d_124_8 rfl) (And.intro (s_icmp_gt d_124_9 (by decide +kernel)) (And.intro (s_aload_n d_124_12 rfl) (And.intro (s_get d_124_13 (C := kR8) (T := kT8) (N := 38) rfl kjn8 (by decide +kernel) rfl kf_8_74) (And.intro (s_bipush d_124_16 (by decide +kernel)) (And.intro (s_iload_n d_124_18 rfl) (And.intro (s_imul d_124_19) (And.intro (s_baload d_124_20) (And.intro (s_if_eq d_124_21 (by decide +kernel)) (And.intro (s_iconst d_124_24 (by decide +kernel)) (And.intro (s_goto d_124_25 (by decide +kernel)) (And.intro (s_iconst d_124_28 (by decide +kernel)) (And.intro (s_retz d_124_29 rfl) (True.intro)))))))))))))))))))
theorem d_125_0 : decode (kby 125) 0 = .ok (.iconst 0, 1) := by decide +kernel
theorem d_125_1 : decode (kby 125) 1 = .ok (.istore_n 3, 1) := by decide +kernel
theorem d_125_2 : decode (kby 125) 2 = .ok (.iload_n 3, 1) := by decide +kernel
theorem d_125_3 : decode (kby 125) 3 = .ok (.aload_n 0, 1) := by decide +kernel
theorem d_125_4 : decode (kby 125) 4 = .ok (.getfield 56, 3) := by decide +kernel
theorem d_125_7 : decode (kby 125) 7 = .ok (.iload_n 1, 1) := by decide +kernel
theorem d_125_8 : decode (kby 125) 8 = .ok (.iaload, 1) := by decide +kernel
theorem d_125_9 : decode (kby 125) 9 = .ok (.if_icmp .ge 39, 3) := by decide +kernel
theorem d_125_12 : decode (kby 125) 12 = .ok (.aload_n 0, 1) := by decide +kernel
theorem d_125_13 : decode (kby 125) 13 = .ok (.getfield 59, 3) := by decide +kernel
theorem d_125_16 : decode (kby 125) 16 = .ok (.bipush 12, 2) := by decide +kernel
theorem d_125_18 : decode (kby 125) 18 = .ok (.iload_n 1, 1) := by decide +kernel
theorem d_125_19 : decode (kby 125) 19 = .ok (.imul, 1) := by decide +kernel
theorem d_125_20 : decode (kby 125) 20 = .ok (.iload_n 3, 1) := by decide +kernel
theorem d_125_21 : decode (kby 125) 21 = .ok (.iadd, 1) := by decide +kernel
theorem d_125_22 : decode (kby 125) 22 = .ok (.iaload, 1) := by decide +kernel
theorem d_125_23 : decode (kby 125) 23 = .ok (.iload_n 2, 1) := by decide +kernel
theorem d_125_24 : decode (kby 125) 24 = .ok (.if_icmp .eq 18, 3) := by decide +kernel
theorem d_125_27 : decode (kby 125) 27 = .ok (.aload_n 0, 1) := by decide +kernel
theorem d_125_28 : decode (kby 125) 28 = .ok (.aload_n 0, 1) := by decide +kernel
theorem d_125_29 : decode (kby 125) 29 = .ok (.getfield 59, 3) := by decide +kernel
theorem d_125_32 : decode (kby 125) 32 = .ok (.bipush 12, 2) := by decide +kernel
theorem d_125_34 : decode (kby 125) 34 = .ok (.iload_n 1, 1) := by decide +kernel
theorem d_125_35 : decode (kby 125) 35 = .ok (.imul, 1) := by decide +kernel
theorem d_125_36 : decode (kby 125) 36 = .ok (.iload_n 3, 1) := by decide +kernel
theorem d_125_37 : decode (kby 125) 37 = .ok (.iadd, 1) := by decide +kernel
theorem d_125_38 : decode (kby 125) 38 = .ok (.iaload, 1) := by decide +kernel
theorem d_125_39 : decode (kby 125) 39 = .ok (.invokevirtual 183, 3) := by decide +kernel
theorem d_125_42 : decode (kby 125) 42 = .ok (.iinc 3 1, 3) := by decide +kernel
theorem d_125_45 : decode (kby 125) 45 = .ok (.goto (-43), 3) := by decide +kernel
theorem d_125_48 : decode (kby 125) 48 = .ok (.return_, 1) := by decide +kernel
set_option maxRecDepth 100000 in
theorem ka_125 : kall 125 0 kc_125 := And.intro (s_iconst d_125_0 (by decide +kernel)) (And.intro (s_istore_n d_125_1 rfl (by decide +kernel)) (And.intro (s_iload_n d_125_2 rfl) (And.intro (s_aload_n d_125_3 rfl) (And.intro (s_get d_125_4 (C := kR8) (T := kT8) (N := 38) rfl kjn8 (by decide +kernel) rfl kf_8_56) (And.intro (s_iload_n d_125_7 rfl) (And.intro (s_iaload d_125_8) (And.intro (s_icmp_ge d_125_9 (by decide +kernel)) (And.intro (s_aload_n d_125_12 rfl) (And.intro (s_get d_125_13 (C := kR8) (T := kT8) (N := 38) rfl kjn8 (by decide +kernel) rfl kf_8_59) (And.intro (s_bipush d_125_16 (by decide +kernel)) (And.intro (s_iload_n d_125_18 rfl) (And.intro (s_imul d_125_19) (And.intro (s_iload_n d_125_20 rfl) (And.intro (s_iadd d_125_21) (And.intro (s_iaload d_125_22) (And.intro (s_iload_n d_125_23 rfl) (And.intro (s_icmp_eq d_125_24 (by decide +kernel)) (And.intro (s_aload_n d_125_27 rfl) (And.intro (s_aload_n d_125_28 rfl) (And.intro (s_get d_125_29 (C := kR8) (T := kT8) (N := 38) rfl kjn8 (by decide +kernel) rfl kf_8_59) (And.intro (s_bipush d_125_32 (by decide +kernel)) (And.intro (s_iload_n d_125_34 rfl) (And.intro (s_imul d_125_35) (And.intro (s_iload_n d_125_36 rfl) (And.intro (s_iadd d_125_37) (And.intro (s_iaload d_125_38) (And.intro (s_cw d_125_39 kl_8_183 k_im_126 k_se_126 kok_126 rfl (by decide +kernel) rfl rfl) (And.intro (s_iinc d_125_42 (by decide +kernel) (by decide +kernel)) (And.intro (s_goto d_125_45 (by decide +kernel)) (And.intro (s_rv d_125_48 rfl) (True.intro)))))))))))))))))))))))))))))))
theorem d_126_0 : decode (kby 126) 0 = .ok (.iconst 0, 1) := by decide +kernel
theorem d_126_1 : decode (kby 126) 1 = .ok (.istore_n 2, 1) := by decide +kernel
theorem d_126_2 : decode (kby 126) 2 = .ok (.iconst 0, 1) := by decide +kernel
theorem d_126_3 : decode (kby 126) 3 = .ok (.istore_n 3, 1) := by decide +kernel
theorem d_126_4 : decode (kby 126) 4 = .ok (.iload_n 3, 1) := by decide +kernel
theorem d_126_5 : decode (kby 126) 5 = .ok (.aload_n 0, 1) := by decide +kernel
theorem d_126_6 : decode (kby 126) 6 = .ok (.getfield 180, 3) := by decide +kernel
theorem d_126_9 : decode (kby 126) 9 = .ok (.if_icmp .ge 29, 3) := by decide +kernel
theorem d_126_12 : decode (kby 126) 12 = .ok (.iload_n 2, 1) := by decide +kernel
theorem d_126_13 : decode (kby 126) 13 = .ok (.ifCond .ne 13, 3) := by decide +kernel
theorem d_126_16 : decode (kby 126) 16 = .ok (.aload_n 0, 1) := by decide +kernel
theorem d_126_17 : decode (kby 126) 17 = .ok (.getfield 62, 3) := by decide +kernel
theorem d_126_20 : decode (kby 126) 20 = .ok (.iload_n 3, 1) := by decide +kernel
theorem d_126_21 : decode (kby 126) 21 = .ok (.iaload, 1) := by decide +kernel
theorem d_126_22 : decode (kby 126) 22 = .ok (.iload_n 1, 1) := by decide +kernel
theorem d_126_23 : decode (kby 126) 23 = .ok (.if_icmp .ne 7, 3) := by decide +kernel
theorem d_126_26 : decode (kby 126) 26 = .ok (.iconst 1, 1) := by decide +kernel
theorem d_126_27 : decode (kby 126) 27 = .ok (.goto 4, 3) := by decide +kernel
theorem d_126_30 : decode (kby 126) 30 = .ok (.iconst 0, 1) := by decide +kernel
theorem d_126_31 : decode (kby 126) 31 = .ok (.istore_n 2, 1) := by decide +kernel
theorem d_126_32 : decode (kby 126) 32 = .ok (.iinc 3 1, 3) := by decide +kernel
theorem d_126_35 : decode (kby 126) 35 = .ok (.goto (-31), 3) := by decide +kernel
theorem d_126_38 : decode (kby 126) 38 = .ok (.iload_n 2, 1) := by decide +kernel
theorem d_126_39 : decode (kby 126) 39 = .ok (.ifCond .eq 4, 3) := by decide +kernel
theorem d_126_42 : decode (kby 126) 42 = .ok (.return_, 1) := by decide +kernel
theorem d_126_43 : decode (kby 126) 43 = .ok (.aload_n 0, 1) := by decide +kernel
theorem d_126_44 : decode (kby 126) 44 = .ok (.getfield 180, 3) := by decide +kernel
theorem d_126_47 : decode (kby 126) 47 = .ok (.bipush 12, 2) := by decide +kernel
theorem d_126_49 : decode (kby 126) 49 = .ok (.if_icmp .ne 9, 3) := by decide +kernel
theorem d_126_52 : decode (kby 126) 52 = .ok (.aload_n 0, 1) := by decide +kernel
theorem d_126_53 : decode (kby 126) 53 = .ok (.iconst 1, 1) := by decide +kernel
theorem d_126_54 : decode (kby 126) 54 = .ok (.putfield 93, 3) := by decide +kernel
theorem d_126_57 : decode (kby 126) 57 = .ok (.return_, 1) := by decide +kernel
theorem d_126_58 : decode (kby 126) 58 = .ok (.aload_n 0, 1) := by decide +kernel
theorem d_126_59 : decode (kby 126) 59 = .ok (.getfield 62, 3) := by decide +kernel
theorem d_126_62 : decode (kby 126) 62 = .ok (.aload_n 0, 1) := by decide +kernel
theorem d_126_63 : decode (kby 126) 63 = .ok (.getfield 180, 3) := by decide +kernel
theorem d_126_66 : decode (kby 126) 66 = .ok (.iload_n 1, 1) := by decide +kernel
theorem d_126_67 : decode (kby 126) 67 = .ok (.iastore, 1) := by decide +kernel
theorem d_126_68 : decode (kby 126) 68 = .ok (.aload_n 0, 1) := by decide +kernel
theorem d_126_69 : decode (kby 126) 69 = .ok (.dup, 1) := by decide +kernel
theorem d_126_70 : decode (kby 126) 70 = .ok (.getfield 180, 3) := by decide +kernel
theorem d_126_73 : decode (kby 126) 73 = .ok (.iconst 1, 1) := by decide +kernel
theorem d_126_74 : decode (kby 126) 74 = .ok (.iadd, 1) := by decide +kernel
theorem d_126_75 : decode (kby 126) 75 = .ok (.putfield 180, 3) := by decide +kernel
theorem d_126_78 : decode (kby 126) 78 = .ok (.return_, 1) := by decide +kernel
set_option maxRecDepth 100000 in
theorem ka_126 : kall 126 0 kc_126 := And.intro (s_iconst d_126_0 (by decide +kernel)) (And.intro (s_istore_n d_126_1 rfl (by decide +kernel)) (And.intro (s_iconst d_126_2 (by decide +kernel)) (And.intro (s_istore_n d_126_3 rfl (by decide +kernel)) (And.intro (s_iload_n d_126_4 rfl) (And.intro (s_aload_n d_126_5 rfl) (And.intro (s_get d_126_6 (C := kR8) (T := kT8) (N := 38) rfl kjn8 (by decide +kernel) rfl kf_8_180) (And.intro (s_icmp_ge d_126_9 (by decide +kernel)) (And.intro (s_iload_n d_126_12 rfl) (And.intro (s_if_ne d_126_13 (by decide +kernel)) (And.intro (s_aload_n d_126_16 rfl) (And.intro (s_get d_126_17 (C := kR8) (T := kT8) (N := 38) rfl kjn8 (by decide +kernel) rfl kf_8_62) (And.intro (s_iload_n d_126_20 rfl) (And.intro (s_iaload d_126_21) (And.intro (s_iload_n d_126_22 rfl) (And.intro (s_icmp_ne d_126_23 (by decide +kernel)) (And.intro (s_iconst d_126_26 (by decide +kernel)) (And.intro (s_goto d_126_27 (by decide +kernel)) (And.intro (s_iconst d_126_30 (by decide +kernel)) (And.intro (s_istore_n d_126_31 rfl (by decide +kernel)) (And.intro (s_iinc d_126_32 (by decide +kernel) (by decide +kernel)) (And.intro (s_goto d_126_35 (by decide +kernel)) (And.intro (s_iload_n d_126_38 rfl) (And.intro (s_if_eq d_126_39 (by decide +kernel)) (And.intro (s_rv d_126_42 rfl) (And.intro (s_aload_n d_126_43 rfl) (And.intro (s_get d_126_44 (C := kR8) (T := kT8) (N := 38) rfl kjn8 (by decide +kernel) rfl kf_8_180) (And.intro (s_bipush d_126_47 (by decide +kernel)) (And.intro (s_icmp_ne d_126_49 (by decide +kernel)) (And.intro (s_aload_n d_126_52 rfl) (And.intro (s_iconst d_126_53 (by decide +kernel)) (And.intro (s_putz d_126_54 (C := kR8) (T := kT8) (N := 38) rfl kjn8 (by decide +kernel) rfl kf_8_93 kt8 kty8 knm8 rfl (by decide +kernel)) (And.intro (s_rv d_126_57 rfl) (And.intro (s_aload_n d_126_58 rfl) (And.intro (s_get d_126_59 (C := kR8) (T := kT8) (N := 38) rfl kjn8 (by decide +kernel) rfl kf_8_62) (And.intro (s_aload_n d_126_62 rfl) (And.intro (s_get d_126_63 (C := kR8) (T := kT8) (N := 38) rfl kjn8 (by decide +kernel) rfl kf_8_180) (And.intro (s_iload_n d_126_66 rfl) (And.intro (s_iastore d_126_67) (And.intro (s_aload_n d_126_68 rfl) (And.intro (s_dup d_126_69) (And.intro (s_get d_126_70 (C := kR8) (T := kT8) (N := 38) rfl kjn8 (by decide +kernel) rfl kf_8_180) (And.intro (s_iconst d_126_73 (by decide +kernel)) (And.intro (s_iadd d_126_74) (And.intro (s_put d_126_75 (C := kR8) (T := kT8) (N := 38) rfl kjn8 (by decide +kernel) rfl kf_8_180 kt8 kty8 knm8 rfl (by decide +kernel)) (And.intro (s_rv d_126_78 rfl) (True.intro))))))))))))))))))))))))))))))))))))))))))))))
theorem d_127_0 : decode (kby 127) 0 = .ok (.aload_n 0, 1) := by decide +kernel
theorem d_127_1 : decode (kby 127) 1 = .ok (.getfield 38, 3) := by decide +kernel
theorem d_127_4 : decode (kby 127) 4 = .ok (.aload_n 0, 1) := by decide +kernel
theorem d_127_5 : decode (kby 127) 5 = .ok (.getfield 35, 3) := by decide +kernel
theorem d_127_8 : decode (kby 127) 8 = .ok (.iload_n 1, 1) := by decide +kernel
theorem d_127_9 : decode (kby 127) 9 = .ok (.iaload, 1) := by decide +kernel
theorem d_127_10 : decode (kby 127) 10 = .ok (.iaload, 1) := by decide +kernel
theorem d_127_11 : decode (kby 127) 11 = .ok (.ireturn, 1) := by decide +kernel
set_option maxRecDepth 100000 in
theorem ka_127 : kall 127 0 kc_127 := And.intro (s_aload_n d_127_0 rfl) (And.intro (s_get d_127_1 (C := kR8) (T := kT8) (N := 38) rfl kjn8 (by decide +kernel) rfl kf_8_38) (And.intro (s_aload_n d_127_4 rfl) (And.intro (s_get d_127_5 (C := kR8) (T := kT8) (N := 38) rfl kjn8 (by decide +kernel) rfl kf_8_35) (And.intro (s_iload_n d_127_8 rfl) (And.intro (s_iaload d_127_9) (And.intro (s_iaload d_127_10) (And.intro (s_ret d_127_11 rfl) (True.intro))))))))
theorem d_128_0 : decode (kby 128) 0 = .ok (.iload_n 1, 1) := by decide +kernel
theorem d_128_1 : decode (kby 128) 1 = .ok (.iconst 5, 1) := by decide +kernel
theorem d_128_2 : decode (kby 128) 2 = .ok (.if_icmp .ne 38, 3) := by decide +kernel
theorem d_128_5 : decode (kby 128) 5 = .ok (.aload_n 0, 1) := by decide +kernel
theorem d_128_6 : decode (kby 128) 6 = .ok (.aload_n 0, 1) := by decide +kernel
theorem d_128_7 : decode (kby 128) 7 = .ok (.getfield 50, 3) := by decide +kernel
theorem d_128_10 : decode (kby 128) 10 = .ok (.iload_n 2, 1) := by decide +kernel
theorem d_128_11 : decode (kby 128) 11 = .ok (.iaload, 1) := by decide +kernel
theorem d_128_12 : decode (kby 128) 12 = .ok (.invokevirtual 183, 3) := by decide +kernel
theorem d_128_15 : decode (kby 128) 15 = .ok (.aload_n 0, 1) := by decide +kernel
theorem d_128_16 : decode (kby 128) 16 = .ok (.getfield 41, 3) := by decide +kernel
theorem d_128_19 : decode (kby 128) 19 = .ok (.aload_n 0, 1) := by decide +kernel
theorem d_128_20 : decode (kby 128) 20 = .ok (.getfield 50, 3) := by decide +kernel
theorem d_128_23 : decode (kby 128) 23 = .ok (.iload_n 2, 1) := by decide +kernel
theorem d_128_24 : decode (kby 128) 24 = .ok (.iaload, 1) := by decide +kernel
theorem d_128_25 : decode (kby 128) 25 = .ok (.iaload, 1) := by decide +kernel
theorem d_128_26 : decode (kby 128) 26 = .ok (.ifCond .ne 12, 3) := by decide +kernel
theorem d_128_29 : decode (kby 128) 29 = .ok (.aload_n 0, 1) := by decide +kernel
theorem d_128_30 : decode (kby 128) 30 = .ok (.getfield 50, 3) := by decide +kernel
theorem d_128_33 : decode (kby 128) 33 = .ok (.iload_n 2, 1) := by decide +kernel
theorem d_128_34 : decode (kby 128) 34 = .ok (.iaload, 1) := by decide +kernel
theorem d_128_35 : decode (kby 128) 35 = .ok (.goto 4, 3) := by decide +kernel
theorem d_128_38 : decode (kby 128) 38 = .ok (.iconst (-1), 1) := by decide +kernel
theorem d_128_39 : decode (kby 128) 39 = .ok (.ireturn, 1) := by decide +kernel
theorem d_128_40 : decode (kby 128) 40 = .ok (.aload_n 0, 1) := by decide +kernel
theorem d_128_41 : decode (kby 128) 41 = .ok (.getfield 53, 3) := by decide +kernel
theorem d_128_44 : decode (kby 128) 44 = .ok (.iload_n 2, 1) := by decide +kernel
theorem d_128_45 : decode (kby 128) 45 = .ok (.iaload, 1) := by decide +kernel
theorem d_128_46 : decode (kby 128) 46 = .ok (.istore 4, 2) := by decide +kernel
theorem d_128_48 : decode (kby 128) 48 = .ok (.aload_n 0, 1) := by decide +kernel
theorem d_128_49 : decode (kby 128) 49 = .ok (.getfield 53, 3) := by decide +kernel
theorem d_128_52 : decode (kby 128) 52 = .ok (.iload_n 3, 1) := by decide +kernel
theorem d_128_53 : decode (kby 128) 53 = .ok (.iaload, 1) := by decide +kernel
theorem d_128_54 : decode (kby 128) 54 = .ok (.istore 5, 2) := by decide +kernel
theorem d_128_56 : decode (kby 128) 56 = .ok (.iload_n 1, 1) := by decide +kernel
theorem d_128_57 : decode (kby 128) 57 = .ok (.bipush 6, 2) := by decide +kernel
theorem d_128_59 : decode (kby 128) 59 = .ok (.if_icmp .ne 47, 3) := by decide +kernel
theorem d_128_62 : decode (kby 128) 62 = .ok (.aload_n 0, 1) := by decide +kernel
theorem d_128_63 : decode (kby 128) 63 = .ok (.iload_n 2, 1) := by decide +kernel
theorem d_128_64 : decode (kby 128) 64 = .ok (.iconst (-1), 1) := by decide +kernel
theorem d_128_65 : decode (kby 128) 65 = .ok (.invokevirtual 214, 3) := by decide +kernel
theorem d_128_68 : decode (kby 128) 68 = .ok (.aload_n 0, 1) := by decide +kernel
theorem d_128_69 : decode (kby 128) 69 = .ok (.iload_n 3, 1) := by decide +kernel
theorem d_128_70 : decode (kby 128) 70 = .ok (.iconst (-1), 1) := by decide +kernel
theorem d_128_71 : decode (kby 128) 71 = .ok (.invokevirtual 214, 3) := by decide +kernel
theorem d_128_74 : decode (kby 128) 74 = .ok (.aload_n 0, 1) := by decide +kernel
theorem d_128_75 : decode (kby 128) 75 = .ok (.iload 4, 2) := by decide +kernel
theorem d_128_77 : decode (kby 128) 77 = .ok (.invokevirtual 208, 3) := by decide +kernel
theorem d_128_80 : decode (kby 128) 80 = .ok (.ifCond .eq 24, 3) := by decide +kernel
theorem d_128_83 : decode (kby 128) 83 = .ok (.aload_n 0, 1) := by decide +kernel
theorem d_128_84 : decode (kby 128) 84 = .ok (.iload 4, 2) := by decide +kernel
theorem d_128_86 : decode (kby 128) 86 = .ok (.invokevirtual 218, 3) := by decide +kernel
theorem d_128_89 : decode (kby 128) 89 = .ok (.iload 5, 2) := by decide +kernel
theorem d_128_91 : decode (kby 128) 91 = .ok (.if_icmp .ne 13, 3) := by decide +kernel
theorem d_128_94 : decode (kby 128) 94 = .ok (.aload_n 0, 1) := by decide +kernel
theorem d_128_95 : decode (kby 128) 95 = .ok (.getfield 38, 3) := by decide +kernel
theorem d_128_98 : decode (kby 128) 98 = .ok (.iload 4, 2) := by decide +kernel
theorem d_128_100 : decode (kby 128) 100 = .ok (.iaload, 1) := by decide +kernel
theorem d_128_101 : decode (kby 128) 101 = .ok (.goto 4, 3) := by decide +kernel
theorem d_128_104 : decode (kby 128) 104 = .ok (.iconst (-1), 1) := by decide +kernel
theorem d_128_105 : decode (kby 128) 105 = .ok (.ireturn, 1) := by decide +kernel
theorem d_128_106 : decode (kby 128) 106 = .ok (.aload_n 0, 1) := by decide +kernel
theorem d_128_107 : decode (kby 128) 107 = .ok (.iload_n 2, 1) := by decide +kernel
theorem d_128_108 : decode (kby 128) 108 = .ok (.iload 5, 2) := by decide +kernel
theorem d_128_110 : decode (kby 128) 110 = .ok (.invokevirtual 214, 3) := by decide +kernel
theorem d_128_113 : decode (kby 128) 113 = .ok (.aload_n 0, 1) := by decide +kernel
theorem d_128_114 : decode (kby 128) 114 = .ok (.iload_n 3, 1) := by decide +kernel
theorem d_128_115 : decode (kby 128) 115 = .ok (.iload 4, 2) := by decide +kernel
theorem d_128_117 : decode (kby 128) 117 = .ok (.invokevirtual 214, 3) := by decide +kernel
theorem d_128_120 : decode (kby 128) 120 = .ok (.aload_n 0, 1) := by decide +kernel
theorem d_128_121 : decode (kby 128) 121 = .ok (.iload 4, 2) := by decide +kernel
theorem d_128_123 : decode (kby 128) 123 = .ok (.iload 5, 2) := by decide +kernel
theorem d_128_125 : decode (kby 128) 125 = .ok (.invokevirtual 205, 3) := by decide +kernel
theorem d_128_128 : decode (kby 128) 128 = .ok (.ireturn, 1) := by decide +kernel
set_option maxRecDepth 100000 in
theorem ka_128 : kall 128 0 kc_128 := And.intro (s_iload_n d_128_0 rfl) (And.intro (s_iconst d_128_1 (by decide +kernel)) (And.intro (s_icmp_ne d_128_2 (by decide +kernel)) (And.intro (s_aload_n d_128_5 rfl) (And.intro (s_aload_n d_128_6 rfl) (And.intro (s_get d_128_7 (C := kR8) (T := kT8) (N := 38) rfl kjn8 (by decide +kernel) rfl kf_8_50) (And.intro (s_iload_n d_128_10 rfl) (And.intro (s_iaload d_128_11) (And.intro (s_cw d_128_12 kl_8_183 k_im_126 k_se_126 kok_126 rfl (by decide +kernel) rfl rfl) (And.intro (s_aload_n d_128_15 rfl) (And.intro (s_get d_128_16 (C := kR8) (T := kT8) (N := 38) rfl kjn8 (by decide +kernel) rfl kf_8_41) (And.intro (s_aload_n d_128_19 rfl) (And.intro (s_get d_128_20 (C := kR8) (T := kT8) (N := 38) rfl kjn8 (by decide +kernel) rfl kf_8_50) (And.intro (s_iload_n d_128_23 rfl) (And.intro (s_iaload d_128_24) (And.intro (s_iaload d_128_25) (And.intro (s_if_ne d_128_26 (by decide +kernel)) (And.intro (s_aload_n d_128_29 rfl) (And.intro (s_get d_128_30 (C := kR8) (T := kT8) (N := 38) rfl kjn8 (by decide +kernel) rfl kf_8_50) (And.intro (s_iload_n d_128_33 rfl) (And.intro (s_iaload d_128_34) (And.intro (s_goto d_128_35 (by decide +kernel)) (And.intro (s_iconst d_128_38 (by decide +kernel)) (And.intro (s_ret d_128_39 rfl) (And.intro (s_aload_n d_128_40 rfl) (And.intro (s_get d_128_41 (C := kR8) (T := kT8) (N := 38) rfl kjn8 (by decide +kernel) rfl kf_8_53) (And.intro (s_iload_n d_128_44 rfl) (And.intro (s_iaload d_128_45) (And.intro (s_istore d_128_46 (by decide +kernel)) (And.intro (s_aload_n d_128_48 rfl) (And.intro (s_get d_128_49 (C := kR8) (T := kT8) (N := 38) rfl kjn8 (by decide +kernel) rfl kf_8_53) (And.intro (s_iload_n d_128_52 rfl) (And.intro (s_iaload d_128_53) (And.intro (s_istore d_128_54 (by decide +kernel)) (And.intro (s_iload_n d_128_56 rfl) (And.intro (s_bipush d_128_57 (by decide +kernel)) (And.intro (s_icmp_ne d_128_59 (by decide +kernel)) (And.intro (s_aload_n d_128_62 rfl) (And.intro (s_iload_n d_128_63 rfl) (And.intro (s_iconst d_128_64 (by decide +kernel)) (And.intro (s_cw d_128_65 kl_8_214 k_im_125 k_se_125 kok_125 rfl (by decide +kernel) rfl rfl) (And.intro (s_aload_n d_128_68 rfl) (And.intro (s_iload_n d_128_69 rfl) (And.intro (s_iconst d_128_70 (by decide +kernel)) (And.intro (s_cw d_128_71 kl_8_214 k_im_125 k_se_125 kok_125 rfl (by decide +kernel) rfl rfl) (And.intro (s_aload_n d_128_74 rfl) (And.intro (s_iload d_128_75) (And.intro (s_cv d_128_77 kl_8_208 k_im_123 k_se_123 kok_123 rfl (by decide +kernel) rfl rfl) (And.intro (s_if_eq d_128_80 (by decide +kernel)) (And.intro (s_aload_n d_128_83 rfl) (And.intro (s_iload d_128_84) (And.intro (s_cv d_128_86 kl_8_218 k_im_127 k_se_127 kok_127 rfl (by decide +kernel) rfl rfl) (And.intro (s_iload d_128_89) (And.intro (s_icmp_ne d_128_91 (by decide +kernel)) (And.intro (s_aload_n d_128_94 rfl) (And.intro (s_get d_128_95 (C := kR8) (T := kT8) (N := 38) rfl kjn8 (by decide +kernel) rfl kf_8_38) (And.intro (s_iload d_128_98) (And.intro (s_iaload d_128_100) (And.intro (s_goto d_128_101 (by decide +kernel)) (And.intro (s_iconst d_128_104 (by decide +kernel)) (And.intro (s_ret d_128_105 rfl) (And.intro (s_aload_n d_128_106 rfl) (And.intro (s_iload_n d_128_107 rfl) (And.intro (s_iload d_128_108) (And.intro (s_cw d_128_110 kl_8_214 k_im_125 k_se_125 kok_125 rfl (by decide +kernel) rfl rfl) (And.intro (s_aload_n d_128_113 rfl) (And.intro (s_iload_n d_128_114 rfl) (And.intro (s_iload d_128_115) (And.intro (s_cw d_128_117 kl_8_214 k_im_125 k_se_125 kok_125 rfl (by decide +kernel) rfl rfl) (And.intro (s_aload_n d_128_120 rfl) (And.intro (s_iload d_128_121) (And.intro (s_iload d_128_123) (And.intro (s_cv d_128_125 kl_8_205 k_im_122 k_se_122 kok_122 rfl (by decide +kernel) rfl rfl) (And.intro (s_ret d_128_128 rfl) (True.intro))))))))))))))))))))))))))))))))))))))))))))))))))))))))))))))))))))))))))
theorem d_129_0 : decode (kby 129) 0 = .ok (.iload_n 1, 1) := by decide +kernel
theorem d_129_1 : decode (kby 129) 1 = .ok (.bipush 10, 2) := by decide +kernel
theorem d_129_3 : decode (kby 129) 3 = .ok (.if_icmp .ne 59, 3) := by decide +kernel
theorem d_129_6 : decode (kby 129) 6 = .ok (.aload_n 0, 1) := by decide +kernel
theorem d_129_7 : decode (kby 129) 7 = .ok (.getfield 53, 3) := by decide +kernel
theorem d_129_10 : decode (kby 129) 10 = .ok (.iload_n 2, 1) := by decide +kernel
theorem d_129_11 : decode (kby 129) 11 = .ok (.iaload, 1) := by decide +kernel
theorem d_129_12 : decode (kby 129) 12 = .ok (.istore 5, 2) := by decide +kernel
theorem d_129_14 : decode (kby 129) 14 = .ok (.aload_n 0, 1) := by decide +kernel
theorem d_129_15 : decode (kby 129) 15 = .ok (.iload 5, 2) := by decide +kernel
theorem d_129_17 : decode (kby 129) 17 = .ok (.invokevirtual 208, 3) := by decide +kernel
theorem d_129_20 : decode (kby 129) 20 = .ok (.ifCond .ne 5, 3) := by decide +kernel
theorem d_129_23 : decode (kby 129) 23 = .ok (.iconst (-1), 1) := by decide +kernel
theorem d_129_24 : decode (kby 129) 24 = .ok (.ireturn, 1) := by decide +kernel
theorem d_129_25 : decode (kby 129) 25 = .ok (.aload_n 0, 1) := by decide +kernel
theorem d_129_26 : decode (kby 129) 26 = .ok (.iload_n 2, 1) := by decide +kernel
theorem d_129_27 : decode (kby 129) 27 = .ok (.iconst (-1), 1) := by decide +kernel
theorem d_129_28 : decode (kby 129) 28 = .ok (.invokevirtual 214, 3) := by decide +kernel
theorem d_129_31 : decode (kby 129) 31 = .ok (.aload_n 0, 1) := by decide +kernel
theorem d_129_32 : decode (kby 129) 32 = .ok (.iload_n 3, 1) := by decide +kernel
theorem d_129_33 : decode (kby 129) 33 = .ok (.iconst (-1), 1) := by decide +kernel
theorem d_129_34 : decode (kby 129) 34 = .ok (.invokevirtual 214, 3) := by decide +kernel
theorem d_129_37 : decode (kby 129) 37 = .ok (.aload_n 0, 1) := by decide +kernel
theorem d_129_38 : decode (kby 129) 38 = .ok (.aload_n 0, 1) := by decide +kernel
theorem d_129_39 : decode (kby 129) 39 = .ok (.getfield 53, 3) := by decide +kernel
theorem d_129_42 : decode (kby 129) 42 = .ok (.iload_n 3, 1) := by decide +kernel
theorem d_129_43 : decode (kby 129) 43 = .ok (.iaload, 1) := by decide +kernel
theorem d_129_44 : decode (kby 129) 44 = .ok (.iconst 4, 1) := by decide +kernel
theorem d_129_45 : decode (kby 129) 45 = .ok (.aload_n 0, 1) := by decide +kernel
theorem d_129_46 : decode (kby 129) 46 = .ok (.iload 5, 2) := by decide +kernel
theorem d_129_48 : decode (kby 129) 48 = .ok (.invokevirtual 218, 3) := by decide +kernel
theorem d_129_51 : decode (kby 129) 51 = .ok (.aload_n 0, 1) := by decide +kernel
theorem d_129_52 : decode (kby 129) 52 = .ok (.getfield 38, 3) := by decide +kernel
theorem d_129_55 : decode (kby 129) 55 = .ok (.iload 5, 2) := by decide +kernel
theorem d_129_57 : decode (kby 129) 57 = .ok (.iaload, 1) := by decide +kernel
theorem d_129_58 : decode (kby 129) 58 = .ok (.invokevirtual 177, 3) := by decide +kernel
theorem d_129_61 : decode (kby 129) 61 = .ok (.ireturn, 1) := by decide +kernel
theorem d_129_62 : decode (kby 129) 62 = .ok (.iload_n 1, 1) := by decide +kernel
theorem d_129_63 : decode (kby 129) 63 = .ok (.bipush 8, 2) := by decide +kernel
theorem d_129_65 : decode (kby 129) 65 = .ok (.if_icmp .ne 7, 3) := by decide +kernel
theorem d_129_68 : decode (kby 129) 68 = .ok (.iconst 2, 1) := by decide +kernel
theorem d_129_69 : decode (kby 129) 69 = .ok (.goto 4, 3) := by decide +kernel
theorem d_129_72 : decode (kby 129) 72 = .ok (.iconst 3, 1) := by decide +kernel
theorem d_129_73 : decode (kby 129) 73 = .ok (.istore 5, 2) := by decide +kernel
theorem d_129_75 : decode (kby 129) 75 = .ok (.iload_n 1, 1) := by decide +kernel
theorem d_129_76 : decode (kby 129) 76 = .ok (.bipush 8, 2) := by decide +kernel
theorem d_129_78 : decode (kby 129) 78 = .ok (.if_icmp .ne 12, 3) := by decide +kernel
theorem d_129_81 : decode (kby 129) 81 = .ok (.aload_n 0, 1) := by decide +kernel
theorem d_129_82 : decode (kby 129) 82 = .ok (.getfield 50, 3) := by decide +kernel
theorem d_129_85 : decode (kby 129) 85 = .ok (.iload_n 3, 1) := by decide +kernel
theorem d_129_86 : decode (kby 129) 86 = .ok (.iaload, 1) := by decide +kernel
theorem d_129_87 : decode (kby 129) 87 = .ok (.goto 9, 3) := by decide +kernel
theorem d_129_90 : decode (kby 129) 90 = .ok (.aload_n 0, 1) := by decide +kernel
theorem d_129_91 : decode (kby 129) 91 = .ok (.getfield 29, 3) := by decide +kernel
theorem d_129_94 : decode (kby 129) 94 = .ok (.iload_n 3, 1) := by decide +kernel
theorem d_129_95 : decode (kby 129) 95 = .ok (.iaload, 1) := by decide +kernel
theorem d_129_96 : decode (kby 129) 96 = .ok (.istore 6, 2) := by decide +kernel
theorem d_129_98 : decode (kby 129) 98 = .ok (.iload_n 1, 1) := by decide +kernel
theorem d_129_99 : decode (kby 129) 99 = .ok (.bipush 8, 2) := by decide +kernel
theorem d_129_101 : decode (kby 129) 101 = .ok (.if_icmp .ne 13, 3) := by decide +kernel
theorem d_129_104 : decode (kby 129) 104 = .ok (.aload_n 0, 1) := by decide +kernel
theorem d_129_105 : decode (kby 129) 105 = .ok (.getfield 50, 3) := by decide +kernel
theorem d_129_108 : decode (kby 129) 108 = .ok (.iload 4, 2) := by decide +kernel
theorem d_129_110 : decode (kby 129) 110 = .ok (.iaload, 1) := by decide +kernel
theorem d_129_111 : decode (kby 129) 111 = .ok (.goto 10, 3) := by decide +kernel
theorem d_129_114 : decode (kby 129) 114 = .ok (.aload_n 0, 1) := by decide +kernel
theorem d_129_115 : decode (kby 129) 115 = .ok (.getfield 29, 3) := by decide +kernel
theorem d_129_118 : decode (kby 129) 118 = .ok (.iload 4, 2) := by decide +kernel
theorem d_129_120 : decode (kby 129) 120 = .ok (.iaload, 1) := by decide +kernel
theorem d_129_121 : decode (kby 129) 121 = .ok (.istore 7, 2) := by decide +kernel
theorem d_129_123 : decode (kby 129) 123 = .ok (.iload_n 1, 1) := by decide +kernel
theorem d_129_124 : decode (kby 129) 124 = .ok (.bipush 8, 2) := by decide +kernel
theorem d_129_126 : decode (kby 129) 126 = .ok (.if_icmp .ne 30, 3) := by decide +kernel
theorem d_129_129 : decode (kby 129) 129 = .ok (.aload_n 0, 1) := by decide +kernel
theorem d_129_130 : decode (kby 129) 130 = .ok (.getfield 32, 3) := by decide +kernel
theorem d_129_133 : decode (kby 129) 133 = .ok (.iload 6, 2) := by decide +kernel
theorem d_129_135 : decode (kby 129) 135 = .ok (.iaload, 1) := by decide +kernel
theorem d_129_136 : decode (kby 129) 136 = .ok (.ifCond .ne 37, 3) := by decide +kernel
theorem d_129_139 : decode (kby 129) 139 = .ok (.aload_n 0, 1) := by decide +kernel
theorem d_129_140 : decode (kby 129) 140 = .ok (.getfield 41, 3) := by decide +kernel
theorem d_129_143 : decode (kby 129) 143 = .ok (.iload 6, 2) := by decide +kernel
theorem d_129_145 : decode (kby 129) 145 = .ok (.iaload, 1) := by decide +kernel
theorem d_129_146 : decode (kby 129) 146 = .ok (.aload_n 0, 1) := by decide +kernel
theorem d_129_147 : decode (kby 129) 147 = .ok (.getfield 41, 3) := by decide +kernel
theorem d_129_150 : decode (kby 129) 150 = .ok (.iload 7, 2) := by decide +kernel
theorem d_129_152 : decode (kby 129) 152 = .ok (.iaload, 1) := by decide +kernel
theorem d_129_153 : decode (kby 129) 153 = .ok (.if_icmp .ne 20, 3) := by decide +kernel
theorem d_129_156 : decode (kby 129) 156 = .ok (.iload_n 1, 1) := by decide +kernel
theorem d_129_157 : decode (kby 129) 157 = .ok (.bipush 9, 2) := by decide +kernel
theorem d_129_159 : decode (kby 129) 159 = .ok (.if_icmp .ne 16, 3) := by decide +kernel
theorem d_129_162 : decode (kby 129) 162 = .ok (.aload_n 0, 1) := by decide +kernel
theorem d_129_163 : decode (kby 129) 163 = .ok (.getfield 7, 3) := by decide +kernel
theorem d_129_166 : decode (kby 129) 166 = .ok (.iload 6, 2) := by decide +kernel
theorem d_129_168 : decode (kby 129) 168 = .ok (.iaload, 1) := by decide +kernel
theorem d_129_169 : decode (kby 129) 169 = .ok (.iconst 2, 1) := by decide +kernel
theorem d_129_170 : decode (kby 129) 170 = .ok (.if_icmp .eq 5, 3) := by decide +kernel
theorem d_129_173 : decode (kby 129) 173 = .ok (.iconst (-1), 1) := by decide +kernel
theorem d_129_174 : decode (kby 129) 174 = .ok (.ireturn, 1) := by decide +kernel
theorem d_129_175 : decode (kby 129) 175 = .ok (.iconst 0, 1) := by decide +kernel
theorem d_129_176 : decode (kby 129) 176 = .ok (.istore 8, 2) := by decide +kernel
theorem d_129_178 : decode (kby 129) 178 = .ok (.iload 8, 2) := by decide +kernel
theorem d_129_180 : decode (kby 129) 180 = .ok (.aload_n 0, 1) := by decide +kernel
theorem d_129_181 : decode (kby 129) 181 = .ok (.getfield 56, 3) := by decide +kernel
theorem d_129_184 : decode (kby 129) 184 = .ok (.iload_n 2, 1) := by decide +kernel
theorem d_129_185 : decode (kby 129) 185 = .ok (.iaload, 1) := by decide +kernel
theorem d_129_186 : decode (kby 129) 186 = .ok (.if_icmp .ge 39, 3) := by decide +kernel
theorem d_129_189 : decode (kby 129) 189 = .ok (.aload_n 0, 1) := by decide +kernel
theorem d_129_190 : decode (kby 129) 190 = .ok (.aload_n 0, 1) := by decide +kernel
theorem d_129_191 : decode (kby 129) 191 = .ok (.getfield 59, 3) := by decide +kernel
theorem d_129_194 : decode (kby 129) 194 = .ok (.bipush 12, 2) := by decide +kernel
theorem d_129_196 : decode (kby 129) 196 = .ok (.iload_n 2, 1) := by decide +kernel
theorem d_129_197 : decode (kby 129) 197 = .ok (.imul, 1) := by decide +kernel
theorem d_129_198 : decode (kby 129) 198 = .ok (.iload 8, 2) := by decide +kernel
theorem d_129_200 : decode (kby 129) 200 = .ok (.iadd, 1) := by decide +kernel
theorem d_129_201 : decode (kby 129) 201 = .ok (.iaload, 1) := by decide +kernel
theorem d_129_202 : decode (kby 129) 202 = .ok (.iload 5, 2) := by decide +kernel
theorem d_129_204 : decode (kby 129) 204 = .ok (.iload 6, 2) := by decide +kernel
theorem d_129_206 : decode (kby 129) 206 = .ok (.iload 7, 2) := by decide +kernel
theorem d_129_208 : decode (kby 129) 208 = .ok (.invokevirtual 177, 3) := by decide +kernel
theorem d_129_211 : decode (kby 129) 211 = .ok (.istore 9, 2) := by decide +kernel
theorem d_129_213 : decode (kby 129) 213 = .ok (.aload_n 0, 1) := by decide +kernel
theorem d_129_214 : decode (kby 129) 214 = .ok (.iload 9, 2) := by decide +kernel
theorem d_129_216 : decode (kby 129) 216 = .ok (.invokevirtual 183, 3) := by decide +kernel
theorem d_129_219 : decode (kby 129) 219 = .ok (.iinc 8 1, 3) := by decide +kernel
theorem d_129_222 : decode (kby 129) 222 = .ok (.goto (-44), 3) := by decide +kernel
theorem d_129_225 : decode (kby 129) 225 = .ok (.aload_n 0, 1) := by decide +kernel
theorem d_129_226 : decode (kby 129) 226 = .ok (.aload_n 0, 1) := by decide +kernel
theorem d_129_227 : decode (kby 129) 227 = .ok (.getfield 53, 3) := by decide +kernel
theorem d_129_230 : decode (kby 129) 230 = .ok (.iload_n 2, 1) := by decide +kernel
theorem d_129_231 : decode (kby 129) 231 = .ok (.iaload, 1) := by decide +kernel
theorem d_129_232 : decode (kby 129) 232 = .ok (.iload 5, 2) := by decide +kernel
theorem d_129_234 : decode (kby 129) 234 = .ok (.iload 6, 2) := by decide +kernel
theorem d_129_236 : decode (kby 129) 236 = .ok (.iload 7, 2) := by decide +kernel
theorem d_129_238 : decode (kby 129) 238 = .ok (.invokevirtual 177, 3) := by decide +kernel
theorem d_129_241 : decode (kby 129) 241 = .ok (.ireturn, 1) := by decide +kernel
set_option maxRecDepth 100000 in
theorem ka_129 : kall 129 0 kc_129 := And.intro (s_iload_n d_129_0 rfl) (And.intro (s_bipush d_129_1 (by decide +kernel)) (And.intro (s_icmp_ne d_129_3 (by decide +kernel)) (And.intro (s_aload_n d_129_6 rfl) (And.intro (s_get d_129_7 (C := kR8) (T := kT8) (N := 38) rfl kjn8 (by decide +kernel) rfl kf_8_53) (And.intro (s_iload_n d_129_10 rfl) (And.intro (s_iaload d_129_11) (And.intro (s_istore d_129_12 (by decide +kernel)) (And.intro (s_aload_n d_129_14 rfl) (And.intro (s_iload d_129_15) (And.intro (s_cv d_129_17 kl_8_208 k_im_123 k_se_123 kok_123 rfl (by decide +kernel) rfl rfl) (And.intro (s_if_ne d_129_20 (by decide +kernel)) (And.intro (s_iconst d_129_23 (by decide +kernel)) (And.intro (s_ret d_129_24 rfl) (And.intro (s_aload_n d_129_25 rfl) (And.intro (s_iload_n d_129_26 rfl) (And.intro (s_iconst d_129_27 (by decide +kernel)) (And.intro (s_cw d_129_28 kl_8_214 k_im_125 k_se_125 kok_125 rfl (by decide +kernel) rfl rfl) (And.intro (s_aload_n d_129_31 rfl) (And.intro (s_iload_n d_129_32 rfl) (And.intro (s_iconst d_129_33 (by decide +kernel)) (And.intro (s_cw d_129_34 kl_8_214 k_im_125 k_se_125 kok_125 rfl (by decide +kernel) rfl rfl) (And.intro (s_aload_n d_129_37 rfl) (And.intro (s_aload_n d_129_38 rfl) (And.intro (s_get d_129_39 (C := kR8) (T := kT8) (N := 38) rfl kjn8 (by decide +kernel) rfl kf_8_53) (And.intro (s_iload_n d_129_42 rfl) (And.intro (s_iaload d_129_43) (And.intro (s_iconst d_129_44 (by decide +kernel)) (And.intro (s_aload_n d_129_45 rfl) (And.intro (s_iload d_129_46) (And.intro (s_cv d_129_48 kl_8_218 k_im_127 k_se_127 kok_127 rfl (by decide +kernel) rfl rfl) (And.intro (s_aload_n d_129_51 rfl) (And.intro (s_get d_129_52 (C := kR8) (T := kT8) (N := 38) rfl kjn8 (by decide +kernel) rfl kf_8_38) (And.intro (s_iload d_129_55) (And.intro (s_iaload d_129_57) (And.intro (s_cv d_129_58 kl_8_177 k_im_112 k_se_112 kok_112 rfl (by decide +kernel) rfl rfl) (And.intro (s_ret d_129_61 rfl) (And.intro (s_iload_n d_129_62 rfl) (And.intro (s_bipush d_129_63 (by decide +kernel)) (And.intro (s_icmp_ne d_129_65 (by decide +kernel)) (And.intro (s_iconst d_129_68 (by decide +kernel)) (And.intro (s_goto d_129_69 (by decide +kernel)) (And.intro (s_iconst d_129_72 (by decide +kernel)) (And.intro (s_istore d_129_73 (by decide +kernel)) (And.intro (s_iload_n d_129_75 rfl) (And.intro (s_bipush d_129_76 (by decide +kernel)) (And.intro (s_icmp_ne d_129_78 (by decide +kernel)) (And.intro (s_aload_n d_129_81 rfl) (And.intro (s_get d_129_82 (C := kR8) (T := kT8) (N := 38) rfl kjn8 (by decide +kernel) rfl kf_8_50) (And.intro (s_iload_n d_129_85 rfl) (And.intro (s_iaload d_129_86) (And.intro (s_goto d_129_87 (by decide +kernel)) (And.intro (s_aload_n d_129_90 rfl) (And.intro (s_get d_129_91 (C := kR8) (T := kT8) (N := 38) rfl kjn8 (by decide +kernel) rfl kf_8_29) (And.intro (s_iload_n d_129_94 rfl) (And.intro (s_iaload d_129_95) (And.intro (s_istore d_129_96 (by decide +kernel)) (And.intro (s_iload_n d_129_98 rfl) (And.intro (s_bipush d_129_99 (by decide +kernel)) (And.intro (s_icmp_ne d_129_101 (by decide +kernel)) (And.intro (s_aload_n d_129_104 rfl) (And.intro (s_get d_129_105 (C := kR8) (T := kT8) (N := 38) rfl kjn8 (by decide +kernel) rfl kf_8_50) (And.intro (s_iload d_129_108) (And.intro (s_iaload d_129_110) (And.intro (s_goto d_129_111 (by decide +kernel)) (And.intro (s_aload_n d_129_114 rfl) (And.intro (s_get d_129_115 (C := kR8) (T := kT8) (N := 38) rfl kjn8 (by decide +kernel) rfl kf_8_29) (And.intro (s_iload d_129_118) (And.intro (s_iaload d_129_120) (And.intro (s_istore d_129_121 (by decide +kernel)) (And.intro (s_iload_n d_129_123 rfl) (And.intro (s_bipush d_129_124 (by decide +kernel)) (And.intro (s_icmp_ne d_129_126 (by decide +kernel)) (And.intro (s_aload_n d_129_129 rfl) (And.intro (s_get d_129_130 (C := kR8) (T := kT8) (N := 38) rfl kjn8 (by decide +kernel) rfl kf_8_32) (And.intro (s_iload d_129_133) (And.intro (s_iaload d_129_135) (And.intro (s_if_ne d_129_136 (by decide +kernel)) (And.intro (s_aload_n d_129_139 rfl) (And.intro (s_get d_129_140 (C := kR8) (T := kT8) (N := 38) rfl kjn8 (by decide +kernel) rfl kf_8_41) (And.intro (s_iload d_129_143) (And.intro (s_iaload d_129_145) (And.intro (s_aload_n d_129_146 rfl) (And.intro (s_get d_129_147 (C := kR8) (T := kT8) (N := 38) rfl kjn8 (by decide +kernel) rfl kf_8_41) (And.intro (s_iload d_129_150) (And.intro (s_iaload d_129_152) (And.intro (s_icmp_ne d_129_153 (by decide +kernel)) (And.intro (s_iload_n d_129_156 rfl) (And.intro (s_bipush d_129_157 (by decide +kernel)) (And.intro (s_icmp_ne d_129_159 (by decide +kernel)) (And.intro (s_aload_n d_129_162 rfl) (And.intro (s_get d_129_163 (C := kR8) (T := kT8) (N := 38) rfl kjn8 (by decide +kernel) rfl kf_8_7) (And.intro (s_iload d_129_166) (And.intro (s_iaload d_129_168) (And.intro (s_iconst d_129_169 (by decide +kernel)) (And.intro (s_icmp_eq d_129_170 (by decide +kernel)) (And.intro (s_iconst d_129_173 (by decide +kernel)) (And.intro (s_ret d_129_174 rfl) (And.intro (s_iconst d_129_175 (by decide +kernel)) (And.intro (s_istore d_129_176 (by decide +kernel)) (And.intro (s_iload d_129_178) (And.intro (s_aload_n d_129_180 rfl) (And.intro (s_get d_129_181 (C := kR8) (T := kT8) (N := 38) rfl kjn8 (by decide +kernel) rfl kf_8_56) (And.intro (s_iload_n d_129_184 rfl) (And.intro (s_iaload d_129_185) (And.intro (s_icmp_ge d_129_186 (by decide +kernel)) (And.intro (s_aload_n d_129_189 rfl) (And.intro (s_aload_n d_129_190 rfl) (And.intro (s_get d_129_191 (C := kR8) (T := kT8) (N := 38) rfl kjn8 (by decide +kernel) rfl kf_8_59) (And.intro (s_bipush d_129_194 (by decide +kernel)) (And.intro (s_iload_n d_129_196 rfl) (And.intro (s_imul d_129_197) (And.intro (s_iload d_129_198) (And.intro (s_iadd d_129_200) (And.intro (s_iaload d_129_201) (And.intro (s_iload d_129_202) (And.intro (s_iload d_129_204) (And.intro (s_iload d_129_206) (And.intro (s_cv d_129_208 kl_8_177 k_im_112 k_se_112 kok_112 rfl (by decide +kernel) rfl rfl) (And.intro (s_istore d_129_211 (by decide +kernel)) (And.intro (s_aload_n d_129_213 rfl) (And.intro (s_iload d_129_214) (And.intro (s_cw d_129_216 kl_8_183 k_im_126 k_se_126 kok_126 rfl (by decide +kernel) rfl rfl) (And.intro (s_iinc d_129_219 (by decide +kernel) (by decide +kernel)) (And.intro (s_goto d_129_222 (by decide +kernel)) (And.intro (s_aload_n d_129_225 rfl) (And.intro (s_aload_n d_129_226 rfl) (And.intro (s_get d_129_227 (C := kR8) (T := kT8) (N := 38) rfl kjn8 (by decide +kernel) rfl kf_8_53) (And.intro (s_iload_n d_129_230 rfl) (And.intro (s_iaload d_129_231) (And.intro (s_iload d_129_232) (And.intro (s_iload d_129_234) (And.intro (s_iload d_129_236) (And.intro (s_cv d_129_238 kl_8_177 k_im_112 k_se_112 kok_112 rfl (by decide +kernel) rfl rfl) (And.intro (s_ret d_129_241 rfl) (True.intro)))))))))))))))))))))))))))))))))))))))))))))))))))))))))))))))))))))))))))))))))))))))))))))))))))))))))))))))))))))))))))))))))))))))
theorem d_130_0 : decode (kby 130) 0 = .ok (.aload_n 0, 1) := by decide +kernel
theorem d_130_1 : decode (kby 130) 1 = .ok (.getfield 93, 3) := by decide +kernel
theorem d_130_4 : decode (kby 130) 4 = .ok (.ifCond .ne 12, 3) := by decide +kernel
theorem d_130_7 : decode (kby 130) 7 = .ok (.aload_n 0, 1) := by decide +kernel
theorem d_130_8 : decode (kby 130) 8 = .ok (.getfield 138, 3) := by decide +kernel
theorem d_130_11 : decode (kby 130) 11 = .ok (.bipush 60, 2) := by decide +kernel
theorem d_130_13 : decode (kby 130) 13 = .ok (.if_icmp .ne 10, 3) := by decide +kernel
theorem d_130_16 : decode (kby 130) 16 = .ok (.aload_n 0, 1) := by decide +kernel
theorem d_130_17 : decode (kby 130) 17 = .ok (.iconst 1, 1) := by decide +kernel
theorem d_130_18 : decode (kby 130) 18 = .ok (.putfield 93, 3) := by decide +kernel
theorem d_130_21 : decode (kby 130) 21 = .ok (.iconst (-1), 1) := by decide +kernel
theorem d_130_22 : decode (kby 130) 22 = .ok (.ireturn, 1) := by decide +kernel
theorem d_130_23 : decode (kby 130) 23 = .ok (.aload_n 0, 1) := by decide +kernel
theorem d_130_24 : decode (kby 130) 24 = .ok (.getfield 53, 3) := by decide +kernel
theorem d_130_27 : decode (kby 130) 27 = .ok (.aload_n 0, 1) := by decide +kernel
theorem d_130_28 : decode (kby 130) 28 = .ok (.getfield 138, 3) := by decide +kernel
theorem d_130_31 : decode (kby 130) 31 = .ok (.iload_n 1, 1) := by decide +kernel
theorem d_130_32 : decode (kby 130) 32 = .ok (.iastore, 1) := by decide +kernel
theorem d_130_33 : decode (kby 130) 33 = .ok (.aload_n 0, 1) := by decide +kernel
theorem d_130_34 : decode (kby 130) 34 = .ok (.getfield 56, 3) := by decide +kernel
theorem d_130_37 : decode (kby 130) 37 = .ok (.aload_n 0, 1) := by decide +kernel
theorem d_130_38 : decode (kby 130) 38 = .ok (.getfield 138, 3) := by decide +kernel
theorem d_130_41 : decode (kby 130) 41 = .ok (.aload_n 0, 1) := by decide +kernel
theorem d_130_42 : decode (kby 130) 42 = .ok (.getfield 180, 3) := by decide +kernel
theorem d_130_45 : decode (kby 130) 45 = .ok (.iastore, 1) := by decide +kernel
theorem d_130_46 : decode (kby 130) 46 = .ok (.iconst 0, 1) := by decide +kernel
theorem d_130_47 : decode (kby 130) 47 = .ok (.istore_n 2, 1) := by decide +kernel
theorem d_130_48 : decode (kby 130) 48 = .ok (.iload_n 2, 1) := by decide +kernel
theorem d_130_49 : decode (kby 130) 49 = .ok (.aload_n 0, 1) := by decide +kernel
theorem d_130_50 : decode (kby 130) 50 = .ok (.getfield 180, 3) := by decide +kernel
theorem d_130_53 : decode (kby 130) 53 = .ok (.if_icmp .ge 29, 3) := by decide +kernel
theorem d_130_56 : decode (kby 130) 56 = .ok (.aload_n 0, 1) := by decide +kernel
theorem d_130_57 : decode (kby 130) 57 = .ok (.getfield 59, 3) := by decide +kernel
theorem d_130_60 : decode (kby 130) 60 = .ok (.bipush 12, 2) := by decide +kernel
theorem d_130_62 : decode (kby 130) 62 = .ok (.aload_n 0, 1) := by decide +kernel
theorem d_130_63 : decode (kby 130) 63 = .ok (.getfield 138, 3) := by decide +kernel
theorem d_130_66 : decode (kby 130) 66 = .ok (.imul, 1) := by decide +kernel
theorem d_130_67 : decode (kby 130) 67 = .ok (.iload_n 2, 1) := by decide +kernel
theorem d_130_68 : decode (kby 130) 68 = .ok (.iadd, 1) := by decide +kernel
theorem d_130_69 : decode (kby 130) 69 = .ok (.aload_n 0, 1) := by decide +kernel
theorem d_130_70 : decode (kby 130) 70 = .ok (.getfield 62, 3) := by decide +kernel
theorem d_130_73 : decode (kby 130) 73 = .ok (.iload_n 2, 1) := by decide +kernel
theorem d_130_74 : decode (kby 130) 74 = .ok (.iaload, 1) := by decide +kernel
theorem d_130_75 : decode (kby 130) 75 = .ok (.iastore, 1) := by decide +kernel
theorem d_130_76 : decode (kby 130) 76 = .ok (.iinc 2 1, 3) := by decide +kernel
theorem d_130_79 : decode (kby 130) 79 = .ok (.goto (-31), 3) := by decide +kernel
theorem d_130_82 : decode (kby 130) 82 = .ok (.aload_n 0, 1) := by decide +kernel
theorem d_130_83 : decode (kby 130) 83 = .ok (.dup, 1) := by decide +kernel
theorem d_130_84 : decode (kby 130) 84 = .ok (.getfield 138, 3) := by decide +kernel
theorem d_130_87 : decode (kby 130) 87 = .ok (.iconst 1, 1) := by decide +kernel
theorem d_130_88 : decode (kby 130) 88 = .ok (.iadd, 1) := by decide +kernel
theorem d_130_89 : decode (kby 130) 89 = .ok (.putfield 138, 3) := by decide +kernel
theorem d_130_92 : decode (kby 130) 92 = .ok (.aload_n 0, 1) := by decide +kernel
theorem d_130_93 : decode (kby 130) 93 = .ok (.getfield 138, 3) := by decide +kernel
theorem d_130_96 : decode (kby 130) 96 = .ok (.iconst 1, 1) := by decide +kernel
theorem d_130_97 : decode (kby 130) 97 = .ok (.isub, 1) := by decide +kernel
theorem d_130_98 : decode (kby 130) 98 = .ok (.ireturn, 1) := by decide +kernel
set_option maxRecDepth 100000 in
theorem ka_130 : kall 130 0 kc_130 := And.intro (s_aload_n d_130_0 rfl) (And.intro (s_get d_130_1 (C := kR8) (T := kT8) (N := 38) rfl kjn8 (by decide +kernel) rfl kf_8_93) (And.intro (s_if_ne d_130_4 (by decide +kernel)) (And.intro (s_aload_n d_130_7 rfl) (And.intro (s_get d_130_8 (C := kR8) (T := kT8) (N := 38) rfl kjn8 (by decide +kernel) rfl kf_8_138) (And.intro (s_bipush d_130_11 (by decide +kernel)) (And.intro (s_icmp_ne d_130_13 (by decide +kernel)) (And.intro (s_aload_n d_130_16 rfl) (And.intro (s_iconst d_130_17 (by decide +kernel)) (And.intro (s_putz d_130_18 (C := kR8) (T := kT8) (N := 38) rfl kjn8 (by decide +kernel) rfl kf_8_93 kt8 kty8 knm8 rfl (by decide +kernel)) (And.intro (s_iconst d_130_21 (by decide +kernel)) (And.intro (s_ret d_130_22 rfl) (And.intro (s_aload_n d_130_23 rfl) (And.intro (s_get d_130_24 (C := kR8) (T := kT8) (N := 38) rfl kjn8 (by decide +kernel) rfl kf_8_53) (And.intro (s_aload_n d_130_27 rfl) (And.intro (s_get d_130_28 (C := kR8) (T := kT8) (N := 38) rfl kjn8 (by decide +kernel) rfl kf_8_138) (And.intro (s_iload_n d_130_31 rfl) (And.intro (s_iastore d_130_32) (And.intro (s_aload_n d_130_33 rfl) (And.intro (s_get d_130_34 (C := kR8) (T := kT8) (N := 38) rfl kjn8 (by decide +kernel) rfl kf_8_56) (And.intro (s_aload_n d_130_37 rfl) (And.intro (s_get d_130_38 (C := kR8) (T := kT8) (N := 38) rfl kjn8 (by decide +kernel) rfl kf_8_138) (And.intro (s_aload_n d_130_41 rfl) (And.intro (s_get d_130_42 (C := kR8) (T := kT8) (N := 38) rfl kjn8 (by decide +kernel) rfl kf_8_180) (And.intro (s_iastore d_130_45) (And.intro (s_iconst d_130_46 (by decide +kernel)) (And.intro (s_istore_n d_130_47 rfl (by decide +kernel)) (And.intro (s_iload_n d_130_48 rfl) (And.intro (s_aload_n d_130_49 rfl) (And.intro (s_get d_130_50 (C := kR8) (T := kT8) (N := 38) rfl kjn8 (by decide +kernel) rfl kf_8_180) (And.intro (s_icmp_ge d_130_53 (by decide +kernel)) (And.intro (s_aload_n d_130_56 rfl) (And.intro (s_get d_130_57 (C := kR8) (T := kT8) (N := 38) rfl kjn8 (by decide +kernel) rfl kf_8_59) (And.intro (s_bipush d_130_60 (by decide +kernel)) (And.intro (s_aload_n d_130_62 rfl) (And.intro (s_get d_130_63 (C := kR8) (T := kT8) (N := 38) rfl kjn8 (by decide +kernel) rfl kf_8_138) (And.intro (s_imul d_130_66) (And.intro (s_iload_n d_130_67 rfl) (And.intro (s_iadd d_130_68) (And.intro (s_aload_n d_130_69 rfl) (And.intro (s_get d_130_70 (C := kR8) (T := kT8) (N := 38) rfl kjn8 (by decide +kernel) rfl kf_8_62) (And.intro (s_iload_n d_130_73 rfl) (And.intro (s_iaload d_130_74) (And.intro (s_iastore d_130_75) (And.intro (s_iinc d_130_76 (by decide +kernel) (by decide +kernel)) (And.intro (s_goto d_130_79 (by decide +kernel)) (And.intro (s_aload_n d_130_82 rfl) (And.intro (s_dup d_130_83) (And.intro (s_get d_130_84 (C := kR8) (T := kT8) (N := 38) rfl kjn8 (by decide +kernel) rfl kf_8_138) (And.intro (s_iconst d_130_87 (by decide +kernel)) (And.intro (s_iadd d_130_88) (And.intro (s_put d_130_89 (C := kR8) (T := kT8) (N := 38) rfl kjn8 (by decide +kernel) rfl kf_8_138 kt8 kty8 knm8 rfl (by decide +kernel)) (And.intro (s_aload_n d_130_92 rfl) (And.intro (s_get d_130_93 (C := kR8) (T := kT8) (N := 38) rfl kjn8 (by decide +kernel) rfl kf_8_138) (And.intro (s_iconst d_130_96 (by decide +kernel)) (And.intro (s_isub d_130_97) (And.intro (s_ret d_130_98 rfl) (True.intro)))))))))))))))))))))))))))))))))))))))))))))))))))))))))
theorem d_131_0 : decode (kby 131) 0 = .ok (.aload_n 0, 1) := by decide +kernel
theorem d_131_1 : decode (kby 131) 1 = .ok (.iload_n 1, 1) := by decide +kernel
theorem d_131_2 : decode (kby 131) 2 = .ok (.invokevirtual 167, 3) := by decide +kernel
theorem d_131_5 : decode (kby 131) 5 = .ok (.ifCond .eq 34, 3) := by decide +kernel
theorem d_131_8 : decode (kby 131) 8 = .ok (.aload_n 0, 1) := by decide +kernel
theorem d_131_9 : decode (kby 131) 9 = .ok (.getfield 224, 3) := by decide +kernel
theorem d_131_12 : decode (kby 131) 12 = .ok (.bipush 8, 2) := by decide +kernel
theorem d_131_14 : decode (kby 131) 14 = .ok (.if_icmp .eq 25, 3) := by decide +kernel
theorem d_131_17 : decode (kby 131) 17 = .ok (.aload_n 0, 1) := by decide +kernel
theorem d_131_18 : decode (kby 131) 18 = .ok (.getfield 138, 3) := by decide +kernel
theorem d_131_21 : decode (kby 131) 21 = .ok (.bipush 60, 2) := by decide +kernel
theorem d_131_23 : decode (kby 131) 23 = .ok (.if_icmp .eq 16, 3) := by decide +kernel
theorem d_131_26 : decode (kby 131) 26 = .ok (.aload_n 0, 1) := by decide +kernel
theorem d_131_27 : decode (kby 131) 27 = .ok (.aload_n 0, 1) := by decide +kernel
theorem d_131_28 : decode (kby 131) 28 = .ok (.getfield 50, 3) := by decide +kernel
theorem d_131_31 : decode (kby 131) 31 = .ok (.iload_n 1, 1) := by decide +kernel
theorem d_131_32 : decode (kby 131) 32 = .ok (.iaload, 1) := by decide +kernel
theorem d_131_33 : decode (kby 131) 33 = .ok (.invokevirtual 227, 3) := by decide +kernel
theorem d_131_36 : decode (kby 131) 36 = .ok (.ifCond .ne 5, 3) := by decide +kernel
theorem d_131_39 : decode (kby 131) 39 = .ok (.iconst (-1), 1) := by decide +kernel
theorem d_131_40 : decode (kby 131) 40 = .ok (.ireturn, 1) := by decide +kernel
theorem d_131_41 : decode (kby 131) 41 = .ok (.aload_n 0, 1) := by decide +kernel
theorem d_131_42 : decode (kby 131) 42 = .ok (.invokevirtual 154, 3) := by decide +kernel
theorem d_131_45 : decode (kby 131) 45 = .ok (.aload_n 0, 1) := by decide +kernel
theorem d_131_46 : decode (kby 131) 46 = .ok (.iconst 2, 1) := by decide +kernel
theorem d_131_47 : decode (kby 131) 47 = .ok (.aload_n 0, 1) := by decide +kernel
theorem d_131_48 : decode (kby 131) 48 = .ok (.getfield 224, 3) := by decide +kernel
theorem d_131_51 : decode (kby 131) 51 = .ok (.iconst 0, 1) := by decide +kernel
theorem d_131_52 : decode (kby 131) 52 = .ok (.aload_n 0, 1) := by decide +kernel
theorem d_131_53 : decode (kby 131) 53 = .ok (.getfield 41, 3) := by decide +kernel
theorem d_131_56 : decode (kby 131) 56 = .ok (.aload_n 0, 1) := by decide +kernel
theorem d_131_57 : decode (kby 131) 57 = .ok (.getfield 50, 3) := by decide +kernel
theorem d_131_60 : decode (kby 131) 60 = .ok (.iload_n 1, 1) := by decide +kernel
theorem d_131_61 : decode (kby 131) 61 = .ok (.iaload, 1) := by decide +kernel
theorem d_131_62 : decode (kby 131) 62 = .ok (.iaload, 1) := by decide +kernel
theorem d_131_63 : decode (kby 131) 63 = .ok (.invokevirtual 106, 3) := by decide +kernel
theorem d_131_66 : decode (kby 131) 66 = .ok (.istore_n 2, 1) := by decide +kernel
theorem d_131_67 : decode (kby 131) 67 = .ok (.aload_n 0, 1) := by decide +kernel
theorem d_131_68 : decode (kby 131) 68 = .ok (.iload_n 2, 1) := by decide +kernel
theorem d_131_69 : decode (kby 131) 69 = .ok (.aload_n 0, 1) := by decide +kernel
theorem d_131_70 : decode (kby 131) 70 = .ok (.getfield 50, 3) := by decide +kernel
theorem d_131_73 : decode (kby 131) 73 = .ok (.iload_n 1, 1) := by decide +kernel
theorem d_131_74 : decode (kby 131) 74 = .ok (.iaload, 1) := by decide +kernel
theorem d_131_75 : decode (kby 131) 75 = .ok (.invokevirtual 205, 3) := by decide +kernel
theorem d_131_78 : decode (kby 131) 78 = .ok (.istore_n 3, 1) := by decide +kernel
theorem d_131_79 : decode (kby 131) 79 = .ok (.aload_n 0, 1) := by decide +kernel
theorem d_131_80 : decode (kby 131) 80 = .ok (.iconst 0, 1) := by decide +kernel
theorem d_131_81 : decode (kby 131) 81 = .ok (.putfield 180, 3) := by decide +kernel
theorem d_131_84 : decode (kby 131) 84 = .ok (.aload_n 0, 1) := by decide +kernel
theorem d_131_85 : decode (kby 131) 85 = .ok (.iload_n 3, 1) := by decide +kernel
theorem d_131_86 : decode (kby 131) 86 = .ok (.invokevirtual 202, 3) := by decide +kernel
theorem d_131_89 : decode (kby 131) 89 = .ok (.istore 4, 2) := by decide +kernel
theorem d_131_91 : decode (kby 131) 91 = .ok (.aload_n 0, 1) := by decide +kernel
theorem d_131_92 : decode (kby 131) 92 = .ok (.invokevirtual 144, 3) := by decide +kernel
theorem d_131_95 : decode (kby 131) 95 = .ok (.ifCond .ne 5, 3) := by decide +kernel
theorem d_131_98 : decode (kby 131) 98 = .ok (.iconst (-1), 1) := by decide +kernel
theorem d_131_99 : decode (kby 131) 99 = .ok (.ireturn, 1) := by decide +kernel
theorem d_131_100 : decode (kby 131) 100 = .ok (.aload_n 0, 1) := by decide +kernel
theorem d_131_101 : decode (kby 131) 101 = .ok (.dup, 1) := by decide +kernel
theorem d_131_102 : decode (kby 131) 102 = .ok (.getfield 224, 3) := by decide +kernel
theorem d_131_105 : decode (kby 131) 105 = .ok (.iconst 1, 1) := by decide +kernel
theorem d_131_106 : decode (kby 131) 106 = .ok (.iadd, 1) := by decide +kernel
theorem d_131_107 : decode (kby 131) 107 = .ok (.putfield 224, 3) := by decide +kernel
theorem d_131_110 : decode (kby 131) 110 = .ok (.iload 4, 2) := by decide +kernel
theorem d_131_112 : decode (kby 131) 112 = .ok (.ireturn, 1) := by decide +kernel
set_option maxRecDepth 100000 in
theorem ka_131 : kall 131 0 kc_131 := And.intro (s_aload_n d_131_0 rfl) (And.intro (s_iload_n d_131_1 rfl) (And.intro (s_cv d_131_2 kl_8_167 k_im_107 k_se_107 kok_107 rfl (by decide +kernel) rfl rfl) (And.intro (s_if_eq d_131_5 (by decide +kernel)) (And.intro (s_aload_n d_131_8 rfl) (And.intro (s_get d_131_9 (C := kR8) (T := kT8) (N := 38) rfl kjn8 (by decide +kernel) rfl kf_8_224) (And.intro (s_bipush d_131_12 (by decide +kernel)) (And.intro (s_icmp_eq d_131_14 (by decide +kernel)) (And.intro (s_aload_n d_131_17 rfl) (And.intro (s_get d_131_18 (C := kR8) (T := kT8) (N := 38) rfl kjn8 (by decide +kernel) rfl kf_8_138) (And.intro (s_bipush d_131_21 (by decide +kernel)) (And.intro (s_icmp_eq d_131_23 (by decide +kernel)) (And.intro (s_aload_n d_131_26 rfl) (And.intro (s_aload_n d_131_27 rfl) (And.intro (s_get d_131_28 (C := kR8) (T := kT8) (N := 38) rfl kjn8 (by decide +kernel) rfl kf_8_50) (And.intro (s_iload_n d_131_31 rfl) (And.intro (s_iaload d_131_32) (And.intro (s_cv d_131_33 kl_8_227 k_im_132 k_se_132 kok_132 rfl (by decide +kernel) rfl rfl) (And.intro (s_if_ne d_131_36 (by decide +kernel)) (And.intro (s_iconst d_131_39 (by decide +kernel)) (And.intro (s_ret d_131_40 rfl) (And.intro (s_aload_n d_131_41 rfl) (And.intro (s_cw d_131_42 kl_8_154 k_im_93 k_se_93 kok_93 rfl (by decide +kernel) rfl rfl) (And.intro (s_aload_n d_131_45 rfl) (And.intro (s_iconst d_131_46 (by decide +kernel)) (And.intro (s_aload_n d_131_47 rfl) (And.intro (s_get d_131_48 (C := kR8) (T := kT8) (N := 38) rfl kjn8 (by decide +kernel) rfl kf_8_224) (And.intro (s_iconst d_131_51 (by decide +kernel)) (And.intro (s_aload_n d_131_52 rfl) (And.intro (s_get d_131_53 (C := kR8) (T := kT8) (N := 38) rfl kjn8 (by decide +kernel) rfl kf_8_41) (And.intro (s_aload_n d_131_56 rfl) (And.intro (s_get d_131_57 (C := kR8) (T := kT8) (N := 38) rfl kjn8 (by decide +kernel) rfl kf_8_50) (And.intro (s_iload_n d_131_60 rfl) (And.intro (s_iaload d_131_61) (And.intro (s_iaload d_131_62) (And.intro (s_cv d_131_63 kl_8_106 k_im_101 k_se_101 kok_101 rfl (by decide +kernel) rfl rfl) (And.intro (s_istore_n d_131_66 rfl (by decide +kernel)) (And.intro (s_aload_n d_131_67 rfl) (And.intro (s_iload_n d_131_68 rfl) (And.intro (s_aload_n d_131_69 rfl) (And.intro (s_get d_131_70 (C := kR8) (T := kT8) (N := 38) rfl kjn8 (by decide +kernel) rfl kf_8_50) (And.intro (s_iload_n d_131_73 rfl) (And.intro (s_iaload d_131_74) (And.intro (s_cv d_131_75 kl_8_205 k_im_122 k_se_122 kok_122 rfl (by decide +kernel) rfl rfl) (And.intro (s_istore_n d_131_78 rfl (by decide +kernel)) (And.intro (s_aload_n d_131_79 rfl) (And.intro (s_iconst d_131_80 (by decide +kernel)) (And.intro (s_put d_131_81 (C := kR8) (T := kT8) (N := 38) rfl kjn8 (by decide +kernel) rfl kf_8_180 kt8 kty8 knm8 rfl (by decide +kernel)) (And.intro (s_aload_n d_131_84 rfl) (And.intro (s_iload_n d_131_85 rfl) (And.intro (s_cv d_131_86 kl_8_202 k_im_130 k_se_130 kok_130 rfl (by decide +kernel) rfl rfl) (And.intro (s_istore d_131_89 (by decide +kernel)) (And.intro (s_aload_n d_131_91 rfl) (And.intro (s_cv d_131_92 kl_8_144 k_im_96 k_se_96 kok_96 rfl (by decide +kernel) rfl rfl) (And.intro (s_if_ne d_131_95 (by decide +kernel)) (And.intro (s_iconst d_131_98 (by decide +kernel)) (And.intro (s_ret d_131_99 rfl) (And.intro (s_aload_n d_131_100 rfl) (And.intro (s_dup d_131_101) (And.intro (s_get d_131_102 (C := kR8) (T := kT8) (N := 38) rfl kjn8 (by decide +kernel) rfl kf_8_224) (And.intro (s_iconst d_131_105 (by decide +kernel)) (And.intro (s_iadd d_131_106) (And.intro (s_put d_131_107 (C := kR8) (T := kT8) (N := 38) rfl kjn8 (by decide +kernel) rfl kf_8_224 kt8 kty8 knm8 rfl (by decide +kernel)) (And.intro (s_iload d_131_110) (And.intro (s_ret d_131_112 rfl) (True.intro)))))))))))))))))))))))))))))))))))))))))))))))))))))))))))))))))
