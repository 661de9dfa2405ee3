/-! printed: each instruction is sound -/
theorem d_132_0 : decode (kby 132) 0 = .ok (.aload_n 0, 1) := by decide +kernel
theorem d_132_1 : decode (kby 132) 1 = .ok (.iload_n 1, 1) := by decide +kernel
theorem d_132_2 : decode (kby 132) 2 = .ok (.iconst 2, 1) := by decide +kernel
theorem d_132_3 : decode (kby 132) 3 = .ok (.iconst (-1), 1) := by decide +kernel
theorem d_132_4 : decode (kby 132) 4 = .ok (.invokevirtual 118, 3) := by decide +kernel
theorem d_132_7 : decode (kby 132) 7 = .ok (.iconst 1, 1) := by decide +kernel
theorem d_132_8 : decode (kby 132) 8 = .ok (.istore_n 2, 1) := by decide +kernel
theorem d_132_9 : decode (kby 132) 9 = .ok (.iconst 0, 1) := by decide +kernel
theorem d_132_10 : decode (kby 132) 10 = .ok (.istore_n 3, 1) := by decide +kernel
theorem d_132_11 : decode (kby 132) 11 = .ok (.iload_n 3, 1) := by decide +kernel
theorem d_132_12 : decode (kby 132) 12 = .ok (.iload_n 1, 1) := by decide +kernel
theorem d_132_13 : decode (kby 132) 13 = .ok (.if_icmp .gt 54, 3) := by decide +kernel
theorem d_132_16 : decode (kby 132) 16 = .ok (.iload_n 2, 1) := by decide +kernel
theorem d_132_17 : decode (kby 132) 17 = .ok (.ifCond .eq 42, 3) := by decide +kernel
theorem d_132_20 : decode (kby 132) 20 = .ok (.aload_n 0, 1) := by decide +kernel
theorem d_132_21 : decode (kby 132) 21 = .ok (.getfield 74, 3) := by decide +kernel
theorem d_132_24 : decode (kby 132) 24 = .ok (.bipush 21, 2) := by decide +kernel
theorem d_132_26 : decode (kby 132) 26 = .ok (.iload_n 3, 1) := by decide +kernel
theorem d_132_27 : decode (kby 132) 27 = .ok (.imul, 1) := by decide +kernel
theorem d_132_28 : decode (kby 132) 28 = .ok (.baload, 1) := by decide +kernel
theorem d_132_29 : decode (kby 132) 29 = .ok (.ifCond .eq 26, 3) := by decide +kernel
theorem d_132_32 : decode (kby 132) 32 = .ok (.aload_n 0, 1) := by decide +kernel
theorem d_132_33 : decode (kby 132) 33 = .ok (.getfield 32, 3) := by decide +kernel
theorem d_132_36 : decode (kby 132) 36 = .ok (.iload_n 3, 1) := by decide +kernel
theorem d_132_37 : decode (kby 132) 37 = .ok (.iaload, 1) := by decide +kernel
theorem d_132_38 : decode (kby 132) 38 = .ok (.ifCond .eq 21, 3) := by decide +kernel
theorem d_132_41 : decode (kby 132) 41 = .ok (.aload_n 0, 1) := by decide +kernel
theorem d_132_42 : decode (kby 132) 42 = .ok (.getfield 22, 3) := by decide +kernel
theorem d_132_45 : decode (kby 132) 45 = .ok (.aload_n 0, 1) := by decide +kernel
theorem d_132_46 : decode (kby 132) 46 = .ok (.getfield 41, 3) := by decide +kernel
theorem d_132_49 : decode (kby 132) 49 = .ok (.iload_n 3, 1) := by decide +kernel
theorem d_132_50 : decode (kby 132) 50 = .ok (.iaload, 1) := by decide +kernel
theorem d_132_51 : decode (kby 132) 51 = .ok (.baload, 1) := by decide +kernel
theorem d_132_52 : decode (kby 132) 52 = .ok (.ifCond .ne 7, 3) := by decide +kernel
theorem d_132_55 : decode (kby 132) 55 = .ok (.iconst 1, 1) := by decide +kernel
theorem d_132_56 : decode (kby 132) 56 = .ok (.goto 4, 3) := by decide +kernel
theorem d_132_59 : decode (kby 132) 59 = .ok (.iconst 0, 1) := by decide +kernel
theorem d_132_60 : decode (kby 132) 60 = .ok (.istore_n 2, 1) := by decide +kernel
theorem d_132_61 : decode (kby 132) 61 = .ok (.iinc 3 1, 3) := by decide +kernel
theorem d_132_64 : decode (kby 132) 64 = .ok (.goto (-53), 3) := by decide +kernel
theorem d_132_67 : decode (kby 132) 67 = .ok (.iload_n 2, 1) := by decide +kernel
theorem d_132_68 : decode (kby 132) 68 = .ok (.ireturn, 1) := by decide +kernel
set_option maxRecDepth 100000 in
theorem ka_132 : kall 132 0 kc_132 := And.intro (s_aload_n d_132_0 rfl) (And.intro (s_iload_n d_132_1 rfl) (And.intro (s_iconst d_132_2 (by decide +kernel)) (And.intro (s_iconst d_132_3 (by decide +kernel)) (And.intro (s_cw d_132_4 kl_8_118 k_im_113 k_se_113 kok_113 rfl (by decide +kernel) rfl rfl) (And.intro (s_iconst d_132_7 (by decide +kernel)) (And.intro (s_istore_n d_132_8 rfl (by decide +kernel)) (And.intro (s_iconst d_132_9 (by decide +kernel)) (And.intro (s_istore_n d_132_10 rfl (by decide +kernel)) (And.intro (s_iload_n d_132_11 rfl) (And.intro (s_iload_n d_132_12 rfl) (And.intro (s_icmp_gt d_132_13 (by decide +kernel)) (And.intro (s_iload_n d_132_16 rfl) (And.intro (s_if_eq d_132_17 (by decide +kernel)) (And.intro (s_aload_n d_132_20 rfl) (And.intro (s_get d_132_21 (C := kR8) (T := kT8) (N := 38) rfl kjn8 (by decide +kernel) rfl kf_8_74) (And.intro (s_bipush d_132_24 (by decide +kernel)) (And.intro (s_iload_n d_132_26 rfl) (And.intro (s_imul d_132_27) (And.intro (s_baload d_132_28) (And.intro (s_if_eq d_132_29 (by decide +kernel)) (And.intro (s_aload_n d_132_32 rfl) (And.intro (s_get d_132_33 (C := kR8) (T := kT8) (N := 38) rfl kjn8 (by decide +kernel) rfl kf_8_32) (And.intro (s_iload_n d_132_36 rfl) (And.intro (s_iaload d_132_37) (And.intro (s_if_eq d_132_38 (by decide +kernel)) (And.intro (s_aload_n d_132_41 rfl) (And.intro (s_get d_132_42 (C := kR8) (T := kT8) (N := 38) rfl kjn8 (by decide +kernel) rfl kf_8_22) (And.intro (s_aload_n d_132_45 rfl) (And.intro (s_get d_132_46 (C := kR8) (T := kT8) (N := 38) rfl kjn8 (by decide +kernel) rfl kf_8_41) (And.intro (s_iload_n d_132_49 rfl) (And.intro (s_iaload d_132_50) (And.intro (s_baload d_132_51) (And.intro (s_if_ne d_132_52 (by decide +kernel)) (And.intro (s_iconst d_132_55 (by decide +kernel)) (And.intro (s_goto d_132_56 (by decide +kernel)) (And.intro (s_iconst d_132_59 (by decide +kernel)) (And.intro (s_istore_n d_132_60 rfl (by decide +kernel)) (And.intro (s_iinc d_132_61 (by decide +kernel) (by decide +kernel)) (And.intro (s_goto d_132_64 (by decide +kernel)) (And.intro (s_iload_n d_132_67 rfl) (And.intro (s_retz d_132_68 rfl) (True.intro))))))))))))))))))))))))))))))))))))))))))
theorem d_133_0 : decode (kby 133) 0 = .ok (.aload_n 0, 1) := by decide +kernel
theorem d_133_1 : decode (kby 133) 1 = .ok (.iload_n 1, 1) := by decide +kernel
theorem d_133_2 : decode (kby 133) 2 = .ok (.invokevirtual 190, 3) := by decide +kernel
theorem d_133_5 : decode (kby 133) 5 = .ok (.ifCond .eq 38, 3) := by decide +kernel
theorem d_133_8 : decode (kby 133) 8 = .ok (.aload_n 0, 1) := by decide +kernel
theorem d_133_9 : decode (kby 133) 9 = .ok (.getfield 56, 3) := by decide +kernel
theorem d_133_12 : decode (kby 133) 12 = .ok (.iload_n 1, 1) := by decide +kernel
theorem d_133_13 : decode (kby 133) 13 = .ok (.iaload, 1) := by decide +kernel
theorem d_133_14 : decode (kby 133) 14 = .ok (.ifCond .gt 29, 3) := by decide +kernel
theorem d_133_17 : decode (kby 133) 17 = .ok (.aload_n 0, 1) := by decide +kernel
theorem d_133_18 : decode (kby 133) 18 = .ok (.getfield 230, 3) := by decide +kernel
theorem d_133_21 : decode (kby 133) 21 = .ok (.iconst 3, 1) := by decide +kernel
theorem d_133_22 : decode (kby 133) 22 = .ok (.if_icmp .eq 21, 3) := by decide +kernel
theorem d_133_25 : decode (kby 133) 25 = .ok (.aload_n 0, 1) := by decide +kernel
theorem d_133_26 : decode (kby 133) 26 = .ok (.getfield 224, 3) := by decide +kernel
theorem d_133_29 : decode (kby 133) 29 = .ok (.bipush 7, 2) := by decide +kernel
theorem d_133_31 : decode (kby 133) 31 = .ok (.if_icmp .ge 12, 3) := by decide +kernel
theorem d_133_34 : decode (kby 133) 34 = .ok (.aload_n 0, 1) := by decide +kernel
theorem d_133_35 : decode (kby 133) 35 = .ok (.getfield 138, 3) := by decide +kernel
theorem d_133_38 : decode (kby 133) 38 = .ok (.bipush 59, 2) := by decide +kernel
theorem d_133_40 : decode (kby 133) 40 = .ok (.if_icmp .lt 5, 3) := by decide +kernel
theorem d_133_43 : decode (kby 133) 43 = .ok (.iconst (-1), 1) := by decide +kernel
theorem d_133_44 : decode (kby 133) 44 = .ok (.ireturn, 1) := by decide +kernel
theorem d_133_45 : decode (kby 133) 45 = .ok (.aload_n 0, 1) := by decide +kernel
theorem d_133_46 : decode (kby 133) 46 = .ok (.getfield 53, 3) := by decide +kernel
theorem d_133_49 : decode (kby 133) 49 = .ok (.iload_n 1, 1) := by decide +kernel
theorem d_133_50 : decode (kby 133) 50 = .ok (.iaload, 1) := by decide +kernel
theorem d_133_51 : decode (kby 133) 51 = .ok (.istore_n 2, 1) := by decide +kernel
theorem d_133_52 : decode (kby 133) 52 = .ok (.aload_n 0, 1) := by decide +kernel
theorem d_133_53 : decode (kby 133) 53 = .ok (.getfield 32, 3) := by decide +kernel
theorem d_133_56 : decode (kby 133) 56 = .ok (.iload_n 2, 1) := by decide +kernel
theorem d_133_57 : decode (kby 133) 57 = .ok (.iaload, 1) := by decide +kernel
theorem d_133_58 : decode (kby 133) 58 = .ok (.iconst 3, 1) := by decide +kernel
theorem d_133_59 : decode (kby 133) 59 = .ok (.if_icmp .ne 16, 3) := by decide +kernel
theorem d_133_62 : decode (kby 133) 62 = .ok (.aload_n 0, 1) := by decide +kernel
theorem d_133_63 : decode (kby 133) 63 = .ok (.aload_n 0, 1) := by decide +kernel
theorem d_133_64 : decode (kby 133) 64 = .ok (.getfield 35, 3) := by decide +kernel
theorem d_133_67 : decode (kby 133) 67 = .ok (.iload_n 2, 1) := by decide +kernel
theorem d_133_68 : decode (kby 133) 68 = .ok (.iaload, 1) := by decide +kernel
theorem d_133_69 : decode (kby 133) 69 = .ok (.invokevirtual 227, 3) := by decide +kernel
theorem d_133_72 : decode (kby 133) 72 = .ok (.ifCond .ne 5, 3) := by decide +kernel
theorem d_133_75 : decode (kby 133) 75 = .ok (.iconst (-1), 1) := by decide +kernel
theorem d_133_76 : decode (kby 133) 76 = .ok (.ireturn, 1) := by decide +kernel
theorem d_133_77 : decode (kby 133) 77 = .ok (.aload_n 0, 1) := by decide +kernel
theorem d_133_78 : decode (kby 133) 78 = .ok (.invokevirtual 154, 3) := by decide +kernel
theorem d_133_81 : decode (kby 133) 81 = .ok (.aload_n 0, 1) := by decide +kernel
theorem d_133_82 : decode (kby 133) 82 = .ok (.getfield 35, 3) := by decide +kernel
theorem d_133_85 : decode (kby 133) 85 = .ok (.iload_n 2, 1) := by decide +kernel
theorem d_133_86 : decode (kby 133) 86 = .ok (.iaload, 1) := by decide +kernel
theorem d_133_87 : decode (kby 133) 87 = .ok (.istore_n 3, 1) := by decide +kernel
theorem d_133_88 : decode (kby 133) 88 = .ok (.aload_n 0, 1) := by decide +kernel
theorem d_133_89 : decode (kby 133) 89 = .ok (.getfield 41, 3) := by decide +kernel
theorem d_133_92 : decode (kby 133) 92 = .ok (.aload_n 0, 1) := by decide +kernel
theorem d_133_93 : decode (kby 133) 93 = .ok (.getfield 38, 3) := by decide +kernel
theorem d_133_96 : decode (kby 133) 96 = .ok (.iload_n 2, 1) := by decide +kernel
theorem d_133_97 : decode (kby 133) 97 = .ok (.iaload, 1) := by decide +kernel
theorem d_133_98 : decode (kby 133) 98 = .ok (.iaload, 1) := by decide +kernel
theorem d_133_99 : decode (kby 133) 99 = .ok (.istore 4, 2) := by decide +kernel
theorem d_133_101 : decode (kby 133) 101 = .ok (.aload_n 0, 1) := by decide +kernel
theorem d_133_102 : decode (kby 133) 102 = .ok (.iconst 3, 1) := by decide +kernel
theorem d_133_103 : decode (kby 133) 103 = .ok (.aload_n 0, 1) := by decide +kernel
theorem d_133_104 : decode (kby 133) 104 = .ok (.getfield 230, 3) := by decide +kernel
theorem d_133_107 : decode (kby 133) 107 = .ok (.iconst 0, 1) := by decide +kernel
theorem d_133_108 : decode (kby 133) 108 = .ok (.invokevirtual 103, 3) := by decide +kernel
theorem d_133_111 : decode (kby 133) 111 = .ok (.istore 5, 2) := by decide +kernel
theorem d_133_113 : decode (kby 133) 113 = .ok (.aload_n 0, 1) := by decide +kernel
theorem d_133_114 : decode (kby 133) 114 = .ok (.iconst 4, 1) := by decide +kernel
theorem d_133_115 : decode (kby 133) 115 = .ok (.iload 4, 2) := by decide +kernel
theorem d_133_117 : decode (kby 133) 117 = .ok (.iload 5, 2) := by decide +kernel
theorem d_133_119 : decode (kby 133) 119 = .ok (.invokevirtual 103, 3) := by decide +kernel
theorem d_133_122 : decode (kby 133) 122 = .ok (.istore 6, 2) := by decide +kernel
theorem d_133_124 : decode (kby 133) 124 = .ok (.aload_n 0, 1) := by decide +kernel
theorem d_133_125 : decode (kby 133) 125 = .ok (.iconst 4, 1) := by decide +kernel
theorem d_133_126 : decode (kby 133) 126 = .ok (.iload 5, 2) := by decide +kernel
theorem d_133_128 : decode (kby 133) 128 = .ok (.iload 4, 2) := by decide +kernel
theorem d_133_130 : decode (kby 133) 130 = .ok (.invokevirtual 103, 3) := by decide +kernel
theorem d_133_133 : decode (kby 133) 133 = .ok (.istore 7, 2) := by decide +kernel
theorem d_133_135 : decode (kby 133) 135 = .ok (.aload_n 0, 1) := by decide +kernel
theorem d_133_136 : decode (kby 133) 136 = .ok (.iconst 2, 1) := by decide +kernel
theorem d_133_137 : decode (kby 133) 137 = .ok (.aload_n 0, 1) := by decide +kernel
theorem d_133_138 : decode (kby 133) 138 = .ok (.getfield 224, 3) := by decide +kernel
theorem d_133_141 : decode (kby 133) 141 = .ok (.iconst 0, 1) := by decide +kernel
theorem d_133_142 : decode (kby 133) 142 = .ok (.iload 6, 2) := by decide +kernel
theorem d_133_144 : decode (kby 133) 144 = .ok (.invokevirtual 106, 3) := by decide +kernel
theorem d_133_147 : decode (kby 133) 147 = .ok (.istore 8, 2) := by decide +kernel
theorem d_133_149 : decode (kby 133) 149 = .ok (.aload_n 0, 1) := by decide +kernel
theorem d_133_150 : decode (kby 133) 150 = .ok (.iconst 2, 1) := by decide +kernel
theorem d_133_151 : decode (kby 133) 151 = .ok (.aload_n 0, 1) := by decide +kernel
theorem d_133_152 : decode (kby 133) 152 = .ok (.getfield 224, 3) := by decide +kernel
theorem d_133_155 : decode (kby 133) 155 = .ok (.iconst 1, 1) := by decide +kernel
theorem d_133_156 : decode (kby 133) 156 = .ok (.iadd, 1) := by decide +kernel
theorem d_133_157 : decode (kby 133) 157 = .ok (.iconst 0, 1) := by decide +kernel
theorem d_133_158 : decode (kby 133) 158 = .ok (.iload 7, 2) := by decide +kernel
theorem d_133_160 : decode (kby 133) 160 = .ok (.invokevirtual 106, 3) := by decide +kernel
theorem d_133_163 : decode (kby 133) 163 = .ok (.istore 9, 2) := by decide +kernel
theorem d_133_165 : decode (kby 133) 165 = .ok (.aload_n 0, 1) := by decide +kernel
theorem d_133_166 : decode (kby 133) 166 = .ok (.iconst 0, 1) := by decide +kernel
theorem d_133_167 : decode (kby 133) 167 = .ok (.iconst 0, 1) := by decide +kernel
theorem d_133_168 : decode (kby 133) 168 = .ok (.iconst 0, 1) := by decide +kernel
theorem d_133_169 : decode (kby 133) 169 = .ok (.iload 5, 2) := by decide +kernel
theorem d_133_171 : decode (kby 133) 171 = .ok (.invokevirtual 106, 3) := by decide +kernel
theorem d_133_174 : decode (kby 133) 174 = .ok (.istore 10, 2) := by decide +kernel
theorem d_133_176 : decode (kby 133) 176 = .ok (.aload_n 0, 1) := by decide +kernel
theorem d_133_177 : decode (kby 133) 177 = .ok (.iconst 0, 1) := by decide +kernel
theorem d_133_178 : decode (kby 133) 178 = .ok (.iconst 0, 1) := by decide +kernel
theorem d_133_179 : decode (kby 133) 179 = .ok (.iconst 0, 1) := by decide +kernel
theorem d_133_180 : decode (kby 133) 180 = .ok (.iload 4, 2) := by decide +kernel
theorem d_133_182 : decode (kby 133) 182 = .ok (.invokevirtual 106, 3) := by decide +kernel
theorem d_133_185 : decode (kby 133) 185 = .ok (.istore 11, 2) := by decide +kernel
theorem d_133_187 : decode (kby 133) 187 = .ok (.aload_n 0, 1) := by decide +kernel
theorem d_133_188 : decode (kby 133) 188 = .ok (.iload 8, 2) := by decide +kernel
theorem d_133_190 : decode (kby 133) 190 = .ok (.iload 9, 2) := by decide +kernel
theorem d_133_192 : decode (kby 133) 192 = .ok (.iload 10, 2) := by decide +kernel
theorem d_133_194 : decode (kby 133) 194 = .ok (.invokevirtual 233, 3) := by decide +kernel
theorem d_133_197 : decode (kby 133) 197 = .ok (.istore 12, 2) := by decide +kernel
theorem d_133_199 : decode (kby 133) 199 = .ok (.aload_n 0, 1) := by decide +kernel
theorem d_133_200 : decode (kby 133) 200 = .ok (.iload 9, 2) := by decide +kernel
theorem d_133_202 : decode (kby 133) 202 = .ok (.iload 8, 2) := by decide +kernel
theorem d_133_204 : decode (kby 133) 204 = .ok (.iload 11, 2) := by decide +kernel
theorem d_133_206 : decode (kby 133) 206 = .ok (.invokevirtual 233, 3) := by decide +kernel
theorem d_133_209 : decode (kby 133) 209 = .ok (.istore 13, 2) := by decide +kernel
theorem d_133_211 : decode (kby 133) 211 = .ok (.aload_n 0, 1) := by decide +kernel
theorem d_133_212 : decode (kby 133) 212 = .ok (.getfield 93, 3) := by decide +kernel
theorem d_133_215 : decode (kby 133) 215 = .ok (.ifCond .eq 7, 3) := by decide +kernel
theorem d_133_218 : decode (kby 133) 218 = .ok (.iconst 0, 1) := by decide +kernel
theorem d_133_219 : decode (kby 133) 219 = .ok (.goto 10, 3) := by decide +kernel
theorem d_133_222 : decode (kby 133) 222 = .ok (.aload_n 0, 1) := by decide +kernel
theorem d_133_223 : decode (kby 133) 223 = .ok (.iload_n 3, 1) := by decide +kernel
theorem d_133_224 : decode (kby 133) 224 = .ok (.iload 11, 2) := by decide +kernel
theorem d_133_226 : decode (kby 133) 226 = .ok (.invokevirtual 114, 3) := by decide +kernel
theorem d_133_229 : decode (kby 133) 229 = .ok (.istore 14, 2) := by decide +kernel
theorem d_133_231 : decode (kby 133) 231 = .ok (.aload_n 0, 1) := by decide +kernel
theorem d_133_232 : decode (kby 133) 232 = .ok (.iload 14, 2) := by decide +kernel
theorem d_133_234 : decode (kby 133) 234 = .ok (.iload 13, 2) := by decide +kernel
theorem d_133_236 : decode (kby 133) 236 = .ok (.invokevirtual 205, 3) := by decide +kernel
theorem d_133_239 : decode (kby 133) 239 = .ok (.istore 15, 2) := by decide +kernel
theorem d_133_241 : decode (kby 133) 241 = .ok (.aload_n 0, 1) := by decide +kernel
theorem d_133_242 : decode (kby 133) 242 = .ok (.iconst 0, 1) := by decide +kernel
theorem d_133_243 : decode (kby 133) 243 = .ok (.putfield 180, 3) := by decide +kernel
theorem d_133_246 : decode (kby 133) 246 = .ok (.aload_n 0, 1) := by decide +kernel
theorem d_133_247 : decode (kby 133) 247 = .ok (.iload 12, 2) := by decide +kernel
theorem d_133_249 : decode (kby 133) 249 = .ok (.invokevirtual 202, 3) := by decide +kernel
theorem d_133_252 : decode (kby 133) 252 = .ok (.istore 16, 2) := by decide +kernel
theorem d_133_254 : decode (kby 133) 254 = .ok (.aload_n 0, 1) := by decide +kernel
theorem d_133_255 : decode (kby 133) 255 = .ok (.iload 15, 2) := by decide +kernel
theorem d_133_257 : decode (kby 133) 257 = .ok (.invokevirtual 202, 3) := by decide +kernel
theorem d_133_260 : decode (kby 133) 260 = .ok (.istore 17, 2) := by decide +kernel
theorem d_133_262 : decode (kby 133) 262 = .ok (.aload_n 0, 1) := by decide +kernel
theorem d_133_263 : decode (kby 133) 263 = .ok (.invokevirtual 144, 3) := by decide +kernel
theorem d_133_266 : decode (kby 133) 266 = .ok (.ifCond .eq 8, 3) := by decide +kernel
theorem d_133_269 : decode (kby 133) 269 = .ok (.iload 17, 2) := by decide +kernel
theorem d_133_271 : decode (kby 133) 271 = .ok (.ifCond .ge 5, 3) := by decide +kernel
theorem d_133_274 : decode (kby 133) 274 = .ok (.iconst (-1), 1) := by decide +kernel
theorem d_133_275 : decode (kby 133) 275 = .ok (.ireturn, 1) := by decide +kernel
theorem d_133_276 : decode (kby 133) 276 = .ok (.aload_n 0, 1) := by decide +kernel
theorem d_133_277 : decode (kby 133) 277 = .ok (.dup, 1) := by decide +kernel
theorem d_133_278 : decode (kby 133) 278 = .ok (.getfield 230, 3) := by decide +kernel
theorem d_133_281 : decode (kby 133) 281 = .ok (.iconst 1, 1) := by decide +kernel
theorem d_133_282 : decode (kby 133) 282 = .ok (.iadd, 1) := by decide +kernel
theorem d_133_283 : decode (kby 133) 283 = .ok (.putfield 230, 3) := by decide +kernel
theorem d_133_286 : decode (kby 133) 286 = .ok (.aload_n 0, 1) := by decide +kernel
theorem d_133_287 : decode (kby 133) 287 = .ok (.dup, 1) := by decide +kernel
theorem d_133_288 : decode (kby 133) 288 = .ok (.getfield 224, 3) := by decide +kernel
theorem d_133_291 : decode (kby 133) 291 = .ok (.iconst 2, 1) := by decide +kernel
theorem d_133_292 : decode (kby 133) 292 = .ok (.iadd, 1) := by decide +kernel
theorem d_133_293 : decode (kby 133) 293 = .ok (.putfield 224, 3) := by decide +kernel
theorem d_133_296 : decode (kby 133) 296 = .ok (.iload 16, 2) := by decide +kernel
theorem d_133_298 : decode (kby 133) 298 = .ok (.ireturn, 1) := by decide +kernel
set_option maxRecDepth 100000 in
theorem ka_133 : kall 133 0 kc_133 := And.intro (s_aload_n d_133_0 rfl) (And.intro (s_iload_n d_133_1 rfl) (And.intro (s_cv d_133_2 kl_8_190 k_im_120 k_se_120 kok_120 rfl (by decide +kernel) rfl rfl) (And.intro (s_if_eq d_133_5 (by decide +kernel)) (And.intro (s_aload_n d_133_8 rfl) (And.intro (s_get d_133_9 (C := kR8) (T := kT8) (N := 38) rfl kjn8 (by decide +kernel) rfl kf_8_56) (And.intro (s_iload_n d_133_12 rfl) (And.intro (s_iaload d_133_13) (And.intro (s_if_gt d_133_14 (by decide +kernel)) (And.intro (s_aload_n d_133_17 rfl) (And.intro (s_get d_133_18 (C := kR8) (T := kT8) (N := 38) rfl kjn8 (by decide +kernel) rfl kf_8_230) (And.intro (s_iconst d_133_21 (by decide +kernel)) (And.intro (s_icmp_eq d_133_22 (by decide +kernel)) (And.intro (s_aload_n d_133_25 rfl) (And.intro (s_get d_133_26 (C := kR8) (T := kT8) (N := 38) rfl kjn8 (by decide +kernel) rfl kf_8_224) (And.intro (s_bipush d_133_29 (by decide +kernel)) (And.intro (s_icmp_ge d_133_31 (by decide +kernel)) (And.intro (s_aload_n d_133_34 rfl) (And.intro (s_get d_133_35 (C := kR8) (T := kT8) (N := 38) rfl kjn8 (by decide +kernel) rfl kf_8_138) (And.intro (s_bipush d_133_38 (by decide +kernel)) (And.intro (s_icmp_lt d_133_40 (by decide +kernel)) (And.intro (s_iconst d_133_43 (by decide +kernel)) (And.intro (s_ret d_133_44 rfl) (And.intro (s_aload_n d_133_45 rfl) (And.intro (s_get d_133_46 (C := kR8) (T := kT8) (N := 38) rfl kjn8 (by decide +kernel) rfl kf_8_53) (And.intro (s_iload_n d_133_49 rfl) (And.intro (s_iaload d_133_50) (And.intro (s_istore_n d_133_51 rfl (by decide +kernel)) (And.intro (s_aload_n d_133_52 rfl) (And.intro (s_get d_133_53 (C := kR8) (T := kT8) (N := 38) rfl kjn8 (by decide +kernel) rfl kf_8_32) (And.intro (s_iload_n d_133_56 rfl) (And.intro (s_iaload d_133_57) (And.intro (s_iconst d_133_58 (by decide +kernel)) (And.intro (s_icmp_ne d_133_59 (by decide +kernel)) (And.intro (s_aload_n d_133_62 rfl) (And.intro (s_aload_n d_133_63 rfl) (And.intro (s_get d_133_64 (C := kR8) (T := kT8) (N := 38) rfl kjn8 (by decide +kernel) rfl kf_8_35) (And.intro (s_iload_n d_133_67 rfl) (And.intro (s_iaload d_133_68) (And.intro (s_cv d_133_69 kl_8_227 k_im_132 k_se_132 kok_132 rfl (by decide +kernel) rfl rfl) (And.intro (s_if_ne d_133_72 (by decide +kernel)) (And.intro (s_iconst d_133_75 (by decide +kernel)) (And.intro (s_ret d_133_76 rfl) (And.intro (s_aload_n d_133_77 rfl) (And.intro (s_cw d_133_78 kl_8_154 k_im_93 k_se_93 kok_93 rfl (by decide +kernel) rfl rfl) (And.intro (s_aload_n d_133_81 rfl) (And.intro (s_get d_133_82 (C := kR8) (T := kT8) (N := 38) rfl kjn8 (by decide +kernel) rfl kf_8_35) (And.intro (s_iload_n d_133_85 rfl) (And.intro (s_iaload d_133_86) (And.intro (s_istore_n d_133_87 rfl (by decide +kernel)) (And.intro (s_aload_n d_133_88 rfl) (And.intro (s_get d_133_89 (C := kR8) (T := kT8) (N := 38) rfl kjn8 (by decide +kernel) rfl kf_8_41) (And.intro (s_aload_n d_133_92 rfl) (And.intro (s_get d_133_93 (C := kR8) (T := kT8) (N := 38) rfl kjn8 (by decide +kernel) rfl kf_8_38) (And.intro (s_iload_n d_133_96 rfl) (And.intro (s_iaload d_133_97) (And.intro (s_iaload d_133_98) (And.intro (s_istore d_133_99 (by decide +kernel)) (And.intro (s_aload_n d_133_101 rfl) (And.intro (s_iconst d_133_102 (by decide +kernel)) (And.intro (s_aload_n d_133_103 rfl) (And.intro (s_get d_133_104 (C := kR8) (T := kT8) (N := 38) rfl kjn8 (by decide +kernel) rfl kf_8_230) (And.intro (s_iconst d_133_107 (by decide +kernel)) (And.intro (s_cv d_133_108 kl_8_103 k_im_94 k_se_94 kok_94 rfl (by decide +kernel) rfl rfl) (And.intro (s_istore d_133_111 (by decide +kernel)) (And.intro (s_aload_n d_133_113 rfl) (And.intro (s_iconst d_133_114 (by decide +kernel)) (And.intro (s_iload d_133_115) (And.intro (s_iload d_133_117) (And.intro (s_cv d_133_119 kl_8_103 k_im_94 k_se_94 kok_94 rfl (by decide +kernel) rfl rfl) (And.intro (s_istore d_133_122 (by decide +kernel)) (And.intro (s_aload_n d_133_124 rfl) (And.intro (s_iconst d_133_125 (by decide +kernel)) (And.intro (s_iload d_133_126) (And.intro (s_iload d_133_128) (And.intro (s_cv d_133_130 kl_8_103 k_im_94 k_se_94 kok_94 rfl (by decide +kernel) rfl rfl) (And.intro (s_istore d_133_133 (by decide +kernel)) (And.intro (s_aload_n d_133_135 rfl) (And.intro (s_iconst d_133_136 (by decide +kernel)) (And.intro (s_aload_n d_133_137 rfl) (And.intro (s_get d_133_138 (C := kR8) (T := kT8) (N := 38) rfl kjn8 (by decide +kernel) rfl kf_8_224) (And.intro (s_iconst d_133_141 (by decide +kernel)) (And.intro (s_iload d_133_142) (And.intro (s_cv d_133_144 kl_8_106 k_im_101 k_se_101 kok_101 rfl (by decide +kernel) rfl rfl) (And.intro (s_istore d_133_147 (by decide +kernel)) (And.intro (s_aload_n d_133_149 rfl) (And.intro (s_iconst d_133_150 (by decide +kernel)) (And.intro (s_aload_n d_133_151 rfl) (And.intro (s_get d_133_152 (C := kR8) (T := kT8) (N := 38) rfl kjn8 (by decide +kernel) rfl kf_8_224) (And.intro (s_iconst d_133_155 (by decide +kernel)) (And.intro (s_iadd d_133_156) (And.intro (s_iconst d_133_157 (by decide +kernel)) (And.intro (s_iload d_133_158) (And.intro (s_cv d_133_160 kl_8_106 k_im_101 k_se_101 kok_101 rfl (by decide +kernel) rfl rfl) (And.intro (s_istore d_133_163 (by decide +kernel)) (And.intro (s_aload_n d_133_165 rfl) (And.intro (s_iconst d_133_166 (by decide +kernel)) (And.intro (s_iconst d_133_167 (by decide +kernel)) (And.intro (s_iconst d_133_168 (by decide +kernel)) (And.intro (s_iload d_133_169) (And.intro (s_cv d_133_171 kl_8_106 k_im_101 k_se_101 kok_101 rfl (by decide +kernel) rfl rfl) (And.intro (s_istore d_133_174 (by decide +kernel)) (And.intro (s_aload_n d_133_176 rfl) (And.intro (s_iconst d_133_177 (by decide +kernel)) (And.intro (s_iconst d_133_178 (by decide +kernel)) (And.intro (s_iconst d_133_179 (by decide +kernel)) (And.intro (s_iload d_133_180) (And.intro (s_cv d_133_182 kl_8_106 k_im_101 k_se_101 kok_101 rfl (by decide +kernel) rfl rfl) (And.intro (s_istore d_133_185 (by decide +kernel)) (And.intro (s_aload_n d_133_187 rfl) (And.intro (s_iload d_133_188) (And.intro (s_iload d_133_190) (And.intro (s_iload d_133_192) (And.intro (s_cv d_133_194 kl_8_233 k_im_134 k_se_134 kok_134 rfl (by decide +kernel) rfl rfl) (And.intro (s_istore d_133_197 (by decide +kernel)) (And.intro (s_aload_n d_133_199 rfl) (And.intro (s_iload d_133_200) (And.intro (s_iload d_133_202) (And.intro (s_iload d_133_204) (And.intro (s_cv d_133_206 kl_8_233 k_im_134 k_se_134 kok_134 rfl (by decide +kernel) rfl rfl) (And.intro (s_istore d_133_209 (by decide +kernel)) (And.intro (s_aload_n d_133_211 rfl) (And.intro (s_get d_133_212 (C := kR8) (T := kT8) (N := 38) rfl kjn8 (by decide +kernel) rfl kf_8_93) (And.intro (s_if_eq d_133_215 (by decide +kernel)) (And.intro (s_iconst d_133_218 (by decide +kernel)) (And.intro (s_goto d_133_219 (by decide +kernel)) (And.intro (s_aload_n d_133_222 rfl) (And.intro (s_iload_n d_133_223 rfl) (And.intro (s_iload d_133_224) (And.intro (s_cv d_133_226 kl_8_114 k_im_109 k_se_109 kok_109 rfl (by decide +kernel) rfl rfl) (And.intro (s_istore d_133_229 (by decide +kernel)) (And.intro (s_aload_n d_133_231 rfl) (And.intro (s_iload d_133_232) (And.intro (s_iload d_133_234) (And.intro (s_cv d_133_236 kl_8_205 k_im_122 k_se_122 kok_122 rfl (by decide +kernel) rfl rfl) (And.intro (s_istore d_133_239 (by decide +kernel)) (And.intro (s_aload_n d_133_241 rfl) (And.intro (s_iconst d_133_242 (by decide +kernel)) (And.intro (s_put d_133_243 (C := kR8) (T := kT8) (N := 38) rfl kjn8 (by decide +kernel) rfl kf_8_180 kt8 kty8 knm8 rfl (by decide +kernel)) (And.intro (s_aload_n d_133_246 rfl) (And.intro (s_iload d_133_247) (And.intro (s_cv d_133_249 kl_8_202 k_im_130 k_se_130 kok_130 rfl (by decide +kernel) rfl rfl) (And.intro (s_istore d_133_252 (by decide +kernel)) (And.intro (s_aload_n d_133_254 rfl) (And.intro (s_iload d_133_255) (And.intro (s_cv d_133_257 kl_8_202 k_im_130 k_se_130 kok_130 rfl (by decide +kernel) rfl rfl) (And.intro (s_istore d_133_260 (by decide +kernel)) (And.intro (s_aload_n d_133_262 rfl) (And.intro (s_cv d_133_263 kl_8_144 k_im_96 k_se_96 kok_96 rfl (by decide +kernel) rfl rfl) (And.intro (s_if_eq d_133_266 (by decide +kernel)) (And.intro (s_iload d_133_269) (And.intro (s_if_ge d_133_271 (by decide +kernel)) (And.intro (s_iconst d_133_274 (by decide +kernel)) (And.intro (s_ret d_133_275 rfl) (And.intro (s_aload_n d_133_276 rfl) (And.intro (s_dup d_133_277) (And.intro (s_get d_133_278 (C := kR8) (T := kT8) (N := 38) rfl kjn8 (by decide +kernel) rfl kf_8_230) (And.intro (s_iconst d_133_281 (by decide +kernel)) (And.intro (s_iadd d_133_282) (And.intro (s_put d_133_283 (C := kR8) (T := kT8) (N := 38) rfl kjn8 (by decide +kernel) rfl kf_8_230 kt8 kty8 knm8 rfl (by decide +kernel)) (And.intro (s_aload_n d_133_286 rfl) (And.intro (s_dup d_133_287) (And.intro (s_get d_133_288 (C := kR8) (T := kT8) (N := 38) rfl kjn8 (by decide +kernel) rfl kf_8_224) (And.intro (s_iconst d_133_291 (by decide +kernel)) (And.intro (s_iadd d_133_292) (And.intro (s_put d_133_293 (C := kR8) (T := kT8) (N := 38) rfl kjn8 (by decide +kernel) rfl kf_8_224 kt8 kty8 knm8 rfl (by decide +kernel)) (And.intro (s_iload d_133_296) (And.intro (s_ret d_133_298 rfl) (True.intro))))))))))))))))))))))))))))))))))))))))))))))))))))))))))))))))))))))))))))))))))))))))))))))))))))))))))))))))))))))))))))))))))))))))))))))))))))))))))))))))))))))))
theorem d_134_0 : decode (kby 134) 0 = .ok (.aload_n 0, 1) := by decide +kernel
theorem d_134_1 : decode (kby 134) 1 = .ok (.getfield 93, 3) := by decide +kernel
theorem d_134_4 : decode (kby 134) 4 = .ok (.ifCond .eq 5, 3) := by decide +kernel
theorem d_134_7 : decode (kby 134) 7 = .ok (.iconst 0, 1) := by decide +kernel
theorem d_134_8 : decode (kby 134) 8 = .ok (.ireturn, 1) := by decide +kernel
theorem d_134_9 : decode (kby 134) 9 = .ok (.aload_n 0, 1) := by decide +kernel
theorem d_134_10 : decode (kby 134) 10 = .ok (.iload_n 2, 1) := by decide +kernel
theorem d_134_11 : decode (kby 134) 11 = .ok (.iload_n 3, 1) := by decide +kernel
theorem d_134_12 : decode (kby 134) 12 = .ok (.invokevirtual 114, 3) := by decide +kernel
theorem d_134_15 : decode (kby 134) 15 = .ok (.istore 4, 2) := by decide +kernel
theorem d_134_17 : decode (kby 134) 17 = .ok (.aload_n 0, 1) := by decide +kernel
theorem d_134_18 : decode (kby 134) 18 = .ok (.iload_n 1, 1) := by decide +kernel
theorem d_134_19 : decode (kby 134) 19 = .ok (.iload 4, 2) := by decide +kernel
theorem d_134_21 : decode (kby 134) 21 = .ok (.invokevirtual 114, 3) := by decide +kernel
theorem d_134_24 : decode (kby 134) 24 = .ok (.istore 5, 2) := by decide +kernel
theorem d_134_26 : decode (kby 134) 26 = .ok (.aload_n 0, 1) := by decide +kernel
theorem d_134_27 : decode (kby 134) 27 = .ok (.iload 5, 2) := by decide +kernel
theorem d_134_29 : decode (kby 134) 29 = .ok (.iload_n 3, 1) := by decide +kernel
theorem d_134_30 : decode (kby 134) 30 = .ok (.invokevirtual 205, 3) := by decide +kernel
theorem d_134_33 : decode (kby 134) 33 = .ok (.ireturn, 1) := by decide +kernel
set_option maxRecDepth 100000 in
theorem ka_134 : kall 134 0 kc_134 := And.intro (s_aload_n d_134_0 rfl) (And.intro (s_get d_134_1 (C := kR8) (T := kT8) (N := 38) rfl kjn8 (by decide +kernel) rfl kf_8_93) (And.intro (s_if_eq d_134_4 (by decide +kernel)) (And.intro (s_iconst d_134_7 (by decide +kernel)) (And.intro (s_ret d_134_8 rfl) (And.intro (s_aload_n d_134_9 rfl) (And.intro (s_iload_n d_134_10 rfl) (And.intro (s_iload_n d_134_11 rfl) (And.intro (s_cv d_134_12 kl_8_114 k_im_109 k_se_109 kok_109 rfl (by decide +kernel) rfl rfl) (And.intro (s_istore d_134_15 (by decide +kernel)) (And.intro (s_aload_n d_134_17 rfl) (And.intro (s_iload_n d_134_18 rfl) (And.intro (s_iload d_134_19) (And.intro (s_cv d_134_21 kl_8_114 k_im_109 k_se_109 kok_109 rfl (by decide +kernel) rfl rfl) (And.intro (s_istore d_134_24 (by decide +kernel)) (And.intro (s_aload_n d_134_26 rfl) (And.intro (s_iload d_134_27) (And.intro (s_iload_n d_134_29 rfl) (And.intro (s_cv d_134_30 kl_8_205 k_im_122 k_se_122 kok_122 rfl (by decide +kernel) rfl rfl) (And.intro (s_ret d_134_33 rfl) (True.intro))))))))))))))))))))
theorem d_135_0 : decode (kby 135) 0 = .ok (.iload_n 1, 1) := by decide +kernel
theorem d_135_1 : decode (kby 135) 1 = .ok (.ifCond .lt 18, 3) := by decide +kernel
theorem d_135_4 : decode (kby 135) 4 = .ok (.iload_n 1, 1) := by decide +kernel
theorem d_135_5 : decode (kby 135) 5 = .ok (.bipush 10, 2) := by decide +kernel
theorem d_135_7 : decode (kby 135) 7 = .ok (.if_icmp .gt 12, 3) := by decide +kernel
theorem d_135_10 : decode (kby 135) 10 = .ok (.aload_n 0, 1) := by decide +kernel
theorem d_135_11 : decode (kby 135) 11 = .ok (.getfield 236, 3) := by decide +kernel
theorem d_135_14 : decode (kby 135) 14 = .ok (.bipush 12, 2) := by decide +kernel
theorem d_135_16 : decode (kby 135) 16 = .ok (.if_icmp .ne 5, 3) := by decide +kernel
theorem d_135_19 : decode (kby 135) 19 = .ok (.iconst (-1), 1) := by decide +kernel
theorem d_135_20 : decode (kby 135) 20 = .ok (.ireturn, 1) := by decide +kernel
theorem d_135_21 : decode (kby 135) 21 = .ok (.aload_n 0, 1) := by decide +kernel
theorem d_135_22 : decode (kby 135) 22 = .ok (.getfield 65, 3) := by decide +kernel
theorem d_135_25 : decode (kby 135) 25 = .ok (.aload_n 0, 1) := by decide +kernel
theorem d_135_26 : decode (kby 135) 26 = .ok (.getfield 236, 3) := by decide +kernel
theorem d_135_29 : decode (kby 135) 29 = .ok (.iload_n 1, 1) := by decide +kernel
theorem d_135_30 : decode (kby 135) 30 = .ok (.iastore, 1) := by decide +kernel
theorem d_135_31 : decode (kby 135) 31 = .ok (.aload_n 0, 1) := by decide +kernel
theorem d_135_32 : decode (kby 135) 32 = .ok (.getfield 68, 3) := by decide +kernel
theorem d_135_35 : decode (kby 135) 35 = .ok (.iconst 3, 1) := by decide +kernel
theorem d_135_36 : decode (kby 135) 36 = .ok (.aload_n 0, 1) := by decide +kernel
theorem d_135_37 : decode (kby 135) 37 = .ok (.getfield 236, 3) := by decide +kernel
theorem d_135_40 : decode (kby 135) 40 = .ok (.imul, 1) := by decide +kernel
theorem d_135_41 : decode (kby 135) 41 = .ok (.iload_n 2, 1) := by decide +kernel
theorem d_135_42 : decode (kby 135) 42 = .ok (.iastore, 1) := by decide +kernel
theorem d_135_43 : decode (kby 135) 43 = .ok (.aload_n 0, 1) := by decide +kernel
theorem d_135_44 : decode (kby 135) 44 = .ok (.getfield 68, 3) := by decide +kernel
theorem d_135_47 : decode (kby 135) 47 = .ok (.iconst 3, 1) := by decide +kernel
theorem d_135_48 : decode (kby 135) 48 = .ok (.aload_n 0, 1) := by decide +kernel
theorem d_135_49 : decode (kby 135) 49 = .ok (.getfield 236, 3) := by decide +kernel
theorem d_135_52 : decode (kby 135) 52 = .ok (.imul, 1) := by decide +kernel
theorem d_135_53 : decode (kby 135) 53 = .ok (.iconst 1, 1) := by decide +kernel
theorem d_135_54 : decode (kby 135) 54 = .ok (.iadd, 1) := by decide +kernel
theorem d_135_55 : decode (kby 135) 55 = .ok (.iload_n 3, 1) := by decide +kernel
theorem d_135_56 : decode (kby 135) 56 = .ok (.iastore, 1) := by decide +kernel
theorem d_135_57 : decode (kby 135) 57 = .ok (.aload_n 0, 1) := by decide +kernel
theorem d_135_58 : decode (kby 135) 58 = .ok (.getfield 68, 3) := by decide +kernel
theorem d_135_61 : decode (kby 135) 61 = .ok (.iconst 3, 1) := by decide +kernel
theorem d_135_62 : decode (kby 135) 62 = .ok (.aload_n 0, 1) := by decide +kernel
theorem d_135_63 : decode (kby 135) 63 = .ok (.getfield 236, 3) := by decide +kernel
theorem d_135_66 : decode (kby 135) 66 = .ok (.imul, 1) := by decide +kernel
theorem d_135_67 : decode (kby 135) 67 = .ok (.iconst 2, 1) := by decide +kernel
theorem d_135_68 : decode (kby 135) 68 = .ok (.iadd, 1) := by decide +kernel
theorem d_135_69 : decode (kby 135) 69 = .ok (.iload 4, 2) := by decide +kernel
theorem d_135_71 : decode (kby 135) 71 = .ok (.iastore, 1) := by decide +kernel
theorem d_135_72 : decode (kby 135) 72 = .ok (.aload_n 0, 1) := by decide +kernel
theorem d_135_73 : decode (kby 135) 73 = .ok (.dup, 1) := by decide +kernel
theorem d_135_74 : decode (kby 135) 74 = .ok (.getfield 236, 3) := by decide +kernel
theorem d_135_77 : decode (kby 135) 77 = .ok (.iconst 1, 1) := by decide +kernel
theorem d_135_78 : decode (kby 135) 78 = .ok (.iadd, 1) := by decide +kernel
theorem d_135_79 : decode (kby 135) 79 = .ok (.putfield 236, 3) := by decide +kernel
theorem d_135_82 : decode (kby 135) 82 = .ok (.aload_n 0, 1) := by decide +kernel
theorem d_135_83 : decode (kby 135) 83 = .ok (.getfield 236, 3) := by decide +kernel
theorem d_135_86 : decode (kby 135) 86 = .ok (.iconst 1, 1) := by decide +kernel
theorem d_135_87 : decode (kby 135) 87 = .ok (.isub, 1) := by decide +kernel
theorem d_135_88 : decode (kby 135) 88 = .ok (.ireturn, 1) := by decide +kernel
set_option maxRecDepth 100000 in
theorem ka_135 : kall 135 0 kc_135 := And.intro (s_iload_n d_135_0 rfl) (And.intro (s_if_lt d_135_1 (by decide +kernel)) (And.intro (s_iload_n d_135_4 rfl) (And.intro (s_bipush d_135_5 (by decide +kernel)) (And.intro (s_icmp_gt d_135_7 (by decide +kernel)) (And.intro (s_aload_n d_135_10 rfl) (And.intro (s_get d_135_11 (C := kR8) (T := kT8) (N := 38) rfl kjn8 (by decide +kernel) rfl kf_8_236) (And.intro (s_bipush d_135_14 (by decide +kernel)) (And.intro (s_icmp_ne d_135_16 (by decide +kernel)) (And.intro (s_iconst d_135_19 (by decide +kernel)) (And.intro (s_ret d_135_20 rfl) (And.intro (s_aload_n d_135_21 rfl) (And.intro (s_get d_135_22 (C := kR8) (T := kT8) (N := 38) rfl kjn8 (by decide +kernel) rfl kf_8_65) (And.intro (s_aload_n d_135_25 rfl) (And.intro (s_get d_135_26 (C := kR8) (T := kT8) (N := 38) rfl kjn8 (by decide +kernel) rfl kf_8_236) (And.intro (s_iload_n d_135_29 rfl) (And.intro (s_iastore d_135_30) (And.intro (s_aload_n d_135_31 rfl) (And.intro (s_get d_135_32 (C := kR8) (T := kT8) (N := 38) rfl kjn8 (by decide +kernel) rfl kf_8_68) (And.intro (s_iconst d_135_35 (by decide +kernel)) (And.intro (s_aload_n d_135_36 rfl) (And.intro (s_get d_135_37 (C := kR8) (T := kT8) (N := 38) rfl kjn8 (by decide +kernel) rfl kf_8_236) (And.intro (s_imul d_135_40) (And.intro (s_iload_n d_135_41 rfl) (And.intro (s_iastore d_135_42) (And.intro (s_aload_n d_135_43 rfl) (And.intro (s_get d_135_44 (C := kR8) (T := kT8) (N := 38) rfl kjn8 (by decide +kernel) rfl kf_8_68) (And.intro (s_iconst d_135_47 (by decide +kernel)) (And.intro (s_aload_n d_135_48 rfl) (And.intro (s_get d_135_49 (C := kR8) (T := kT8) (N := 38) rfl kjn8 (by decide +kernel) rfl kf_8_236) (And.intro (s_imul d_135_52) (And.intro (s_iconst d_135_53 (by decide +kernel)) (And.intro (s_iadd d_135_54) (And.intro (s_iload_n d_135_55 rfl) (And.intro (s_iastore d_135_56) (And.intro (s_aload_n d_135_57 rfl) (And.intro (s_get d_135_58 (C := kR8) (T := kT8) (N := 38) rfl kjn8 (by decide +kernel) rfl kf_8_68) (And.intro (s_iconst d_135_61 (by decide +kernel)) (And.intro (s_aload_n d_135_62 rfl) (And.intro (s_get d_135_63 (C := kR8) (T := kT8) (N := 38) rfl kjn8 (by decide +kernel) rfl kf_8_236) (And.intro (s_imul d_135_66) (And.intro (s_iconst d_135_67 (by decide +kernel)) (And.intro (s_iadd d_135_68) (And.intro (s_iload d_135_69) (And.intro (s_iastore d_135_71) (And.intro (s_aload_n d_135_72 rfl) (And.intro (s_dup d_135_73) (And.intro (s_get d_135_74 (C := kR8) (T := kT8) (N := 38) rfl kjn8 (by decide +kernel) rfl kf_8_236) (And.intro (s_iconst d_135_77 (by decide +kernel)) (And.intro (s_iadd d_135_78) (And.intro (s_put d_135_79 (C := kR8) (T := kT8) (N := 38) rfl kjn8 (by decide +kernel) rfl kf_8_236 kt8 kty8 knm8 rfl (by decide +kernel)) (And.intro (s_aload_n d_135_82 rfl) (And.intro (s_get d_135_83 (C := kR8) (T := kT8) (N := 38) rfl kjn8 (by decide +kernel) rfl kf_8_236) (And.intro (s_iconst d_135_86 (by decide +kernel)) (And.intro (s_isub d_135_87) (And.intro (s_ret d_135_88 rfl) (True.intro))))))))))))))))))))))))))))))))))))))))))))))))))))))))
theorem d_136_0 : decode (kby 136) 0 = .ok (.aload_n 0, 1) := by decide +kernel
theorem d_136_1 : decode (kby 136) 1 = .ok (.getfield 236, 3) := by decide +kernel
theorem d_136_4 : decode (kby 136) 4 = .ok (.istore_n 1, 1) := by decide +kernel
theorem d_136_5 : decode (kby 136) 5 = .ok (.aload_n 0, 1) := by decide +kernel
theorem d_136_6 : decode (kby 136) 6 = .ok (.iconst 0, 1) := by decide +kernel
theorem d_136_7 : decode (kby 136) 7 = .ok (.putfield 236, 3) := by decide +kernel
theorem d_136_10 : decode (kby 136) 10 = .ok (.iload_n 1, 1) := by decide +kernel
theorem d_136_11 : decode (kby 136) 11 = .ok (.ireturn, 1) := by decide +kernel
set_option maxRecDepth 100000 in
theorem ka_136 : kall 136 0 kc_136 := And.intro (s_aload_n d_136_0 rfl) (And.intro (s_get d_136_1 (C := kR8) (T := kT8) (N := 38) rfl kjn8 (by decide +kernel) rfl kf_8_236) (And.intro (s_istore_n d_136_4 rfl (by decide +kernel)) (And.intro (s_aload_n d_136_5 rfl) (And.intro (s_iconst d_136_6 (by decide +kernel)) (And.intro (s_put d_136_7 (C := kR8) (T := kT8) (N := 38) rfl kjn8 (by decide +kernel) rfl kf_8_236 kt8 kty8 knm8 rfl (by decide +kernel)) (And.intro (s_iload_n d_136_10 rfl) (And.intro (s_ret d_136_11 rfl) (True.intro))))))))
theorem d_137_0 : decode (kby 137) 0 = .ok (.aload_n 0, 1) := by decide +kernel
theorem d_137_1 : decode (kby 137) 1 = .ok (.invokevirtual 154, 3) := by decide +kernel
theorem d_137_4 : decode (kby 137) 4 = .ok (.iconst 0, 1) := by decide +kernel
theorem d_137_5 : decode (kby 137) 5 = .ok (.istore_n 1, 1) := by decide +kernel
theorem d_137_6 : decode (kby 137) 6 = .ok (.iload_n 1, 1) := by decide +kernel
theorem d_137_7 : decode (kby 137) 7 = .ok (.aload_n 0, 1) := by decide +kernel
theorem d_137_8 : decode (kby 137) 8 = .ok (.getfield 236, 3) := by decide +kernel
theorem d_137_11 : decode (kby 137) 11 = .ok (.if_icmp .ge 54, 3) := by decide +kernel
theorem d_137_14 : decode (kby 137) 14 = .ok (.aload_n 0, 1) := by decide +kernel
theorem d_137_15 : decode (kby 137) 15 = .ok (.getfield 71, 3) := by decide +kernel
theorem d_137_18 : decode (kby 137) 18 = .ok (.iload_n 1, 1) := by decide +kernel
theorem d_137_19 : decode (kby 137) 19 = .ok (.aload_n 0, 1) := by decide +kernel
theorem d_137_20 : decode (kby 137) 20 = .ok (.aload_n 0, 1) := by decide +kernel
theorem d_137_21 : decode (kby 137) 21 = .ok (.getfield 65, 3) := by decide +kernel
theorem d_137_24 : decode (kby 137) 24 = .ok (.iload_n 1, 1) := by decide +kernel
theorem d_137_25 : decode (kby 137) 25 = .ok (.iaload, 1) := by decide +kernel
theorem d_137_26 : decode (kby 137) 26 = .ok (.aload_n 0, 1) := by decide +kernel
theorem d_137_27 : decode (kby 137) 27 = .ok (.iload_n 1, 1) := by decide +kernel
theorem d_137_28 : decode (kby 137) 28 = .ok (.iconst 0, 1) := by decide +kernel
theorem d_137_29 : decode (kby 137) 29 = .ok (.invokevirtual 239, 3) := by decide +kernel
theorem d_137_32 : decode (kby 137) 32 = .ok (.aload_n 0, 1) := by decide +kernel
theorem d_137_33 : decode (kby 137) 33 = .ok (.iload_n 1, 1) := by decide +kernel
theorem d_137_34 : decode (kby 137) 34 = .ok (.iconst 1, 1) := by decide +kernel
theorem d_137_35 : decode (kby 137) 35 = .ok (.invokevirtual 239, 3) := by decide +kernel
theorem d_137_38 : decode (kby 137) 38 = .ok (.aload_n 0, 1) := by decide +kernel
theorem d_137_39 : decode (kby 137) 39 = .ok (.iload_n 1, 1) := by decide +kernel
theorem d_137_40 : decode (kby 137) 40 = .ok (.iconst 2, 1) := by decide +kernel
theorem d_137_41 : decode (kby 137) 41 = .ok (.invokevirtual 239, 3) := by decide +kernel
theorem d_137_44 : decode (kby 137) 44 = .ok (.invokevirtual 221, 3) := by decide +kernel
theorem d_137_47 : decode (kby 137) 47 = .ok (.iastore, 1) := by decide +kernel
theorem d_137_48 : decode (kby 137) 48 = .ok (.aload_n 0, 1) := by decide +kernel
theorem d_137_49 : decode (kby 137) 49 = .ok (.invokevirtual 144, 3) := by decide +kernel
theorem d_137_52 : decode (kby 137) 52 = .ok (.ifCond .ne 7, 3) := by decide +kernel
theorem d_137_55 : decode (kby 137) 55 = .ok (.iconst (-1), 1) := by decide +kernel
theorem d_137_56 : decode (kby 137) 56 = .ok (.iload_n 1, 1) := by decide +kernel
theorem d_137_57 : decode (kby 137) 57 = .ok (.isub, 1) := by decide +kernel
theorem d_137_58 : decode (kby 137) 58 = .ok (.ireturn, 1) := by decide +kernel
theorem d_137_59 : decode (kby 137) 59 = .ok (.iinc 1 1, 3) := by decide +kernel
theorem d_137_62 : decode (kby 137) 62 = .ok (.goto (-56), 3) := by decide +kernel
theorem d_137_65 : decode (kby 137) 65 = .ok (.aload_n 0, 1) := by decide +kernel
theorem d_137_66 : decode (kby 137) 66 = .ok (.getfield 236, 3) := by decide +kernel
theorem d_137_69 : decode (kby 137) 69 = .ok (.ireturn, 1) := by decide +kernel
set_option maxRecDepth 100000 in
theorem ka_137 : kall 137 0 kc_137 := And.intro (s_aload_n d_137_0 rfl) (And.intro (s_cw d_137_1 kl_8_154 k_im_93 k_se_93 kok_93 rfl (by decide +kernel) rfl rfl) (And.intro (s_iconst d_137_4 (by decide +kernel)) (And.intro (s_istore_n d_137_5 rfl (by decide +kernel)) (And.intro (s_iload_n d_137_6 rfl) (And.intro (s_aload_n d_137_7 rfl) (And.intro (s_get d_137_8 (C := kR8) (T := kT8) (N := 38) rfl kjn8 (by decide +kernel) rfl kf_8_236) (And.intro (s_icmp_ge d_137_11 (by decide +kernel)) (And.intro (s_aload_n d_137_14 rfl) (And.intro (s_get d_137_15 (C := kR8) (T := kT8) (N := 38) rfl kjn8 (by decide +kernel) rfl kf_8_71) (And.intro (s_iload_n d_137_18 rfl) (And.intro (s_aload_n d_137_19 rfl) (And.intro (s_aload_n d_137_20 rfl) (And.intro (s_get d_137_21 (C := kR8) (T := kT8) (N := 38) rfl kjn8 (by decide +kernel) rfl kf_8_65) (And.intro (s_iload_n d_137_24 rfl) (And.intro (s_iaload d_137_25) (And.intro (s_aload_n d_137_26 rfl) (And.intro (s_iload_n d_137_27 rfl) (And.intro (s_iconst d_137_28 (by decide +kernel)) (And.intro (s_cv d_137_29 kl_8_239 k_im_138 k_se_138 kok_138 rfl (by decide +kernel) rfl rfl) (And.intro (s_aload_n d_137_32 rfl) (And.intro (s_iload_n d_137_33 rfl) (And.intro (s_iconst d_137_34 (by decide +kernel)) (And.intro (s_cv d_137_35 kl_8_239 k_im_138 k_se_138 kok_138 rfl (by decide +kernel) rfl rfl) (And.intro (s_aload_n d_137_38 rfl) (And.intro (s_iload_n d_137_39 rfl) (And.intro (s_iconst d_137_40 (by decide +kernel)) (And.intro (s_cv d_137_41 kl_8_239 k_im_138 k_se_138 kok_138 rfl (by decide +kernel) rfl rfl) (And.intro (s_cv d_137_44 kl_8_221 k_im_118 k_se_118 kok_118 rfl (by decide +kernel) rfl rfl) (And.intro (s_iastore d_137_47) (And.intro (s_aload_n d_137_48 rfl) (And.intro (s_cv d_137_49 kl_8_144 k_im_96 k_se_96 kok_96 rfl (by decide +kernel) rfl rfl) (And.intro (s_if_ne d_137_52 (by decide +kernel)) (And.intro (s_iconst d_137_55 (by decide +kernel)) (And.intro (s_iload_n d_137_56 rfl) (And.intro (s_isub d_137_57) (And.intro (s_ret d_137_58 rfl) (And.intro (s_iinc d_137_59 (by decide +kernel) (by decide +kernel)) (And.intro (s_goto d_137_62 (by decide +kernel)) (And.intro (s_aload_n d_137_65 rfl) (And.intro (s_get d_137_66 (C := kR8) (T := kT8) (N := 38) rfl kjn8 (by decide +kernel) rfl kf_8_236) (And.intro (s_ret d_137_69 rfl) (True.intro))))))))))))))))))))))))))))))))))))))))))
theorem d_138_0 : decode (kby 138) 0 = .ok (.aload_n 0, 1) := by decide +kernel
theorem d_138_1 : decode (kby 138) 1 = .ok (.getfield 68, 3) := by decide +kernel
theorem d_138_4 : decode (kby 138) 4 = .ok (.iconst 3, 1) := by decide +kernel
theorem d_138_5 : decode (kby 138) 5 = .ok (.iload_n 1, 1) := by decide +kernel
theorem d_138_6 : decode (kby 138) 6 = .ok (.imul, 1) := by decide +kernel
theorem d_138_7 : decode (kby 138) 7 = .ok (.iload_n 2, 1) := by decide +kernel
theorem d_138_8 : decode (kby 138) 8 = .ok (.iadd, 1) := by decide +kernel
theorem d_138_9 : decode (kby 138) 9 = .ok (.iaload, 1) := by decide +kernel
theorem d_138_10 : decode (kby 138) 10 = .ok (.istore_n 3, 1) := by decide +kernel
theorem d_138_11 : decode (kby 138) 11 = .ok (.iload_n 3, 1) := by decide +kernel
theorem d_138_12 : decode (kby 138) 12 = .ok (.ifCond .ge 33, 3) := by decide +kernel
theorem d_138_15 : decode (kby 138) 15 = .ok (.iload_n 3, 1) := by decide +kernel
theorem d_138_16 : decode (kby 138) 16 = .ok (.iload_n 1, 1) := by decide +kernel
theorem d_138_17 : decode (kby 138) 17 = .ok (.ineg, 1) := by decide +kernel
theorem d_138_18 : decode (kby 138) 18 = .ok (.if_icmp .lt 27, 3) := by decide +kernel
theorem d_138_21 : decode (kby 138) 21 = .ok (.aload_n 0, 1) := by decide +kernel
theorem d_138_22 : decode (kby 138) 22 = .ok (.getfield 65, 3) := by decide +kernel
theorem d_138_25 : decode (kby 138) 25 = .ok (.iload_n 1, 1) := by decide +kernel
theorem d_138_26 : decode (kby 138) 26 = .ok (.iaload, 1) := by decide +kernel
theorem d_138_27 : decode (kby 138) 27 = .ok (.iload_n 2, 1) := by decide +kernel
theorem d_138_28 : decode (kby 138) 28 = .ok (.invokestatic 187, 3) := by decide +kernel
theorem d_138_31 : decode (kby 138) 31 = .ok (.ifCond .eq 14, 3) := by decide +kernel
theorem d_138_34 : decode (kby 138) 34 = .ok (.aload_n 0, 1) := by decide +kernel
theorem d_138_35 : decode (kby 138) 35 = .ok (.getfield 71, 3) := by decide +kernel
theorem d_138_38 : decode (kby 138) 38 = .ok (.iconst (-1), 1) := by decide +kernel
theorem d_138_39 : decode (kby 138) 39 = .ok (.iload_n 3, 1) := by decide +kernel
theorem d_138_40 : decode (kby 138) 40 = .ok (.isub, 1) := by decide +kernel
theorem d_138_41 : decode (kby 138) 41 = .ok (.iaload, 1) := by decide +kernel
theorem d_138_42 : decode (kby 138) 42 = .ok (.goto 4, 3) := by decide +kernel
theorem d_138_45 : decode (kby 138) 45 = .ok (.iload_n 3, 1) := by decide +kernel
theorem d_138_46 : decode (kby 138) 46 = .ok (.ireturn, 1) := by decide +kernel
set_option maxRecDepth 100000 in
theorem ka_138 : kall 138 0 kc_138 := And.intro (s_aload_n d_138_0 rfl) (And.intro (s_get d_138_1 (C := kR8) (T := kT8) (N := 38) rfl kjn8 (by decide +kernel) rfl kf_8_68) (And.intro (s_iconst d_138_4 (by decide +kernel)) (And.intro (s_iload_n d_138_5 rfl) (And.intro (s_imul d_138_6) (And.intro (s_iload_n d_138_7 rfl) (And.intro (s_iadd d_138_8) (And.intro (s_iaload d_138_9) (And.intro (s_istore_n d_138_10 rfl (by decide +kernel)) (And.intro (s_iload_n d_138_11 rfl) (And.intro (s_if_ge d_138_12 (by decide +kernel)) (And.intro (s_iload_n d_138_15 rfl) (And.intro (s_iload_n d_138_16 rfl) (And.intro (s_ineg d_138_17) (And.intro (s_icmp_lt d_138_18 (by decide +kernel)) (And.intro (s_aload_n d_138_21 rfl) (And.intro (s_get d_138_22 (C := kR8) (T := kT8) (N := 38) rfl kjn8 (by decide +kernel) rfl kf_8_65) (And.intro (s_iload_n d_138_25 rfl) (And.intro (s_iaload d_138_26) (And.intro (s_iload_n d_138_27 rfl) (And.intro (s_cs d_138_28 kl_8_187 k_st_119 rfl kok_119 rfl (by decide +kernel) rfl) (And.intro (s_if_eq d_138_31 (by decide +kernel)) (And.intro (s_aload_n d_138_34 rfl) (And.intro (s_get d_138_35 (C := kR8) (T := kT8) (N := 38) rfl kjn8 (by decide +kernel) rfl kf_8_71) (And.intro (s_iconst d_138_38 (by decide +kernel)) (And.intro (s_iload_n d_138_39 rfl) (And.intro (s_isub d_138_40) (And.intro (s_iaload d_138_41) (And.intro (s_goto d_138_42 (by decide +kernel)) (And.intro (s_iload_n d_138_45 rfl) (And.intro (s_ret d_138_46 rfl) (True.intro)))))))))))))))))))))))))))))))
theorem d_139_0 : decode (kby 139) 0 = .ok (.aload_n 0, 1) := by decide +kernel
theorem d_139_1 : decode (kby 139) 1 = .ok (.iload_n 1, 1) := by decide +kernel
theorem d_139_2 : decode (kby 139) 2 = .ok (.invokevirtual 167, 3) := by decide +kernel
theorem d_139_5 : decode (kby 139) 5 = .ok (.ifCond .eq 21, 3) := by decide +kernel
theorem d_139_8 : decode (kby 139) 8 = .ok (.aload_n 0, 1) := by decide +kernel
theorem d_139_9 : decode (kby 139) 9 = .ok (.aload_n 0, 1) := by decide +kernel
theorem d_139_10 : decode (kby 139) 10 = .ok (.getfield 41, 3) := by decide +kernel
theorem d_139_13 : decode (kby 139) 13 = .ok (.aload_n 0, 1) := by decide +kernel
theorem d_139_14 : decode (kby 139) 14 = .ok (.getfield 50, 3) := by decide +kernel
theorem d_139_17 : decode (kby 139) 17 = .ok (.iload_n 1, 1) := by decide +kernel
theorem d_139_18 : decode (kby 139) 18 = .ok (.iaload, 1) := by decide +kernel
theorem d_139_19 : decode (kby 139) 19 = .ok (.iaload, 1) := by decide +kernel
theorem d_139_20 : decode (kby 139) 20 = .ok (.invokevirtual 148, 3) := by decide +kernel
theorem d_139_23 : decode (kby 139) 23 = .ok (.goto 4, 3) := by decide +kernel
theorem d_139_26 : decode (kby 139) 26 = .ok (.iconst (-1), 1) := by decide +kernel
theorem d_139_27 : decode (kby 139) 27 = .ok (.ireturn, 1) := by decide +kernel
set_option maxRecDepth 100000 in
theorem ka_139 : kall 139 0 kc_139 := And.intro (s_aload_n d_139_0 rfl) (And.intro (s_iload_n d_139_1 rfl) (And.intro (s_cv d_139_2 kl_8_167 k_im_107 k_se_107 kok_107 rfl (by decide +kernel) rfl rfl) (And.intro (s_if_eq d_139_5 (by decide +kernel)) (And.intro (s_aload_n d_139_8 rfl) (And.intro (s_aload_n d_139_9 rfl) (And.intro (s_get d_139_10 (C := kR8) (T := kT8) (N := 38) rfl kjn8 (by decide +kernel) rfl kf_8_41) (And.intro (s_aload_n d_139_13 rfl) (And.intro (s_get d_139_14 (C := kR8) (T := kT8) (N := 38) rfl kjn8 (by decide +kernel) rfl kf_8_50) (And.intro (s_iload_n d_139_17 rfl) (And.intro (s_iaload d_139_18) (And.intro (s_iaload d_139_19) (And.intro (s_cv d_139_20 kl_8_148 k_im_97 k_se_97 kok_97 rfl (by decide +kernel) rfl rfl) (And.intro (s_goto d_139_23 (by decide +kernel)) (And.intro (s_iconst d_139_26 (by decide +kernel)) (And.intro (s_ret d_139_27 rfl) (True.intro))))))))))))))))
theorem d_140_0 : decode (kby 140) 0 = .ok (.aload_n 0, 1) := by decide +kernel
theorem d_140_1 : decode (kby 140) 1 = .ok (.iload_n 1, 1) := by decide +kernel
theorem d_140_2 : decode (kby 140) 2 = .ok (.invokevirtual 167, 3) := by decide +kernel
theorem d_140_5 : decode (kby 140) 5 = .ok (.ifCond .eq 17, 3) := by decide +kernel
theorem d_140_8 : decode (kby 140) 8 = .ok (.aload_n 0, 1) := by decide +kernel
theorem d_140_9 : decode (kby 140) 9 = .ok (.getfield 32, 3) := by decide +kernel
theorem d_140_12 : decode (kby 140) 12 = .ok (.aload_n 0, 1) := by decide +kernel
theorem d_140_13 : decode (kby 140) 13 = .ok (.getfield 50, 3) := by decide +kernel
theorem d_140_16 : decode (kby 140) 16 = .ok (.iload_n 1, 1) := by decide +kernel
theorem d_140_17 : decode (kby 140) 17 = .ok (.iaload, 1) := by decide +kernel
theorem d_140_18 : decode (kby 140) 18 = .ok (.iaload, 1) := by decide +kernel
theorem d_140_19 : decode (kby 140) 19 = .ok (.goto 4, 3) := by decide +kernel
theorem d_140_22 : decode (kby 140) 22 = .ok (.iconst (-1), 1) := by decide +kernel
theorem d_140_23 : decode (kby 140) 23 = .ok (.ireturn, 1) := by decide +kernel
set_option maxRecDepth 100000 in
theorem ka_140 : kall 140 0 kc_140 := And.intro (s_aload_n d_140_0 rfl) (And.intro (s_iload_n d_140_1 rfl) (And.intro (s_cv d_140_2 kl_8_167 k_im_107 k_se_107 kok_107 rfl (by decide +kernel) rfl rfl) (And.intro (s_if_eq d_140_5 (by decide +kernel)) (And.intro (s_aload_n d_140_8 rfl) (And.intro (s_get d_140_9 (C := kR8) (T := kT8) (N := 38) rfl kjn8 (by decide +kernel) rfl kf_8_32) (And.intro (s_aload_n d_140_12 rfl) (And.intro (s_get d_140_13 (C := kR8) (T := kT8) (N := 38) rfl kjn8 (by decide +kernel) rfl kf_8_50) (And.intro (s_iload_n d_140_16 rfl) (And.intro (s_iaload d_140_17) (And.intro (s_iaload d_140_18) (And.intro (s_goto d_140_19 (by decide +kernel)) (And.intro (s_iconst d_140_22 (by decide +kernel)) (And.intro (s_ret d_140_23 rfl) (True.intro))))))))))))))
theorem d_141_0 : decode (kby 141) 0 = .ok (.aload_n 0, 1) := by decide +kernel
theorem d_141_1 : decode (kby 141) 1 = .ok (.iload_n 1, 1) := by decide +kernel
theorem d_141_2 : decode (kby 141) 2 = .ok (.invokevirtual 167, 3) := by decide +kernel
theorem d_141_5 : decode (kby 141) 5 = .ok (.ifCond .eq 12, 3) := by decide +kernel
theorem d_141_8 : decode (kby 141) 8 = .ok (.iload_n 2, 1) := by decide +kernel
theorem d_141_9 : decode (kby 141) 9 = .ok (.ifCond .lt 8, 3) := by decide +kernel
theorem d_141_12 : decode (kby 141) 12 = .ok (.iload_n 2, 1) := by decide +kernel
theorem d_141_13 : decode (kby 141) 13 = .ok (.iconst 1, 1) := by decide +kernel
theorem d_141_14 : decode (kby 141) 14 = .ok (.if_icmp .le 5, 3) := by decide +kernel
theorem d_141_17 : decode (kby 141) 17 = .ok (.iconst (-1), 1) := by decide +kernel
theorem d_141_18 : decode (kby 141) 18 = .ok (.ireturn, 1) := by decide +kernel
theorem d_141_19 : decode (kby 141) 19 = .ok (.aload_n 0, 1) := by decide +kernel
theorem d_141_20 : decode (kby 141) 20 = .ok (.getfield 50, 3) := by decide +kernel
theorem d_141_23 : decode (kby 141) 23 = .ok (.iload_n 1, 1) := by decide +kernel
theorem d_141_24 : decode (kby 141) 24 = .ok (.iaload, 1) := by decide +kernel
theorem d_141_25 : decode (kby 141) 25 = .ok (.istore_n 3, 1) := by decide +kernel
theorem d_141_26 : decode (kby 141) 26 = .ok (.aload_n 0, 1) := by decide +kernel
theorem d_141_27 : decode (kby 141) 27 = .ok (.getfield 32, 3) := by decide +kernel
theorem d_141_30 : decode (kby 141) 30 = .ok (.iload_n 3, 1) := by decide +kernel
theorem d_141_31 : decode (kby 141) 31 = .ok (.iaload, 1) := by decide +kernel
theorem d_141_32 : decode (kby 141) 32 = .ok (.iconst 3, 1) := by decide +kernel
theorem d_141_33 : decode (kby 141) 33 = .ok (.if_icmp .ne 27, 3) := by decide +kernel
theorem d_141_36 : decode (kby 141) 36 = .ok (.aload_n 0, 1) := by decide +kernel
theorem d_141_37 : decode (kby 141) 37 = .ok (.iload_n 2, 1) := by decide +kernel
theorem d_141_38 : decode (kby 141) 38 = .ok (.ifCond .ne 12, 3) := by decide +kernel
theorem d_141_41 : decode (kby 141) 41 = .ok (.aload_n 0, 1) := by decide +kernel
theorem d_141_42 : decode (kby 141) 42 = .ok (.getfield 35, 3) := by decide +kernel
theorem d_141_45 : decode (kby 141) 45 = .ok (.iload_n 3, 1) := by decide +kernel
theorem d_141_46 : decode (kby 141) 46 = .ok (.iaload, 1) := by decide +kernel
theorem d_141_47 : decode (kby 141) 47 = .ok (.goto 9, 3) := by decide +kernel
theorem d_141_50 : decode (kby 141) 50 = .ok (.aload_n 0, 1) := by decide +kernel
theorem d_141_51 : decode (kby 141) 51 = .ok (.getfield 38, 3) := by decide +kernel
theorem d_141_54 : decode (kby 141) 54 = .ok (.iload_n 3, 1) := by decide +kernel
theorem d_141_55 : decode (kby 141) 55 = .ok (.iaload, 1) := by decide +kernel
theorem d_141_56 : decode (kby 141) 56 = .ok (.invokevirtual 151, 3) := by decide +kernel
theorem d_141_59 : decode (kby 141) 59 = .ok (.ireturn, 1) := by decide +kernel
theorem d_141_60 : decode (kby 141) 60 = .ok (.iload_n 2, 1) := by decide +kernel
theorem d_141_61 : decode (kby 141) 61 = .ok (.ifCond .ne 31, 3) := by decide +kernel
theorem d_141_64 : decode (kby 141) 64 = .ok (.aload_n 0, 1) := by decide +kernel
theorem d_141_65 : decode (kby 141) 65 = .ok (.getfield 32, 3) := by decide +kernel
theorem d_141_68 : decode (kby 141) 68 = .ok (.iload_n 3, 1) := by decide +kernel
theorem d_141_69 : decode (kby 141) 69 = .ok (.iaload, 1) := by decide +kernel
theorem d_141_70 : decode (kby 141) 70 = .ok (.ifCond .eq 13, 3) := by decide +kernel
theorem d_141_73 : decode (kby 141) 73 = .ok (.aload_n 0, 1) := by decide +kernel
theorem d_141_74 : decode (kby 141) 74 = .ok (.getfield 32, 3) := by decide +kernel
theorem d_141_77 : decode (kby 141) 77 = .ok (.iload_n 3, 1) := by decide +kernel
theorem d_141_78 : decode (kby 141) 78 = .ok (.iaload, 1) := by decide +kernel
theorem d_141_79 : decode (kby 141) 79 = .ok (.iconst 2, 1) := by decide +kernel
theorem d_141_80 : decode (kby 141) 80 = .ok (.if_icmp .ne 12, 3) := by decide +kernel
theorem d_141_83 : decode (kby 141) 83 = .ok (.aload_n 0, 1) := by decide +kernel
theorem d_141_84 : decode (kby 141) 84 = .ok (.getfield 35, 3) := by decide +kernel
theorem d_141_87 : decode (kby 141) 87 = .ok (.iload_n 3, 1) := by decide +kernel
theorem d_141_88 : decode (kby 141) 88 = .ok (.iaload, 1) := by decide +kernel
theorem d_141_89 : decode (kby 141) 89 = .ok (.goto 4, 3) := by decide +kernel
theorem d_141_92 : decode (kby 141) 92 = .ok (.iconst (-1), 1) := by decide +kernel
theorem d_141_93 : decode (kby 141) 93 = .ok (.ireturn, 1) := by decide +kernel
set_option maxRecDepth 100000 in
theorem ka_141 : kall 141 0 kc_141 := And.intro (s_aload_n d_141_0 rfl) (And.intro (s_iload_n d_141_1 rfl) (And.intro (s_cv d_141_2 kl_8_167 k_im_107 k_se_107 kok_107 rfl (by decide +kernel) rfl rfl) (And.intro (s_if_eq d_141_5 (by decide +kernel)) (And.intro (s_iload_n d_141_8 rfl) (And.intro (s_if_lt d_141_9 (by decide +kernel)) (And.intro (s_iload_n d_141_12 rfl) (And.intro (s_iconst d_141_13 (by decide +kernel)) (And.intro (s_icmp_le d_141_14 (by decide +kernel)) (And.intro (s_iconst d_141_17 (by decide +kernel)) (And.intro (s_ret d_141_18 rfl) (And.intro (s_aload_n d_141_19 rfl) (And.intro (s_get d_141_20 (C := kR8) (T := kT8) (N := 38) rfl kjn8 (by decide +kernel) rfl kf_8_50) (And.intro (s_iload_n d_141_23 rfl) (And.intro (s_iaload d_141_24) (And.intro (s_istore_n d_141_25 rfl (by decide +kernel)) (And.intro (s_aload_n d_141_26 rfl) (And.intro (s_get d_141_27 (C := kR8) (T := kT8) (N := 38) rfl kjn8 (by decide +kernel) rfl kf_8_32) (And.intro (s_iload_n d_141_30 rfl) (And.intro (s_iaload d_141_31) (And.intro (s_iconst d_141_32 (by decide +kernel)) (And.intro (s_icmp_ne d_141_33 (by decide +kernel)) (And.intro (s_aload_n d_141_36 rfl) (And.intro (s_iload_n d_141_37 rfl) (And.intro (s_if_ne d_141_38 (by decide +kernel)) (And.intro (s_aload_n d_141_41 rfl) (And.intro (s_get d_141_42 (C := kR8) (T := kT8) (N := 38) rfl kjn8 (by decide +kernel) rfl kf_8_35) (And.intro (s_iload_n d_141_45 rfl) (And.intro (s_iaload d_141_46) (And.intro (s_goto d_141_47 (by decide +kernel)) (And.intro (s_aload_n d_141_50 rfl) (And.intro (s_get d_141_51 (C := kR8) (T := kT8) (N := 38) rfl kjn8 (by decide +kernel) rfl kf_8_38) (And.intro (s_iload_n d_141_54 rfl) (And.intro (s_iaload d_141_55) (And.intro (s_cv d_141_56 kl_8_151 k_im_103 k_se_103 kok_103 rfl (by decide +kernel) rfl rfl) (And.intro (s_ret d_141_59 rfl) (And.intro (s_iload_n d_141_60 rfl) (And.intro (s_if_ne d_141_61 (by decide +kernel)) (And.intro (s_aload_n d_141_64 rfl) (And.intro (s_get d_141_65 (C := kR8) (T := kT8) (N := 38) rfl kjn8 (by decide +kernel) rfl kf_8_32) (And.intro (s_iload_n d_141_68 rfl) (And.intro (s_iaload d_141_69) (And.intro (s_if_eq d_141_70 (by decide +kernel)) (And.intro (s_aload_n d_141_73 rfl) (And.intro (s_get d_141_74 (C := kR8) (T := kT8) (N := 38) rfl kjn8 (by decide +kernel) rfl kf_8_32) (And.intro (s_iload_n d_141_77 rfl) (And.intro (s_iaload d_141_78) (And.intro (s_iconst d_141_79 (by decide +kernel)) (And.intro (s_icmp_ne d_141_80 (by decide +kernel)) (And.intro (s_aload_n d_141_83 rfl) (And.intro (s_get d_141_84 (C := kR8) (T := kT8) (N := 38) rfl kjn8 (by decide +kernel) rfl kf_8_35) (And.intro (s_iload_n d_141_87 rfl) (And.intro (s_iaload d_141_88) (And.intro (s_goto d_141_89 (by decide +kernel)) (And.intro (s_iconst d_141_92 (by decide +kernel)) (And.intro (s_ret d_141_93 rfl) (True.intro))))))))))))))))))))))))))))))))))))))))))))))))))))))))
theorem d_142_0 : decode (kby 142) 0 = .ok (.aload_n 0, 1) := by decide +kernel
theorem d_142_1 : decode (kby 142) 1 = .ok (.iload_n 1, 1) := by decide +kernel
theorem d_142_2 : decode (kby 142) 2 = .ok (.invokevirtual 167, 3) := by decide +kernel
theorem d_142_5 : decode (kby 142) 5 = .ok (.ifCond .eq 48, 3) := by decide +kernel
theorem d_142_8 : decode (kby 142) 8 = .ok (.aload_n 0, 1) := by decide +kernel
theorem d_142_9 : decode (kby 142) 9 = .ok (.iload_n 2, 1) := by decide +kernel
theorem d_142_10 : decode (kby 142) 10 = .ok (.invokevirtual 167, 3) := by decide +kernel
theorem d_142_13 : decode (kby 142) 13 = .ok (.ifCond .eq 40, 3) := by decide +kernel
theorem d_142_16 : decode (kby 142) 16 = .ok (.aload_n 0, 1) := by decide +kernel
theorem d_142_17 : decode (kby 142) 17 = .ok (.getfield 32, 3) := by decide +kernel
theorem d_142_20 : decode (kby 142) 20 = .ok (.aload_n 0, 1) := by decide +kernel
theorem d_142_21 : decode (kby 142) 21 = .ok (.getfield 50, 3) := by decide +kernel
theorem d_142_24 : decode (kby 142) 24 = .ok (.iload_n 1, 1) := by decide +kernel
theorem d_142_25 : decode (kby 142) 25 = .ok (.iaload, 1) := by decide +kernel
theorem d_142_26 : decode (kby 142) 26 = .ok (.iaload, 1) := by decide +kernel
theorem d_142_27 : decode (kby 142) 27 = .ok (.ifCond .ne 26, 3) := by decide +kernel
theorem d_142_30 : decode (kby 142) 30 = .ok (.aload_n 0, 1) := by decide +kernel
theorem d_142_31 : decode (kby 142) 31 = .ok (.aload_n 0, 1) := by decide +kernel
theorem d_142_32 : decode (kby 142) 32 = .ok (.getfield 50, 3) := by decide +kernel
theorem d_142_35 : decode (kby 142) 35 = .ok (.iload_n 2, 1) := by decide +kernel
theorem d_142_36 : decode (kby 142) 36 = .ok (.iaload, 1) := by decide +kernel
theorem d_142_37 : decode (kby 142) 37 = .ok (.aload_n 0, 1) := by decide +kernel
theorem d_142_38 : decode (kby 142) 38 = .ok (.getfield 50, 3) := by decide +kernel
theorem d_142_41 : decode (kby 142) 41 = .ok (.iload_n 1, 1) := by decide +kernel
theorem d_142_42 : decode (kby 142) 42 = .ok (.iaload, 1) := by decide +kernel
theorem d_142_43 : decode (kby 142) 43 = .ok (.invokevirtual 211, 3) := by decide +kernel
theorem d_142_46 : decode (kby 142) 46 = .ok (.ifCond .eq 7, 3) := by decide +kernel
theorem d_142_49 : decode (kby 142) 49 = .ok (.iconst 1, 1) := by decide +kernel
theorem d_142_50 : decode (kby 142) 50 = .ok (.goto 4, 3) := by decide +kernel
theorem d_142_53 : decode (kby 142) 53 = .ok (.iconst 0, 1) := by decide +kernel
theorem d_142_54 : decode (kby 142) 54 = .ok (.ireturn, 1) := by decide +kernel
set_option maxRecDepth 100000 in
theorem ka_142 : kall 142 0 kc_142 := And.intro (s_aload_n d_142_0 rfl) (And.intro (s_iload_n d_142_1 rfl) (And.intro (s_cv d_142_2 kl_8_167 k_im_107 k_se_107 kok_107 rfl (by decide +kernel) rfl rfl) (And.intro (s_if_eq d_142_5 (by decide +kernel)) (And.intro (s_aload_n d_142_8 rfl) (And.intro (s_iload_n d_142_9 rfl) (And.intro (s_cv d_142_10 kl_8_167 k_im_107 k_se_107 kok_107 rfl (by decide +kernel) rfl rfl) (And.intro (s_if_eq d_142_13 (by decide +kernel)) (And.intro (s_aload_n d_142_16 rfl) (And.intro (s_get d_142_17 (C := kR8) (T := kT8) (N := 38) rfl kjn8 (by decide +kernel) rfl kf_8_32) (And.intro (s_aload_n d_142_20 rfl) (And.intro (s_get d_142_21 (C := kR8) (T := kT8) (N := 38) rfl kjn8 (by decide +kernel) rfl kf_8_50) (And.intro (s_iload_n d_142_24 rfl) (And.intro (s_iaload d_142_25) (And.intro (s_iaload d_142_26) (And.intro (s_if_ne d_142_27 (by decide +kernel)) (And.intro (s_aload_n d_142_30 rfl) (And.intro (s_aload_n d_142_31 rfl) (And.intro (s_get d_142_32 (C := kR8) (T := kT8) (N := 38) rfl kjn8 (by decide +kernel) rfl kf_8_50) (And.intro (s_iload_n d_142_35 rfl) (And.intro (s_iaload d_142_36) (And.intro (s_aload_n d_142_37 rfl) (And.intro (s_get d_142_38 (C := kR8) (T := kT8) (N := 38) rfl kjn8 (by decide +kernel) rfl kf_8_50) (And.intro (s_iload_n d_142_41 rfl) (And.intro (s_iaload d_142_42) (And.intro (s_cv d_142_43 kl_8_211 k_im_124 k_se_124 kok_124 rfl (by decide +kernel) rfl rfl) (And.intro (s_if_eq d_142_46 (by decide +kernel)) (And.intro (s_iconst d_142_49 (by decide +kernel)) (And.intro (s_goto d_142_50 (by decide +kernel)) (And.intro (s_iconst d_142_53 (by decide +kernel)) (And.intro (s_retz d_142_54 rfl) (True.intro)))))))))))))))))))))))))))))))
theorem d_143_0 : decode (kby 143) 0 = .ok (.aload_n 0, 1) := by decide +kernel
theorem d_143_1 : decode (kby 143) 1 = .ok (.iload_n 1, 1) := by decide +kernel
theorem d_143_2 : decode (kby 143) 2 = .ok (.invokevirtual 190, 3) := by decide +kernel
theorem d_143_5 : decode (kby 143) 5 = .ok (.ifCond .eq 16, 3) := by decide +kernel
theorem d_143_8 : decode (kby 143) 8 = .ok (.aload_n 0, 1) := by decide +kernel
theorem d_143_9 : decode (kby 143) 9 = .ok (.aload_n 0, 1) := by decide +kernel
theorem d_143_10 : decode (kby 143) 10 = .ok (.getfield 53, 3) := by decide +kernel
theorem d_143_13 : decode (kby 143) 13 = .ok (.iload_n 1, 1) := by decide +kernel
theorem d_143_14 : decode (kby 143) 14 = .ok (.iaload, 1) := by decide +kernel
theorem d_143_15 : decode (kby 143) 15 = .ok (.invokevirtual 151, 3) := by decide +kernel
theorem d_143_18 : decode (kby 143) 18 = .ok (.goto 4, 3) := by decide +kernel
theorem d_143_21 : decode (kby 143) 21 = .ok (.iconst (-1), 1) := by decide +kernel
theorem d_143_22 : decode (kby 143) 22 = .ok (.ireturn, 1) := by decide +kernel
set_option maxRecDepth 100000 in
theorem ka_143 : kall 143 0 kc_143 := And.intro (s_aload_n d_143_0 rfl) (And.intro (s_iload_n d_143_1 rfl) (And.intro (s_cv d_143_2 kl_8_190 k_im_120 k_se_120 kok_120 rfl (by decide +kernel) rfl rfl) (And.intro (s_if_eq d_143_5 (by decide +kernel)) (And.intro (s_aload_n d_143_8 rfl) (And.intro (s_aload_n d_143_9 rfl) (And.intro (s_get d_143_10 (C := kR8) (T := kT8) (N := 38) rfl kjn8 (by decide +kernel) rfl kf_8_53) (And.intro (s_iload_n d_143_13 rfl) (And.intro (s_iaload d_143_14) (And.intro (s_cv d_143_15 kl_8_151 k_im_103 k_se_103 kok_103 rfl (by decide +kernel) rfl rfl) (And.intro (s_goto d_143_18 (by decide +kernel)) (And.intro (s_iconst d_143_21 (by decide +kernel)) (And.intro (s_ret d_143_22 rfl) (True.intro)))))))))))))
theorem d_144_0 : decode (kby 144) 0 = .ok (.aload_n 0, 1) := by decide +kernel
theorem d_144_1 : decode (kby 144) 1 = .ok (.iload_n 1, 1) := by decide +kernel
theorem d_144_2 : decode (kby 144) 2 = .ok (.invokevirtual 190, 3) := by decide +kernel
theorem d_144_5 : decode (kby 144) 5 = .ok (.ifCond .eq 12, 3) := by decide +kernel
theorem d_144_8 : decode (kby 144) 8 = .ok (.aload_n 0, 1) := by decide +kernel
theorem d_144_9 : decode (kby 144) 9 = .ok (.getfield 56, 3) := by decide +kernel
theorem d_144_12 : decode (kby 144) 12 = .ok (.iload_n 1, 1) := by decide +kernel
theorem d_144_13 : decode (kby 144) 13 = .ok (.iaload, 1) := by decide +kernel
theorem d_144_14 : decode (kby 144) 14 = .ok (.goto 4, 3) := by decide +kernel
theorem d_144_17 : decode (kby 144) 17 = .ok (.iconst (-1), 1) := by decide +kernel
theorem d_144_18 : decode (kby 144) 18 = .ok (.ireturn, 1) := by decide +kernel
set_option maxRecDepth 100000 in
theorem ka_144 : kall 144 0 kc_144 := And.intro (s_aload_n d_144_0 rfl) (And.intro (s_iload_n d_144_1 rfl) (And.intro (s_cv d_144_2 kl_8_190 k_im_120 k_se_120 kok_120 rfl (by decide +kernel) rfl rfl) (And.intro (s_if_eq d_144_5 (by decide +kernel)) (And.intro (s_aload_n d_144_8 rfl) (And.intro (s_get d_144_9 (C := kR8) (T := kT8) (N := 38) rfl kjn8 (by decide +kernel) rfl kf_8_56) (And.intro (s_iload_n d_144_12 rfl) (And.intro (s_iaload d_144_13) (And.intro (s_goto d_144_14 (by decide +kernel)) (And.intro (s_iconst d_144_17 (by decide +kernel)) (And.intro (s_ret d_144_18 rfl) (True.intro)))))))))))
theorem d_145_0 : decode (kby 145) 0 = .ok (.aload_n 0, 1) := by decide +kernel
theorem d_145_1 : decode (kby 145) 1 = .ok (.iload_n 1, 1) := by decide +kernel
theorem d_145_2 : decode (kby 145) 2 = .ok (.invokevirtual 190, 3) := by decide +kernel
theorem d_145_5 : decode (kby 145) 5 = .ok (.ifCond .eq 11, 3) := by decide +kernel
theorem d_145_8 : decode (kby 145) 8 = .ok (.aload_n 0, 1) := by decide +kernel
theorem d_145_9 : decode (kby 145) 9 = .ok (.iload_n 2, 1) := by decide +kernel
theorem d_145_10 : decode (kby 145) 10 = .ok (.invokevirtual 167, 3) := by decide +kernel
theorem d_145_13 : decode (kby 145) 13 = .ok (.ifCond .ne 5, 3) := by decide +kernel
theorem d_145_16 : decode (kby 145) 16 = .ok (.iconst 0, 1) := by decide +kernel
theorem d_145_17 : decode (kby 145) 17 = .ok (.ireturn, 1) := by decide +kernel
theorem d_145_18 : decode (kby 145) 18 = .ok (.iconst 0, 1) := by decide +kernel
theorem d_145_19 : decode (kby 145) 19 = .ok (.istore_n 3, 1) := by decide +kernel
theorem d_145_20 : decode (kby 145) 20 = .ok (.iconst 0, 1) := by decide +kernel
theorem d_145_21 : decode (kby 145) 21 = .ok (.istore 4, 2) := by decide +kernel
theorem d_145_23 : decode (kby 145) 23 = .ok (.iload 4, 2) := by decide +kernel
theorem d_145_25 : decode (kby 145) 25 = .ok (.aload_n 0, 1) := by decide +kernel
theorem d_145_26 : decode (kby 145) 26 = .ok (.getfield 56, 3) := by decide +kernel
theorem d_145_29 : decode (kby 145) 29 = .ok (.iload_n 1, 1) := by decide +kernel
theorem d_145_30 : decode (kby 145) 30 = .ok (.iaload, 1) := by decide +kernel
theorem d_145_31 : decode (kby 145) 31 = .ok (.if_icmp .ge 40, 3) := by decide +kernel
theorem d_145_34 : decode (kby 145) 34 = .ok (.iload_n 3, 1) := by decide +kernel
theorem d_145_35 : decode (kby 145) 35 = .ok (.ifCond .ne 24, 3) := by decide +kernel
theorem d_145_38 : decode (kby 145) 38 = .ok (.aload_n 0, 1) := by decide +kernel
theorem d_145_39 : decode (kby 145) 39 = .ok (.getfield 59, 3) := by decide +kernel
theorem d_145_42 : decode (kby 145) 42 = .ok (.bipush 12, 2) := by decide +kernel
theorem d_145_44 : decode (kby 145) 44 = .ok (.iload_n 1, 1) := by decide +kernel
theorem d_145_45 : decode (kby 145) 45 = .ok (.imul, 1) := by decide +kernel
theorem d_145_46 : decode (kby 145) 46 = .ok (.iload 4, 2) := by decide +kernel
theorem d_145_48 : decode (kby 145) 48 = .ok (.iadd, 1) := by decide +kernel
theorem d_145_49 : decode (kby 145) 49 = .ok (.iaload, 1) := by decide +kernel
theorem d_145_50 : decode (kby 145) 50 = .ok (.aload_n 0, 1) := by decide +kernel
theorem d_145_51 : decode (kby 145) 51 = .ok (.getfield 50, 3) := by decide +kernel
theorem d_145_54 : decode (kby 145) 54 = .ok (.iload_n 2, 1) := by decide +kernel
theorem d_145_55 : decode (kby 145) 55 = .ok (.iaload, 1) := by decide +kernel
theorem d_145_56 : decode (kby 145) 56 = .ok (.if_icmp .ne 7, 3) := by decide +kernel
theorem d_145_59 : decode (kby 145) 59 = .ok (.iconst 1, 1) := by decide +kernel
theorem d_145_60 : decode (kby 145) 60 = .ok (.goto 4, 3) := by decide +kernel
theorem d_145_63 : decode (kby 145) 63 = .ok (.iconst 0, 1) := by decide +kernel
theorem d_145_64 : decode (kby 145) 64 = .ok (.istore_n 3, 1) := by decide +kernel
theorem d_145_65 : decode (kby 145) 65 = .ok (.iinc 4 1, 3) := by decide +kernel
theorem d_145_68 : decode (kby 145) 68 = .ok (.goto (-45), 3) := by decide +kernel
theorem d_145_71 : decode (kby 145) 71 = .ok (.iload_n 3, 1) := by decide +kernel
theorem d_145_72 : decode (kby 145) 72 = .ok (.ireturn, 1) := by decide +kernel
set_option maxRecDepth 100000 in
theorem ka_145 : kall 145 0 kc_145 := And.intro (s_aload_n d_145_0 rfl) (And.intro (s_iload_n d_145_1 rfl) (And.intro (s_cv d_145_2 kl_8_190 k_im_120 k_se_120 kok_120 rfl (by decide +kernel) rfl rfl) (And.intro (s_if_eq d_145_5 (by decide +kernel)) (And.intro (s_aload_n d_145_8 rfl) (And.intro (s_iload_n d_145_9 rfl) (And.intro (s_cv d_145_10 kl_8_167 k_im_107 k_se_107 kok_107 rfl (by decide +kernel) rfl rfl) (And.intro (s_if_ne d_145_13 (by decide +kernel)) (And.intro (s_iconst d_145_16 (by decide +kernel)) (And.intro (s_retz d_145_17 rfl) (And.intro (s_iconst d_145_18 (by decide +kernel)) (And.intro (s_istore_n d_145_19 rfl (by decide +kernel)) (And.intro (s_iconst d_145_20 (by decide +kernel)) (And.intro (s_istore d_145_21 (by decide +kernel)) (And.intro (s_iload d_145_23) (And.intro (s_aload_n d_145_25 rfl) (And.intro (s_get d_145_26 (C := kR8) (T := kT8) (N := 38) rfl kjn8 (by decide +kernel) rfl kf_8_56) (And.intro (s_iload_n d_145_29 rfl) (And.intro (s_iaload d_145_30) (And.intro (s_icmp_ge d_145_31 (by decide +kernel)) (And.intro (s_iload_n d_145_34 rfl) (And.intro (s_if_ne d_145_35 (by decide +kernel)) (And.intro (s_aload_n d_145_38 rfl) (And.intro (s_get d_145_39 (C := kR8) (T := kT8) (N := 38) rfl kjn8 (by decide +kernel) rfl kf_8_59) (And.intro (s_bipush d_145_42 (by decide +kernel)) (And.intro (s_iload_n d_145_44 rfl) (And.intro (s_imul d_145_45) (And.intro (s_iload d_145_46) (And.intro (s_iadd d_145_48) (And.intro (s_iaload d_145_49) (And.intro (s_aload_n d_145_50 rfl) (And.intro (s_get d_145_51 (C := kR8) (T := kT8) (N := 38) rfl kjn8 (by decide +kernel) rfl kf_8_50) (And.intro (s_iload_n d_145_54 rfl) (And.intro (s_iaload d_145_55) (And.intro (s_icmp_ne d_145_56 (by decide +kernel)) (And.intro (s_iconst d_145_59 (by decide +kernel)) (And.intro (s_goto d_145_60 (by decide +kernel)) (And.intro (s_iconst d_145_63 (by decide +kernel)) (And.intro (s_istore_n d_145_64 rfl (by decide +kernel)) (And.intro (s_iinc d_145_65 (by decide +kernel) (by decide +kernel)) (And.intro (s_goto d_145_68 (by decide +kernel)) (And.intro (s_iload_n d_145_71 rfl) (And.intro (s_retz d_145_72 rfl) (True.intro)))))))))))))))))))))))))))))))))))))))))))
theorem d_146_0 : decode (kby 146) 0 = .ok (.iload_n 1, 1) := by decide +kernel
theorem d_146_1 : decode (kby 146) 1 = .ok (.tableswitch 60 0 4 #[35, 40, 45, 50, 55], 35) := by decide +kernel
theorem d_146_36 : decode (kby 146) 36 = .ok (.aload_n 0, 1) := by decide +kernel
theorem d_146_37 : decode (kby 146) 37 = .ok (.getfield 97, 3) := by decide +kernel
theorem d_146_40 : decode (kby 146) 40 = .ok (.ireturn, 1) := by decide +kernel
theorem d_146_41 : decode (kby 146) 41 = .ok (.aload_n 0, 1) := by decide +kernel
theorem d_146_42 : decode (kby 146) 42 = .ok (.getfield 86, 3) := by decide +kernel
theorem d_146_45 : decode (kby 146) 45 = .ok (.ireturn, 1) := by decide +kernel
theorem d_146_46 : decode (kby 146) 46 = .ok (.aload_n 0, 1) := by decide +kernel
theorem d_146_47 : decode (kby 146) 47 = .ok (.getfield 138, 3) := by decide +kernel
theorem d_146_50 : decode (kby 146) 50 = .ok (.ireturn, 1) := by decide +kernel
theorem d_146_51 : decode (kby 146) 51 = .ok (.aload_n 0, 1) := by decide +kernel
theorem d_146_52 : decode (kby 146) 52 = .ok (.getfield 100, 3) := by decide +kernel
theorem d_146_55 : decode (kby 146) 55 = .ok (.ireturn, 1) := by decide +kernel
theorem d_146_56 : decode (kby 146) 56 = .ok (.aload_n 0, 1) := by decide +kernel
theorem d_146_57 : decode (kby 146) 57 = .ok (.getfield 90, 3) := by decide +kernel
theorem d_146_60 : decode (kby 146) 60 = .ok (.ireturn, 1) := by decide +kernel
theorem d_146_61 : decode (kby 146) 61 = .ok (.iconst (-1), 1) := by decide +kernel
theorem d_146_62 : decode (kby 146) 62 = .ok (.ireturn, 1) := by decide +kernel
set_option maxRecDepth 100000 in
theorem ka_146 : kall 146 0 kc_146 := And.intro (s_iload_n d_146_0 rfl) (And.intro (s_switch d_146_1 (by decide +kernel)) (And.intro (s_aload_n d_146_36 rfl) (And.intro (s_get d_146_37 (C := kR8) (T := kT8) (N := 38) rfl kjn8 (by decide +kernel) rfl kf_8_97) (And.intro (s_ret d_146_40 rfl) (And.intro (s_aload_n d_146_41 rfl) (And.intro (s_get d_146_42 (C := kR8) (T := kT8) (N := 38) rfl kjn8 (by decide +kernel) rfl kf_8_86) (And.intro (s_ret d_146_45 rfl) (And.intro (s_aload_n d_146_46 rfl) (And.intro (s_get d_146_47 (C := kR8) (T := kT8) (N := 38) rfl kjn8 (by decide +kernel) rfl kf_8_138) (And.intro (s_ret d_146_50 rfl) (And.intro (s_aload_n d_146_51 rfl) (And.intro (s_get d_146_52 (C := kR8) (T := kT8) (N := 38) rfl kjn8 (by decide +kernel) rfl kf_8_100) (And.intro (s_ret d_146_55 rfl) (And.intro (s_aload_n d_146_56 rfl) (And.intro (s_get d_146_57 (C := kR8) (T := kT8) (N := 38) rfl kjn8 (by decide +kernel) rfl kf_8_90) (And.intro (s_ret d_146_60 rfl) (And.intro (s_iconst d_146_61 (by decide +kernel)) (And.intro (s_ret d_146_62 rfl) (True.intro)))))))))))))))))))
