/-! printed: each instruction is sound -/
theorem d_23_0 : decode (kby 23) 0 = .ok (.aload_n 0, 1) := by decide +kernel
theorem d_23_1 : decode (kby 23) 1 = .ok (.getfield 34, 3) := by decide +kernel
theorem d_23_4 : decode (kby 23) 4 = .ok (.iconst 1, 1) := by decide +kernel
theorem d_23_5 : decode (kby 23) 5 = .ok (.if_icmp .ne 17, 3) := by decide +kernel
theorem d_23_8 : decode (kby 23) 8 = .ok (.aload_n 0, 1) := by decide +kernel
theorem d_23_9 : decode (kby 23) 9 = .ok (.getfield 26, 3) := by decide +kernel
theorem d_23_12 : decode (kby 23) 12 = .ok (.getfield 68, 3) := by decide +kernel
theorem d_23_15 : decode (kby 23) 15 = .ok (.iload_n 1, 1) := by decide +kernel
theorem d_23_16 : decode (kby 23) 16 = .ok (.baload, 1) := by decide +kernel
theorem d_23_17 : decode (kby 23) 17 = .ok (.ifCond .ne 5, 3) := by decide +kernel
theorem d_23_20 : decode (kby 23) 20 = .ok (.iload_n 1, 1) := by decide +kernel
theorem d_23_21 : decode (kby 23) 21 = .ok (.ireturn, 1) := by decide +kernel
theorem d_23_22 : decode (kby 23) 22 = .ok (.aload_n 0, 1) := by decide +kernel
theorem d_23_23 : decode (kby 23) 23 = .ok (.iload_n 1, 1) := by decide +kernel
theorem d_23_24 : decode (kby 23) 24 = .ok (.iload_n 2, 1) := by decide +kernel
theorem d_23_25 : decode (kby 23) 25 = .ok (.invokevirtual 72, 3) := by decide +kernel
theorem d_23_28 : decode (kby 23) 28 = .ok (.ifCond .eq 38, 3) := by decide +kernel
theorem d_23_31 : decode (kby 23) 31 = .ok (.aload_n 0, 1) := by decide +kernel
theorem d_23_32 : decode (kby 23) 32 = .ok (.getfield 34, 3) := by decide +kernel
theorem d_23_35 : decode (kby 23) 35 = .ok (.iconst 2, 1) := by decide +kernel
theorem d_23_36 : decode (kby 23) 36 = .ok (.if_icmp .ne 25, 3) := by decide +kernel
theorem d_23_39 : decode (kby 23) 39 = .ok (.aload_n 0, 1) := by decide +kernel
theorem d_23_40 : decode (kby 23) 40 = .ok (.getfield 26, 3) := by decide +kernel
theorem d_23_43 : decode (kby 23) 43 = .ok (.iconst 5, 1) := by decide +kernel
theorem d_23_44 : decode (kby 23) 44 = .ok (.iload_n 2, 1) := by decide +kernel
theorem d_23_45 : decode (kby 23) 45 = .ok (.iconst 0, 1) := by decide +kernel
theorem d_23_46 : decode (kby 23) 46 = .ok (.aload_n 0, 1) := by decide +kernel
theorem d_23_47 : decode (kby 23) 47 = .ok (.getfield 26, 3) := by decide +kernel
theorem d_23_50 : decode (kby 23) 50 = .ok (.getfield 51, 3) := by decide +kernel
theorem d_23_53 : decode (kby 23) 53 = .ok (.iload_n 1, 1) := by decide +kernel
theorem d_23_54 : decode (kby 23) 54 = .ok (.iaload, 1) := by decide +kernel
theorem d_23_55 : decode (kby 23) 55 = .ok (.invokevirtual 76, 3) := by decide +kernel
theorem d_23_58 : decode (kby 23) 58 = .ok (.goto 7, 3) := by decide +kernel
theorem d_23_61 : decode (kby 23) 61 = .ok (.aload_n 0, 1) := by decide +kernel
theorem d_23_62 : decode (kby 23) 62 = .ok (.getfield 40, 3) := by decide +kernel
theorem d_23_65 : decode (kby 23) 65 = .ok (.ireturn, 1) := by decide +kernel
theorem d_23_66 : decode (kby 23) 66 = .ok (.aload_n 0, 1) := by decide +kernel
theorem d_23_67 : decode (kby 23) 67 = .ok (.getfield 26, 3) := by decide +kernel
theorem d_23_70 : decode (kby 23) 70 = .ok (.getfield 80, 3) := by decide +kernel
theorem d_23_73 : decode (kby 23) 73 = .ok (.iload_n 1, 1) := by decide +kernel
theorem d_23_74 : decode (kby 23) 74 = .ok (.iaload, 1) := by decide +kernel
theorem d_23_75 : decode (kby 23) 75 = .ok (.iconst 3, 1) := by decide +kernel
theorem d_23_76 : decode (kby 23) 76 = .ok (.if_icmp .ne 58, 3) := by decide +kernel
theorem d_23_79 : decode (kby 23) 79 = .ok (.aload_n 0, 1) := by decide +kernel
theorem d_23_80 : decode (kby 23) 80 = .ok (.aload_n 0, 1) := by decide +kernel
theorem d_23_81 : decode (kby 23) 81 = .ok (.getfield 26, 3) := by decide +kernel
theorem d_23_84 : decode (kby 23) 84 = .ok (.getfield 62, 3) := by decide +kernel
theorem d_23_87 : decode (kby 23) 87 = .ok (.iload_n 1, 1) := by decide +kernel
theorem d_23_88 : decode (kby 23) 88 = .ok (.iaload, 1) := by decide +kernel
theorem d_23_89 : decode (kby 23) 89 = .ok (.iload_n 2, 1) := by decide +kernel
theorem d_23_90 : decode (kby 23) 90 = .ok (.iload_n 3, 1) := by decide +kernel
theorem d_23_91 : decode (kby 23) 91 = .ok (.iconst 1, 1) := by decide +kernel
theorem d_23_92 : decode (kby 23) 92 = .ok (.iadd, 1) := by decide +kernel
theorem d_23_93 : decode (kby 23) 93 = .ok (.invokevirtual 54, 3) := by decide +kernel
theorem d_23_96 : decode (kby 23) 96 = .ok (.istore 4, 2) := by decide +kernel
theorem d_23_98 : decode (kby 23) 98 = .ok (.iload 4, 2) := by decide +kernel
theorem d_23_100 : decode (kby 23) 100 = .ok (.ifCond .ge 7, 3) := by decide +kernel
theorem d_23_103 : decode (kby 23) 103 = .ok (.iconst (-1), 1) := by decide +kernel
theorem d_23_104 : decode (kby 23) 104 = .ok (.goto 29, 3) := by decide +kernel
theorem d_23_107 : decode (kby 23) 107 = .ok (.aload_n 0, 1) := by decide +kernel
theorem d_23_108 : decode (kby 23) 108 = .ok (.getfield 26, 3) := by decide +kernel
theorem d_23_111 : decode (kby 23) 111 = .ok (.iload 4, 2) := by decide +kernel
theorem d_23_113 : decode (kby 23) 113 = .ok (.aload_n 0, 1) := by decide +kernel
theorem d_23_114 : decode (kby 23) 114 = .ok (.aload_n 0, 1) := by decide +kernel
theorem d_23_115 : decode (kby 23) 115 = .ok (.getfield 26, 3) := by decide +kernel
theorem d_23_118 : decode (kby 23) 118 = .ok (.getfield 83, 3) := by decide +kernel
theorem d_23_121 : decode (kby 23) 121 = .ok (.iload_n 1, 1) := by decide +kernel
theorem d_23_122 : decode (kby 23) 122 = .ok (.iaload, 1) := by decide +kernel
theorem d_23_123 : decode (kby 23) 123 = .ok (.iload_n 2, 1) := by decide +kernel
theorem d_23_124 : decode (kby 23) 124 = .ok (.iload_n 3, 1) := by decide +kernel
theorem d_23_125 : decode (kby 23) 125 = .ok (.iconst 1, 1) := by decide +kernel
theorem d_23_126 : decode (kby 23) 126 = .ok (.iadd, 1) := by decide +kernel
theorem d_23_127 : decode (kby 23) 127 = .ok (.invokevirtual 54, 3) := by decide +kernel
theorem d_23_130 : decode (kby 23) 130 = .ok (.invokevirtual 86, 3) := by decide +kernel
theorem d_23_133 : decode (kby 23) 133 = .ok (.ireturn, 1) := by decide +kernel
theorem d_23_134 : decode (kby 23) 134 = .ok (.aload_n 0, 1) := by decide +kernel
theorem d_23_135 : decode (kby 23) 135 = .ok (.getfield 26, 3) := by decide +kernel
theorem d_23_138 : decode (kby 23) 138 = .ok (.getfield 80, 3) := by decide +kernel
theorem d_23_141 : decode (kby 23) 141 = .ok (.iload_n 1, 1) := by decide +kernel
theorem d_23_142 : decode (kby 23) 142 = .ok (.iaload, 1) := by decide +kernel
theorem d_23_143 : decode (kby 23) 143 = .ok (.iconst 4, 1) := by decide +kernel
theorem d_23_144 : decode (kby 23) 144 = .ok (.if_icmp .ne 65, 3) := by decide +kernel
theorem d_23_147 : decode (kby 23) 147 = .ok (.aload_n 0, 1) := by decide +kernel
theorem d_23_148 : decode (kby 23) 148 = .ok (.aload_n 0, 1) := by decide +kernel
theorem d_23_149 : decode (kby 23) 149 = .ok (.getfield 22, 3) := by decide +kernel
theorem d_23_152 : decode (kby 23) 152 = .ok (.getfield 89, 3) := by decide +kernel
theorem d_23_155 : decode (kby 23) 155 = .ok (.aload_n 0, 1) := by decide +kernel
theorem d_23_156 : decode (kby 23) 156 = .ok (.getfield 26, 3) := by decide +kernel
theorem d_23_159 : decode (kby 23) 159 = .ok (.getfield 51, 3) := by decide +kernel
theorem d_23_162 : decode (kby 23) 162 = .ok (.iload_n 1, 1) := by decide +kernel
theorem d_23_163 : decode (kby 23) 163 = .ok (.iaload, 1) := by decide +kernel
theorem d_23_164 : decode (kby 23) 164 = .ok (.iaload, 1) := by decide +kernel
theorem d_23_165 : decode (kby 23) 165 = .ok (.iconst 0, 1) := by decide +kernel
theorem d_23_166 : decode (kby 23) 166 = .ok (.invokevirtual 90, 3) := by decide +kernel
theorem d_23_169 : decode (kby 23) 169 = .ok (.istore 4, 2) := by decide +kernel
theorem d_23_171 : decode (kby 23) 171 = .ok (.iload 4, 2) := by decide +kernel
theorem d_23_173 : decode (kby 23) 173 = .ok (.ifCond .ge 7, 3) := by decide +kernel
theorem d_23_176 : decode (kby 23) 176 = .ok (.iconst (-1), 1) := by decide +kernel
theorem d_23_177 : decode (kby 23) 177 = .ok (.goto 31, 3) := by decide +kernel
theorem d_23_180 : decode (kby 23) 180 = .ok (.aload_n 0, 1) := by decide +kernel
theorem d_23_181 : decode (kby 23) 181 = .ok (.getfield 26, 3) := by decide +kernel
theorem d_23_184 : decode (kby 23) 184 = .ok (.iload 4, 2) := by decide +kernel
theorem d_23_186 : decode (kby 23) 186 = .ok (.aload_n 0, 1) := by decide +kernel
theorem d_23_187 : decode (kby 23) 187 = .ok (.aload_n 0, 1) := by decide +kernel
theorem d_23_188 : decode (kby 23) 188 = .ok (.getfield 26, 3) := by decide +kernel
theorem d_23_191 : decode (kby 23) 191 = .ok (.getfield 62, 3) := by decide +kernel
theorem d_23_194 : decode (kby 23) 194 = .ok (.iload_n 1, 1) := by decide +kernel
theorem d_23_195 : decode (kby 23) 195 = .ok (.iaload, 1) := by decide +kernel
theorem d_23_196 : decode (kby 23) 196 = .ok (.iload_n 2, 1) := by decide +kernel
theorem d_23_197 : decode (kby 23) 197 = .ok (.iconst 1, 1) := by decide +kernel
theorem d_23_198 : decode (kby 23) 198 = .ok (.iadd, 1) := by decide +kernel
theorem d_23_199 : decode (kby 23) 199 = .ok (.iload_n 3, 1) := by decide +kernel
theorem d_23_200 : decode (kby 23) 200 = .ok (.iconst 1, 1) := by decide +kernel
theorem d_23_201 : decode (kby 23) 201 = .ok (.iadd, 1) := by decide +kernel
theorem d_23_202 : decode (kby 23) 202 = .ok (.invokevirtual 54, 3) := by decide +kernel
theorem d_23_205 : decode (kby 23) 205 = .ok (.invokevirtual 58, 3) := by decide +kernel
theorem d_23_208 : decode (kby 23) 208 = .ok (.ireturn, 1) := by decide +kernel
theorem d_23_209 : decode (kby 23) 209 = .ok (.aload_n 0, 1) := by decide +kernel
theorem d_23_210 : decode (kby 23) 210 = .ok (.getfield 26, 3) := by decide +kernel
theorem d_23_213 : decode (kby 23) 213 = .ok (.aload_n 0, 1) := by decide +kernel
theorem d_23_214 : decode (kby 23) 214 = .ok (.getfield 26, 3) := by decide +kernel
theorem d_23_217 : decode (kby 23) 217 = .ok (.getfield 80, 3) := by decide +kernel
theorem d_23_220 : decode (kby 23) 220 = .ok (.iload_n 1, 1) := by decide +kernel
theorem d_23_221 : decode (kby 23) 221 = .ok (.iaload, 1) := by decide +kernel
theorem d_23_222 : decode (kby 23) 222 = .ok (.aload_n 0, 1) := by decide +kernel
theorem d_23_223 : decode (kby 23) 223 = .ok (.getfield 26, 3) := by decide +kernel
theorem d_23_226 : decode (kby 23) 226 = .ok (.getfield 62, 3) := by decide +kernel
theorem d_23_229 : decode (kby 23) 229 = .ok (.iload_n 1, 1) := by decide +kernel
theorem d_23_230 : decode (kby 23) 230 = .ok (.iaload, 1) := by decide +kernel
theorem d_23_231 : decode (kby 23) 231 = .ok (.aload_n 0, 1) := by decide +kernel
theorem d_23_232 : decode (kby 23) 232 = .ok (.getfield 26, 3) := by decide +kernel
theorem d_23_235 : decode (kby 23) 235 = .ok (.getfield 83, 3) := by decide +kernel
theorem d_23_238 : decode (kby 23) 238 = .ok (.iload_n 1, 1) := by decide +kernel
theorem d_23_239 : decode (kby 23) 239 = .ok (.iaload, 1) := by decide +kernel
theorem d_23_240 : decode (kby 23) 240 = .ok (.aload_n 0, 1) := by decide +kernel
theorem d_23_241 : decode (kby 23) 241 = .ok (.aload_n 0, 1) := by decide +kernel
theorem d_23_242 : decode (kby 23) 242 = .ok (.getfield 26, 3) := by decide +kernel
theorem d_23_245 : decode (kby 23) 245 = .ok (.getfield 51, 3) := by decide +kernel
theorem d_23_248 : decode (kby 23) 248 = .ok (.iload_n 1, 1) := by decide +kernel
theorem d_23_249 : decode (kby 23) 249 = .ok (.iaload, 1) := by decide +kernel
theorem d_23_250 : decode (kby 23) 250 = .ok (.iconst 0, 1) := by decide +kernel
theorem d_23_251 : decode (kby 23) 251 = .ok (.invokevirtual 90, 3) := by decide +kernel
theorem d_23_254 : decode (kby 23) 254 = .ok (.invokevirtual 76, 3) := by decide +kernel
theorem d_23_257 : decode (kby 23) 257 = .ok (.ireturn, 1) := by decide +kernel
set_option maxRecDepth 100000 in
theorem ka_23 : kall 23 0 kc_23 := And.intro (s_aload_n d_23_0 rfl) (And.intro (s_get d_23_1 (C := kR5) (T := kT5) (N := 8) rfl kjn5 (by decide +kernel) rfl kf_5_34) (And.intro (s_iconst d_23_4 (by decide +kernel)) (And.intro (s_icmp_ne d_23_5 (by decide +kernel)) (And.intro (s_aload_n d_23_8 rfl) (And.intro (s_get d_23_9 (C := kR5) (T := kT5) (N := 8) rfl kjn5 (by decide +kernel) rfl kf_5_26) (And.intro (s_get d_23_12 (C := kR3) (T := kT3) (N := 15) rfl kjn3 (by decide +kernel) rfl kf_5_68) (And.intro (s_iload_n d_23_15 rfl) (And.intro (s_baload d_23_16) (And.intro (s_if_ne d_23_17 (by decide +kernel)) (And.intro (s_iload_n d_23_20 rfl) (And.intro (s_ret d_23_21 rfl) (And.intro (s_aload_n d_23_22 rfl) (And.intro (s_iload_n d_23_23 rfl) (And.intro (s_iload_n d_23_24 rfl) (And.intro (s_cv d_23_25 kl_5_72 k_im_24 k_se_24 kok_24 rfl (by decide +kernel) rfl rfl) (And.intro (s_if_eq d_23_28 (by decide +kernel)) (And.intro (s_aload_n d_23_31 rfl) (And.intro (s_get d_23_32 (C := kR5) (T := kT5) (N := 8) rfl kjn5 (by decide +kernel) rfl kf_5_34) (And.intro (s_iconst d_23_35 (by decide +kernel)) (And.intro (s_icmp_ne d_23_36 (by decide +kernel)) (And.intro (s_aload_n d_23_39 rfl) (And.intro (s_get d_23_40 (C := kR5) (T := kT5) (N := 8) rfl kjn5 (by decide +kernel) rfl kf_5_26) (And.intro (s_iconst d_23_43 (by decide +kernel)) (And.intro (s_iload_n d_23_44 rfl) (And.intro (s_iconst d_23_45 (by decide +kernel)) (And.intro (s_aload_n d_23_46 rfl) (And.intro (s_get d_23_47 (C := kR5) (T := kT5) (N := 8) rfl kjn5 (by decide +kernel) rfl kf_5_26) (And.intro (s_get d_23_50 (C := kR3) (T := kT3) (N := 15) rfl kjn3 (by decide +kernel) rfl kf_5_51) (And.intro (s_iload_n d_23_53 rfl) (And.intro (s_iaload d_23_54) (And.intro (s_cv d_23_55 kl_5_76 k_im_11 k_se_11 kok_11 rfl (by decide +kernel) rfl rfl) (And.intro (s_goto d_23_58 (by decide +kernel)) (And.intro (s_aload_n d_23_61 rfl) (And.intro (s_get d_23_62 (C := kR5) (T := kT5) (N := 8) rfl kjn5 (by decide +kernel) rfl kf_5_40) (And.intro (s_ret d_23_65 rfl) (And.intro (s_aload_n d_23_66 rfl) (And.intro (s_get d_23_67 (C := kR5) (T := kT5) (N := 8) rfl kjn5 (by decide +kernel) rfl kf_5_26) (And.intro (s_get d_23_70 (C := kR3) (T := kT3) (N := 15) rfl kjn3 (by decide +kernel) rfl kf_5_80) (And.intro (s_iload_n d_23_73 rfl) (And.intro (s_iaload d_23_74) (And.intro (s_iconst d_23_75 (by decide +kernel)) (And.intro (s_icmp_ne d_23_76 (by decide +kernel)) (And.intro (s_aload_n d_23_79 rfl) (And.intro (s_aload_n d_23_80 rfl) (And.intro (s_get d_23_81 (C := kR5) (T := kT5) (N := 8) rfl kjn5 (by decide +kernel) rfl kf_5_26) (And.intro (s_get d_23_84 (C := kR3) (T := kT3) (N := 15) rfl kjn3 (by decide +kernel) rfl kf_5_62) (And.intro (s_iload_n d_23_87 rfl) (And.intro (s_iaload d_23_88) (And.intro (s_iload_n d_23_89 rfl) (And.intro (s_iload_n d_23_90 rfl) (And.intro (s_iconst d_23_91 (by decide +kernel)) (And.intro (s_iadd d_23_92) (And.intro (s_cv d_23_93 kl_5_54 k_im_22 k_se_22 kok_22 rfl (by decide +kernel) rfl rfl) (And.intro (s_istore d_23_96 (by decide +kernel)) (And.intro (s_iload d_23_98) (And.intro (s_if_ge d_23_100 (by decide +kernel)) (And.intro (s_iconst d_23_103 (by decide +kernel)) (And.intro (s_goto d_23_104 (by decide +kernel)) (And.intro (s_aload_n d_23_107 rfl) (And.intro (s_get d_23_108 (C := kR5) (T := kT5) (N := 8) rfl kjn5 (by decide +kernel) rfl kf_5_26) (And.intro (s_iload d_23_111) (And.intro (s_aload_n d_23_113 rfl) (And.intro (s_aload_n d_23_114 rfl) (And.intro (s_get d_23_115 (C := kR5) (T := kT5) (N := 8) rfl kjn5 (by decide +kernel) rfl kf_5_26) (And.intro (s_get d_23_118 (C := kR3) (T := kT3) (N := 15) rfl kjn3 (by decide +kernel) rfl kf_5_83) (And.intro (s_iload_n d_23_121 rfl) (And.intro (s_iaload d_23_122) (And.intro (s_iload_n d_23_123 rfl) (And.intro (s_iload_n d_23_124 rfl) (And.intro (s_iconst d_23_125 (by decide +kernel)) (And.intro (s_iadd d_23_126) (And.intro (s_cv d_23_127 kl_5_54 k_im_22 k_se_22 kok_22 rfl (by decide +kernel) rfl rfl) (And.intro (s_cv d_23_130 kl_5_86 k_im_16 k_se_16 kok_16 rfl (by decide +kernel) rfl rfl) (And.intro (s_ret d_23_133 rfl) (And.intro (s_aload_n d_23_134 rfl) (And.intro (s_get d_23_135 (C := kR5) (T := kT5) (N := 8) rfl kjn5 (by decide +kernel) rfl kf_5_26) (And.intro (s_get d_23_138 (C := kR3) (T := kT3) (N := 15) rfl kjn3 (by decide +kernel) rfl kf_5_80) (And.intro (s_iload_n d_23_141 rfl) (And.intro (s_iaload d_23_142) (And.intro (s_iconst d_23_143 (by decide +kernel)) (And.intro (s_icmp_ne d_23_144 (by decide +kernel)) (And.intro (s_aload_n d_23_147 rfl) (And.intro (s_aload_n d_23_148 rfl) (And.intro (s_get d_23_149 (C := kR5) (T := kT5) (N := 8) rfl kjn5 (by decide +kernel) rfl kf_5_22) (And.intro (s_get d_23_152 (C := kR1) (T := kT1) (N := 8) rfl kjn1 (by decide +kernel) rfl kf_5_89) (And.intro (s_aload_n d_23_155 rfl) (And.intro (s_get d_23_156 (C := kR5) (T := kT5) (N := 8) rfl kjn5 (by decide +kernel) rfl kf_5_26) (And.intro (s_get d_23_159 (C := kR3) (T := kT3) (N := 15) rfl kjn3 (by decide +kernel) rfl kf_5_51) (And.intro (s_iload_n d_23_162 rfl) (And.intro (s_iaload d_23_163) (And.intro (s_iaload d_23_164) (And.intro (s_iconst d_23_165 (by decide +kernel)) (And.intro (s_cv d_23_166 kl_5_90 k_im_25 k_se_25 kok_25 rfl (by decide +kernel) rfl rfl) (And.intro (s_istore d_23_169 (by decide +kernel)) (And.intro (s_iload d_23_171) (And.intro (s_if_ge d_23_173 (by decide +kernel)) (And.intro (s_iconst d_23_176 (by decide +kernel)) (And.intro (s_goto d_23_177 (by decide +kernel)) (And.intro (s_aload_n d_23_180 rfl) (And.intro (s_get d_23_181 (C := kR5) (T := kT5) (N := 8) rfl kjn5 (by decide +kernel) rfl kf_5_26) (And.intro (s_iload d_23_184) (And.intro (s_aload_n d_23_186 rfl) (And.intro (s_aload_n d_23_187 rfl) (And.intro (s_get d_23_188 (C := kR5) (T := kT5) (N := 8) rfl kjn5 (by decide +kernel) rfl kf_5_26) (And.intro (s_get d_23_191 (C := kR3) (T := kT3) (N := 15) rfl kjn3 (by decide +kernel) rfl kf_5_62) (And.intro (s_iload_n d_23_194 rfl) (And.intro (s_iaload d_23_195) (And.intro (s_iload_n d_23_196 rfl) (And.intro (s_iconst d_23_197 (by decide +kernel)) (And.intro (s_iadd d_23_198) (And.intro (s_iload_n d_23_199 rfl) (And.intro (s_iconst d_23_200 (by decide +kernel)) (And.intro (s_iadd d_23_201) (And.intro (s_cv d_23_202 kl_5_54 k_im_22 k_se_22 kok_22 rfl (by decide +kernel) rfl rfl) (And.intro (s_cv d_23_205 kl_5_58 k_im_27 k_se_27 kok_27 rfl (by decide +kernel) rfl rfl) (And.intro (s_ret d_23_208 rfl) (And.intro (s_aload_n d_23_209 rfl) (And.intro (s_get d_23_210 (C := kR5) (T := kT5) (N := 8) rfl kjn5 (by decide +kernel) rfl kf_5_26) (And.intro (s_aload_n d_23_213 rfl) (And.intro (s_get d_23_214 (C := kR5) (T := kT5) (N := 8) rfl kjn5 (by decide +kernel) rfl kf_5_26) (And.intro (s_get d_23_217 (C := kR3) (T := kT3) (N := 15) rfl kjn3 (by decide +kernel) rfl kf_5_80) (And.intro (s_iload_n d_23_220 rfl) (And.intro (s_iaload d_23_221) (And.intro (s_aload_n d_23_222 rfl) (And.intro (s_get d_23_223 (C := kR5) (T := kT5) (N := 8) rfl kjn5 (by decide +kernel) rfl kf_5_26) (And.intro (s_get d_23_226 (C := kR3) (T := kT3) (N := 15) rfl kjn3 (by decide +kernel) rfl kf_5_62) (And.intro (s_iload_n d_23_229 rfl) (And.intro (s_iaload d_23_230) (And.intro (s_aload_n d_23_231 rfl) (And.intro (s_get d_23_232 (C := kR5) (T := kT5) (N := 8) rfl kjn5 (by decide +kernel) rfl kf_5_26) (And.intro (s_get d_23_235 (C := kR3) (T := kT3) (N := 15) rfl kjn3 (by decide +kernel) rfl kf_5_83) (And.intro (s_iload_n d_23_238 rfl) (And.intro (s_iaload d_23_239) (And.intro (s_aload_n d_23_240 rfl) (And.intro (s_aload_n d_23_241 rfl) (And.intro (s_get d_23_242 (C := kR5) (T := kT5) (N := 8) rfl kjn5 (by decide +kernel) rfl kf_5_26) (And.intro (s_get d_23_245 (C := kR3) (T := kT3) (N := 15) rfl kjn3 (by decide +kernel) rfl kf_5_51) (And.intro (s_iload_n d_23_248 rfl) (And.intro (s_iaload d_23_249) (And.intro (s_iconst d_23_250 (by decide +kernel)) (And.intro (s_cv d_23_251 kl_5_90 k_im_25 k_se_25 kok_25 rfl (by decide +kernel) rfl rfl) (And.intro (s_cv d_23_254 kl_5_76 k_im_11 k_se_11 kok_11 rfl (by decide +kernel) rfl rfl) (And.intro (s_ret d_23_257 rfl) (True.intro))))))))))))))))))))))))))))))))))))))))))))))))))))))))))))))))))))))))))))))))))))))))))))))))))))))))))))))))))))))))))))))))))))))))))))))))
theorem d_24_0 : decode (kby 24) 0 = .ok (.aload_n 0, 1) := by decide +kernel
theorem d_24_1 : decode (kby 24) 1 = .ok (.getfield 34, 3) := by decide +kernel
theorem d_24_4 : decode (kby 24) 4 = .ok (.tableswitch 78 0 3 #[32, 78, 32, 46], 32) := by decide +kernel
theorem d_24_36 : decode (kby 24) 36 = .ok (.iload_n 1, 1) := by decide +kernel
theorem d_24_37 : decode (kby 24) 37 = .ok (.aload_n 0, 1) := by decide +kernel
theorem d_24_38 : decode (kby 24) 38 = .ok (.getfield 37, 3) := by decide +kernel
theorem d_24_41 : decode (kby 24) 41 = .ok (.if_icmp .ne 7, 3) := by decide +kernel
theorem d_24_44 : decode (kby 24) 44 = .ok (.iconst 1, 1) := by decide +kernel
theorem d_24_45 : decode (kby 24) 45 = .ok (.goto 4, 3) := by decide +kernel
theorem d_24_48 : decode (kby 24) 48 = .ok (.iconst 0, 1) := by decide +kernel
theorem d_24_49 : decode (kby 24) 49 = .ok (.ireturn, 1) := by decide +kernel
theorem d_24_50 : decode (kby 24) 50 = .ok (.aload_n 0, 1) := by decide +kernel
theorem d_24_51 : decode (kby 24) 51 = .ok (.getfield 26, 3) := by decide +kernel
theorem d_24_54 : decode (kby 24) 54 = .ok (.getfield 80, 3) := by decide +kernel
theorem d_24_57 : decode (kby 24) 57 = .ok (.iload_n 1, 1) := by decide +kernel
theorem d_24_58 : decode (kby 24) 58 = .ok (.iaload, 1) := by decide +kernel
theorem d_24_59 : decode (kby 24) 59 = .ok (.iconst 5, 1) := by decide +kernel
theorem d_24_60 : decode (kby 24) 60 = .ok (.if_icmp .ne 20, 3) := by decide +kernel
theorem d_24_63 : decode (kby 24) 63 = .ok (.aload_n 0, 1) := by decide +kernel
theorem d_24_64 : decode (kby 24) 64 = .ok (.getfield 26, 3) := by decide +kernel
theorem d_24_67 : decode (kby 24) 67 = .ok (.getfield 62, 3) := by decide +kernel
theorem d_24_70 : decode (kby 24) 70 = .ok (.iload_n 1, 1) := by decide +kernel
theorem d_24_71 : decode (kby 24) 71 = .ok (.iaload, 1) := by decide +kernel
theorem d_24_72 : decode (kby 24) 72 = .ok (.iload_n 2, 1) := by decide +kernel
theorem d_24_73 : decode (kby 24) 73 = .ok (.if_icmp .ne 7, 3) := by decide +kernel
theorem d_24_76 : decode (kby 24) 76 = .ok (.iconst 1, 1) := by decide +kernel
theorem d_24_77 : decode (kby 24) 77 = .ok (.goto 4, 3) := by decide +kernel
theorem d_24_80 : decode (kby 24) 80 = .ok (.iconst 0, 1) := by decide +kernel
theorem d_24_81 : decode (kby 24) 81 = .ok (.ireturn, 1) := by decide +kernel
theorem d_24_82 : decode (kby 24) 82 = .ok (.iconst 0, 1) := by decide +kernel
theorem d_24_83 : decode (kby 24) 83 = .ok (.ireturn, 1) := by decide +kernel
set_option maxRecDepth 100000 in
theorem ka_24 : kall 24 0 kc_24 := And.intro (s_aload_n d_24_0 rfl) (And.intro (s_get d_24_1 (C := kR5) (T := kT5) (N := 8) rfl kjn5 (by decide +kernel) rfl kf_5_34) (And.intro (s_switch d_24_4 (by decide +kernel)) (And.intro (s_iload_n d_24_36 rfl) (And.intro (s_aload_n d_24_37 rfl) (And.intro (s_get d_24_38 (C := kR5) (T := kT5) (N := 8) rfl kjn5 (by decide +kernel) rfl kf_5_37) (And.intro (s_icmp_ne d_24_41 (by decide +kernel)) (And.intro (s_iconst d_24_44 (by decide +kernel)) (And.intro (s_goto d_24_45 (by decide +kernel)) (And.intro (s_iconst d_24_48 (by decide +kernel)) (And.intro (s_retz d_24_49 rfl) (And.intro (s_aload_n d_24_50 rfl) (And.intro (s_get d_24_51 (C := kR5) (T := kT5) (N := 8) rfl kjn5 (by decide +kernel) rfl kf_5_26) (And.intro (s_get d_24_54 (C := kR3) (T := kT3) (N := 15) rfl kjn3 (by decide +kernel) rfl kf_5_80) (And.intro (s_iload_n d_24_57 rfl) (And.intro (s_iaload d_24_58) (And.intro (s_iconst d_24_59 (by decide +kernel)) (And.intro (s_icmp_ne d_24_60 (by decide +kernel)) (And.intro (s_aload_n d_24_63 rfl) (And.intro (s_get d_24_64 (C := kR5) (T := kT5) (N := 8) rfl kjn5 (by decide +kernel) rfl kf_5_26) (And.intro (s_get d_24_67 (C := kR3) (T := kT3) (N := 15) rfl kjn3 (by decide +kernel) rfl kf_5_62) (And.intro (s_iload_n d_24_70 rfl) (And.intro (s_iaload d_24_71) (And.intro (s_iload_n d_24_72 rfl) (And.intro (s_icmp_ne d_24_73 (by decide +kernel)) (And.intro (s_iconst d_24_76 (by decide +kernel)) (And.intro (s_goto d_24_77 (by decide +kernel)) (And.intro (s_iconst d_24_80 (by decide +kernel)) (And.intro (s_retz d_24_81 rfl) (And.intro (s_iconst d_24_82 (by decide +kernel)) (And.intro (s_retz d_24_83 rfl) (True.intro)))))))))))))))))))))))))))))))
theorem d_25_0 : decode (kby 25) 0 = .ok (.aload_n 0, 1) := by decide +kernel
theorem d_25_1 : decode (kby 25) 1 = .ok (.getfield 34, 3) := by decide +kernel
theorem d_25_4 : decode (kby 25) 4 = .ok (.iconst 1, 1) := by decide +kernel
theorem d_25_5 : decode (kby 25) 5 = .ok (.if_icmp .ne 15, 3) := by decide +kernel
theorem d_25_8 : decode (kby 25) 8 = .ok (.aload_n 0, 1) := by decide +kernel
theorem d_25_9 : decode (kby 25) 9 = .ok (.getfield 22, 3) := by decide +kernel
theorem d_25_12 : decode (kby 25) 12 = .ok (.getfield 93, 3) := by decide +kernel
theorem d_25_15 : decode (kby 25) 15 = .ok (.iload_n 1, 1) := by decide +kernel
theorem d_25_16 : decode (kby 25) 16 = .ok (.baload, 1) := by decide +kernel
theorem d_25_17 : decode (kby 25) 17 = .ok (.ifCond .ne 5, 3) := by decide +kernel
theorem d_25_20 : decode (kby 25) 20 = .ok (.iload_n 1, 1) := by decide +kernel
theorem d_25_21 : decode (kby 25) 21 = .ok (.ireturn, 1) := by decide +kernel
theorem d_25_22 : decode (kby 25) 22 = .ok (.iload_n 1, 1) := by decide +kernel
theorem d_25_23 : decode (kby 25) 23 = .ok (.aload_n 0, 1) := by decide +kernel
theorem d_25_24 : decode (kby 25) 24 = .ok (.getfield 37, 3) := by decide +kernel
theorem d_25_27 : decode (kby 25) 27 = .ok (.if_icmp .ne 8, 3) := by decide +kernel
theorem d_25_30 : decode (kby 25) 30 = .ok (.aload_n 0, 1) := by decide +kernel
theorem d_25_31 : decode (kby 25) 31 = .ok (.getfield 40, 3) := by decide +kernel
theorem d_25_34 : decode (kby 25) 34 = .ok (.ireturn, 1) := by decide +kernel
theorem d_25_35 : decode (kby 25) 35 = .ok (.aload_n 0, 1) := by decide +kernel
theorem d_25_36 : decode (kby 25) 36 = .ok (.getfield 22, 3) := by decide +kernel
theorem d_25_39 : decode (kby 25) 39 = .ok (.getfield 94, 3) := by decide +kernel
theorem d_25_42 : decode (kby 25) 42 = .ok (.iload_n 1, 1) := by decide +kernel
theorem d_25_43 : decode (kby 25) 43 = .ok (.iaload, 1) := by decide +kernel
theorem d_25_44 : decode (kby 25) 44 = .ok (.iconst 3, 1) := by decide +kernel
theorem d_25_45 : decode (kby 25) 45 = .ok (.if_icmp .eq 5, 3) := by decide +kernel
theorem d_25_48 : decode (kby 25) 48 = .ok (.iload_n 1, 1) := by decide +kernel
theorem d_25_49 : decode (kby 25) 49 = .ok (.ireturn, 1) := by decide +kernel
theorem d_25_50 : decode (kby 25) 50 = .ok (.iload_n 2, 1) := by decide +kernel
theorem d_25_51 : decode (kby 25) 51 = .ok (.bipush 10, 2) := by decide +kernel
theorem d_25_53 : decode (kby 25) 53 = .ok (.if_icmp .lt 5, 3) := by decide +kernel
theorem d_25_56 : decode (kby 25) 56 = .ok (.iconst (-1), 1) := by decide +kernel
theorem d_25_57 : decode (kby 25) 57 = .ok (.ireturn, 1) := by decide +kernel
theorem d_25_58 : decode (kby 25) 58 = .ok (.aload_n 0, 1) := by decide +kernel
theorem d_25_59 : decode (kby 25) 59 = .ok (.getfield 19, 3) := by decide +kernel
theorem d_25_62 : decode (kby 25) 62 = .ok (.iload_n 1, 1) := by decide +kernel
theorem d_25_63 : decode (kby 25) 63 = .ok (.iaload, 1) := by decide +kernel
theorem d_25_64 : decode (kby 25) 64 = .ok (.bipush 8, 2) := by decide +kernel
theorem d_25_66 : decode (kby 25) 66 = .ok (.ishr, 1) := by decide +kernel
theorem d_25_67 : decode (kby 25) 67 = .ok (.aload_n 0, 1) := by decide +kernel
theorem d_25_68 : decode (kby 25) 68 = .ok (.getfield 30, 3) := by decide +kernel
theorem d_25_71 : decode (kby 25) 71 = .ok (.if_icmp .ne 14, 3) := by decide +kernel
theorem d_25_74 : decode (kby 25) 74 = .ok (.aload_n 0, 1) := by decide +kernel
theorem d_25_75 : decode (kby 25) 75 = .ok (.getfield 19, 3) := by decide +kernel
theorem d_25_78 : decode (kby 25) 78 = .ok (.iload_n 1, 1) := by decide +kernel
theorem d_25_79 : decode (kby 25) 79 = .ok (.iaload, 1) := by decide +kernel
theorem d_25_80 : decode (kby 25) 80 = .ok (.sipush 255, 3) := by decide +kernel
theorem d_25_83 : decode (kby 25) 83 = .ok (.iand, 1) := by decide +kernel
theorem d_25_84 : decode (kby 25) 84 = .ok (.ireturn, 1) := by decide +kernel
theorem d_25_85 : decode (kby 25) 85 = .ok (.aload_n 0, 1) := by decide +kernel
theorem d_25_86 : decode (kby 25) 86 = .ok (.iload_n 1, 1) := by decide +kernel
theorem d_25_87 : decode (kby 25) 87 = .ok (.iload_n 2, 1) := by decide +kernel
theorem d_25_88 : decode (kby 25) 88 = .ok (.iconst 1, 1) := by decide +kernel
theorem d_25_89 : decode (kby 25) 89 = .ok (.iadd, 1) := by decide +kernel
theorem d_25_90 : decode (kby 25) 90 = .ok (.invokevirtual 95, 3) := by decide +kernel
theorem d_25_93 : decode (kby 25) 93 = .ok (.istore_n 3, 1) := by decide +kernel
theorem d_25_94 : decode (kby 25) 94 = .ok (.iload_n 3, 1) := by decide +kernel
theorem d_25_95 : decode (kby 25) 95 = .ok (.ifCond .lt 18, 3) := by decide +kernel
theorem d_25_98 : decode (kby 25) 98 = .ok (.aload_n 0, 1) := by decide +kernel
theorem d_25_99 : decode (kby 25) 99 = .ok (.getfield 19, 3) := by decide +kernel
theorem d_25_102 : decode (kby 25) 102 = .ok (.iload_n 1, 1) := by decide +kernel
theorem d_25_103 : decode (kby 25) 103 = .ok (.aload_n 0, 1) := by decide +kernel
theorem d_25_104 : decode (kby 25) 104 = .ok (.getfield 30, 3) := by decide +kernel
theorem d_25_107 : decode (kby 25) 107 = .ok (.bipush 8, 2) := by decide +kernel
theorem d_25_109 : decode (kby 25) 109 = .ok (.ishl, 1) := by decide +kernel
theorem d_25_110 : decode (kby 25) 110 = .ok (.iload_n 3, 1) := by decide +kernel
theorem d_25_111 : decode (kby 25) 111 = .ok (.ior, 1) := by decide +kernel
theorem d_25_112 : decode (kby 25) 112 = .ok (.iastore, 1) := by decide +kernel
theorem d_25_113 : decode (kby 25) 113 = .ok (.iload_n 3, 1) := by decide +kernel
theorem d_25_114 : decode (kby 25) 114 = .ok (.ireturn, 1) := by decide +kernel
set_option maxRecDepth 100000 in
theorem ka_25 : kall 25 0 kc_25 := And.intro (s_aload_n d_25_0 rfl) (And.intro (s_get d_25_1 (C := kR5) (T := kT5) (N := 8) rfl kjn5 (by decide +kernel) rfl kf_5_34) (And.intro (s_iconst d_25_4 (by decide +kernel)) (And.intro (s_icmp_ne d_25_5 (by decide +kernel)) (And.intro (s_aload_n d_25_8 rfl) (And.intro (s_get d_25_9 (C := kR5) (T := kT5) (N := 8) rfl kjn5 (by decide +kernel) rfl kf_5_22) (And.intro (s_get d_25_12 (C := kR1) (T := kT1) (N := 8) rfl kjn1 (by decide +kernel) rfl kf_5_93) (And.intro (s_iload_n d_25_15 rfl) (And.intro (s_baload d_25_16) (And.intro (s_if_ne d_25_17 (by decide +kernel)) (And.intro (s_iload_n d_25_20 rfl) (And.intro (s_ret d_25_21 rfl) (And.intro (s_iload_n d_25_22 rfl) (And.intro (s_aload_n d_25_23 rfl) (And.intro (s_get d_25_24 (C := kR5) (T := kT5) (N := 8) rfl kjn5 (by decide +kernel) rfl kf_5_37) (And.intro (s_icmp_ne d_25_27 (by decide +kernel)) (And.intro (s_aload_n d_25_30 rfl) (And.intro (s_get d_25_31 (C := kR5) (T := kT5) (N := 8) rfl kjn5 (by decide +kernel) rfl kf_5_40) (And.intro (s_ret d_25_34 rfl) (And.intro (s_aload_n d_25_35 rfl) (And.intro (s_get d_25_36 (C := kR5) (T := kT5) (N := 8) rfl kjn5 (by decide +kernel) rfl kf_5_22) (And.intro (s_get d_25_39 (C := kR1) (T := kT1) (N := 8) rfl kjn1 (by decide +kernel) rfl kf_5_94) (And.intro (s_iload_n d_25_42 rfl) (And.intro (s_iaload d_25_43) (And.intro (s_iconst d_25_44 (by decide +kernel)) (And.intro (s_icmp_eq d_25_45 (by decide +kernel)) (And.intro (s_iload_n d_25_48 rfl) (And.intro (s_ret d_25_49 rfl) (And.intro (s_iload_n d_25_50 rfl) (And.intro (s_bipush d_25_51 (by decide +kernel)) (And.intro (s_icmp_lt d_25_53 (by decide +kernel)) (And.intro (s_iconst d_25_56 (by decide +kernel)) (And.intro (s_ret d_25_57 rfl) (And.intro (s_aload_n d_25_58 rfl) (And.intro (s_get d_25_59 (C := kR5) (T := kT5) (N := 8) rfl kjn5 (by decide +kernel) rfl kf_5_19) (And.intro (s_iload_n d_25_62 rfl) (And.intro (s_iaload d_25_63) (And.intro (s_bipush d_25_64 (by decide +kernel)) (And.intro (s_ishr d_25_66) (And.intro (s_aload_n d_25_67 rfl) (And.intro (s_get d_25_68 (C := kR5) (T := kT5) (N := 8) rfl kjn5 (by decide +kernel) rfl kf_5_30) (And.intro (s_icmp_ne d_25_71 (by decide +kernel)) (And.intro (s_aload_n d_25_74 rfl) (And.intro (s_get d_25_75 (C := kR5) (T := kT5) (N := 8) rfl kjn5 (by decide +kernel) rfl kf_5_19) (And.intro (s_iload_n d_25_78 rfl) (And.intro (s_iaload d_25_79) (And.intro (s_sipush d_25_80 (by decide +kernel)) (And.intro (s_iand d_25_83) (And.intro (s_ret d_25_84 rfl) (And.intro (s_aload_n d_25_85 rfl) (And.intro (s_iload_n d_25_86 rfl) (And.intro (s_iload_n d_25_87 rfl) (And.intro (s_iconst d_25_88 (by decide +kernel)) (And.intro (s_iadd d_25_89) (And.intro (s_cv d_25_90 kl_5_95 k_im_26 k_se_26 kok_26 rfl (by decide +kernel) rfl rfl) (And.intro (s_istore_n d_25_93 rfl (by decide +kernel)) (And.intro (s_iload_n d_25_94 rfl) (And.intro (s_if_lt d_25_95 (by decide +kernel)) (And.intro (s_aload_n d_25_98 rfl) (And.intro (s_get d_25_99 (C := kR5) (T := kT5) (N := 8) rfl kjn5 (by decide +kernel) rfl kf_5_19) (And.intro (s_iload_n d_25_102 rfl) (And.intro (s_aload_n d_25_103 rfl) (And.intro (s_get d_25_104 (C := kR5) (T := kT5) (N := 8) rfl kjn5 (by decide +kernel) rfl kf_5_30) (And.intro (s_bipush d_25_107 (by decide +kernel)) (And.intro (s_ishl d_25_109) (And.intro (s_iload_n d_25_110 rfl) (And.intro (s_ior d_25_111) (And.intro (s_iastore d_25_112) (And.intro (s_iload_n d_25_113 rfl) (And.intro (s_ret d_25_114 rfl) (True.intro))))))))))))))))))))))))))))))))))))))))))))))))))))))))))))))))))))))
theorem d_26_0 : decode (kby 26) 0 = .ok (.aload_n 0, 1) := by decide +kernel
theorem d_26_1 : decode (kby 26) 1 = .ok (.aload_n 0, 1) := by decide +kernel
theorem d_26_2 : decode (kby 26) 2 = .ok (.getfield 22, 3) := by decide +kernel
theorem d_26_5 : decode (kby 26) 5 = .ok (.getfield 89, 3) := by decide +kernel
theorem d_26_8 : decode (kby 26) 8 = .ok (.iload_n 1, 1) := by decide +kernel
theorem d_26_9 : decode (kby 26) 9 = .ok (.iaload, 1) := by decide +kernel
theorem d_26_10 : decode (kby 26) 10 = .ok (.iload_n 2, 1) := by decide +kernel
theorem d_26_11 : decode (kby 26) 11 = .ok (.invokevirtual 90, 3) := by decide +kernel
theorem d_26_14 : decode (kby 26) 14 = .ok (.istore_n 3, 1) := by decide +kernel
theorem d_26_15 : decode (kby 26) 15 = .ok (.iload_n 3, 1) := by decide +kernel
theorem d_26_16 : decode (kby 26) 16 = .ok (.ifCond .ge 7, 3) := by decide +kernel
theorem d_26_19 : decode (kby 26) 19 = .ok (.iconst (-1), 1) := by decide +kernel
theorem d_26_20 : decode (kby 26) 20 = .ok (.goto 26, 3) := by decide +kernel
theorem d_26_23 : decode (kby 26) 23 = .ok (.aload_n 0, 1) := by decide +kernel
theorem d_26_24 : decode (kby 26) 24 = .ok (.getfield 22, 3) := by decide +kernel
theorem d_26_27 : decode (kby 26) 27 = .ok (.iconst 3, 1) := by decide +kernel
theorem d_26_28 : decode (kby 26) 28 = .ok (.iload_n 3, 1) := by decide +kernel
theorem d_26_29 : decode (kby 26) 29 = .ok (.aload_n 0, 1) := by decide +kernel
theorem d_26_30 : decode (kby 26) 30 = .ok (.aload_n 0, 1) := by decide +kernel
theorem d_26_31 : decode (kby 26) 31 = .ok (.getfield 22, 3) := by decide +kernel
theorem d_26_34 : decode (kby 26) 34 = .ok (.getfield 98, 3) := by decide +kernel
theorem d_26_37 : decode (kby 26) 37 = .ok (.iload_n 1, 1) := by decide +kernel
theorem d_26_38 : decode (kby 26) 38 = .ok (.iaload, 1) := by decide +kernel
theorem d_26_39 : decode (kby 26) 39 = .ok (.iload_n 2, 1) := by decide +kernel
theorem d_26_40 : decode (kby 26) 40 = .ok (.invokevirtual 90, 3) := by decide +kernel
theorem d_26_43 : decode (kby 26) 43 = .ok (.invokevirtual 99, 3) := by decide +kernel
theorem d_26_46 : decode (kby 26) 46 = .ok (.ireturn, 1) := by decide +kernel
set_option maxRecDepth 100000 in
theorem ka_26 : kall 26 0 kc_26 := And.intro (s_aload_n d_26_0 rfl) (And.intro (s_aload_n d_26_1 rfl) (And.intro (s_get d_26_2 (C := kR5) (T := kT5) (N := 8) rfl kjn5 (by decide +kernel) rfl kf_5_22) (And.intro (s_get d_26_5 (C := kR1) (T := kT1) (N := 8) rfl kjn1 (by decide +kernel) rfl kf_5_89) (And.intro (s_iload_n d_26_8 rfl) (And.intro (s_iaload d_26_9) (And.intro (s_iload_n d_26_10 rfl) (And.intro (s_cv d_26_11 kl_5_90 k_im_25 k_se_25 kok_25 rfl (by decide +kernel) rfl rfl) (And.intro (s_istore_n d_26_14 rfl (by decide +kernel)) (And.intro (s_iload_n d_26_15 rfl) (And.intro (s_if_ge d_26_16 (by decide +kernel)) (And.intro (s_iconst d_26_19 (by decide +kernel)) (And.intro (s_goto d_26_20 (by decide +kernel)) (And.intro (s_aload_n d_26_23 rfl) (And.intro (s_get d_26_24 (C := kR5) (T := kT5) (N := 8) rfl kjn5 (by decide +kernel) rfl kf_5_22) (And.intro (s_iconst d_26_27 (by decide +kernel)) (And.intro (s_iload_n d_26_28 rfl) (And.intro (s_aload_n d_26_29 rfl) (And.intro (s_aload_n d_26_30 rfl) (And.intro (s_get d_26_31 (C := kR5) (T := kT5) (N := 8) rfl kjn5 (by decide +kernel) rfl kf_5_22) (And.intro (s_get d_26_34 (C := kR1) (T := kT1) (N := 8) rfl kjn1 (by decide +kernel) rfl kf_5_98) (And.intro (s_iload_n d_26_37 rfl) (And.intro (s_iaload d_26_38) (And.intro (s_iload_n d_26_39 rfl) (And.intro (s_cv d_26_40 kl_5_90 k_im_25 k_se_25 kok_25 rfl (by decide +kernel) rfl rfl) (And.intro (s_cv d_26_43 kl_5_99 k_im_0 k_se_0 kok_0 rfl (by decide +kernel) rfl rfl) (And.intro (s_ret d_26_46 rfl) (True.intro)))))))))))))))))))))))))))
theorem d_27_0 : decode (kby 27) 0 = .ok (.iload_n 2, 1) := by decide +kernel
theorem d_27_1 : decode (kby 27) 1 = .ok (.ifCond .ge 5, 3) := by decide +kernel
theorem d_27_4 : decode (kby 27) 4 = .ok (.iconst (-1), 1) := by decide +kernel
theorem d_27_5 : decode (kby 27) 5 = .ok (.ireturn, 1) := by decide +kernel
theorem d_27_6 : decode (kby 27) 6 = .ok (.aload_n 0, 1) := by decide +kernel
theorem d_27_7 : decode (kby 27) 7 = .ok (.iconst 4, 1) := by decide +kernel
theorem d_27_8 : decode (kby 27) 8 = .ok (.iload_n 2, 1) := by decide +kernel
theorem d_27_9 : decode (kby 27) 9 = .ok (.iload_n 2, 1) := by decide +kernel
theorem d_27_10 : decode (kby 27) 10 = .ok (.aload_n 0, 1) := by decide +kernel
theorem d_27_11 : decode (kby 27) 11 = .ok (.getfield 55, 3) := by decide +kernel
theorem d_27_14 : decode (kby 27) 14 = .ok (.iconst 3, 1) := by decide +kernel
theorem d_27_15 : decode (kby 27) 15 = .ok (.iload_n 1, 1) := by decide +kernel
theorem d_27_16 : decode (kby 27) 16 = .ok (.aload_n 0, 1) := by decide +kernel
theorem d_27_17 : decode (kby 27) 17 = .ok (.getfield 30, 3) := by decide +kernel
theorem d_27_20 : decode (kby 27) 20 = .ok (.iload_n 2, 1) := by decide +kernel
theorem d_27_21 : decode (kby 27) 21 = .ok (.iaload, 1) := by decide +kernel
theorem d_27_22 : decode (kby 27) 22 = .ok (.invokevirtual 85, 3) := by decide +kernel
theorem d_27_25 : decode (kby 27) 25 = .ok (.invokevirtual 89, 3) := by decide +kernel
theorem d_27_28 : decode (kby 27) 28 = .ok (.ireturn, 1) := by decide +kernel
set_option maxRecDepth 100000 in
theorem ka_27 : kall 27 0 kc_27 := And.intro (s_iload_n d_27_0 rfl) (And.intro (s_if_ge d_27_1 (by decide +kernel)) (And.intro (s_iconst d_27_4 (by decide +kernel)) (And.intro (s_ret d_27_5 rfl) (And.intro (s_aload_n d_27_6 rfl) (And.intro (s_iconst d_27_7 (by decide +kernel)) (And.intro (s_iload_n d_27_8 rfl) (And.intro (s_iload_n d_27_9 rfl) (And.intro (s_aload_n d_27_10 rfl) (And.intro (s_get d_27_11 (C := kR3) (T := kT3) (N := 15) rfl kjn3 (by decide +kernel) rfl kf_3_55) (And.intro (s_iconst d_27_14 (by decide +kernel)) (And.intro (s_iload_n d_27_15 rfl) (And.intro (s_aload_n d_27_16 rfl) (And.intro (s_get d_27_17 (C := kR3) (T := kT3) (N := 15) rfl kjn3 (by decide +kernel) rfl kf_3_30) (And.intro (s_iload_n d_27_20 rfl) (And.intro (s_iaload d_27_21) (And.intro (s_cv d_27_22 kl_3_85 k_im_0 k_se_0 kok_0 rfl (by decide +kernel) rfl rfl) (And.intro (s_cv d_27_25 kl_3_89 k_im_11 k_se_11 kok_11 rfl (by decide +kernel) rfl rfl) (And.intro (s_ret d_27_28 rfl) (True.intro)))))))))))))))))))
theorem d_28_0 : decode (kby 28) 0 = .ok (.aload_n 0, 1) := by decide +kernel
theorem d_28_1 : decode (kby 28) 1 = .ok (.getfield 46, 3) := by decide +kernel
theorem d_28_4 : decode (kby 28) 4 = .ok (.iconst 0, 1) := by decide +kernel
theorem d_28_5 : decode (kby 28) 5 = .ok (.iconst 0, 1) := by decide +kernel
theorem d_28_6 : decode (kby 28) 6 = .ok (.invokevirtual 91, 3) := by decide +kernel
theorem d_28_9 : decode (kby 28) 9 = .ok (.aload_n 0, 1) := by decide +kernel
theorem d_28_10 : decode (kby 28) 10 = .ok (.aload_n 0, 1) := by decide +kernel
theorem d_28_11 : decode (kby 28) 11 = .ok (.getfield 46, 3) := by decide +kernel
theorem d_28_14 : decode (kby 28) 14 = .ok (.iload_n 1, 1) := by decide +kernel
theorem d_28_15 : decode (kby 28) 15 = .ok (.iload_n 2, 1) := by decide +kernel
theorem d_28_16 : decode (kby 28) 16 = .ok (.iload_n 3, 1) := by decide +kernel
theorem d_28_17 : decode (kby 28) 17 = .ok (.iload 4, 2) := by decide +kernel
theorem d_28_19 : decode (kby 28) 19 = .ok (.invokevirtual 95, 3) := by decide +kernel
theorem d_28_22 : decode (kby 28) 22 = .ok (.invokevirtual 98, 3) := by decide +kernel
theorem d_28_25 : decode (kby 28) 25 = .ok (.ireturn, 1) := by decide +kernel
set_option maxRecDepth 100000 in
theorem ka_28 : kall 28 0 kc_28 := And.intro (s_aload_n d_28_0 rfl) (And.intro (s_get d_28_1 (C := kR0) (T := kT0) (N := 8) rfl kjn0 (by decide +kernel) rfl kf_0_46) (And.intro (s_iconst d_28_4 (by decide +kernel)) (And.intro (s_iconst d_28_5 (by decide +kernel)) (And.intro (s_cw d_28_6 kl_0_91 k_im_29 k_se_29 kok_29 rfl (by decide +kernel) rfl rfl) (And.intro (s_aload_n d_28_9 rfl) (And.intro (s_aload_n d_28_10 rfl) (And.intro (s_get d_28_11 (C := kR0) (T := kT0) (N := 8) rfl kjn0 (by decide +kernel) rfl kf_0_46) (And.intro (s_iload_n d_28_14 rfl) (And.intro (s_iload_n d_28_15 rfl) (And.intro (s_iload_n d_28_16 rfl) (And.intro (s_iload d_28_17) (And.intro (s_cv d_28_19 kl_0_95 k_im_30 k_se_30 kok_30 rfl (by decide +kernel) rfl rfl) (And.intro (s_cv d_28_22 kl_0_98 k_im_4 k_se_4 kok_4 rfl (by decide +kernel) rfl rfl) (And.intro (s_ret d_28_25 rfl) (True.intro)))))))))))))))
theorem d_29_0 : decode (kby 29) 0 = .ok (.aload_n 0, 1) := by decide +kernel
theorem d_29_1 : decode (kby 29) 1 = .ok (.iload_n 1, 1) := by decide +kernel
theorem d_29_2 : decode (kby 29) 2 = .ok (.putfield 27, 3) := by decide +kernel
theorem d_29_5 : decode (kby 29) 5 = .ok (.aload_n 0, 1) := by decide +kernel
theorem d_29_6 : decode (kby 29) 6 = .ok (.iload_n 2, 1) := by decide +kernel
theorem d_29_7 : decode (kby 29) 7 = .ok (.putfield 31, 3) := by decide +kernel
theorem d_29_10 : decode (kby 29) 10 = .ok (.return_, 1) := by decide +kernel
set_option maxRecDepth 100000 in
theorem ka_29 : kall 29 0 kc_29 := And.intro (s_aload_n d_29_0 rfl) (And.intro (s_iload_n d_29_1 rfl) (And.intro (s_put d_29_2 (C := kR6) (T := kT6) (N := 6) rfl kjn6 (by decide +kernel) rfl kf_6_27 kt6 kty6 knm6 rfl (by decide +kernel)) (And.intro (s_aload_n d_29_5 rfl) (And.intro (s_iload_n d_29_6 rfl) (And.intro (s_put d_29_7 (C := kR6) (T := kT6) (N := 6) rfl kjn6 (by decide +kernel) rfl kf_6_31 kt6 kty6 knm6 rfl (by decide +kernel)) (And.intro (s_rv d_29_10 rfl) (True.intro)))))))
theorem d_30_0 : decode (kby 30) 0 = .ok (.aload_n 0, 1) := by decide +kernel
theorem d_30_1 : decode (kby 30) 1 = .ok (.getfield 19, 3) := by decide +kernel
theorem d_30_4 : decode (kby 30) 4 = .ok (.invokevirtual 34, 3) := by decide +kernel
theorem d_30_7 : decode (kby 30) 7 = .ok (.iload_n 1, 1) := by decide +kernel
theorem d_30_8 : decode (kby 30) 8 = .ok (.tableswitch 230 0 10 #[60, 70, 85, 100, 115, 125, 135, 150, 165, 190, 215], 60) := by decide +kernel
theorem d_30_68 : decode (kby 30) 68 = .ok (.aload_n 0, 1) := by decide +kernel
theorem d_30_69 : decode (kby 30) 69 = .ok (.aload_n 0, 1) := by decide +kernel
theorem d_30_70 : decode (kby 30) 70 = .ok (.iload_n 2, 1) := by decide +kernel
theorem d_30_71 : decode (kby 30) 71 = .ok (.invokevirtual 39, 3) := by decide +kernel
theorem d_30_74 : decode (kby 30) 74 = .ok (.invokevirtual 43, 3) := by decide +kernel
theorem d_30_77 : decode (kby 30) 77 = .ok (.ireturn, 1) := by decide +kernel
theorem d_30_78 : decode (kby 30) 78 = .ok (.aload_n 0, 1) := by decide +kernel
theorem d_30_79 : decode (kby 30) 79 = .ok (.aload_n 0, 1) := by decide +kernel
theorem d_30_80 : decode (kby 30) 80 = .ok (.iload_n 2, 1) := by decide +kernel
theorem d_30_81 : decode (kby 30) 81 = .ok (.invokevirtual 46, 3) := by decide +kernel
theorem d_30_84 : decode (kby 30) 84 = .ok (.aload_n 0, 1) := by decide +kernel
theorem d_30_85 : decode (kby 30) 85 = .ok (.iload_n 3, 1) := by decide +kernel
theorem d_30_86 : decode (kby 30) 86 = .ok (.invokevirtual 46, 3) := by decide +kernel
theorem d_30_89 : decode (kby 30) 89 = .ok (.invokevirtual 49, 3) := by decide +kernel
theorem d_30_92 : decode (kby 30) 92 = .ok (.ireturn, 1) := by decide +kernel
theorem d_30_93 : decode (kby 30) 93 = .ok (.aload_n 0, 1) := by decide +kernel
theorem d_30_94 : decode (kby 30) 94 = .ok (.aload_n 0, 1) := by decide +kernel
theorem d_30_95 : decode (kby 30) 95 = .ok (.iload_n 2, 1) := by decide +kernel
theorem d_30_96 : decode (kby 30) 96 = .ok (.invokevirtual 46, 3) := by decide +kernel
theorem d_30_99 : decode (kby 30) 99 = .ok (.aload_n 0, 1) := by decide +kernel
theorem d_30_100 : decode (kby 30) 100 = .ok (.iload_n 3, 1) := by decide +kernel
theorem d_30_101 : decode (kby 30) 101 = .ok (.invokevirtual 46, 3) := by decide +kernel
theorem d_30_104 : decode (kby 30) 104 = .ok (.invokevirtual 53, 3) := by decide +kernel
theorem d_30_107 : decode (kby 30) 107 = .ok (.ireturn, 1) := by decide +kernel
theorem d_30_108 : decode (kby 30) 108 = .ok (.aload_n 0, 1) := by decide +kernel
theorem d_30_109 : decode (kby 30) 109 = .ok (.aload_n 0, 1) := by decide +kernel
theorem d_30_110 : decode (kby 30) 110 = .ok (.iload_n 2, 1) := by decide +kernel
theorem d_30_111 : decode (kby 30) 111 = .ok (.invokevirtual 39, 3) := by decide +kernel
theorem d_30_114 : decode (kby 30) 114 = .ok (.aload_n 0, 1) := by decide +kernel
theorem d_30_115 : decode (kby 30) 115 = .ok (.iload_n 3, 1) := by decide +kernel
theorem d_30_116 : decode (kby 30) 116 = .ok (.invokevirtual 46, 3) := by decide +kernel
theorem d_30_119 : decode (kby 30) 119 = .ok (.invokevirtual 56, 3) := by decide +kernel
theorem d_30_122 : decode (kby 30) 122 = .ok (.ireturn, 1) := by decide +kernel
theorem d_30_123 : decode (kby 30) 123 = .ok (.aload_n 0, 1) := by decide +kernel
theorem d_30_124 : decode (kby 30) 124 = .ok (.aload_n 0, 1) := by decide +kernel
theorem d_30_125 : decode (kby 30) 125 = .ok (.iload_n 2, 1) := by decide +kernel
theorem d_30_126 : decode (kby 30) 126 = .ok (.invokevirtual 39, 3) := by decide +kernel
theorem d_30_129 : decode (kby 30) 129 = .ok (.invokevirtual 59, 3) := by decide +kernel
theorem d_30_132 : decode (kby 30) 132 = .ok (.ireturn, 1) := by decide +kernel
theorem d_30_133 : decode (kby 30) 133 = .ok (.aload_n 0, 1) := by decide +kernel
theorem d_30_134 : decode (kby 30) 134 = .ok (.aload_n 0, 1) := by decide +kernel
theorem d_30_135 : decode (kby 30) 135 = .ok (.iload_n 2, 1) := by decide +kernel
theorem d_30_136 : decode (kby 30) 136 = .ok (.invokevirtual 39, 3) := by decide +kernel
theorem d_30_139 : decode (kby 30) 139 = .ok (.invokevirtual 62, 3) := by decide +kernel
theorem d_30_142 : decode (kby 30) 142 = .ok (.ireturn, 1) := by decide +kernel
theorem d_30_143 : decode (kby 30) 143 = .ok (.aload_n 0, 1) := by decide +kernel
theorem d_30_144 : decode (kby 30) 144 = .ok (.aload_n 0, 1) := by decide +kernel
theorem d_30_145 : decode (kby 30) 145 = .ok (.iload_n 2, 1) := by decide +kernel
theorem d_30_146 : decode (kby 30) 146 = .ok (.invokevirtual 46, 3) := by decide +kernel
theorem d_30_149 : decode (kby 30) 149 = .ok (.aload_n 0, 1) := by decide +kernel
theorem d_30_150 : decode (kby 30) 150 = .ok (.iload_n 3, 1) := by decide +kernel
theorem d_30_151 : decode (kby 30) 151 = .ok (.invokevirtual 46, 3) := by decide +kernel
theorem d_30_154 : decode (kby 30) 154 = .ok (.invokevirtual 65, 3) := by decide +kernel
theorem d_30_157 : decode (kby 30) 157 = .ok (.ireturn, 1) := by decide +kernel
theorem d_30_158 : decode (kby 30) 158 = .ok (.aload_n 0, 1) := by decide +kernel
theorem d_30_159 : decode (kby 30) 159 = .ok (.aload_n 0, 1) := by decide +kernel
theorem d_30_160 : decode (kby 30) 160 = .ok (.iload_n 2, 1) := by decide +kernel
theorem d_30_161 : decode (kby 30) 161 = .ok (.invokevirtual 46, 3) := by decide +kernel
theorem d_30_164 : decode (kby 30) 164 = .ok (.aload_n 0, 1) := by decide +kernel
theorem d_30_165 : decode (kby 30) 165 = .ok (.iload_n 3, 1) := by decide +kernel
theorem d_30_166 : decode (kby 30) 166 = .ok (.invokevirtual 46, 3) := by decide +kernel
theorem d_30_169 : decode (kby 30) 169 = .ok (.invokevirtual 68, 3) := by decide +kernel
theorem d_30_172 : decode (kby 30) 172 = .ok (.ireturn, 1) := by decide +kernel
theorem d_30_173 : decode (kby 30) 173 = .ok (.aload_n 0, 1) := by decide +kernel
theorem d_30_174 : decode (kby 30) 174 = .ok (.aload_n 0, 1) := by decide +kernel
theorem d_30_175 : decode (kby 30) 175 = .ok (.iload_n 2, 1) := by decide +kernel
theorem d_30_176 : decode (kby 30) 176 = .ok (.invokevirtual 46, 3) := by decide +kernel
theorem d_30_179 : decode (kby 30) 179 = .ok (.aload_n 0, 1) := by decide +kernel
theorem d_30_180 : decode (kby 30) 180 = .ok (.aload_n 0, 1) := by decide +kernel
theorem d_30_181 : decode (kby 30) 181 = .ok (.iload_n 3, 1) := by decide +kernel
theorem d_30_182 : decode (kby 30) 182 = .ok (.invokevirtual 39, 3) := by decide +kernel
theorem d_30_185 : decode (kby 30) 185 = .ok (.aload_n 0, 1) := by decide +kernel
theorem d_30_186 : decode (kby 30) 186 = .ok (.iload 4, 2) := by decide +kernel
theorem d_30_188 : decode (kby 30) 188 = .ok (.invokevirtual 39, 3) := by decide +kernel
theorem d_30_191 : decode (kby 30) 191 = .ok (.invokevirtual 71, 3) := by decide +kernel
theorem d_30_194 : decode (kby 30) 194 = .ok (.invokevirtual 75, 3) := by decide +kernel
theorem d_30_197 : decode (kby 30) 197 = .ok (.ireturn, 1) := by decide +kernel
theorem d_30_198 : decode (kby 30) 198 = .ok (.aload_n 0, 1) := by decide +kernel
theorem d_30_199 : decode (kby 30) 199 = .ok (.aload_n 0, 1) := by decide +kernel
theorem d_30_200 : decode (kby 30) 200 = .ok (.iload_n 2, 1) := by decide +kernel
theorem d_30_201 : decode (kby 30) 201 = .ok (.invokevirtual 46, 3) := by decide +kernel
theorem d_30_204 : decode (kby 30) 204 = .ok (.aload_n 0, 1) := by decide +kernel
theorem d_30_205 : decode (kby 30) 205 = .ok (.aload_n 0, 1) := by decide +kernel
theorem d_30_206 : decode (kby 30) 206 = .ok (.iload_n 3, 1) := by decide +kernel
theorem d_30_207 : decode (kby 30) 207 = .ok (.invokevirtual 79, 3) := by decide +kernel
theorem d_30_210 : decode (kby 30) 210 = .ok (.aload_n 0, 1) := by decide +kernel
theorem d_30_211 : decode (kby 30) 211 = .ok (.iload 4, 2) := by decide +kernel
theorem d_30_213 : decode (kby 30) 213 = .ok (.invokevirtual 79, 3) := by decide +kernel
theorem d_30_216 : decode (kby 30) 216 = .ok (.invokevirtual 82, 3) := by decide +kernel
theorem d_30_219 : decode (kby 30) 219 = .ok (.invokevirtual 75, 3) := by decide +kernel
theorem d_30_222 : decode (kby 30) 222 = .ok (.ireturn, 1) := by decide +kernel
theorem d_30_223 : decode (kby 30) 223 = .ok (.aload_n 0, 1) := by decide +kernel
theorem d_30_224 : decode (kby 30) 224 = .ok (.aload_n 0, 1) := by decide +kernel
theorem d_30_225 : decode (kby 30) 225 = .ok (.iload_n 2, 1) := by decide +kernel
theorem d_30_226 : decode (kby 30) 226 = .ok (.invokevirtual 46, 3) := by decide +kernel
theorem d_30_229 : decode (kby 30) 229 = .ok (.aload_n 0, 1) := by decide +kernel
theorem d_30_230 : decode (kby 30) 230 = .ok (.iload_n 3, 1) := by decide +kernel
theorem d_30_231 : decode (kby 30) 231 = .ok (.invokevirtual 46, 3) := by decide +kernel
theorem d_30_234 : decode (kby 30) 234 = .ok (.invokevirtual 85, 3) := by decide +kernel
theorem d_30_237 : decode (kby 30) 237 = .ok (.ireturn, 1) := by decide +kernel
theorem d_30_238 : decode (kby 30) 238 = .ok (.iconst (-1), 1) := by decide +kernel
theorem d_30_239 : decode (kby 30) 239 = .ok (.ireturn, 1) := by decide +kernel
set_option maxRecDepth 100000 in
theorem ka_30 : kall 30 0 kc_30 := And.intro (s_aload_n d_30_0 rfl) (And.intro (s_get d_30_1 (C := kR6) (T := kT6) (N := 6) rfl kjn6 (by decide +kernel) rfl kf_6_19) (And.intro (s_cw d_30_4 kl_6_34 k_im_31 k_se_31 kok_31 rfl (by decide +kernel) rfl rfl) (And.intro (s_iload_n d_30_7 rfl) (And.intro (s_switch d_30_8 (by decide +kernel)) (And.intro (s_aload_n d_30_68 rfl) (And.intro (s_aload_n d_30_69 rfl) (And.intro (s_iload_n d_30_70 rfl) (And.intro (s_cv d_30_71 kl_6_39 k_im_32 k_se_32 kok_32 rfl (by decide +kernel) rfl rfl) (And.intro (s_cv d_30_74 kl_6_43 k_im_33 k_se_33 kok_33 rfl (by decide +kernel) rfl rfl) (And.intro (s_ret d_30_77 rfl) (And.intro (s_aload_n d_30_78 rfl) (And.intro (s_aload_n d_30_79 rfl) (And.intro (s_iload_n d_30_80 rfl) (And.intro (s_cv d_30_81 kl_6_46 k_im_37 k_se_37 kok_37 rfl (by decide +kernel) rfl rfl) (And.intro (s_aload_n d_30_84 rfl) (And.intro (s_iload_n d_30_85 rfl) (And.intro (s_cv d_30_86 kl_6_46 k_im_37 k_se_37 kok_37 rfl (by decide +kernel) rfl rfl) (And.intro (s_cv d_30_89 kl_6_49 k_im_39 k_se_39 kok_39 rfl (by decide +kernel) rfl rfl) (And.intro (s_ret d_30_92 rfl) (And.intro (s_aload_n d_30_93 rfl) (And.intro (s_aload_n d_30_94 rfl) (And.intro (s_iload_n d_30_95 rfl) (And.intro (s_cv d_30_96 kl_6_46 k_im_37 k_se_37 kok_37 rfl (by decide +kernel) rfl rfl) (And.intro (s_aload_n d_30_99 rfl) (And.intro (s_iload_n d_30_100 rfl) (And.intro (s_cv d_30_101 kl_6_46 k_im_37 k_se_37 kok_37 rfl (by decide +kernel) rfl rfl) (And.intro (s_cv d_30_104 kl_6_53 k_im_52 k_se_52 kok_52 rfl (by decide +kernel) rfl rfl) (And.intro (s_ret d_30_107 rfl) (And.intro (s_aload_n d_30_108 rfl) (And.intro (s_aload_n d_30_109 rfl) (And.intro (s_iload_n d_30_110 rfl) (And.intro (s_cv d_30_111 kl_6_39 k_im_32 k_se_32 kok_32 rfl (by decide +kernel) rfl rfl) (And.intro (s_aload_n d_30_114 rfl) (And.intro (s_iload_n d_30_115 rfl) (And.intro (s_cv d_30_116 kl_6_46 k_im_37 k_se_37 kok_37 rfl (by decide +kernel) rfl rfl) (And.intro (s_cv d_30_119 kl_6_56 k_im_53 k_se_53 kok_53 rfl (by decide +kernel) rfl rfl) (And.intro (s_ret d_30_122 rfl) (And.intro (s_aload_n d_30_123 rfl) (And.intro (s_aload_n d_30_124 rfl) (And.intro (s_iload_n d_30_125 rfl) (And.intro (s_cv d_30_126 kl_6_39 k_im_32 k_se_32 kok_32 rfl (by decide +kernel) rfl rfl) (And.intro (s_cv d_30_129 kl_6_59 k_im_57 k_se_57 kok_57 rfl (by decide +kernel) rfl rfl) (And.intro (s_ret d_30_132 rfl) (And.intro (s_aload_n d_30_133 rfl) (And.intro (s_aload_n d_30_134 rfl) (And.intro (s_iload_n d_30_135 rfl) (And.intro (s_cv d_30_136 kl_6_39 k_im_32 k_se_32 kok_32 rfl (by decide +kernel) rfl rfl) (And.intro (s_cv d_30_139 kl_6_62 k_im_59 k_se_59 kok_59 rfl (by decide +kernel) rfl rfl) (And.intro (s_ret d_30_142 rfl) (And.intro (s_aload_n d_30_143 rfl) (And.intro (s_aload_n d_30_144 rfl) (And.intro (s_iload_n d_30_145 rfl) (And.intro (s_cv d_30_146 kl_6_46 k_im_37 k_se_37 kok_37 rfl (by decide +kernel) rfl rfl) (And.intro (s_aload_n d_30_149 rfl) (And.intro (s_iload_n d_30_150 rfl) (And.intro (s_cv d_30_151 kl_6_46 k_im_37 k_se_37 kok_37 rfl (by decide +kernel) rfl rfl) (And.intro (s_cv d_30_154 kl_6_65 k_im_60 k_se_60 kok_60 rfl (by decide +kernel) rfl rfl) (And.intro (s_ret d_30_157 rfl) (And.intro (s_aload_n d_30_158 rfl) (And.intro (s_aload_n d_30_159 rfl) (And.intro (s_iload_n d_30_160 rfl) (And.intro (s_cv d_30_161 kl_6_46 k_im_37 k_se_37 kok_37 rfl (by decide +kernel) rfl rfl) (And.intro (s_aload_n d_30_164 rfl) (And.intro (s_iload_n d_30_165 rfl) (And.intro (s_cv d_30_166 kl_6_46 k_im_37 k_se_37 kok_37 rfl (by decide +kernel) rfl rfl) (And.intro (s_cv d_30_169 kl_6_68 k_im_61 k_se_61 kok_61 rfl (by decide +kernel) rfl rfl) (And.intro (s_ret d_30_172 rfl) (And.intro (s_aload_n d_30_173 rfl) (And.intro (s_aload_n d_30_174 rfl) (And.intro (s_iload_n d_30_175 rfl) (And.intro (s_cv d_30_176 kl_6_46 k_im_37 k_se_37 kok_37 rfl (by decide +kernel) rfl rfl) (And.intro (s_aload_n d_30_179 rfl) (And.intro (s_aload_n d_30_180 rfl) (And.intro (s_iload_n d_30_181 rfl) (And.intro (s_cv d_30_182 kl_6_39 k_im_32 k_se_32 kok_32 rfl (by decide +kernel) rfl rfl) (And.intro (s_aload_n d_30_185 rfl) (And.intro (s_iload d_30_186) (And.intro (s_cv d_30_188 kl_6_39 k_im_32 k_se_32 kok_32 rfl (by decide +kernel) rfl rfl) (And.intro (s_cv d_30_191 kl_6_71 k_im_62 k_se_62 kok_62 rfl (by decide +kernel) rfl rfl) (And.intro (s_cv d_30_194 kl_6_75 k_im_63 k_se_63 kok_63 rfl (by decide +kernel) rfl rfl) (And.intro (s_ret d_30_197 rfl) (And.intro (s_aload_n d_30_198 rfl) (And.intro (s_aload_n d_30_199 rfl) (And.intro (s_iload_n d_30_200 rfl) (And.intro (s_cv d_30_201 kl_6_46 k_im_37 k_se_37 kok_37 rfl (by decide +kernel) rfl rfl) (And.intro (s_aload_n d_30_204 rfl) (And.intro (s_aload_n d_30_205 rfl) (And.intro (s_iload_n d_30_206 rfl) (And.intro (s_cv d_30_207 kl_6_79 k_im_65 k_se_65 kok_65 rfl (by decide +kernel) rfl rfl) (And.intro (s_aload_n d_30_210 rfl) (And.intro (s_iload d_30_211) (And.intro (s_cv d_30_213 kl_6_79 k_im_65 k_se_65 kok_65 rfl (by decide +kernel) rfl rfl) (And.intro (s_cv d_30_216 kl_6_82 k_im_66 k_se_66 kok_66 rfl (by decide +kernel) rfl rfl) (And.intro (s_cv d_30_219 kl_6_75 k_im_63 k_se_63 kok_63 rfl (by decide +kernel) rfl rfl) (And.intro (s_ret d_30_222 rfl) (And.intro (s_aload_n d_30_223 rfl) (And.intro (s_aload_n d_30_224 rfl) (And.intro (s_iload_n d_30_225 rfl) (And.intro (s_cv d_30_226 kl_6_46 k_im_37 k_se_37 kok_37 rfl (by decide +kernel) rfl rfl) (And.intro (s_aload_n d_30_229 rfl) (And.intro (s_iload_n d_30_230 rfl) (And.intro (s_cv d_30_231 kl_6_46 k_im_37 k_se_37 kok_37 rfl (by decide +kernel) rfl rfl) (And.intro (s_cv d_30_234 kl_6_85 k_im_68 k_se_68 kok_68 rfl (by decide +kernel) rfl rfl) (And.intro (s_ret d_30_237 rfl) (And.intro (s_iconst d_30_238 (by decide +kernel)) (And.intro (s_ret d_30_239 rfl) (True.intro)))))))))))))))))))))))))))))))))))))))))))))))))))))))))))))))))))))))))))))))))))))))))))))))))))))))))))
theorem d_31_0 : decode (kby 31) 0 = .ok (.aload_n 0, 1) := by decide +kernel
theorem d_31_1 : decode (kby 31) 1 = .ok (.iconst 0, 1) := by decide +kernel
theorem d_31_2 : decode (kby 31) 2 = .ok (.putfield 43, 3) := by decide +kernel
theorem d_31_5 : decode (kby 31) 5 = .ok (.aload_n 0, 1) := by decide +kernel
theorem d_31_6 : decode (kby 31) 6 = .ok (.iconst 0, 1) := by decide +kernel
theorem d_31_7 : decode (kby 31) 7 = .ok (.putfield 46, 3) := by decide +kernel
theorem d_31_10 : decode (kby 31) 10 = .ok (.return_, 1) := by decide +kernel
set_option maxRecDepth 100000 in
theorem ka_31 : kall 31 0 kc_31 := And.intro (s_aload_n d_31_0 rfl) (And.intro (s_iconst d_31_1 (by decide +kernel)) (And.intro (s_put d_31_2 (C := kR4) (T := kT4) (N := 8) rfl kjn4 (by decide +kernel) rfl kf_4_43 kt4 kty4 knm4 rfl (by decide +kernel)) (And.intro (s_aload_n d_31_5 rfl) (And.intro (s_iconst d_31_6 (by decide +kernel)) (And.intro (s_putz d_31_7 (C := kR4) (T := kT4) (N := 8) rfl kjn4 (by decide +kernel) rfl kf_4_46 kt4 kty4 knm4 rfl (by decide +kernel)) (And.intro (s_rv d_31_10 rfl) (True.intro)))))))
theorem d_32_0 : decode (kby 32) 0 = .ok (.aload_n 0, 1) := by decide +kernel
theorem d_32_1 : decode (kby 32) 1 = .ok (.getfield 15, 3) := by decide +kernel
theorem d_32_4 : decode (kby 32) 4 = .ok (.getfield 88, 3) := by decide +kernel
theorem d_32_7 : decode (kby 32) 7 = .ok (.iload_n 1, 1) := by decide +kernel
theorem d_32_8 : decode (kby 32) 8 = .ok (.invokevirtual 94, 3) := by decide +kernel
theorem d_32_11 : decode (kby 32) 11 = .ok (.ireturn, 1) := by decide +kernel
set_option maxRecDepth 100000 in
theorem ka_32 : kall 32 0 kc_32 := And.intro (s_aload_n d_32_0 rfl) (And.intro (s_get d_32_1 (C := kR6) (T := kT6) (N := 6) rfl kjn6 (by decide +kernel) rfl kf_6_15) (And.intro (s_get d_32_4 (C := kR3) (T := kT3) (N := 15) rfl kjn3 (by decide +kernel) rfl kf_6_88) (And.intro (s_iload_n d_32_7 rfl) (And.intro (s_cv d_32_8 kl_6_94 k_im_9 k_se_9 kok_9 rfl (by decide +kernel) rfl rfl) (And.intro (s_ret d_32_11 rfl) (True.intro))))))
theorem d_33_0 : decode (kby 33) 0 = .ok (.aload_n 0, 1) := by decide +kernel
theorem d_33_1 : decode (kby 33) 1 = .ok (.getfield 19, 3) := by decide +kernel
theorem d_33_4 : decode (kby 33) 4 = .ok (.aload_n 0, 1) := by decide +kernel
theorem d_33_5 : decode (kby 33) 5 = .ok (.getfield 15, 3) := by decide +kernel
theorem d_33_8 : decode (kby 33) 8 = .ok (.iload_n 1, 1) := by decide +kernel
theorem d_33_9 : decode (kby 33) 9 = .ok (.iload_n 1, 1) := by decide +kernel
theorem d_33_10 : decode (kby 33) 10 = .ok (.invokevirtual 122, 3) := by decide +kernel
theorem d_33_13 : decode (kby 33) 13 = .ok (.invokevirtual 119, 3) := by decide +kernel
theorem d_33_16 : decode (kby 33) 16 = .ok (.ireturn, 1) := by decide +kernel
set_option maxRecDepth 100000 in
theorem ka_33 : kall 33 0 kc_33 := And.intro (s_aload_n d_33_0 rfl) (And.intro (s_get d_33_1 (C := kR6) (T := kT6) (N := 6) rfl kjn6 (by decide +kernel) rfl kf_6_19) (And.intro (s_aload_n d_33_4 rfl) (And.intro (s_get d_33_5 (C := kR6) (T := kT6) (N := 6) rfl kjn6 (by decide +kernel) rfl kf_6_15) (And.intro (s_iload_n d_33_8 rfl) (And.intro (s_iload_n d_33_9 rfl) (And.intro (s_cv d_33_10 kl_6_122 k_im_34 k_se_34 kok_34 rfl (by decide +kernel) rfl rfl) (And.intro (s_cv d_33_13 kl_6_119 k_im_36 k_se_36 kok_36 rfl (by decide +kernel) rfl rfl) (And.intro (s_ret d_33_16 rfl) (True.intro)))))))))
theorem d_34_0 : decode (kby 34) 0 = .ok (.aload_n 0, 1) := by decide +kernel
theorem d_34_1 : decode (kby 34) 1 = .ok (.aload_n 0, 1) := by decide +kernel
theorem d_34_2 : decode (kby 34) 2 = .ok (.aload_n 0, 1) := by decide +kernel
theorem d_34_3 : decode (kby 34) 3 = .ok (.aload_n 0, 1) := by decide +kernel
theorem d_34_4 : decode (kby 34) 4 = .ok (.iload_n 1, 1) := by decide +kernel
theorem d_34_5 : decode (kby 34) 5 = .ok (.invokevirtual 97, 3) := by decide +kernel
theorem d_34_8 : decode (kby 34) 8 = .ok (.invokevirtual 100, 3) := by decide +kernel
theorem d_34_11 : decode (kby 34) 11 = .ok (.iload_n 1, 1) := by decide +kernel
theorem d_34_12 : decode (kby 34) 12 = .ok (.invokevirtual 103, 3) := by decide +kernel
theorem d_34_15 : decode (kby 34) 15 = .ok (.iload_n 2, 1) := by decide +kernel
theorem d_34_16 : decode (kby 34) 16 = .ok (.invokevirtual 103, 3) := by decide +kernel
theorem d_34_19 : decode (kby 34) 19 = .ok (.ireturn, 1) := by decide +kernel
set_option maxRecDepth 100000 in
theorem ka_34 : kall 34 0 kc_34 := And.intro (s_aload_n d_34_0 rfl) (And.intro (s_aload_n d_34_1 rfl) (And.intro (s_aload_n d_34_2 rfl) (And.intro (s_aload_n d_34_3 rfl) (And.intro (s_iload_n d_34_4 rfl) (And.intro (s_cv d_34_5 kl_3_97 k_im_35 k_se_35 kok_35 rfl (by decide +kernel) rfl rfl) (And.intro (s_cv d_34_8 kl_3_100 k_im_14 k_se_14 kok_14 rfl (by decide +kernel) rfl rfl) (And.intro (s_iload_n d_34_11 rfl) (And.intro (s_cv d_34_12 kl_3_103 k_im_16 k_se_16 kok_16 rfl (by decide +kernel) rfl rfl) (And.intro (s_iload_n d_34_15 rfl) (And.intro (s_cv d_34_16 kl_3_103 k_im_16 k_se_16 kok_16 rfl (by decide +kernel) rfl rfl) (And.intro (s_ret d_34_19 rfl) (True.intro))))))))))))
theorem d_35_0 : decode (kby 35) 0 = .ok (.iload_n 1, 1) := by decide +kernel
theorem d_35_1 : decode (kby 35) 1 = .ok (.ifCond .ge 7, 3) := by decide +kernel
theorem d_35_4 : decode (kby 35) 4 = .ok (.iconst (-1), 1) := by decide +kernel
theorem d_35_5 : decode (kby 35) 5 = .ok (.goto 9, 3) := by decide +kernel
theorem d_35_8 : decode (kby 35) 8 = .ok (.aload_n 0, 1) := by decide +kernel
theorem d_35_9 : decode (kby 35) 9 = .ok (.getfield 30, 3) := by decide +kernel
theorem d_35_12 : decode (kby 35) 12 = .ok (.iload_n 1, 1) := by decide +kernel
theorem d_35_13 : decode (kby 35) 13 = .ok (.iaload, 1) := by decide +kernel
theorem d_35_14 : decode (kby 35) 14 = .ok (.ireturn, 1) := by decide +kernel
set_option maxRecDepth 100000 in
theorem ka_35 : kall 35 0 kc_35 := And.intro (s_iload_n d_35_0 rfl) (And.intro (s_if_ge d_35_1 (by decide +kernel)) (And.intro (s_iconst d_35_4 (by decide +kernel)) (And.intro (s_goto d_35_5 (by decide +kernel)) (And.intro (s_aload_n d_35_8 rfl) (And.intro (s_get d_35_9 (C := kR3) (T := kT3) (N := 15) rfl kjn3 (by decide +kernel) rfl kf_3_30) (And.intro (s_iload_n d_35_12 rfl) (And.intro (s_iaload d_35_13) (And.intro (s_ret d_35_14 rfl) (True.intro)))))))))
theorem d_36_0 : decode (kby 36) 0 = .ok (.iload_n 1, 1) := by decide +kernel
theorem d_36_1 : decode (kby 36) 1 = .ok (.ifCond .lt 19, 3) := by decide +kernel
theorem d_36_4 : decode (kby 36) 4 = .ok (.aload_n 0, 1) := by decide +kernel
theorem d_36_5 : decode (kby 36) 5 = .ok (.getfield 46, 3) := by decide +kernel
theorem d_36_8 : decode (kby 36) 8 = .ok (.ifCond .ne 12, 3) := by decide +kernel
theorem d_36_11 : decode (kby 36) 11 = .ok (.aload_n 0, 1) := by decide +kernel
theorem d_36_12 : decode (kby 36) 12 = .ok (.getfield 24, 3) := by decide +kernel
theorem d_36_15 : decode (kby 36) 15 = .ok (.bipush 60, 2) := by decide +kernel
theorem d_36_17 : decode (kby 36) 17 = .ok (.if_icmp .lt 5, 3) := by decide +kernel
theorem d_36_20 : decode (kby 36) 20 = .ok (.iconst (-1), 1) := by decide +kernel
theorem d_36_21 : decode (kby 36) 21 = .ok (.ireturn, 1) := by decide +kernel
theorem d_36_22 : decode (kby 36) 22 = .ok (.aload_n 0, 1) := by decide +kernel
theorem d_36_23 : decode (kby 36) 23 = .ok (.getfield 11, 3) := by decide +kernel
theorem d_36_26 : decode (kby 36) 26 = .ok (.aload_n 0, 1) := by decide +kernel
theorem d_36_27 : decode (kby 36) 27 = .ok (.getfield 24, 3) := by decide +kernel
theorem d_36_30 : decode (kby 36) 30 = .ok (.iload_n 1, 1) := by decide +kernel
theorem d_36_31 : decode (kby 36) 31 = .ok (.iastore, 1) := by decide +kernel
theorem d_36_32 : decode (kby 36) 32 = .ok (.aload_n 0, 1) := by decide +kernel
theorem d_36_33 : decode (kby 36) 33 = .ok (.getfield 15, 3) := by decide +kernel
theorem d_36_36 : decode (kby 36) 36 = .ok (.aload_n 0, 1) := by decide +kernel
theorem d_36_37 : decode (kby 36) 37 = .ok (.getfield 24, 3) := by decide +kernel
theorem d_36_40 : decode (kby 36) 40 = .ok (.aload_n 0, 1) := by decide +kernel
theorem d_36_41 : decode (kby 36) 41 = .ok (.getfield 43, 3) := by decide +kernel
theorem d_36_44 : decode (kby 36) 44 = .ok (.iastore, 1) := by decide +kernel
theorem d_36_45 : decode (kby 36) 45 = .ok (.aload_n 0, 1) := by decide +kernel
theorem d_36_46 : decode (kby 36) 46 = .ok (.getfield 21, 3) := by decide +kernel
theorem d_36_49 : decode (kby 36) 49 = .ok (.iconst 0, 1) := by decide +kernel
theorem d_36_50 : decode (kby 36) 50 = .ok (.aload_n 0, 1) := by decide +kernel
theorem d_36_51 : decode (kby 36) 51 = .ok (.getfield 18, 3) := by decide +kernel
theorem d_36_54 : decode (kby 36) 54 = .ok (.aload_n 0, 1) := by decide +kernel
theorem d_36_55 : decode (kby 36) 55 = .ok (.getfield 24, 3) := by decide +kernel
theorem d_36_58 : decode (kby 36) 58 = .ok (.bipush 12, 2) := by decide +kernel
theorem d_36_60 : decode (kby 36) 60 = .ok (.imul, 1) := by decide +kernel
theorem d_36_61 : decode (kby 36) 61 = .ok (.aload_n 0, 1) := by decide +kernel
theorem d_36_62 : decode (kby 36) 62 = .ok (.getfield 43, 3) := by decide +kernel
theorem d_36_65 : decode (kby 36) 65 = .ok (.invokestatic 54, 3) := by decide +kernel
theorem d_36_68 : decode (kby 36) 68 = .ok (.aload_n 0, 1) := by decide +kernel
theorem d_36_69 : decode (kby 36) 69 = .ok (.dup, 1) := by decide +kernel
theorem d_36_70 : decode (kby 36) 70 = .ok (.getfield 24, 3) := by decide +kernel
theorem d_36_73 : decode (kby 36) 73 = .ok (.dup_x1, 1) := by decide +kernel
theorem d_36_74 : decode (kby 36) 74 = .ok (.iconst 1, 1) := by decide +kernel
theorem d_36_75 : decode (kby 36) 75 = .ok (.iadd, 1) := by decide +kernel
theorem d_36_76 : decode (kby 36) 76 = .ok (.putfield 24, 3) := by decide +kernel
theorem d_36_79 : decode (kby 36) 79 = .ok (.ireturn, 1) := by decide +kernel
set_option maxRecDepth 100000 in
theorem ka_36 : kall 36 0 kc_36 := And.intro (s_iload_n d_36_0 rfl) (And.intro (s_if_lt d_36_1 (by decide +kernel)) (And.intro (s_aload_n d_36_4 rfl) (And.intro (s_get d_36_5 (C := kR4) (T := kT4) (N := 8) rfl kjn4 (by decide +kernel) rfl kf_4_46) (And.intro (s_if_ne d_36_8 (by decide +kernel)) (And.intro (s_aload_n d_36_11 rfl) (And.intro (s_get d_36_12 (C := kR4) (T := kT4) (N := 8) rfl kjn4 (by decide +kernel) rfl kf_4_24) (And.intro (s_bipush d_36_15 (by decide +kernel)) (And.intro (s_icmp_lt d_36_17 (by decide +kernel)) (And.intro (s_iconst d_36_20 (by decide +kernel)) (And.intro (s_ret d_36_21 rfl) (And.intro (s_aload_n d_36_22 rfl) (And.intro (s_get d_36_23 (C := kR4) (T := kT4) (N := 8) rfl kjn4 (by decide +kernel) rfl kf_4_11) (And.intro (s_aload_n d_36_26 rfl) (And.intro (s_get d_36_27 (C := kR4) (T := kT4) (N := 8) rfl kjn4 (by decide +kernel) rfl kf_4_24) (And.intro (s_iload_n d_36_30 rfl) (And.intro (s_iastore d_36_31) (And.intro (s_aload_n d_36_32 rfl) (And.intro (s_get d_36_33 (C := kR4) (T := kT4) (N := 8) rfl kjn4 (by decide +kernel) rfl kf_4_15) (And.intro (s_aload_n d_36_36 rfl) (And.intro (s_get d_36_37 (C := kR4) (T := kT4) (N := 8) rfl kjn4 (by decide +kernel) rfl kf_4_24) (And.intro (s_aload_n d_36_40 rfl) (And.intro (s_get d_36_41 (C := kR4) (T := kT4) (N := 8) rfl kjn4 (by decide +kernel) rfl kf_4_43) (And.intro (s_iastore d_36_44) (And.intro (s_aload_n d_36_45 rfl) (And.intro (s_get d_36_46 (C := kR4) (T := kT4) (N := 8) rfl kjn4 (by decide +kernel) rfl kf_4_21) (And.intro (s_iconst d_36_49 (by decide +kernel)) (And.intro (s_aload_n d_36_50 rfl) (And.intro (s_get d_36_51 (C := kR4) (T := kT4) (N := 8) rfl kjn4 (by decide +kernel) rfl kf_4_18) (And.intro (s_aload_n d_36_54 rfl) (And.intro (s_get d_36_55 (C := kR4) (T := kT4) (N := 8) rfl kjn4 (by decide +kernel) rfl kf_4_24) (And.intro (s_bipush d_36_58 (by decide +kernel)) (And.intro (s_imul d_36_60) (And.intro (s_aload_n d_36_61 rfl) (And.intro (s_get d_36_62 (C := kR4) (T := kT4) (N := 8) rfl kjn4 (by decide +kernel) rfl kf_4_43) (And.intro (s_copy d_36_65 kl_4_54 k_cp1 k_cp2 k_cp3 (by decide +kernel)) (And.intro (s_aload_n d_36_68 rfl) (And.intro (s_dup d_36_69) (And.intro (s_get d_36_70 (C := kR4) (T := kT4) (N := 8) rfl kjn4 (by decide +kernel) rfl kf_4_24) (And.intro (s_dup_x1 d_36_73) (And.intro (s_iconst d_36_74 (by decide +kernel)) (And.intro (s_iadd d_36_75) (And.intro (s_put d_36_76 (C := kR4) (T := kT4) (N := 8) rfl kjn4 (by decide +kernel) rfl kf_4_24 kt4 kty4 knm4 rfl (by decide +kernel)) (And.intro (s_ret d_36_79 rfl) (True.intro))))))))))))))))))))))))))))))))))))))))))))
theorem d_37_0 : decode (kby 37) 0 = .ok (.iconst (-1), 1) := by decide +kernel
theorem d_37_1 : decode (kby 37) 1 = .ok (.iload_n 1, 1) := by decide +kernel
theorem d_37_2 : decode (kby 37) 2 = .ok (.isub, 1) := by decide +kernel
theorem d_37_3 : decode (kby 37) 3 = .ok (.istore_n 2, 1) := by decide +kernel
theorem d_37_4 : decode (kby 37) 4 = .ok (.iload_n 1, 1) := by decide +kernel
theorem d_37_5 : decode (kby 37) 5 = .ok (.ifCond .lt 7, 3) := by decide +kernel
theorem d_37_8 : decode (kby 37) 8 = .ok (.iload_n 1, 1) := by decide +kernel
theorem d_37_9 : decode (kby 37) 9 = .ok (.goto 21, 3) := by decide +kernel
theorem d_37_12 : decode (kby 37) 12 = .ok (.iload_n 2, 1) := by decide +kernel
theorem d_37_13 : decode (kby 37) 13 = .ok (.aload_n 0, 1) := by decide +kernel
theorem d_37_14 : decode (kby 37) 14 = .ok (.getfield 31, 3) := by decide +kernel
theorem d_37_17 : decode (kby 37) 17 = .ok (.if_icmp .ge 12, 3) := by decide +kernel
theorem d_37_20 : decode (kby 37) 20 = .ok (.aload_n 0, 1) := by decide +kernel
theorem d_37_21 : decode (kby 37) 21 = .ok (.getfield 27, 3) := by decide +kernel
theorem d_37_24 : decode (kby 37) 24 = .ok (.iload_n 2, 1) := by decide +kernel
theorem d_37_25 : decode (kby 37) 25 = .ok (.iadd, 1) := by decide +kernel
theorem d_37_26 : decode (kby 37) 26 = .ok (.goto 4, 3) := by decide +kernel
theorem d_37_29 : decode (kby 37) 29 = .ok (.iconst (-1), 1) := by decide +kernel
theorem d_37_30 : decode (kby 37) 30 = .ok (.istore_n 3, 1) := by decide +kernel
theorem d_37_31 : decode (kby 37) 31 = .ok (.iload_n 3, 1) := by decide +kernel
theorem d_37_32 : decode (kby 37) 32 = .ok (.aload_n 0, 1) := by decide +kernel
theorem d_37_33 : decode (kby 37) 33 = .ok (.getfield 19, 3) := by decide +kernel
theorem d_37_36 : decode (kby 37) 36 = .ok (.invokevirtual 102, 3) := by decide +kernel
theorem d_37_39 : decode (kby 37) 39 = .ok (.if_icmp .ge 7, 3) := by decide +kernel
theorem d_37_42 : decode (kby 37) 42 = .ok (.iload_n 3, 1) := by decide +kernel
theorem d_37_43 : decode (kby 37) 43 = .ok (.goto 4, 3) := by decide +kernel
theorem d_37_46 : decode (kby 37) 46 = .ok (.iconst (-1), 1) := by decide +kernel
theorem d_37_47 : decode (kby 37) 47 = .ok (.ireturn, 1) := by decide +kernel
set_option maxRecDepth 100000 in
theorem ka_37 : kall 37 0 kc_37 := And.intro (s_iconst d_37_0 (by decide +kernel)) (And.intro (s_iload_n d_37_1 rfl) (And.intro (s_isub d_37_2) (And.intro (s_istore_n d_37_3 rfl (by decide +kernel)) (And.intro (s_iload_n d_37_4 rfl) (And.intro (s_if_lt d_37_5 (by decide +kernel)) (And.intro (s_iload_n d_37_8 rfl) (And.intro (s_goto d_37_9 (by decide +kernel)) (And.intro (s_iload_n d_37_12 rfl) (And.intro (s_aload_n d_37_13 rfl) (And.intro (s_get d_37_14 (C := kR6) (T := kT6) (N := 6) rfl kjn6 (by decide +kernel) rfl kf_6_31) (And.intro (s_icmp_ge d_37_17 (by decide +kernel)) (And.intro (s_aload_n d_37_20 rfl) (And.intro (s_get d_37_21 (C := kR6) (T := kT6) (N := 6) rfl kjn6 (by decide +kernel) rfl kf_6_27) (And.intro (s_iload_n d_37_24 rfl) (And.intro (s_iadd d_37_25) (And.intro (s_goto d_37_26 (by decide +kernel)) (And.intro (s_iconst d_37_29 (by decide +kernel)) (And.intro (s_istore_n d_37_30 rfl (by decide +kernel)) (And.intro (s_iload_n d_37_31 rfl) (And.intro (s_aload_n d_37_32 rfl) (And.intro (s_get d_37_33 (C := kR6) (T := kT6) (N := 6) rfl kjn6 (by decide +kernel) rfl kf_6_19) (And.intro (s_cv d_37_36 kl_6_102 k_im_38 k_se_38 kok_38 rfl (by decide +kernel) rfl rfl) (And.intro (s_icmp_ge d_37_39 (by decide +kernel)) (And.intro (s_iload_n d_37_42 rfl) (And.intro (s_goto d_37_43 (by decide +kernel)) (And.intro (s_iconst d_37_46 (by decide +kernel)) (And.intro (s_ret d_37_47 rfl) (True.intro))))))))))))))))))))))))))))
theorem d_38_0 : decode (kby 38) 0 = .ok (.aload_n 0, 1) := by decide +kernel
theorem d_38_1 : decode (kby 38) 1 = .ok (.getfield 24, 3) := by decide +kernel
theorem d_38_4 : decode (kby 38) 4 = .ok (.ireturn, 1) := by decide +kernel
set_option maxRecDepth 100000 in
theorem ka_38 : kall 38 0 kc_38 := And.intro (s_aload_n d_38_0 rfl) (And.intro (s_get d_38_1 (C := kR4) (T := kT4) (N := 8) rfl kjn4 (by decide +kernel) rfl kf_4_24) (And.intro (s_ret d_38_4 rfl) (True.intro)))
theorem d_39_0 : decode (kby 39) 0 = .ok (.aload_n 0, 1) := by decide +kernel
theorem d_39_1 : decode (kby 39) 1 = .ok (.iload_n 1, 1) := by decide +kernel
theorem d_39_2 : decode (kby 39) 2 = .ok (.invokevirtual 125, 3) := by decide +kernel
theorem d_39_5 : decode (kby 39) 5 = .ok (.istore_n 3, 1) := by decide +kernel
theorem d_39_6 : decode (kby 39) 6 = .ok (.iload_n 3, 1) := by decide +kernel
theorem d_39_7 : decode (kby 39) 7 = .ok (.ifCond .lt 16, 3) := by decide +kernel
theorem d_39_10 : decode (kby 39) 10 = .ok (.aload_n 0, 1) := by decide +kernel
theorem d_39_11 : decode (kby 39) 11 = .ok (.iload_n 2, 1) := by decide +kernel
theorem d_39_12 : decode (kby 39) 12 = .ok (.invokevirtual 125, 3) := by decide +kernel
theorem d_39_15 : decode (kby 39) 15 = .ok (.aload_n 0, 1) := by decide +kernel
theorem d_39_16 : decode (kby 39) 16 = .ok (.iload_n 1, 1) := by decide +kernel
theorem d_39_17 : decode (kby 39) 17 = .ok (.invokevirtual 126, 3) := by decide +kernel
theorem d_39_20 : decode (kby 39) 20 = .ok (.if_icmp .eq 5, 3) := by decide +kernel
theorem d_39_23 : decode (kby 39) 23 = .ok (.iconst (-1), 1) := by decide +kernel
theorem d_39_24 : decode (kby 39) 24 = .ok (.ireturn, 1) := by decide +kernel
theorem d_39_25 : decode (kby 39) 25 = .ok (.aload_n 0, 1) := by decide +kernel
theorem d_39_26 : decode (kby 39) 26 = .ok (.iload_n 1, 1) := by decide +kernel
theorem d_39_27 : decode (kby 39) 27 = .ok (.iload_n 2, 1) := by decide +kernel
theorem d_39_28 : decode (kby 39) 28 = .ok (.aload_n 0, 1) := by decide +kernel
theorem d_39_29 : decode (kby 39) 29 = .ok (.getfield 15, 3) := by decide +kernel
theorem d_39_32 : decode (kby 39) 32 = .ok (.iload_n 3, 1) := by decide +kernel
theorem d_39_33 : decode (kby 39) 33 = .ok (.aload_n 0, 1) := by decide +kernel
theorem d_39_34 : decode (kby 39) 34 = .ok (.iload_n 2, 1) := by decide +kernel
theorem d_39_35 : decode (kby 39) 35 = .ok (.invokevirtual 126, 3) := by decide +kernel
theorem d_39_38 : decode (kby 39) 38 = .ok (.invokevirtual 122, 3) := by decide +kernel
theorem d_39_41 : decode (kby 39) 41 = .ok (.invokevirtual 129, 3) := by decide +kernel
theorem d_39_44 : decode (kby 39) 44 = .ok (.ireturn, 1) := by decide +kernel
set_option maxRecDepth 100000 in
theorem ka_39 : kall 39 0 kc_39 := And.intro (s_aload_n d_39_0 rfl) (And.intro (s_iload_n d_39_1 rfl) (And.intro (s_cv d_39_2 kl_6_125 k_im_40 k_se_40 kok_40 rfl (by decide +kernel) rfl rfl) (And.intro (s_istore_n d_39_5 rfl (by decide +kernel)) (And.intro (s_iload_n d_39_6 rfl) (And.intro (s_if_lt d_39_7 (by decide +kernel)) (And.intro (s_aload_n d_39_10 rfl) (And.intro (s_iload_n d_39_11 rfl) (And.intro (s_cv d_39_12 kl_6_125 k_im_40 k_se_40 kok_40 rfl (by decide +kernel) rfl rfl) (And.intro (s_aload_n d_39_15 rfl) (And.intro (s_iload_n d_39_16 rfl) (And.intro (s_cv d_39_17 kl_6_126 k_im_45 k_se_45 kok_45 rfl (by decide +kernel) rfl rfl) (And.intro (s_icmp_eq d_39_20 (by decide +kernel)) (And.intro (s_iconst d_39_23 (by decide +kernel)) (And.intro (s_ret d_39_24 rfl) (And.intro (s_aload_n d_39_25 rfl) (And.intro (s_iload_n d_39_26 rfl) (And.intro (s_iload_n d_39_27 rfl) (And.intro (s_aload_n d_39_28 rfl) (And.intro (s_get d_39_29 (C := kR6) (T := kT6) (N := 6) rfl kjn6 (by decide +kernel) rfl kf_6_15) (And.intro (s_iload_n d_39_32 rfl) (And.intro (s_aload_n d_39_33 rfl) (And.intro (s_iload_n d_39_34 rfl) (And.intro (s_cv d_39_35 kl_6_126 k_im_45 k_se_45 kok_45 rfl (by decide +kernel) rfl rfl) (And.intro (s_cv d_39_38 kl_6_122 k_im_34 k_se_34 kok_34 rfl (by decide +kernel) rfl rfl) (And.intro (s_cv d_39_41 kl_6_129 k_im_47 k_se_47 kok_47 rfl (by decide +kernel) rfl rfl) (And.intro (s_ret d_39_44 rfl) (True.intro)))))))))))))))))))))))))))
theorem d_40_0 : decode (kby 40) 0 = .ok (.aload_n 0, 1) := by decide +kernel
theorem d_40_1 : decode (kby 40) 1 = .ok (.getfield 15, 3) := by decide +kernel
theorem d_40_4 : decode (kby 40) 4 = .ok (.aload_n 0, 1) := by decide +kernel
theorem d_40_5 : decode (kby 40) 5 = .ok (.getfield 19, 3) := by decide +kernel
theorem d_40_8 : decode (kby 40) 8 = .ok (.iload_n 1, 1) := by decide +kernel
theorem d_40_9 : decode (kby 40) 9 = .ok (.invokevirtual 106, 3) := by decide +kernel
theorem d_40_12 : decode (kby 40) 12 = .ok (.invokevirtual 109, 3) := by decide +kernel
theorem d_40_15 : decode (kby 40) 15 = .ok (.ireturn, 1) := by decide +kernel
set_option maxRecDepth 100000 in
theorem ka_40 : kall 40 0 kc_40 := And.intro (s_aload_n d_40_0 rfl) (And.intro (s_get d_40_1 (C := kR6) (T := kT6) (N := 6) rfl kjn6 (by decide +kernel) rfl kf_6_15) (And.intro (s_aload_n d_40_4 rfl) (And.intro (s_get d_40_5 (C := kR6) (T := kT6) (N := 6) rfl kjn6 (by decide +kernel) rfl kf_6_19) (And.intro (s_iload_n d_40_8 rfl) (And.intro (s_cv d_40_9 kl_6_106 k_im_41 k_se_41 kok_41 rfl (by decide +kernel) rfl rfl) (And.intro (s_cv d_40_12 kl_6_109 k_im_43 k_se_43 kok_43 rfl (by decide +kernel) rfl rfl) (And.intro (s_ret d_40_15 rfl) (True.intro))))))))
theorem d_41_0 : decode (kby 41) 0 = .ok (.aload_n 0, 1) := by decide +kernel
theorem d_41_1 : decode (kby 41) 1 = .ok (.iload_n 1, 1) := by decide +kernel
theorem d_41_2 : decode (kby 41) 2 = .ok (.invokevirtual 31, 3) := by decide +kernel
theorem d_41_5 : decode (kby 41) 5 = .ok (.ifCond .eq 12, 3) := by decide +kernel
theorem d_41_8 : decode (kby 41) 8 = .ok (.aload_n 0, 1) := by decide +kernel
theorem d_41_9 : decode (kby 41) 9 = .ok (.getfield 11, 3) := by decide +kernel
theorem d_41_12 : decode (kby 41) 12 = .ok (.iload_n 1, 1) := by decide +kernel
theorem d_41_13 : decode (kby 41) 13 = .ok (.iaload, 1) := by decide +kernel
theorem d_41_14 : decode (kby 41) 14 = .ok (.goto 4, 3) := by decide +kernel
theorem d_41_17 : decode (kby 41) 17 = .ok (.iconst (-1), 1) := by decide +kernel
theorem d_41_18 : decode (kby 41) 18 = .ok (.ireturn, 1) := by decide +kernel
set_option maxRecDepth 100000 in
theorem ka_41 : kall 41 0 kc_41 := And.intro (s_aload_n d_41_0 rfl) (And.intro (s_iload_n d_41_1 rfl) (And.intro (s_cv d_41_2 kl_4_31 k_im_42 k_se_42 kok_42 rfl (by decide +kernel) rfl rfl) (And.intro (s_if_eq d_41_5 (by decide +kernel)) (And.intro (s_aload_n d_41_8 rfl) (And.intro (s_get d_41_9 (C := kR4) (T := kT4) (N := 8) rfl kjn4 (by decide +kernel) rfl kf_4_11) (And.intro (s_iload_n d_41_12 rfl) (And.intro (s_iaload d_41_13) (And.intro (s_goto d_41_14 (by decide +kernel)) (And.intro (s_iconst d_41_17 (by decide +kernel)) (And.intro (s_ret d_41_18 rfl) (True.intro)))))))))))
theorem d_42_0 : decode (kby 42) 0 = .ok (.iload_n 1, 1) := by decide +kernel
theorem d_42_1 : decode (kby 42) 1 = .ok (.ifCond .lt 15, 3) := by decide +kernel
theorem d_42_4 : decode (kby 42) 4 = .ok (.iload_n 1, 1) := by decide +kernel
theorem d_42_5 : decode (kby 42) 5 = .ok (.aload_n 0, 1) := by decide +kernel
theorem d_42_6 : decode (kby 42) 6 = .ok (.getfield 24, 3) := by decide +kernel
theorem d_42_9 : decode (kby 42) 9 = .ok (.if_icmp .ge 7, 3) := by decide +kernel
theorem d_42_12 : decode (kby 42) 12 = .ok (.iconst 1, 1) := by decide +kernel
theorem d_42_13 : decode (kby 42) 13 = .ok (.goto 4, 3) := by decide +kernel
theorem d_42_16 : decode (kby 42) 16 = .ok (.iconst 0, 1) := by decide +kernel
theorem d_42_17 : decode (kby 42) 17 = .ok (.ireturn, 1) := by decide +kernel
set_option maxRecDepth 100000 in
theorem ka_42 : kall 42 0 kc_42 := And.intro (s_iload_n d_42_0 rfl) (And.intro (s_if_lt d_42_1 (by decide +kernel)) (And.intro (s_iload_n d_42_4 rfl) (And.intro (s_aload_n d_42_5 rfl) (And.intro (s_get d_42_6 (C := kR4) (T := kT4) (N := 8) rfl kjn4 (by decide +kernel) rfl kf_4_24) (And.intro (s_icmp_ge d_42_9 (by decide +kernel)) (And.intro (s_iconst d_42_12 (by decide +kernel)) (And.intro (s_goto d_42_13 (by decide +kernel)) (And.intro (s_iconst d_42_16 (by decide +kernel)) (And.intro (s_retz d_42_17 rfl) (True.intro))))))))))
theorem d_43_0 : decode (kby 43) 0 = .ok (.aload_n 0, 1) := by decide +kernel
theorem d_43_1 : decode (kby 43) 1 = .ok (.iload_n 1, 1) := by decide +kernel
theorem d_43_2 : decode (kby 43) 2 = .ok (.invokevirtual 76, 3) := by decide +kernel
theorem d_43_5 : decode (kby 43) 5 = .ok (.istore_n 2, 1) := by decide +kernel
theorem d_43_6 : decode (kby 43) 6 = .ok (.aload_n 0, 1) := by decide +kernel
theorem d_43_7 : decode (kby 43) 7 = .ok (.aload_n 0, 1) := by decide +kernel
theorem d_43_8 : decode (kby 43) 8 = .ok (.iload_n 2, 1) := by decide +kernel
theorem d_43_9 : decode (kby 43) 9 = .ok (.invokevirtual 76, 3) := by decide +kernel
theorem d_43_12 : decode (kby 43) 12 = .ok (.invokevirtual 72, 3) := by decide +kernel
theorem d_43_15 : decode (kby 43) 15 = .ok (.iconst 1, 1) := by decide +kernel
theorem d_43_16 : decode (kby 43) 16 = .ok (.if_icmp .ne 12, 3) := by decide +kernel
theorem d_43_19 : decode (kby 43) 19 = .ok (.aload_n 0, 1) := by decide +kernel
theorem d_43_20 : decode (kby 43) 20 = .ok (.getfield 27, 3) := by decide +kernel
theorem d_43_23 : decode (kby 43) 23 = .ok (.iload_n 2, 1) := by decide +kernel
theorem d_43_24 : decode (kby 43) 24 = .ok (.iaload, 1) := by decide +kernel
theorem d_43_25 : decode (kby 43) 25 = .ok (.goto 4, 3) := by decide +kernel
theorem d_43_28 : decode (kby 43) 28 = .ok (.iconst (-1), 1) := by decide +kernel
theorem d_43_29 : decode (kby 43) 29 = .ok (.ireturn, 1) := by decide +kernel
set_option maxRecDepth 100000 in
theorem ka_43 : kall 43 0 kc_43 := And.intro (s_aload_n d_43_0 rfl) (And.intro (s_iload_n d_43_1 rfl) (And.intro (s_cv d_43_2 kl_3_76 k_im_44 k_se_44 kok_44 rfl (by decide +kernel) rfl rfl) (And.intro (s_istore_n d_43_5 rfl (by decide +kernel)) (And.intro (s_aload_n d_43_6 rfl) (And.intro (s_aload_n d_43_7 rfl) (And.intro (s_iload_n d_43_8 rfl) (And.intro (s_cv d_43_9 kl_3_76 k_im_44 k_se_44 kok_44 rfl (by decide +kernel) rfl rfl) (And.intro (s_cv d_43_12 kl_3_72 k_im_20 k_se_20 kok_20 rfl (by decide +kernel) rfl rfl) (And.intro (s_iconst d_43_15 (by decide +kernel)) (And.intro (s_icmp_ne d_43_16 (by decide +kernel)) (And.intro (s_aload_n d_43_19 rfl) (And.intro (s_get d_43_20 (C := kR3) (T := kT3) (N := 15) rfl kjn3 (by decide +kernel) rfl kf_3_27) (And.intro (s_iload_n d_43_23 rfl) (And.intro (s_iaload d_43_24) (And.intro (s_goto d_43_25 (by decide +kernel)) (And.intro (s_iconst d_43_28 (by decide +kernel)) (And.intro (s_ret d_43_29 rfl) (True.intro))))))))))))))))))
theorem d_44_0 : decode (kby 44) 0 = .ok (.aload_n 0, 1) := by decide +kernel
theorem d_44_1 : decode (kby 44) 1 = .ok (.iload_n 1, 1) := by decide +kernel
theorem d_44_2 : decode (kby 44) 2 = .ok (.invokevirtual 72, 3) := by decide +kernel
theorem d_44_5 : decode (kby 44) 5 = .ok (.iconst 3, 1) := by decide +kernel
theorem d_44_6 : decode (kby 44) 6 = .ok (.if_icmp .ne 12, 3) := by decide +kernel
theorem d_44_9 : decode (kby 44) 9 = .ok (.aload_n 0, 1) := by decide +kernel
theorem d_44_10 : decode (kby 44) 10 = .ok (.getfield 24, 3) := by decide +kernel
theorem d_44_13 : decode (kby 44) 13 = .ok (.iload_n 1, 1) := by decide +kernel
theorem d_44_14 : decode (kby 44) 14 = .ok (.iaload, 1) := by decide +kernel
theorem d_44_15 : decode (kby 44) 15 = .ok (.goto 4, 3) := by decide +kernel
theorem d_44_18 : decode (kby 44) 18 = .ok (.iconst (-1), 1) := by decide +kernel
theorem d_44_19 : decode (kby 44) 19 = .ok (.ireturn, 1) := by decide +kernel
set_option maxRecDepth 100000 in
theorem ka_44 : kall 44 0 kc_44 := And.intro (s_aload_n d_44_0 rfl) (And.intro (s_iload_n d_44_1 rfl) (And.intro (s_cv d_44_2 kl_3_72 k_im_20 k_se_20 kok_20 rfl (by decide +kernel) rfl rfl) (And.intro (s_iconst d_44_5 (by decide +kernel)) (And.intro (s_icmp_ne d_44_6 (by decide +kernel)) (And.intro (s_aload_n d_44_9 rfl) (And.intro (s_get d_44_10 (C := kR3) (T := kT3) (N := 15) rfl kjn3 (by decide +kernel) rfl kf_3_24) (And.intro (s_iload_n d_44_13 rfl) (And.intro (s_iaload d_44_14) (And.intro (s_goto d_44_15 (by decide +kernel)) (And.intro (s_iconst d_44_18 (by decide +kernel)) (And.intro (s_ret d_44_19 rfl) (True.intro))))))))))))
theorem d_45_0 : decode (kby 45) 0 = .ok (.aload_n 0, 1) := by decide +kernel
theorem d_45_1 : decode (kby 45) 1 = .ok (.getfield 15, 3) := by decide +kernel
theorem d_45_4 : decode (kby 45) 4 = .ok (.aload_n 0, 1) := by decide +kernel
theorem d_45_5 : decode (kby 45) 5 = .ok (.getfield 19, 3) := by decide +kernel
theorem d_45_8 : decode (kby 45) 8 = .ok (.iload_n 1, 1) := by decide +kernel
theorem d_45_9 : decode (kby 45) 9 = .ok (.invokevirtual 106, 3) := by decide +kernel
theorem d_45_12 : decode (kby 45) 12 = .ok (.invokevirtual 112, 3) := by decide +kernel
theorem d_45_15 : decode (kby 45) 15 = .ok (.ireturn, 1) := by decide +kernel
set_option maxRecDepth 100000 in
theorem ka_45 : kall 45 0 kc_45 := And.intro (s_aload_n d_45_0 rfl) (And.intro (s_get d_45_1 (C := kR6) (T := kT6) (N := 6) rfl kjn6 (by decide +kernel) rfl kf_6_15) (And.intro (s_aload_n d_45_4 rfl) (And.intro (s_get d_45_5 (C := kR6) (T := kT6) (N := 6) rfl kjn6 (by decide +kernel) rfl kf_6_19) (And.intro (s_iload_n d_45_8 rfl) (And.intro (s_cv d_45_9 kl_6_106 k_im_41 k_se_41 kok_41 rfl (by decide +kernel) rfl rfl) (And.intro (s_cv d_45_12 kl_6_112 k_im_46 k_se_46 kok_46 rfl (by decide +kernel) rfl rfl) (And.intro (s_ret d_45_15 rfl) (True.intro))))))))
theorem d_46_0 : decode (kby 46) 0 = .ok (.aload_n 0, 1) := by decide +kernel
theorem d_46_1 : decode (kby 46) 1 = .ok (.iload_n 1, 1) := by decide +kernel
theorem d_46_2 : decode (kby 46) 2 = .ok (.invokevirtual 72, 3) := by decide +kernel
theorem d_46_5 : decode (kby 46) 5 = .ok (.iconst 3, 1) := by decide +kernel
theorem d_46_6 : decode (kby 46) 6 = .ok (.if_icmp .ne 12, 3) := by decide +kernel
theorem d_46_9 : decode (kby 46) 9 = .ok (.aload_n 0, 1) := by decide +kernel
theorem d_46_10 : decode (kby 46) 10 = .ok (.getfield 27, 3) := by decide +kernel
theorem d_46_13 : decode (kby 46) 13 = .ok (.iload_n 1, 1) := by decide +kernel
theorem d_46_14 : decode (kby 46) 14 = .ok (.iaload, 1) := by decide +kernel
theorem d_46_15 : decode (kby 46) 15 = .ok (.goto 4, 3) := by decide +kernel
theorem d_46_18 : decode (kby 46) 18 = .ok (.iconst (-1), 1) := by decide +kernel
theorem d_46_19 : decode (kby 46) 19 = .ok (.ireturn, 1) := by decide +kernel
set_option maxRecDepth 100000 in
theorem ka_46 : kall 46 0 kc_46 := And.intro (s_aload_n d_46_0 rfl) (And.intro (s_iload_n d_46_1 rfl) (And.intro (s_cv d_46_2 kl_3_72 k_im_20 k_se_20 kok_20 rfl (by decide +kernel) rfl rfl) (And.intro (s_iconst d_46_5 (by decide +kernel)) (And.intro (s_icmp_ne d_46_6 (by decide +kernel)) (And.intro (s_aload_n d_46_9 rfl) (And.intro (s_get d_46_10 (C := kR3) (T := kT3) (N := 15) rfl kjn3 (by decide +kernel) rfl kf_3_27) (And.intro (s_iload_n d_46_13 rfl) (And.intro (s_iaload d_46_14) (And.intro (s_goto d_46_15 (by decide +kernel)) (And.intro (s_iconst d_46_18 (by decide +kernel)) (And.intro (s_ret d_46_19 rfl) (True.intro))))))))))))
theorem d_47_0 : decode (kby 47) 0 = .ok (.aload_n 0, 1) := by decide +kernel
theorem d_47_1 : decode (kby 47) 1 = .ok (.getfield 19, 3) := by decide +kernel
theorem d_47_4 : decode (kby 47) 4 = .ok (.iload_n 1, 1) := by decide +kernel
theorem d_47_5 : decode (kby 47) 5 = .ok (.iconst (-1), 1) := by decide +kernel
theorem d_47_6 : decode (kby 47) 6 = .ok (.invokevirtual 115, 3) := by decide +kernel
theorem d_47_9 : decode (kby 47) 9 = .ok (.aload_n 0, 1) := by decide +kernel
theorem d_47_10 : decode (kby 47) 10 = .ok (.getfield 19, 3) := by decide +kernel
theorem d_47_13 : decode (kby 47) 13 = .ok (.iload_n 2, 1) := by decide +kernel
theorem d_47_14 : decode (kby 47) 14 = .ok (.iconst (-1), 1) := by decide +kernel
theorem d_47_15 : decode (kby 47) 15 = .ok (.invokevirtual 115, 3) := by decide +kernel
theorem d_47_18 : decode (kby 47) 18 = .ok (.aload_n 0, 1) := by decide +kernel
theorem d_47_19 : decode (kby 47) 19 = .ok (.getfield 19, 3) := by decide +kernel
theorem d_47_22 : decode (kby 47) 22 = .ok (.iload_n 3, 1) := by decide +kernel
theorem d_47_23 : decode (kby 47) 23 = .ok (.invokevirtual 119, 3) := by decide +kernel
theorem d_47_26 : decode (kby 47) 26 = .ok (.ireturn, 1) := by decide +kernel
set_option maxRecDepth 100000 in
theorem ka_47 : kall 47 0 kc_47 := And.intro (s_aload_n d_47_0 rfl) (And.intro (s_get d_47_1 (C := kR6) (T := kT6) (N := 6) rfl kjn6 (by decide +kernel) rfl kf_6_19) (And.intro (s_iload_n d_47_4 rfl) (And.intro (s_iconst d_47_5 (by decide +kernel)) (And.intro (s_cw d_47_6 kl_6_115 k_im_48 k_se_48 kok_48 rfl (by decide +kernel) rfl rfl) (And.intro (s_aload_n d_47_9 rfl) (And.intro (s_get d_47_10 (C := kR6) (T := kT6) (N := 6) rfl kjn6 (by decide +kernel) rfl kf_6_19) (And.intro (s_iload_n d_47_13 rfl) (And.intro (s_iconst d_47_14 (by decide +kernel)) (And.intro (s_cw d_47_15 kl_6_115 k_im_48 k_se_48 kok_48 rfl (by decide +kernel) rfl rfl) (And.intro (s_aload_n d_47_18 rfl) (And.intro (s_get d_47_19 (C := kR6) (T := kT6) (N := 6) rfl kjn6 (by decide +kernel) rfl kf_6_19) (And.intro (s_iload_n d_47_22 rfl) (And.intro (s_cv d_47_23 kl_6_119 k_im_36 k_se_36 kok_36 rfl (by decide +kernel) rfl rfl) (And.intro (s_ret d_47_26 rfl) (True.intro)))))))))))))))
theorem d_48_0 : decode (kby 48) 0 = .ok (.iconst 0, 1) := by decide +kernel
theorem d_48_1 : decode (kby 48) 1 = .ok (.istore_n 3, 1) := by decide +kernel
theorem d_48_2 : decode (kby 48) 2 = .ok (.iload_n 3, 1) := by decide +kernel
theorem d_48_3 : decode (kby 48) 3 = .ok (.aload_n 0, 1) := by decide +kernel
theorem d_48_4 : decode (kby 48) 4 = .ok (.iload_n 1, 1) := by decide +kernel
theorem d_48_5 : decode (kby 48) 5 = .ok (.invokevirtual 35, 3) := by decide +kernel
theorem d_48_8 : decode (kby 48) 8 = .ok (.if_icmp .ge 29, 3) := by decide +kernel
theorem d_48_11 : decode (kby 48) 11 = .ok (.aload_n 0, 1) := by decide +kernel
theorem d_48_12 : decode (kby 48) 12 = .ok (.iload_n 1, 1) := by decide +kernel
theorem d_48_13 : decode (kby 48) 13 = .ok (.iload_n 3, 1) := by decide +kernel
theorem d_48_14 : decode (kby 48) 14 = .ok (.invokevirtual 39, 3) := by decide +kernel
theorem d_48_17 : decode (kby 48) 17 = .ok (.iload_n 2, 1) := by decide +kernel
theorem d_48_18 : decode (kby 48) 18 = .ok (.if_icmp .eq 13, 3) := by decide +kernel
theorem d_48_21 : decode (kby 48) 21 = .ok (.aload_n 0, 1) := by decide +kernel
theorem d_48_22 : decode (kby 48) 22 = .ok (.aload_n 0, 1) := by decide +kernel
theorem d_48_23 : decode (kby 48) 23 = .ok (.iload_n 1, 1) := by decide +kernel
theorem d_48_24 : decode (kby 48) 24 = .ok (.iload_n 3, 1) := by decide +kernel
theorem d_48_25 : decode (kby 48) 25 = .ok (.invokevirtual 39, 3) := by decide +kernel
theorem d_48_28 : decode (kby 48) 28 = .ok (.invokevirtual 50, 3) := by decide +kernel
theorem d_48_31 : decode (kby 48) 31 = .ok (.iinc 3 1, 3) := by decide +kernel
theorem d_48_34 : decode (kby 48) 34 = .ok (.goto (-32), 3) := by decide +kernel
theorem d_48_37 : decode (kby 48) 37 = .ok (.return_, 1) := by decide +kernel
set_option maxRecDepth 100000 in
theorem ka_48 : kall 48 0 kc_48 := And.intro (s_iconst d_48_0 (by decide +kernel)) (And.intro (s_istore_n d_48_1 rfl (by decide +kernel)) (And.intro (s_iload_n d_48_2 rfl) (And.intro (s_aload_n d_48_3 rfl) (And.intro (s_iload_n d_48_4 rfl) (And.intro (s_cv d_48_5 kl_4_35 k_im_49 k_se_49 kok_49 rfl (by decide +kernel) rfl rfl) (And.intro (s_icmp_ge d_48_8 (by decide +kernel)) (And.intro (s_aload_n d_48_11 rfl) (And.intro (s_iload_n d_48_12 rfl) (And.intro (s_iload_n d_48_13 rfl) (And.intro (s_cv d_48_14 kl_4_39 k_im_50 k_se_50 kok_50 rfl (by decide +kernel) rfl rfl) (And.intro (s_iload_n d_48_17 rfl) (And.intro (s_icmp_eq d_48_18 (by decide +kernel)) (And.intro (s_aload_n d_48_21 rfl) (And.intro (s_aload_n d_48_22 rfl) (And.intro (s_iload_n d_48_23 rfl) (And.intro (s_iload_n d_48_24 rfl) (And.intro (s_cv d_48_25 kl_4_39 k_im_50 k_se_50 kok_50 rfl (by decide +kernel) rfl rfl) (And.intro (s_cw d_48_28 kl_4_50 k_im_51 k_se_51 kok_51 rfl (by decide +kernel) rfl rfl) (And.intro (s_iinc d_48_31 (by decide +kernel) (by decide +kernel)) (And.intro (s_goto d_48_34 (by decide +kernel)) (And.intro (s_rv d_48_37 rfl) (True.intro))))))))))))))))))))))
theorem d_49_0 : decode (kby 49) 0 = .ok (.aload_n 0, 1) := by decide +kernel
theorem d_49_1 : decode (kby 49) 1 = .ok (.iload_n 1, 1) := by decide +kernel
theorem d_49_2 : decode (kby 49) 2 = .ok (.invokevirtual 31, 3) := by decide +kernel
theorem d_49_5 : decode (kby 49) 5 = .ok (.ifCond .eq 12, 3) := by decide +kernel
theorem d_49_8 : decode (kby 49) 8 = .ok (.aload_n 0, 1) := by decide +kernel
theorem d_49_9 : decode (kby 49) 9 = .ok (.getfield 15, 3) := by decide +kernel
theorem d_49_12 : decode (kby 49) 12 = .ok (.iload_n 1, 1) := by decide +kernel
theorem d_49_13 : decode (kby 49) 13 = .ok (.iaload, 1) := by decide +kernel
theorem d_49_14 : decode (kby 49) 14 = .ok (.goto 4, 3) := by decide +kernel
theorem d_49_17 : decode (kby 49) 17 = .ok (.iconst (-1), 1) := by decide +kernel
theorem d_49_18 : decode (kby 49) 18 = .ok (.ireturn, 1) := by decide +kernel
set_option maxRecDepth 100000 in
theorem ka_49 : kall 49 0 kc_49 := And.intro (s_aload_n d_49_0 rfl) (And.intro (s_iload_n d_49_1 rfl) (And.intro (s_cv d_49_2 kl_4_31 k_im_42 k_se_42 kok_42 rfl (by decide +kernel) rfl rfl) (And.intro (s_if_eq d_49_5 (by decide +kernel)) (And.intro (s_aload_n d_49_8 rfl) (And.intro (s_get d_49_9 (C := kR4) (T := kT4) (N := 8) rfl kjn4 (by decide +kernel) rfl kf_4_15) (And.intro (s_iload_n d_49_12 rfl) (And.intro (s_iaload d_49_13) (And.intro (s_goto d_49_14 (by decide +kernel)) (And.intro (s_iconst d_49_17 (by decide +kernel)) (And.intro (s_ret d_49_18 rfl) (True.intro)))))))))))
theorem d_50_0 : decode (kby 50) 0 = .ok (.aload_n 0, 1) := by decide +kernel
theorem d_50_1 : decode (kby 50) 1 = .ok (.getfield 18, 3) := by decide +kernel
theorem d_50_4 : decode (kby 50) 4 = .ok (.iload_n 1, 1) := by decide +kernel
theorem d_50_5 : decode (kby 50) 5 = .ok (.bipush 12, 2) := by decide +kernel
theorem d_50_7 : decode (kby 50) 7 = .ok (.imul, 1) := by decide +kernel
theorem d_50_8 : decode (kby 50) 8 = .ok (.iload_n 2, 1) := by decide +kernel
theorem d_50_9 : decode (kby 50) 9 = .ok (.iadd, 1) := by decide +kernel
theorem d_50_10 : decode (kby 50) 10 = .ok (.iaload, 1) := by decide +kernel
theorem d_50_11 : decode (kby 50) 11 = .ok (.ireturn, 1) := by decide +kernel
set_option maxRecDepth 100000 in
theorem ka_50 : kall 50 0 kc_50 := And.intro (s_aload_n d_50_0 rfl) (And.intro (s_get d_50_1 (C := kR4) (T := kT4) (N := 8) rfl kjn4 (by decide +kernel) rfl kf_4_18) (And.intro (s_iload_n d_50_4 rfl) (And.intro (s_bipush d_50_5 (by decide +kernel)) (And.intro (s_imul d_50_7) (And.intro (s_iload_n d_50_8 rfl) (And.intro (s_iadd d_50_9) (And.intro (s_iaload d_50_10) (And.intro (s_ret d_50_11 rfl) (True.intro)))))))))
