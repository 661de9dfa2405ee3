/-! printed: each instruction is sound -/
theorem d_0_0 : decode (kby 0) 0 = .ok (.iload_n 2, 1) := by decide +kernel
theorem d_0_1 : decode (kby 0) 1 = .ok (.ifCond .lt 7, 3) := by decide +kernel
theorem d_0_4 : decode (kby 0) 4 = .ok (.iload_n 3, 1) := by decide +kernel
theorem d_0_5 : decode (kby 0) 5 = .ok (.ifCond .ge 5, 3) := by decide +kernel
theorem d_0_8 : decode (kby 0) 8 = .ok (.iconst (-1), 1) := by decide +kernel
theorem d_0_9 : decode (kby 0) 9 = .ok (.ireturn, 1) := by decide +kernel
theorem d_0_10 : decode (kby 0) 10 = .ok (.iconst 0, 1) := by decide +kernel
theorem d_0_11 : decode (kby 0) 11 = .ok (.istore 4, 2) := by decide +kernel
theorem d_0_13 : decode (kby 0) 13 = .ok (.iload 4, 2) := by decide +kernel
theorem d_0_15 : decode (kby 0) 15 = .ok (.aload_n 0, 1) := by decide +kernel
theorem d_0_16 : decode (kby 0) 16 = .ok (.getfield 45, 3) := by decide +kernel
theorem d_0_19 : decode (kby 0) 19 = .ok (.if_icmp .ge 45, 3) := by decide +kernel
theorem d_0_22 : decode (kby 0) 22 = .ok (.aload_n 0, 1) := by decide +kernel
theorem d_0_23 : decode (kby 0) 23 = .ok (.getfield 20, 3) := by decide +kernel
theorem d_0_26 : decode (kby 0) 26 = .ok (.iload 4, 2) := by decide +kernel
theorem d_0_28 : decode (kby 0) 28 = .ok (.iaload, 1) := by decide +kernel
theorem d_0_29 : decode (kby 0) 29 = .ok (.iload_n 1, 1) := by decide +kernel
theorem d_0_30 : decode (kby 0) 30 = .ok (.if_icmp .ne 28, 3) := by decide +kernel
theorem d_0_33 : decode (kby 0) 33 = .ok (.aload_n 0, 1) := by decide +kernel
theorem d_0_34 : decode (kby 0) 34 = .ok (.getfield 24, 3) := by decide +kernel
theorem d_0_37 : decode (kby 0) 37 = .ok (.iload 4, 2) := by decide +kernel
theorem d_0_39 : decode (kby 0) 39 = .ok (.iaload, 1) := by decide +kernel
theorem d_0_40 : decode (kby 0) 40 = .ok (.iload_n 2, 1) := by decide +kernel
theorem d_0_41 : decode (kby 0) 41 = .ok (.if_icmp .ne 17, 3) := by decide +kernel
theorem d_0_44 : decode (kby 0) 44 = .ok (.aload_n 0, 1) := by decide +kernel
theorem d_0_45 : decode (kby 0) 45 = .ok (.getfield 27, 3) := by decide +kernel
theorem d_0_48 : decode (kby 0) 48 = .ok (.iload 4, 2) := by decide +kernel
theorem d_0_50 : decode (kby 0) 50 = .ok (.iaload, 1) := by decide +kernel
theorem d_0_51 : decode (kby 0) 51 = .ok (.iload_n 3, 1) := by decide +kernel
theorem d_0_52 : decode (kby 0) 52 = .ok (.if_icmp .ne 6, 3) := by decide +kernel
theorem d_0_55 : decode (kby 0) 55 = .ok (.iload 4, 2) := by decide +kernel
theorem d_0_57 : decode (kby 0) 57 = .ok (.ireturn, 1) := by decide +kernel
theorem d_0_58 : decode (kby 0) 58 = .ok (.iinc 4 1, 3) := by decide +kernel
theorem d_0_61 : decode (kby 0) 61 = .ok (.goto (-48), 3) := by decide +kernel
theorem d_0_64 : decode (kby 0) 64 = .ok (.iload_n 1, 1) := by decide +kernel
theorem d_0_65 : decode (kby 0) 65 = .ok (.iconst 3, 1) := by decide +kernel
theorem d_0_66 : decode (kby 0) 66 = .ok (.if_icmp .ne 7, 3) := by decide +kernel
theorem d_0_69 : decode (kby 0) 69 = .ok (.iconst 1, 1) := by decide +kernel
theorem d_0_70 : decode (kby 0) 70 = .ok (.goto 4, 3) := by decide +kernel
theorem d_0_73 : decode (kby 0) 73 = .ok (.iconst 0, 1) := by decide +kernel
theorem d_0_74 : decode (kby 0) 74 = .ok (.istore 4, 2) := by decide +kernel
theorem d_0_76 : decode (kby 0) 76 = .ok (.iload 4, 2) := by decide +kernel
theorem d_0_78 : decode (kby 0) 78 = .ok (.ifCond .eq 23, 3) := by decide +kernel
theorem d_0_81 : decode (kby 0) 81 = .ok (.iconst 1, 1) := by decide +kernel
theorem d_0_82 : decode (kby 0) 82 = .ok (.aload_n 0, 1) := by decide +kernel
theorem d_0_83 : decode (kby 0) 83 = .ok (.getfield 34, 3) := by decide +kernel
theorem d_0_86 : decode (kby 0) 86 = .ok (.iload_n 2, 1) := by decide +kernel
theorem d_0_87 : decode (kby 0) 87 = .ok (.iaload, 1) := by decide +kernel
theorem d_0_88 : decode (kby 0) 88 = .ok (.aload_n 0, 1) := by decide +kernel
theorem d_0_89 : decode (kby 0) 89 = .ok (.getfield 34, 3) := by decide +kernel
theorem d_0_92 : decode (kby 0) 92 = .ok (.iload_n 3, 1) := by decide +kernel
theorem d_0_93 : decode (kby 0) 93 = .ok (.iaload, 1) := by decide +kernel
theorem d_0_94 : decode (kby 0) 94 = .ok (.invokestatic 52, 3) := by decide +kernel
theorem d_0_97 : decode (kby 0) 97 = .ok (.iadd, 1) := by decide +kernel
theorem d_0_98 : decode (kby 0) 98 = .ok (.goto 4, 3) := by decide +kernel
theorem d_0_101 : decode (kby 0) 101 = .ok (.iconst 1, 1) := by decide +kernel
theorem d_0_102 : decode (kby 0) 102 = .ok (.istore 5, 2) := by decide +kernel
theorem d_0_104 : decode (kby 0) 104 = .ok (.iload 5, 2) := by decide +kernel
theorem d_0_106 : decode (kby 0) 106 = .ok (.bipush 10, 2) := by decide +kernel
theorem d_0_108 : decode (kby 0) 108 = .ok (.if_icmp .gt 12, 3) := by decide +kernel
theorem d_0_111 : decode (kby 0) 111 = .ok (.aload_n 0, 1) := by decide +kernel
theorem d_0_112 : decode (kby 0) 112 = .ok (.getfield 45, 3) := by decide +kernel
theorem d_0_115 : decode (kby 0) 115 = .ok (.bipush 50, 2) := by decide +kernel
theorem d_0_117 : decode (kby 0) 117 = .ok (.if_icmp .lt 5, 3) := by decide +kernel
theorem d_0_120 : decode (kby 0) 120 = .ok (.iconst (-1), 1) := by decide +kernel
theorem d_0_121 : decode (kby 0) 121 = .ok (.ireturn, 1) := by decide +kernel
theorem d_0_122 : decode (kby 0) 122 = .ok (.aload_n 0, 1) := by decide +kernel
theorem d_0_123 : decode (kby 0) 123 = .ok (.getfield 20, 3) := by decide +kernel
theorem d_0_126 : decode (kby 0) 126 = .ok (.aload_n 0, 1) := by decide +kernel
theorem d_0_127 : decode (kby 0) 127 = .ok (.getfield 45, 3) := by decide +kernel
theorem d_0_130 : decode (kby 0) 130 = .ok (.iload_n 1, 1) := by decide +kernel
theorem d_0_131 : decode (kby 0) 131 = .ok (.iastore, 1) := by decide +kernel
theorem d_0_132 : decode (kby 0) 132 = .ok (.aload_n 0, 1) := by decide +kernel
theorem d_0_133 : decode (kby 0) 133 = .ok (.getfield 24, 3) := by decide +kernel
theorem d_0_136 : decode (kby 0) 136 = .ok (.aload_n 0, 1) := by decide +kernel
theorem d_0_137 : decode (kby 0) 137 = .ok (.getfield 45, 3) := by decide +kernel
theorem d_0_140 : decode (kby 0) 140 = .ok (.iload_n 2, 1) := by decide +kernel
theorem d_0_141 : decode (kby 0) 141 = .ok (.iastore, 1) := by decide +kernel
theorem d_0_142 : decode (kby 0) 142 = .ok (.aload_n 0, 1) := by decide +kernel
theorem d_0_143 : decode (kby 0) 143 = .ok (.getfield 27, 3) := by decide +kernel
theorem d_0_146 : decode (kby 0) 146 = .ok (.aload_n 0, 1) := by decide +kernel
theorem d_0_147 : decode (kby 0) 147 = .ok (.getfield 45, 3) := by decide +kernel
theorem d_0_150 : decode (kby 0) 150 = .ok (.iload_n 3, 1) := by decide +kernel
theorem d_0_151 : decode (kby 0) 151 = .ok (.iastore, 1) := by decide +kernel
theorem d_0_152 : decode (kby 0) 152 = .ok (.aload_n 0, 1) := by decide +kernel
theorem d_0_153 : decode (kby 0) 153 = .ok (.getfield 34, 3) := by decide +kernel
theorem d_0_156 : decode (kby 0) 156 = .ok (.aload_n 0, 1) := by decide +kernel
theorem d_0_157 : decode (kby 0) 157 = .ok (.getfield 45, 3) := by decide +kernel
theorem d_0_160 : decode (kby 0) 160 = .ok (.iload 5, 2) := by decide +kernel
theorem d_0_162 : decode (kby 0) 162 = .ok (.iastore, 1) := by decide +kernel
theorem d_0_163 : decode (kby 0) 163 = .ok (.aload_n 0, 1) := by decide +kernel
theorem d_0_164 : decode (kby 0) 164 = .ok (.getfield 30, 3) := by decide +kernel
theorem d_0_167 : decode (kby 0) 167 = .ok (.aload_n 0, 1) := by decide +kernel
theorem d_0_168 : decode (kby 0) 168 = .ok (.getfield 45, 3) := by decide +kernel
theorem d_0_171 : decode (kby 0) 171 = .ok (.iload_n 1, 1) := by decide +kernel
theorem d_0_172 : decode (kby 0) 172 = .ok (.iconst 1, 1) := by decide +kernel
theorem d_0_173 : decode (kby 0) 173 = .ok (.if_icmp .eq 26, 3) := by decide +kernel
theorem d_0_176 : decode (kby 0) 176 = .ok (.iload 4, 2) := by decide +kernel
theorem d_0_178 : decode (kby 0) 178 = .ok (.ifCond .eq 25, 3) := by decide +kernel
theorem d_0_181 : decode (kby 0) 181 = .ok (.aload_n 0, 1) := by decide +kernel
theorem d_0_182 : decode (kby 0) 182 = .ok (.getfield 30, 3) := by decide +kernel
theorem d_0_185 : decode (kby 0) 185 = .ok (.iload_n 2, 1) := by decide +kernel
theorem d_0_186 : decode (kby 0) 186 = .ok (.baload, 1) := by decide +kernel
theorem d_0_187 : decode (kby 0) 187 = .ok (.ifCond .ne 12, 3) := by decide +kernel
theorem d_0_190 : decode (kby 0) 190 = .ok (.aload_n 0, 1) := by decide +kernel
theorem d_0_191 : decode (kby 0) 191 = .ok (.getfield 30, 3) := by decide +kernel
theorem d_0_194 : decode (kby 0) 194 = .ok (.iload_n 3, 1) := by decide +kernel
theorem d_0_195 : decode (kby 0) 195 = .ok (.baload, 1) := by decide +kernel
theorem d_0_196 : decode (kby 0) 196 = .ok (.ifCond .eq 7, 3) := by decide +kernel
theorem d_0_199 : decode (kby 0) 199 = .ok (.iconst 1, 1) := by decide +kernel
theorem d_0_200 : decode (kby 0) 200 = .ok (.goto 4, 3) := by decide +kernel
theorem d_0_203 : decode (kby 0) 203 = .ok (.iconst 0, 1) := by decide +kernel
theorem d_0_204 : decode (kby 0) 204 = .ok (.bastore, 1) := by decide +kernel
theorem d_0_205 : decode (kby 0) 205 = .ok (.aload_n 0, 1) := by decide +kernel
theorem d_0_206 : decode (kby 0) 206 = .ok (.dup, 1) := by decide +kernel
theorem d_0_207 : decode (kby 0) 207 = .ok (.getfield 45, 3) := by decide +kernel
theorem d_0_210 : decode (kby 0) 210 = .ok (.dup_x1, 1) := by decide +kernel
theorem d_0_211 : decode (kby 0) 211 = .ok (.iconst 1, 1) := by decide +kernel
theorem d_0_212 : decode (kby 0) 212 = .ok (.iadd, 1) := by decide +kernel
theorem d_0_213 : decode (kby 0) 213 = .ok (.putfield 45, 3) := by decide +kernel
theorem d_0_216 : decode (kby 0) 216 = .ok (.ireturn, 1) := by decide +kernel
set_option maxRecDepth 100000 in
theorem ka_0 : kall 0 0 kc_0 := And.intro (s_iload_n d_0_0 rfl) (And.intro (s_if_lt d_0_1 (by decide +kernel)) (And.intro (s_iload_n d_0_4 rfl) (And.intro (s_if_ge d_0_5 (by decide +kernel)) (And.intro (s_iconst d_0_8 (by decide +kernel)) (And.intro (s_ret d_0_9 rfl) (And.intro (s_iconst d_0_10 (by decide +kernel)) (And.intro (s_istore d_0_11 (by decide +kernel)) (And.intro (s_iload d_0_13) (And.intro (s_aload_n d_0_15 rfl) (And.intro (s_get d_0_16 (C := kR1) (T := kT1) (N := 8) rfl kjn1 (by decide +kernel) rfl kf_1_45) (And.intro (s_icmp_ge d_0_19 (by decide +kernel)) (And.intro (s_aload_n d_0_22 rfl) (And.intro (s_get d_0_23 (C := kR1) (T := kT1) (N := 8) rfl kjn1 (by decide +kernel) rfl kf_1_20) (And.intro (s_iload d_0_26) (And.intro (s_iaload d_0_28) (And.intro (s_iload_n d_0_29 rfl) (And.intro (s_icmp_ne d_0_30 (by decide +kernel)) (And.intro (s_aload_n d_0_33 rfl) (And.intro (s_get d_0_34 (C := kR1) (T := kT1) (N := 8) rfl kjn1 (by decide +kernel) rfl kf_1_24) (And.intro (s_iload d_0_37) (And.intro (s_iaload d_0_39) (And.intro (s_iload_n d_0_40 rfl) (And.intro (s_icmp_ne d_0_41 (by decide +kernel)) (And.intro (s_aload_n d_0_44 rfl) (And.intro (s_get d_0_45 (C := kR1) (T := kT1) (N := 8) rfl kjn1 (by decide +kernel) rfl kf_1_27) (And.intro (s_iload d_0_48) (And.intro (s_iaload d_0_50) (And.intro (s_iload_n d_0_51 rfl) (And.intro (s_icmp_ne d_0_52 (by decide +kernel)) (And.intro (s_iload d_0_55) (And.intro (s_ret d_0_57 rfl) (And.intro (s_iinc d_0_58 (by decide +kernel) (by decide +kernel)) (And.intro (s_goto d_0_61 (by decide +kernel)) (And.intro (s_iload_n d_0_64 rfl) (And.intro (s_iconst d_0_65 (by decide +kernel)) (And.intro (s_icmp_ne d_0_66 (by decide +kernel)) (And.intro (s_iconst d_0_69 (by decide +kernel)) (And.intro (s_goto d_0_70 (by decide +kernel)) (And.intro (s_iconst d_0_73 (by decide +kernel)) (And.intro (s_istore d_0_74 (by decide +kernel)) (And.intro (s_iload d_0_76) (And.intro (s_if_eq d_0_78 (by decide +kernel)) (And.intro (s_iconst d_0_81 (by decide +kernel)) (And.intro (s_aload_n d_0_82 rfl) (And.intro (s_get d_0_83 (C := kR1) (T := kT1) (N := 8) rfl kjn1 (by decide +kernel) rfl kf_1_34) (And.intro (s_iload_n d_0_86 rfl) (And.intro (s_iaload d_0_87) (And.intro (s_aload_n d_0_88 rfl) (And.intro (s_get d_0_89 (C := kR1) (T := kT1) (N := 8) rfl kjn1 (by decide +kernel) rfl kf_1_34) (And.intro (s_iload_n d_0_92 rfl) (And.intro (s_iaload d_0_93) (And.intro (s_max d_0_94 kl_1_52 k_max1 k_max2 k_max3) (And.intro (s_iadd d_0_97) (And.intro (s_goto d_0_98 (by decide +kernel)) (And.intro (s_iconst d_0_101 (by decide +kernel)) (And.intro (s_istore d_0_102 (by decide +kernel)) (And.intro (s_iload d_0_104) (And.intro (s_bipush d_0_106 (by decide +kernel)) (And.intro (s_icmp_gt d_0_108 (by decide +kernel)) (And.intro (s_aload_n d_0_111 rfl) (And.intro (s_get d_0_112 (C := kR1) (T := kT1) (N := 8) rfl kjn1 (by decide +kernel) rfl kf_1_45) (And.intro (s_bipush d_0_115 (by decide +kernel)) (And.intro (s_icmp_lt d_0_117 (by decide +kernel)) (And.intro (s_iconst d_0_120 (by decide +kernel)) (And.intro (s_ret d_0_121 rfl) (And.intro (s_aload_n d_0_122 rfl) (And.intro (s_get d_0_123 (C := kR1) (T := kT1) (N := 8) rfl kjn1 (by decide +kernel) rfl kf_1_20) (And.intro (s_aload_n d_0_126 rfl) (And.intro (s_get d_0_127 (C := kR1) (T := kT1) (N := 8) rfl kjn1 (by decide +kernel) rfl kf_1_45) (And.intro (s_iload_n d_0_130 rfl) (And.intro (s_iastore d_0_131) (And.intro (s_aload_n d_0_132 rfl) (And.intro (s_get d_0_133 (C := kR1) (T := kT1) (N := 8) rfl kjn1 (by decide +kernel) rfl kf_1_24) (And.intro (s_aload_n d_0_136 rfl) (And.intro (s_get d_0_137 (C := kR1) (T := kT1) (N := 8) rfl kjn1 (by decide +kernel) rfl kf_1_45) (And.intro (s_iload_n d_0_140 rfl) (And.intro (s_iastore d_0_141) (And.intro (s_aload_n d_0_142 rfl) (And.intro (s_get d_0_143 (C := kR1) (T := kT1) (N := 8) rfl kjn1 (by decide +kernel) rfl kf_1_27) (And.intro (s_aload_n d_0_146 rfl) (And.intro (s_get d_0_147 (C := kR1) (T := kT1) (N := 8) rfl kjn1 (by decide +kernel) rfl kf_1_45) (And.intro (s_iload_n d_0_150 rfl) (And.intro (s_iastore d_0_151) (And.intro (s_aload_n d_0_152 rfl) (And.intro (s_get d_0_153 (C := kR1) (T := kT1) (N := 8) rfl kjn1 (by decide +kernel) rfl kf_1_34) (And.intro (s_aload_n d_0_156 rfl) (And.intro (s_get d_0_157 (C := kR1) (T := kT1) (N := 8) rfl kjn1 (by decide +kernel) rfl kf_1_45) (And.intro (s_iload d_0_160) (And.intro (s_iastore d_0_162) (And.intro (s_aload_n d_0_163 rfl) (And.intro (s_get d_0_164 (C := kR1) (T := kT1) (N := 8) rfl kjn1 (by decide +kernel) rfl kf_1_30) (And.intro (s_aload_n d_0_167 rfl) (And.intro (s_get d_0_168 (C := kR1) (T := kT1) (N := 8) rfl kjn1 (by decide +kernel) rfl kf_1_45) (And.intro (s_iload_n d_0_171 rfl) (And.intro (s_iconst d_0_172 (by decide +kernel)) (And.intro (s_icmp_eq d_0_173 (by decide +kernel)) (And.intro (s_iload d_0_176) (And.intro (s_if_eq d_0_178 (by decide +kernel)) (And.intro (s_aload_n d_0_181 rfl) (And.intro (s_get d_0_182 (C := kR1) (T := kT1) (N := 8) rfl kjn1 (by decide +kernel) rfl kf_1_30) (And.intro (s_iload_n d_0_185 rfl) (And.intro (s_baload d_0_186) (And.intro (s_if_ne d_0_187 (by decide +kernel)) (And.intro (s_aload_n d_0_190 rfl) (And.intro (s_get d_0_191 (C := kR1) (T := kT1) (N := 8) rfl kjn1 (by decide +kernel) rfl kf_1_30) (And.intro (s_iload_n d_0_194 rfl) (And.intro (s_baload d_0_195) (And.intro (s_if_eq d_0_196 (by decide +kernel)) (And.intro (s_iconst d_0_199 (by decide +kernel)) (And.intro (s_goto d_0_200 (by decide +kernel)) (And.intro (s_iconst d_0_203 (by decide +kernel)) (And.intro (s_bastore d_0_204) (And.intro (s_aload_n d_0_205 rfl) (And.intro (s_dup d_0_206) (And.intro (s_get d_0_207 (C := kR1) (T := kT1) (N := 8) rfl kjn1 (by decide +kernel) rfl kf_1_45) (And.intro (s_dup_x1 d_0_210) (And.intro (s_iconst d_0_211 (by decide +kernel)) (And.intro (s_iadd d_0_212) (And.intro (s_put d_0_213 (C := kR1) (T := kT1) (N := 8) rfl kjn1 (by decide +kernel) rfl kf_1_45 kt1 kty1 knm1 rfl (by decide +kernel)) (And.intro (s_ret d_0_216 rfl) (True.intro)))))))))))))))))))))))))))))))))))))))))))))))))))))))))))))))))))))))))))))))))))))))))))))))))))))))))))))))))))))))))
theorem d_1_0 : decode (kby 1) 0 = .ok (.iload_n 1, 1) := by decide +kernel
theorem d_1_1 : decode (kby 1) 1 = .ok (.ifCond .lt 12, 3) := by decide +kernel
theorem d_1_4 : decode (kby 1) 4 = .ok (.iload_n 1, 1) := by decide +kernel
theorem d_1_5 : decode (kby 1) 5 = .ok (.aload_n 0, 1) := by decide +kernel
theorem d_1_6 : decode (kby 1) 6 = .ok (.getfield 15, 3) := by decide +kernel
theorem d_1_9 : decode (kby 1) 9 = .ok (.arraylength, 1) := by decide +kernel
theorem d_1_10 : decode (kby 1) 10 = .ok (.if_icmp .lt 5, 3) := by decide +kernel
theorem d_1_13 : decode (kby 1) 13 = .ok (.iconst (-1), 1) := by decide +kernel
theorem d_1_14 : decode (kby 1) 14 = .ok (.ireturn, 1) := by decide +kernel
theorem d_1_15 : decode (kby 1) 15 = .ok (.aload_n 0, 1) := by decide +kernel
theorem d_1_16 : decode (kby 1) 16 = .ok (.getfield 15, 3) := by decide +kernel
theorem d_1_19 : decode (kby 1) 19 = .ok (.iload_n 1, 1) := by decide +kernel
theorem d_1_20 : decode (kby 1) 20 = .ok (.iaload, 1) := by decide +kernel
theorem d_1_21 : decode (kby 1) 21 = .ok (.ifCond .ge 33, 3) := by decide +kernel
theorem d_1_24 : decode (kby 1) 24 = .ok (.aload_n 0, 1) := by decide +kernel
theorem d_1_25 : decode (kby 1) 25 = .ok (.getfield 9, 3) := by decide +kernel
theorem d_1_28 : decode (kby 1) 28 = .ok (.aload_n 0, 1) := by decide +kernel
theorem d_1_29 : decode (kby 1) 29 = .ok (.getfield 24, 3) := by decide +kernel
theorem d_1_32 : decode (kby 1) 32 = .ok (.iload_n 1, 1) := by decide +kernel
theorem d_1_33 : decode (kby 1) 33 = .ok (.iastore, 1) := by decide +kernel
theorem d_1_34 : decode (kby 1) 34 = .ok (.aload_n 0, 1) := by decide +kernel
theorem d_1_35 : decode (kby 1) 35 = .ok (.getfield 15, 3) := by decide +kernel
theorem d_1_38 : decode (kby 1) 38 = .ok (.iload_n 1, 1) := by decide +kernel
theorem d_1_39 : decode (kby 1) 39 = .ok (.aload_n 0, 1) := by decide +kernel
theorem d_1_40 : decode (kby 1) 40 = .ok (.getfield 24, 3) := by decide +kernel
theorem d_1_43 : decode (kby 1) 43 = .ok (.iastore, 1) := by decide +kernel
theorem d_1_44 : decode (kby 1) 44 = .ok (.aload_n 0, 1) := by decide +kernel
theorem d_1_45 : decode (kby 1) 45 = .ok (.dup, 1) := by decide +kernel
theorem d_1_46 : decode (kby 1) 46 = .ok (.getfield 24, 3) := by decide +kernel
theorem d_1_49 : decode (kby 1) 49 = .ok (.iconst 1, 1) := by decide +kernel
theorem d_1_50 : decode (kby 1) 50 = .ok (.iadd, 1) := by decide +kernel
theorem d_1_51 : decode (kby 1) 51 = .ok (.putfield 24, 3) := by decide +kernel
theorem d_1_54 : decode (kby 1) 54 = .ok (.aload_n 0, 1) := by decide +kernel
theorem d_1_55 : decode (kby 1) 55 = .ok (.getfield 15, 3) := by decide +kernel
theorem d_1_58 : decode (kby 1) 58 = .ok (.iload_n 1, 1) := by decide +kernel
theorem d_1_59 : decode (kby 1) 59 = .ok (.iaload, 1) := by decide +kernel
theorem d_1_60 : decode (kby 1) 60 = .ok (.ireturn, 1) := by decide +kernel
set_option maxRecDepth 100000 in
theorem ka_1 : kall 1 0 kc_1 := And.intro (s_iload_n d_1_0 rfl) (And.intro (s_if_lt d_1_1 (by decide +kernel)) (And.intro (s_iload_n d_1_4 rfl) (And.intro (s_aload_n d_1_5 rfl) (And.intro (s_get d_1_6 (C := kR2) (T := kT2) (N := 3) rfl kjn2 (by decide +kernel) rfl kf_2_15) (And.intro (s_arraylength d_1_9) (And.intro (s_icmp_lt d_1_10 (by decide +kernel)) (And.intro (s_iconst d_1_13 (by decide +kernel)) (And.intro (s_ret d_1_14 rfl) (And.intro (s_aload_n d_1_15 rfl) (And.intro (s_get d_1_16 (C := kR2) (T := kT2) (N := 3) rfl kjn2 (by decide +kernel) rfl kf_2_15) (And.intro (s_iload_n d_1_19 rfl) (And.intro (s_iaload d_1_20) (And.intro (s_if_ge d_1_21 (by decide +kernel)) (And.intro (s_aload_n d_1_24 rfl) (And.intro (s_get d_1_25 (C := kR2) (T := kT2) (N := 3) rfl kjn2 (by decide +kernel) rfl kf_2_9) (And.intro (s_aload_n d_1_28 rfl) (And.intro (s_get d_1_29 (C := kR2) (T := kT2) (N := 3) rfl kjn2 (by decide +kernel) rfl kf_2_24) (And.intro (s_iload_n d_1_32 rfl) (And.intro (s_iastore d_1_33) (And.intro (s_aload_n d_1_34 rfl) (And.intro (s_get d_1_35 (C := kR2) (T := kT2) (N := 3) rfl kjn2 (by decide +kernel) rfl kf_2_15) (And.intro (s_iload_n d_1_38 rfl) (And.intro (s_aload_n d_1_39 rfl) (And.intro (s_get d_1_40 (C := kR2) (T := kT2) (N := 3) rfl kjn2 (by decide +kernel) rfl kf_2_24) (And.intro (s_iastore d_1_43) (And.intro (s_aload_n d_1_44 rfl) (And.intro (s_dup d_1_45) (And.intro (s_get d_1_46 (C := kR2) (T := kT2) (N := 3) rfl kjn2 (by decide +kernel) rfl kf_2_24) (And.intro (s_iconst d_1_49 (by decide +kernel)) (And.intro (s_iadd d_1_50) (And.intro (s_put d_1_51 (C := kR2) (T := kT2) (N := 3) rfl kjn2 (by decide +kernel) rfl kf_2_24 kt2 kty2 knm2 rfl (by decide +kernel)) (And.intro (s_aload_n d_1_54 rfl) (And.intro (s_get d_1_55 (C := kR2) (T := kT2) (N := 3) rfl kjn2 (by decide +kernel) rfl kf_2_15) (And.intro (s_iload_n d_1_58 rfl) (And.intro (s_iaload d_1_59) (And.intro (s_ret d_1_60 rfl) (True.intro)))))))))))))))))))))))))))))))))))))
theorem d_2_0 : decode (kby 2) 0 = .ok (.iload_n 1, 1) := by decide +kernel
theorem d_2_1 : decode (kby 2) 1 = .ok (.ifCond .lt 8, 3) := by decide +kernel
theorem d_2_4 : decode (kby 2) 4 = .ok (.iload_n 1, 1) := by decide +kernel
theorem d_2_5 : decode (kby 2) 5 = .ok (.iconst 4, 1) := by decide +kernel
theorem d_2_6 : decode (kby 2) 6 = .ok (.if_icmp .lt 5, 3) := by decide +kernel
theorem d_2_9 : decode (kby 2) 9 = .ok (.iconst (-1), 1) := by decide +kernel
theorem d_2_10 : decode (kby 2) 10 = .ok (.ireturn, 1) := by decide +kernel
theorem d_2_11 : decode (kby 2) 11 = .ok (.aload_n 0, 1) := by decide +kernel
theorem d_2_12 : decode (kby 2) 12 = .ok (.aload_n 0, 1) := by decide +kernel
theorem d_2_13 : decode (kby 2) 13 = .ok (.getfield 10, 3) := by decide +kernel
theorem d_2_16 : decode (kby 2) 16 = .ok (.iconst 1, 1) := by decide +kernel
theorem d_2_17 : decode (kby 2) 17 = .ok (.iload_n 1, 1) := by decide +kernel
theorem d_2_18 : decode (kby 2) 18 = .ok (.iconst 0, 1) := by decide +kernel
theorem d_2_19 : decode (kby 2) 19 = .ok (.invokevirtual 57, 3) := by decide +kernel
theorem d_2_22 : decode (kby 2) 22 = .ok (.invokevirtual 61, 3) := by decide +kernel
theorem d_2_25 : decode (kby 2) 25 = .ok (.ireturn, 1) := by decide +kernel
set_option maxRecDepth 100000 in
theorem ka_2 : kall 2 0 kc_2 := And.intro (s_iload_n d_2_0 rfl) (And.intro (s_if_lt d_2_1 (by decide +kernel)) (And.intro (s_iload_n d_2_4 rfl) (And.intro (s_iconst d_2_5 (by decide +kernel)) (And.intro (s_icmp_lt d_2_6 (by decide +kernel)) (And.intro (s_iconst d_2_9 (by decide +kernel)) (And.intro (s_ret d_2_10 rfl) (And.intro (s_aload_n d_2_11 rfl) (And.intro (s_aload_n d_2_12 rfl) (And.intro (s_get d_2_13 (C := kR0) (T := kT0) (N := 8) rfl kjn0 (by decide +kernel) rfl kf_0_10) (And.intro (s_iconst d_2_16 (by decide +kernel)) (And.intro (s_iload_n d_2_17 rfl) (And.intro (s_iconst d_2_18 (by decide +kernel)) (And.intro (s_cv d_2_19 kl_0_57 k_im_0 k_se_0 kok_0 rfl (by decide +kernel) rfl rfl) (And.intro (s_cv d_2_22 kl_0_61 k_im_3 k_se_3 kok_3 rfl (by decide +kernel) rfl rfl) (And.intro (s_ret d_2_25 rfl) (True.intro))))))))))))))))
theorem d_3_0 : decode (kby 3) 0 = .ok (.aload_n 0, 1) := by decide +kernel
theorem d_3_1 : decode (kby 3) 1 = .ok (.getfield 10, 3) := by decide +kernel
theorem d_3_4 : decode (kby 3) 4 = .ok (.getfield 65, 3) := by decide +kernel
theorem d_3_7 : decode (kby 3) 7 = .ok (.aload_n 0, 1) := by decide +kernel
theorem d_3_8 : decode (kby 3) 8 = .ok (.iload_n 1, 1) := by decide +kernel
theorem d_3_9 : decode (kby 3) 9 = .ok (.invokevirtual 98, 3) := by decide +kernel
theorem d_3_12 : decode (kby 3) 12 = .ok (.invokevirtual 166, 3) := by decide +kernel
theorem d_3_15 : decode (kby 3) 15 = .ok (.ireturn, 1) := by decide +kernel
set_option maxRecDepth 100000 in
theorem ka_3 : kall 3 0 kc_3 := And.intro (s_aload_n d_3_0 rfl) (And.intro (s_get d_3_1 (C := kR0) (T := kT0) (N := 8) rfl kjn0 (by decide +kernel) rfl kf_0_10) (And.intro (s_get d_3_4 (C := kR1) (T := kT1) (N := 8) rfl kjn1 (by decide +kernel) rfl kf_0_65) (And.intro (s_aload_n d_3_7 rfl) (And.intro (s_iload_n d_3_8 rfl) (And.intro (s_cv d_3_9 kl_0_98 k_im_4 k_se_4 kok_4 rfl (by decide +kernel) rfl rfl) (And.intro (s_cv d_3_12 kl_0_166 k_im_1 k_se_1 kok_1 rfl (by decide +kernel) rfl rfl) (And.intro (s_ret d_3_15 rfl) (True.intro))))))))
theorem d_4_0 : decode (kby 4) 0 = .ok (.aload_n 0, 1) := by decide +kernel
theorem d_4_1 : decode (kby 4) 1 = .ok (.getfield 10, 3) := by decide +kernel
theorem d_4_4 : decode (kby 4) 4 = .ok (.iload_n 1, 1) := by decide +kernel
theorem d_4_5 : decode (kby 4) 5 = .ok (.ifCond .lt 7, 3) := by decide +kernel
theorem d_4_8 : decode (kby 4) 8 = .ok (.iconst 1, 1) := by decide +kernel
theorem d_4_9 : decode (kby 4) 9 = .ok (.goto 4, 3) := by decide +kernel
theorem d_4_12 : decode (kby 4) 12 = .ok (.iconst 0, 1) := by decide +kernel
theorem d_4_13 : decode (kby 4) 13 = .ok (.invokevirtual 192, 3) := by decide +kernel
theorem d_4_16 : decode (kby 4) 16 = .ok (.aload_n 0, 1) := by decide +kernel
theorem d_4_17 : decode (kby 4) 17 = .ok (.getfield 21, 3) := by decide +kernel
theorem d_4_20 : decode (kby 4) 20 = .ok (.iload_n 1, 1) := by decide +kernel
theorem d_4_21 : decode (kby 4) 21 = .ok (.ifCond .lt 7, 3) := by decide +kernel
theorem d_4_24 : decode (kby 4) 24 = .ok (.iconst 1, 1) := by decide +kernel
theorem d_4_25 : decode (kby 4) 25 = .ok (.goto 4, 3) := by decide +kernel
theorem d_4_28 : decode (kby 4) 28 = .ok (.iconst 0, 1) := by decide +kernel
theorem d_4_29 : decode (kby 4) 29 = .ok (.invokevirtual 196, 3) := by decide +kernel
theorem d_4_32 : decode (kby 4) 32 = .ok (.aload_n 0, 1) := by decide +kernel
theorem d_4_33 : decode (kby 4) 33 = .ok (.getfield 28, 3) := by decide +kernel
theorem d_4_36 : decode (kby 4) 36 = .ok (.iload_n 1, 1) := by decide +kernel
theorem d_4_37 : decode (kby 4) 37 = .ok (.ifCond .lt 7, 3) := by decide +kernel
theorem d_4_40 : decode (kby 4) 40 = .ok (.iconst 1, 1) := by decide +kernel
theorem d_4_41 : decode (kby 4) 41 = .ok (.goto 4, 3) := by decide +kernel
theorem d_4_44 : decode (kby 4) 44 = .ok (.iconst 0, 1) := by decide +kernel
theorem d_4_45 : decode (kby 4) 45 = .ok (.invokevirtual 197, 3) := by decide +kernel
theorem d_4_48 : decode (kby 4) 48 = .ok (.iload_n 1, 1) := by decide +kernel
theorem d_4_49 : decode (kby 4) 49 = .ok (.ireturn, 1) := by decide +kernel
set_option maxRecDepth 100000 in
theorem ka_4 : kall 4 0 kc_4 := And.intro (s_aload_n d_4_0 rfl) (And.intro (s_get d_4_1 (C := kR0) (T := kT0) (N := 8) rfl kjn0 (by decide +kernel) rfl kf_0_10) (And.intro (s_iload_n d_4_4 rfl) (And.intro (s_if_lt d_4_5 (by decide +kernel)) (And.intro (s_iconst d_4_8 (by decide +kernel)) (And.intro (s_goto d_4_9 (by decide +kernel)) (And.intro (s_iconst d_4_12 (by decide +kernel)) (And.intro (s_cw d_4_13 kl_0_192 k_im_5 k_se_5 kok_5 rfl (by decide +kernel) rfl rfl) (And.intro (s_aload_n d_4_16 rfl) (And.intro (s_get d_4_17 (C := kR0) (T := kT0) (N := 8) rfl kjn0 (by decide +kernel) rfl kf_0_21) (And.intro (s_iload_n d_4_20 rfl) (And.intro (s_if_lt d_4_21 (by decide +kernel)) (And.intro (s_iconst d_4_24 (by decide +kernel)) (And.intro (s_goto d_4_25 (by decide +kernel)) (And.intro (s_iconst d_4_28 (by decide +kernel)) (And.intro (s_cw d_4_29 kl_0_196 k_im_6 k_se_6 kok_6 rfl (by decide +kernel) rfl rfl) (And.intro (s_aload_n d_4_32 rfl) (And.intro (s_get d_4_33 (C := kR0) (T := kT0) (N := 8) rfl kjn0 (by decide +kernel) rfl kf_0_28) (And.intro (s_iload_n d_4_36 rfl) (And.intro (s_if_lt d_4_37 (by decide +kernel)) (And.intro (s_iconst d_4_40 (by decide +kernel)) (And.intro (s_goto d_4_41 (by decide +kernel)) (And.intro (s_iconst d_4_44 (by decide +kernel)) (And.intro (s_cw d_4_45 kl_0_197 k_im_7 k_se_7 kok_7 rfl (by decide +kernel) rfl rfl) (And.intro (s_iload_n d_4_48 rfl) (And.intro (s_ret d_4_49 rfl) (True.intro))))))))))))))))))))))))))
theorem d_5_0 : decode (kby 5) 0 = .ok (.iload_n 1, 1) := by decide +kernel
theorem d_5_1 : decode (kby 5) 1 = .ok (.ifCond .eq 14, 3) := by decide +kernel
theorem d_5_4 : decode (kby 5) 4 = .ok (.aload_n 0, 1) := by decide +kernel
theorem d_5_5 : decode (kby 5) 5 = .ok (.aload_n 0, 1) := by decide +kernel
theorem d_5_6 : decode (kby 5) 6 = .ok (.getfield 45, 3) := by decide +kernel
theorem d_5_9 : decode (kby 5) 9 = .ok (.putfield 49, 3) := by decide +kernel
theorem d_5_12 : decode (kby 5) 12 = .ok (.goto 11, 3) := by decide +kernel
theorem d_5_15 : decode (kby 5) 15 = .ok (.aload_n 0, 1) := by decide +kernel
theorem d_5_16 : decode (kby 5) 16 = .ok (.aload_n 0, 1) := by decide +kernel
theorem d_5_17 : decode (kby 5) 17 = .ok (.getfield 49, 3) := by decide +kernel
theorem d_5_20 : decode (kby 5) 20 = .ok (.putfield 45, 3) := by decide +kernel
theorem d_5_23 : decode (kby 5) 23 = .ok (.return_, 1) := by decide +kernel
set_option maxRecDepth 100000 in
theorem ka_5 : kall 5 0 kc_5 := And.intro (s_iload_n d_5_0 rfl) (And.intro (s_if_eq d_5_1 (by decide +kernel)) (And.intro (s_aload_n d_5_4 rfl) (And.intro (s_aload_n d_5_5 rfl) (And.intro (s_get d_5_6 (C := kR1) (T := kT1) (N := 8) rfl kjn1 (by decide +kernel) rfl kf_1_45) (And.intro (s_put d_5_9 (C := kR1) (T := kT1) (N := 8) rfl kjn1 (by decide +kernel) rfl kf_1_49 kt1 kty1 knm1 rfl (by decide +kernel)) (And.intro (s_goto d_5_12 (by decide +kernel)) (And.intro (s_aload_n d_5_15 rfl) (And.intro (s_aload_n d_5_16 rfl) (And.intro (s_get d_5_17 (C := kR1) (T := kT1) (N := 8) rfl kjn1 (by decide +kernel) rfl kf_1_49) (And.intro (s_put d_5_20 (C := kR1) (T := kT1) (N := 8) rfl kjn1 (by decide +kernel) rfl kf_1_45 kt1 kty1 knm1 rfl (by decide +kernel)) (And.intro (s_rv d_5_23 rfl) (True.intro))))))))))))
theorem d_6_0 : decode (kby 6) 0 = .ok (.iload_n 1, 1) := by decide +kernel
theorem d_6_1 : decode (kby 6) 1 = .ok (.ifCond .eq 11, 3) := by decide +kernel
theorem d_6_4 : decode (kby 6) 4 = .ok (.aload_n 0, 1) := by decide +kernel
theorem d_6_5 : decode (kby 6) 5 = .ok (.aload_n 0, 1) := by decide +kernel
theorem d_6_6 : decode (kby 6) 6 = .ok (.getfield 65, 3) := by decide +kernel
theorem d_6_9 : decode (kby 6) 9 = .ok (.putfield 69, 3) := by decide +kernel
theorem d_6_12 : decode (kby 6) 12 = .ok (.aload_n 0, 1) := by decide +kernel
theorem d_6_13 : decode (kby 6) 13 = .ok (.getfield 65, 3) := by decide +kernel
theorem d_6_16 : decode (kby 6) 16 = .ok (.aload_n 0, 1) := by decide +kernel
theorem d_6_17 : decode (kby 6) 17 = .ok (.getfield 69, 3) := by decide +kernel
theorem d_6_20 : decode (kby 6) 20 = .ok (.if_icmp .le 39, 3) := by decide +kernel
theorem d_6_23 : decode (kby 6) 23 = .ok (.aload_n 0, 1) := by decide +kernel
theorem d_6_24 : decode (kby 6) 24 = .ok (.dup, 1) := by decide +kernel
theorem d_6_25 : decode (kby 6) 25 = .ok (.getfield 65, 3) := by decide +kernel
theorem d_6_28 : decode (kby 6) 28 = .ok (.iconst 1, 1) := by decide +kernel
theorem d_6_29 : decode (kby 6) 29 = .ok (.isub, 1) := by decide +kernel
theorem d_6_30 : decode (kby 6) 30 = .ok (.putfield 65, 3) := by decide +kernel
theorem d_6_33 : decode (kby 6) 33 = .ok (.aload_n 0, 1) := by decide +kernel
theorem d_6_34 : decode (kby 6) 34 = .ok (.getfield 46, 3) := by decide +kernel
theorem d_6_37 : decode (kby 6) 37 = .ok (.aload_n 0, 1) := by decide +kernel
theorem d_6_38 : decode (kby 6) 38 = .ok (.getfield 52, 3) := by decide +kernel
theorem d_6_41 : decode (kby 6) 41 = .ok (.aload_n 0, 1) := by decide +kernel
theorem d_6_42 : decode (kby 6) 42 = .ok (.getfield 65, 3) := by decide +kernel
theorem d_6_45 : decode (kby 6) 45 = .ok (.iaload, 1) := by decide +kernel
theorem d_6_46 : decode (kby 6) 46 = .ok (.aload_n 0, 1) := by decide +kernel
theorem d_6_47 : decode (kby 6) 47 = .ok (.getfield 49, 3) := by decide +kernel
theorem d_6_50 : decode (kby 6) 50 = .ok (.aload_n 0, 1) := by decide +kernel
theorem d_6_51 : decode (kby 6) 51 = .ok (.getfield 65, 3) := by decide +kernel
theorem d_6_54 : decode (kby 6) 54 = .ok (.iaload, 1) := by decide +kernel
theorem d_6_55 : decode (kby 6) 55 = .ok (.iastore, 1) := by decide +kernel
theorem d_6_56 : decode (kby 6) 56 = .ok (.goto (-44), 3) := by decide +kernel
theorem d_6_59 : decode (kby 6) 59 = .ok (.return_, 1) := by decide +kernel
set_option maxRecDepth 100000 in
theorem ka_6 : kall 6 0 kc_6 := And.intro (s_iload_n d_6_0 rfl) (And.intro (s_if_eq d_6_1 (by decide +kernel)) (And.intro (s_aload_n d_6_4 rfl) (And.intro (s_aload_n d_6_5 rfl) (And.intro (s_get d_6_6 (C := kR3) (T := kT3) (N := 15) rfl kjn3 (by decide +kernel) rfl kf_3_65) (And.intro (s_put d_6_9 (C := kR3) (T := kT3) (N := 15) rfl kjn3 (by decide +kernel) rfl kf_3_69 kt3 kty3 knm3 rfl (by decide +kernel)) (And.intro (s_aload_n d_6_12 rfl) (And.intro (s_get d_6_13 (C := kR3) (T := kT3) (N := 15) rfl kjn3 (by decide +kernel) rfl kf_3_65) (And.intro (s_aload_n d_6_16 rfl) (And.intro (s_get d_6_17 (C := kR3) (T := kT3) (N := 15) rfl kjn3 (by decide +kernel) rfl kf_3_69) (And.intro (s_icmp_le d_6_20 (by decide +kernel)) (And.intro (s_aload_n d_6_23 rfl) (And.intro (s_dup d_6_24) (And.intro (s_get d_6_25 (C := kR3) (T := kT3) (N := 15) rfl kjn3 (by decide +kernel) rfl kf_3_65) (And.intro (s_iconst d_6_28 (by decide +kernel)) (And.intro (s_isub d_6_29) (And.intro (s_put d_6_30 (C := kR3) (T := kT3) (N := 15) rfl kjn3 (by decide +kernel) rfl kf_3_65 kt3 kty3 knm3 rfl (by decide +kernel)) (And.intro (s_aload_n d_6_33 rfl) (And.intro (s_get d_6_34 (C := kR3) (T := kT3) (N := 15) rfl kjn3 (by decide +kernel) rfl kf_3_46) (And.intro (s_aload_n d_6_37 rfl) (And.intro (s_get d_6_38 (C := kR3) (T := kT3) (N := 15) rfl kjn3 (by decide +kernel) rfl kf_3_52) (And.intro (s_aload_n d_6_41 rfl) (And.intro (s_get d_6_42 (C := kR3) (T := kT3) (N := 15) rfl kjn3 (by decide +kernel) rfl kf_3_65) (And.intro (s_iaload d_6_45) (And.intro (s_aload_n d_6_46 rfl) (And.intro (s_get d_6_47 (C := kR3) (T := kT3) (N := 15) rfl kjn3 (by decide +kernel) rfl kf_3_49) (And.intro (s_aload_n d_6_50 rfl) (And.intro (s_get d_6_51 (C := kR3) (T := kT3) (N := 15) rfl kjn3 (by decide +kernel) rfl kf_3_65) (And.intro (s_iaload d_6_54) (And.intro (s_iastore d_6_55) (And.intro (s_goto d_6_56 (by decide +kernel)) (And.intro (s_rv d_6_59 rfl) (True.intro))))))))))))))))))))))))))))))))
theorem d_7_0 : decode (kby 7) 0 = .ok (.iload_n 1, 1) := by decide +kernel
theorem d_7_1 : decode (kby 7) 1 = .ok (.ifCond .eq 14, 3) := by decide +kernel
theorem d_7_4 : decode (kby 7) 4 = .ok (.aload_n 0, 1) := by decide +kernel
theorem d_7_5 : decode (kby 7) 5 = .ok (.aload_n 0, 1) := by decide +kernel
theorem d_7_6 : decode (kby 7) 6 = .ok (.getfield 24, 3) := by decide +kernel
theorem d_7_9 : decode (kby 7) 9 = .ok (.putfield 28, 3) := by decide +kernel
theorem d_7_12 : decode (kby 7) 12 = .ok (.goto 11, 3) := by decide +kernel
theorem d_7_15 : decode (kby 7) 15 = .ok (.aload_n 0, 1) := by decide +kernel
theorem d_7_16 : decode (kby 7) 16 = .ok (.aload_n 0, 1) := by decide +kernel
theorem d_7_17 : decode (kby 7) 17 = .ok (.getfield 28, 3) := by decide +kernel
theorem d_7_20 : decode (kby 7) 20 = .ok (.putfield 24, 3) := by decide +kernel
theorem d_7_23 : decode (kby 7) 23 = .ok (.return_, 1) := by decide +kernel
set_option maxRecDepth 100000 in
theorem ka_7 : kall 7 0 kc_7 := And.intro (s_iload_n d_7_0 rfl) (And.intro (s_if_eq d_7_1 (by decide +kernel)) (And.intro (s_aload_n d_7_4 rfl) (And.intro (s_aload_n d_7_5 rfl) (And.intro (s_get d_7_6 (C := kR4) (T := kT4) (N := 8) rfl kjn4 (by decide +kernel) rfl kf_4_24) (And.intro (s_put d_7_9 (C := kR4) (T := kT4) (N := 8) rfl kjn4 (by decide +kernel) rfl kf_4_28 kt4 kty4 knm4 rfl (by decide +kernel)) (And.intro (s_goto d_7_12 (by decide +kernel)) (And.intro (s_aload_n d_7_15 rfl) (And.intro (s_aload_n d_7_16 rfl) (And.intro (s_get d_7_17 (C := kR4) (T := kT4) (N := 8) rfl kjn4 (by decide +kernel) rfl kf_4_28) (And.intro (s_put d_7_20 (C := kR4) (T := kT4) (N := 8) rfl kjn4 (by decide +kernel) rfl kf_4_24 kt4 kty4 knm4 rfl (by decide +kernel)) (And.intro (s_rv d_7_23 rfl) (True.intro))))))))))))
theorem d_8_0 : decode (kby 8) 0 = .ok (.aload_n 0, 1) := by decide +kernel
theorem d_8_1 : decode (kby 8) 1 = .ok (.aload_n 0, 1) := by decide +kernel
theorem d_8_2 : decode (kby 8) 2 = .ok (.getfield 10, 3) := by decide +kernel
theorem d_8_5 : decode (kby 8) 5 = .ok (.iconst 3, 1) := by decide +kernel
theorem d_8_6 : decode (kby 8) 6 = .ok (.aload_n 0, 1) := by decide +kernel
theorem d_8_7 : decode (kby 8) 7 = .ok (.getfield 10, 3) := by decide +kernel
theorem d_8_10 : decode (kby 8) 10 = .ok (.getfield 65, 3) := by decide +kernel
theorem d_8_13 : decode (kby 8) 13 = .ok (.iload_n 1, 1) := by decide +kernel
theorem d_8_14 : decode (kby 8) 14 = .ok (.invokevirtual 69, 3) := by decide +kernel
theorem d_8_17 : decode (kby 8) 17 = .ok (.aload_n 0, 1) := by decide +kernel
theorem d_8_18 : decode (kby 8) 18 = .ok (.getfield 10, 3) := by decide +kernel
theorem d_8_21 : decode (kby 8) 21 = .ok (.getfield 65, 3) := by decide +kernel
theorem d_8_24 : decode (kby 8) 24 = .ok (.iload_n 2, 1) := by decide +kernel
theorem d_8_25 : decode (kby 8) 25 = .ok (.invokevirtual 69, 3) := by decide +kernel
theorem d_8_28 : decode (kby 8) 28 = .ok (.invokevirtual 57, 3) := by decide +kernel
theorem d_8_31 : decode (kby 8) 31 = .ok (.invokevirtual 61, 3) := by decide +kernel
theorem d_8_34 : decode (kby 8) 34 = .ok (.ireturn, 1) := by decide +kernel
set_option maxRecDepth 100000 in
theorem ka_8 : kall 8 0 kc_8 := And.intro (s_aload_n d_8_0 rfl) (And.intro (s_aload_n d_8_1 rfl) (And.intro (s_get d_8_2 (C := kR0) (T := kT0) (N := 8) rfl kjn0 (by decide +kernel) rfl kf_0_10) (And.intro (s_iconst d_8_5 (by decide +kernel)) (And.intro (s_aload_n d_8_6 rfl) (And.intro (s_get d_8_7 (C := kR0) (T := kT0) (N := 8) rfl kjn0 (by decide +kernel) rfl kf_0_10) (And.intro (s_get d_8_10 (C := kR1) (T := kT1) (N := 8) rfl kjn1 (by decide +kernel) rfl kf_0_65) (And.intro (s_iload_n d_8_13 rfl) (And.intro (s_cv d_8_14 kl_0_69 k_im_9 k_se_9 kok_9 rfl (by decide +kernel) rfl rfl) (And.intro (s_aload_n d_8_17 rfl) (And.intro (s_get d_8_18 (C := kR0) (T := kT0) (N := 8) rfl kjn0 (by decide +kernel) rfl kf_0_10) (And.intro (s_get d_8_21 (C := kR1) (T := kT1) (N := 8) rfl kjn1 (by decide +kernel) rfl kf_0_65) (And.intro (s_iload_n d_8_24 rfl) (And.intro (s_cv d_8_25 kl_0_69 k_im_9 k_se_9 kok_9 rfl (by decide +kernel) rfl rfl) (And.intro (s_cv d_8_28 kl_0_57 k_im_0 k_se_0 kok_0 rfl (by decide +kernel) rfl rfl) (And.intro (s_cv d_8_31 kl_0_61 k_im_3 k_se_3 kok_3 rfl (by decide +kernel) rfl rfl) (And.intro (s_ret d_8_34 rfl) (True.intro)))))))))))))))))
theorem d_9_0 : decode (kby 9) 0 = .ok (.iload_n 1, 1) := by decide +kernel
theorem d_9_1 : decode (kby 9) 1 = .ok (.ifCond .lt 20, 3) := by decide +kernel
theorem d_9_4 : decode (kby 9) 4 = .ok (.iload_n 1, 1) := by decide +kernel
theorem d_9_5 : decode (kby 9) 5 = .ok (.aload_n 0, 1) := by decide +kernel
theorem d_9_6 : decode (kby 9) 6 = .ok (.getfield 24, 3) := by decide +kernel
theorem d_9_9 : decode (kby 9) 9 = .ok (.if_icmp .ge 12, 3) := by decide +kernel
theorem d_9_12 : decode (kby 9) 12 = .ok (.aload_n 0, 1) := by decide +kernel
theorem d_9_13 : decode (kby 9) 13 = .ok (.getfield 9, 3) := by decide +kernel
theorem d_9_16 : decode (kby 9) 16 = .ok (.iload_n 1, 1) := by decide +kernel
theorem d_9_17 : decode (kby 9) 17 = .ok (.iaload, 1) := by decide +kernel
theorem d_9_18 : decode (kby 9) 18 = .ok (.goto 4, 3) := by decide +kernel
theorem d_9_21 : decode (kby 9) 21 = .ok (.iconst (-1), 1) := by decide +kernel
theorem d_9_22 : decode (kby 9) 22 = .ok (.ireturn, 1) := by decide +kernel
set_option maxRecDepth 100000 in
theorem ka_9 : kall 9 0 kc_9 := And.intro (s_iload_n d_9_0 rfl) (And.intro (s_if_lt d_9_1 (by decide +kernel)) (And.intro (s_iload_n d_9_4 rfl) (And.intro (s_aload_n d_9_5 rfl) (And.intro (s_get d_9_6 (C := kR2) (T := kT2) (N := 3) rfl kjn2 (by decide +kernel) rfl kf_2_24) (And.intro (s_icmp_ge d_9_9 (by decide +kernel)) (And.intro (s_aload_n d_9_12 rfl) (And.intro (s_get d_9_13 (C := kR2) (T := kT2) (N := 3) rfl kjn2 (by decide +kernel) rfl kf_2_9) (And.intro (s_iload_n d_9_16 rfl) (And.intro (s_iaload d_9_17) (And.intro (s_goto d_9_18 (by decide +kernel)) (And.intro (s_iconst d_9_21 (by decide +kernel)) (And.intro (s_ret d_9_22 rfl) (True.intro)))))))))))))
theorem d_10_0 : decode (kby 10) 0 = .ok (.iload_n 1, 1) := by decide +kernel
theorem d_10_1 : decode (kby 10) 1 = .ok (.ifCond .lt 9, 3) := by decide +kernel
theorem d_10_4 : decode (kby 10) 4 = .ok (.iload_n 1, 1) := by decide +kernel
theorem d_10_5 : decode (kby 10) 5 = .ok (.bipush 8, 2) := by decide +kernel
theorem d_10_7 : decode (kby 10) 7 = .ok (.if_icmp .lt 5, 3) := by decide +kernel
theorem d_10_10 : decode (kby 10) 10 = .ok (.iconst (-1), 1) := by decide +kernel
theorem d_10_11 : decode (kby 10) 11 = .ok (.ireturn, 1) := by decide +kernel
theorem d_10_12 : decode (kby 10) 12 = .ok (.aload_n 0, 1) := by decide +kernel
theorem d_10_13 : decode (kby 10) 13 = .ok (.aload_n 0, 1) := by decide +kernel
theorem d_10_14 : decode (kby 10) 14 = .ok (.getfield 21, 3) := by decide +kernel
theorem d_10_17 : decode (kby 10) 17 = .ok (.iconst 0, 1) := by decide +kernel
theorem d_10_18 : decode (kby 10) 18 = .ok (.iload_n 1, 1) := by decide +kernel
theorem d_10_19 : decode (kby 10) 19 = .ok (.iconst 0, 1) := by decide +kernel
theorem d_10_20 : decode (kby 10) 20 = .ok (.aload_n 0, 1) := by decide +kernel
theorem d_10_21 : decode (kby 10) 21 = .ok (.getfield 10, 3) := by decide +kernel
theorem d_10_24 : decode (kby 10) 24 = .ok (.getfield 65, 3) := by decide +kernel
theorem d_10_27 : decode (kby 10) 27 = .ok (.iload_n 2, 1) := by decide +kernel
theorem d_10_28 : decode (kby 10) 28 = .ok (.invokevirtual 69, 3) := by decide +kernel
theorem d_10_31 : decode (kby 10) 31 = .ok (.invokevirtual 74, 3) := by decide +kernel
theorem d_10_34 : decode (kby 10) 34 = .ok (.invokevirtual 77, 3) := by decide +kernel
theorem d_10_37 : decode (kby 10) 37 = .ok (.ireturn, 1) := by decide +kernel
set_option maxRecDepth 100000 in
theorem ka_10 : kall 10 0 kc_10 := And.intro (s_iload_n d_10_0 rfl) (And.intro (s_if_lt d_10_1 (by decide +kernel)) (And.intro (s_iload_n d_10_4 rfl) (And.intro (s_bipush d_10_5 (by decide +kernel)) (And.intro (s_icmp_lt d_10_7 (by decide +kernel)) (And.intro (s_iconst d_10_10 (by decide +kernel)) (And.intro (s_ret d_10_11 rfl) (And.intro (s_aload_n d_10_12 rfl) (And.intro (s_aload_n d_10_13 rfl) (And.intro (s_get d_10_14 (C := kR0) (T := kT0) (N := 8) rfl kjn0 (by decide +kernel) rfl kf_0_21) (And.intro (s_iconst d_10_17 (by decide +kernel)) (And.intro (s_iload_n d_10_18 rfl) (And.intro (s_iconst d_10_19 (by decide +kernel)) (And.intro (s_aload_n d_10_20 rfl) (And.intro (s_get d_10_21 (C := kR0) (T := kT0) (N := 8) rfl kjn0 (by decide +kernel) rfl kf_0_10) (And.intro (s_get d_10_24 (C := kR1) (T := kT1) (N := 8) rfl kjn1 (by decide +kernel) rfl kf_0_65) (And.intro (s_iload_n d_10_27 rfl) (And.intro (s_cv d_10_28 kl_0_69 k_im_9 k_se_9 kok_9 rfl (by decide +kernel) rfl rfl) (And.intro (s_cv d_10_31 kl_0_74 k_im_11 k_se_11 kok_11 rfl (by decide +kernel) rfl rfl) (And.intro (s_cv d_10_34 kl_0_77 k_im_12 k_se_12 kok_12 rfl (by decide +kernel) rfl rfl) (And.intro (s_ret d_10_37 rfl) (True.intro)))))))))))))))))))))
theorem d_11_0 : decode (kby 11) 0 = .ok (.iload 4, 2) := by decide +kernel
theorem d_11_2 : decode (kby 11) 2 = .ok (.ifCond .ge 5, 3) := by decide +kernel
theorem d_11_5 : decode (kby 11) 5 = .ok (.iconst (-1), 1) := by decide +kernel
theorem d_11_6 : decode (kby 11) 6 = .ok (.ireturn, 1) := by decide +kernel
theorem d_11_7 : decode (kby 11) 7 = .ok (.iload_n 1, 1) := by decide +kernel
theorem d_11_8 : decode (kby 11) 8 = .ok (.iconst 5, 1) := by decide +kernel
theorem d_11_9 : decode (kby 11) 9 = .ok (.iload_n 2, 1) := by decide +kernel
theorem d_11_10 : decode (kby 11) 10 = .ok (.imul, 1) := by decide +kernel
theorem d_11_11 : decode (kby 11) 11 = .ok (.iadd, 1) := by decide +kernel
theorem d_11_12 : decode (kby 11) 12 = .ok (.bipush 23, 2) := by decide +kernel
theorem d_11_14 : decode (kby 11) 14 = .ok (.iload_n 3, 1) := by decide +kernel
theorem d_11_15 : decode (kby 11) 15 = .ok (.imul, 1) := by decide +kernel
theorem d_11_16 : decode (kby 11) 16 = .ok (.iadd, 1) := by decide +kernel
theorem d_11_17 : decode (kby 11) 17 = .ok (.bipush 11, 2) := by decide +kernel
theorem d_11_19 : decode (kby 11) 19 = .ok (.iload 4, 2) := by decide +kernel
theorem d_11_21 : decode (kby 11) 21 = .ok (.imul, 1) := by decide +kernel
theorem d_11_22 : decode (kby 11) 22 = .ok (.iadd, 1) := by decide +kernel
theorem d_11_23 : decode (kby 11) 23 = .ok (.bipush 63, 2) := by decide +kernel
theorem d_11_25 : decode (kby 11) 25 = .ok (.iand, 1) := by decide +kernel
theorem d_11_26 : decode (kby 11) 26 = .ok (.istore 5, 2) := by decide +kernel
theorem d_11_28 : decode (kby 11) 28 = .ok (.aload_n 0, 1) := by decide +kernel
theorem d_11_29 : decode (kby 11) 29 = .ok (.getfield 46, 3) := by decide +kernel
theorem d_11_32 : decode (kby 11) 32 = .ok (.iload 5, 2) := by decide +kernel
theorem d_11_34 : decode (kby 11) 34 = .ok (.iaload, 1) := by decide +kernel
theorem d_11_35 : decode (kby 11) 35 = .ok (.istore 6, 2) := by decide +kernel
theorem d_11_37 : decode (kby 11) 37 = .ok (.iconst 0, 1) := by decide +kernel
theorem d_11_38 : decode (kby 11) 38 = .ok (.istore 7, 2) := by decide +kernel
theorem d_11_40 : decode (kby 11) 40 = .ok (.iload 6, 2) := by decide +kernel
theorem d_11_42 : decode (kby 11) 42 = .ok (.ifCond .lt 74, 3) := by decide +kernel
theorem d_11_45 : decode (kby 11) 45 = .ok (.iload 7, 2) := by decide +kernel
theorem d_11_47 : decode (kby 11) 47 = .ok (.sipush 250, 3) := by decide +kernel
theorem d_11_50 : decode (kby 11) 50 = .ok (.if_icmp .ge 66, 3) := by decide +kernel
theorem d_11_53 : decode (kby 11) 53 = .ok (.aload_n 0, 1) := by decide +kernel
theorem d_11_54 : decode (kby 11) 54 = .ok (.getfield 20, 3) := by decide +kernel
theorem d_11_57 : decode (kby 11) 57 = .ok (.iload 6, 2) := by decide +kernel
theorem d_11_59 : decode (kby 11) 59 = .ok (.iaload, 1) := by decide +kernel
theorem d_11_60 : decode (kby 11) 60 = .ok (.iload_n 1, 1) := by decide +kernel
theorem d_11_61 : decode (kby 11) 61 = .ok (.if_icmp .ne 40, 3) := by decide +kernel
theorem d_11_64 : decode (kby 11) 64 = .ok (.aload_n 0, 1) := by decide +kernel
theorem d_11_65 : decode (kby 11) 65 = .ok (.getfield 24, 3) := by decide +kernel
theorem d_11_68 : decode (kby 11) 68 = .ok (.iload 6, 2) := by decide +kernel
theorem d_11_70 : decode (kby 11) 70 = .ok (.iaload, 1) := by decide +kernel
theorem d_11_71 : decode (kby 11) 71 = .ok (.iload_n 2, 1) := by decide +kernel
theorem d_11_72 : decode (kby 11) 72 = .ok (.if_icmp .ne 29, 3) := by decide +kernel
theorem d_11_75 : decode (kby 11) 75 = .ok (.aload_n 0, 1) := by decide +kernel
theorem d_11_76 : decode (kby 11) 76 = .ok (.getfield 27, 3) := by decide +kernel
theorem d_11_79 : decode (kby 11) 79 = .ok (.iload 6, 2) := by decide +kernel
theorem d_11_81 : decode (kby 11) 81 = .ok (.iaload, 1) := by decide +kernel
theorem d_11_82 : decode (kby 11) 82 = .ok (.iload_n 3, 1) := by decide +kernel
theorem d_11_83 : decode (kby 11) 83 = .ok (.if_icmp .ne 18, 3) := by decide +kernel
theorem d_11_86 : decode (kby 11) 86 = .ok (.aload_n 0, 1) := by decide +kernel
theorem d_11_87 : decode (kby 11) 87 = .ok (.getfield 30, 3) := by decide +kernel
theorem d_11_90 : decode (kby 11) 90 = .ok (.iload 6, 2) := by decide +kernel
theorem d_11_92 : decode (kby 11) 92 = .ok (.iaload, 1) := by decide +kernel
theorem d_11_93 : decode (kby 11) 93 = .ok (.iload 4, 2) := by decide +kernel
theorem d_11_95 : decode (kby 11) 95 = .ok (.if_icmp .ne 6, 3) := by decide +kernel
theorem d_11_98 : decode (kby 11) 98 = .ok (.iload 6, 2) := by decide +kernel
theorem d_11_100 : decode (kby 11) 100 = .ok (.ireturn, 1) := by decide +kernel
theorem d_11_101 : decode (kby 11) 101 = .ok (.aload_n 0, 1) := by decide +kernel
theorem d_11_102 : decode (kby 11) 102 = .ok (.getfield 49, 3) := by decide +kernel
theorem d_11_105 : decode (kby 11) 105 = .ok (.iload 6, 2) := by decide +kernel
theorem d_11_107 : decode (kby 11) 107 = .ok (.iaload, 1) := by decide +kernel
theorem d_11_108 : decode (kby 11) 108 = .ok (.istore 6, 2) := by decide +kernel
theorem d_11_110 : decode (kby 11) 110 = .ok (.iinc 7 1, 3) := by decide +kernel
theorem d_11_113 : decode (kby 11) 113 = .ok (.goto (-73), 3) := by decide +kernel
theorem d_11_116 : decode (kby 11) 116 = .ok (.iload_n 1, 1) := by decide +kernel
theorem d_11_117 : decode (kby 11) 117 = .ok (.iconst 3, 1) := by decide +kernel
theorem d_11_118 : decode (kby 11) 118 = .ok (.if_icmp .eq 8, 3) := by decide +kernel
theorem d_11_121 : decode (kby 11) 121 = .ok (.iload_n 1, 1) := by decide +kernel
theorem d_11_122 : decode (kby 11) 122 = .ok (.iconst 4, 1) := by decide +kernel
theorem d_11_123 : decode (kby 11) 123 = .ok (.if_icmp .ne 7, 3) := by decide +kernel
theorem d_11_126 : decode (kby 11) 126 = .ok (.iconst 1, 1) := by decide +kernel
theorem d_11_127 : decode (kby 11) 127 = .ok (.goto 4, 3) := by decide +kernel
theorem d_11_130 : decode (kby 11) 130 = .ok (.iconst 0, 1) := by decide +kernel
theorem d_11_131 : decode (kby 11) 131 = .ok (.istore 7, 2) := by decide +kernel
theorem d_11_133 : decode (kby 11) 133 = .ok (.iload 7, 2) := by decide +kernel
theorem d_11_135 : decode (kby 11) 135 = .ok (.ifCond .eq 23, 3) := by decide +kernel
theorem d_11_138 : decode (kby 11) 138 = .ok (.iconst 1, 1) := by decide +kernel
theorem d_11_139 : decode (kby 11) 139 = .ok (.aload_n 0, 1) := by decide +kernel
theorem d_11_140 : decode (kby 11) 140 = .ok (.getfield 43, 3) := by decide +kernel
theorem d_11_143 : decode (kby 11) 143 = .ok (.iload_n 2, 1) := by decide +kernel
theorem d_11_144 : decode (kby 11) 144 = .ok (.iaload, 1) := by decide +kernel
theorem d_11_145 : decode (kby 11) 145 = .ok (.aload_n 0, 1) := by decide +kernel
theorem d_11_146 : decode (kby 11) 146 = .ok (.getfield 43, 3) := by decide +kernel
theorem d_11_149 : decode (kby 11) 149 = .ok (.iload_n 3, 1) := by decide +kernel
theorem d_11_150 : decode (kby 11) 150 = .ok (.iaload, 1) := by decide +kernel
theorem d_11_151 : decode (kby 11) 151 = .ok (.invokestatic 107, 3) := by decide +kernel
theorem d_11_154 : decode (kby 11) 154 = .ok (.iadd, 1) := by decide +kernel
theorem d_11_155 : decode (kby 11) 155 = .ok (.goto 4, 3) := by decide +kernel
theorem d_11_158 : decode (kby 11) 158 = .ok (.iconst 1, 1) := by decide +kernel
theorem d_11_159 : decode (kby 11) 159 = .ok (.istore 8, 2) := by decide +kernel
theorem d_11_161 : decode (kby 11) 161 = .ok (.iload 8, 2) := by decide +kernel
theorem d_11_163 : decode (kby 11) 163 = .ok (.bipush 20, 2) := by decide +kernel
theorem d_11_165 : decode (kby 11) 165 = .ok (.if_icmp .gt 13, 3) := by decide +kernel
theorem d_11_168 : decode (kby 11) 168 = .ok (.aload_n 0, 1) := by decide +kernel
theorem d_11_169 : decode (kby 11) 169 = .ok (.getfield 65, 3) := by decide +kernel
theorem d_11_172 : decode (kby 11) 172 = .ok (.sipush 250, 3) := by decide +kernel
theorem d_11_175 : decode (kby 11) 175 = .ok (.if_icmp .lt 5, 3) := by decide +kernel
theorem d_11_178 : decode (kby 11) 178 = .ok (.iconst (-1), 1) := by decide +kernel
theorem d_11_179 : decode (kby 11) 179 = .ok (.ireturn, 1) := by decide +kernel
theorem d_11_180 : decode (kby 11) 180 = .ok (.aload_n 0, 1) := by decide +kernel
theorem d_11_181 : decode (kby 11) 181 = .ok (.getfield 20, 3) := by decide +kernel
theorem d_11_184 : decode (kby 11) 184 = .ok (.aload_n 0, 1) := by decide +kernel
theorem d_11_185 : decode (kby 11) 185 = .ok (.getfield 65, 3) := by decide +kernel
theorem d_11_188 : decode (kby 11) 188 = .ok (.iload_n 1, 1) := by decide +kernel
theorem d_11_189 : decode (kby 11) 189 = .ok (.iastore, 1) := by decide +kernel
theorem d_11_190 : decode (kby 11) 190 = .ok (.aload_n 0, 1) := by decide +kernel
theorem d_11_191 : decode (kby 11) 191 = .ok (.getfield 24, 3) := by decide +kernel
theorem d_11_194 : decode (kby 11) 194 = .ok (.aload_n 0, 1) := by decide +kernel
theorem d_11_195 : decode (kby 11) 195 = .ok (.getfield 65, 3) := by decide +kernel
theorem d_11_198 : decode (kby 11) 198 = .ok (.iload_n 2, 1) := by decide +kernel
theorem d_11_199 : decode (kby 11) 199 = .ok (.iastore, 1) := by decide +kernel
theorem d_11_200 : decode (kby 11) 200 = .ok (.aload_n 0, 1) := by decide +kernel
theorem d_11_201 : decode (kby 11) 201 = .ok (.getfield 27, 3) := by decide +kernel
theorem d_11_204 : decode (kby 11) 204 = .ok (.aload_n 0, 1) := by decide +kernel
theorem d_11_205 : decode (kby 11) 205 = .ok (.getfield 65, 3) := by decide +kernel
theorem d_11_208 : decode (kby 11) 208 = .ok (.iload_n 3, 1) := by decide +kernel
theorem d_11_209 : decode (kby 11) 209 = .ok (.iastore, 1) := by decide +kernel
theorem d_11_210 : decode (kby 11) 210 = .ok (.aload_n 0, 1) := by decide +kernel
theorem d_11_211 : decode (kby 11) 211 = .ok (.getfield 30, 3) := by decide +kernel
theorem d_11_214 : decode (kby 11) 214 = .ok (.aload_n 0, 1) := by decide +kernel
theorem d_11_215 : decode (kby 11) 215 = .ok (.getfield 65, 3) := by decide +kernel
theorem d_11_218 : decode (kby 11) 218 = .ok (.iload 4, 2) := by decide +kernel
theorem d_11_220 : decode (kby 11) 220 = .ok (.iastore, 1) := by decide +kernel
theorem d_11_221 : decode (kby 11) 221 = .ok (.aload_n 0, 1) := by decide +kernel
theorem d_11_222 : decode (kby 11) 222 = .ok (.getfield 43, 3) := by decide +kernel
theorem d_11_225 : decode (kby 11) 225 = .ok (.aload_n 0, 1) := by decide +kernel
theorem d_11_226 : decode (kby 11) 226 = .ok (.getfield 65, 3) := by decide +kernel
theorem d_11_229 : decode (kby 11) 229 = .ok (.iload 8, 2) := by decide +kernel
theorem d_11_231 : decode (kby 11) 231 = .ok (.iastore, 1) := by decide +kernel
theorem d_11_232 : decode (kby 11) 232 = .ok (.aload_n 0, 1) := by decide +kernel
theorem d_11_233 : decode (kby 11) 233 = .ok (.getfield 40, 3) := by decide +kernel
theorem d_11_236 : decode (kby 11) 236 = .ok (.aload_n 0, 1) := by decide +kernel
theorem d_11_237 : decode (kby 11) 237 = .ok (.getfield 65, 3) := by decide +kernel
theorem d_11_240 : decode (kby 11) 240 = .ok (.iload_n 1, 1) := by decide +kernel
theorem d_11_241 : decode (kby 11) 241 = .ok (.ifCond .eq 26, 3) := by decide +kernel
theorem d_11_244 : decode (kby 11) 244 = .ok (.iload 7, 2) := by decide +kernel
theorem d_11_246 : decode (kby 11) 246 = .ok (.ifCond .eq 25, 3) := by decide +kernel
theorem d_11_249 : decode (kby 11) 249 = .ok (.aload_n 0, 1) := by decide +kernel
theorem d_11_250 : decode (kby 11) 250 = .ok (.getfield 40, 3) := by decide +kernel
theorem d_11_253 : decode (kby 11) 253 = .ok (.iload_n 2, 1) := by decide +kernel
theorem d_11_254 : decode (kby 11) 254 = .ok (.baload, 1) := by decide +kernel
theorem d_11_255 : decode (kby 11) 255 = .ok (.ifCond .ne 12, 3) := by decide +kernel
theorem d_11_258 : decode (kby 11) 258 = .ok (.aload_n 0, 1) := by decide +kernel
theorem d_11_259 : decode (kby 11) 259 = .ok (.getfield 40, 3) := by decide +kernel
theorem d_11_262 : decode (kby 11) 262 = .ok (.iload_n 3, 1) := by decide +kernel
theorem d_11_263 : decode (kby 11) 263 = .ok (.baload, 1) := by decide +kernel
theorem d_11_264 : decode (kby 11) 264 = .ok (.ifCond .eq 7, 3) := by decide +kernel
theorem d_11_267 : decode (kby 11) 267 = .ok (.iconst 1, 1) := by decide +kernel
theorem d_11_268 : decode (kby 11) 268 = .ok (.goto 4, 3) := by decide +kernel
theorem d_11_271 : decode (kby 11) 271 = .ok (.iconst 0, 1) := by decide +kernel
theorem d_11_272 : decode (kby 11) 272 = .ok (.bastore, 1) := by decide +kernel
theorem d_11_273 : decode (kby 11) 273 = .ok (.aload_n 0, 1) := by decide +kernel
theorem d_11_274 : decode (kby 11) 274 = .ok (.getfield 33, 3) := by decide +kernel
theorem d_11_277 : decode (kby 11) 277 = .ok (.aload_n 0, 1) := by decide +kernel
theorem d_11_278 : decode (kby 11) 278 = .ok (.getfield 65, 3) := by decide +kernel
theorem d_11_281 : decode (kby 11) 281 = .ok (.aload_n 0, 1) := by decide +kernel
theorem d_11_282 : decode (kby 11) 282 = .ok (.getfield 55, 3) := by decide +kernel
theorem d_11_285 : decode (kby 11) 285 = .ok (.getfield 112, 3) := by decide +kernel
theorem d_11_288 : decode (kby 11) 288 = .ok (.iload 4, 2) := by decide +kernel
theorem d_11_290 : decode (kby 11) 290 = .ok (.baload, 1) := by decide +kernel
theorem d_11_291 : decode (kby 11) 291 = .ok (.ifCond .ne 26, 3) := by decide +kernel
theorem d_11_294 : decode (kby 11) 294 = .ok (.iload 7, 2) := by decide +kernel
theorem d_11_296 : decode (kby 11) 296 = .ok (.ifCond .eq 25, 3) := by decide +kernel
theorem d_11_299 : decode (kby 11) 299 = .ok (.aload_n 0, 1) := by decide +kernel
theorem d_11_300 : decode (kby 11) 300 = .ok (.getfield 33, 3) := by decide +kernel
theorem d_11_303 : decode (kby 11) 303 = .ok (.iload_n 2, 1) := by decide +kernel
theorem d_11_304 : decode (kby 11) 304 = .ok (.baload, 1) := by decide +kernel
theorem d_11_305 : decode (kby 11) 305 = .ok (.ifCond .ne 12, 3) := by decide +kernel
theorem d_11_308 : decode (kby 11) 308 = .ok (.aload_n 0, 1) := by decide +kernel
theorem d_11_309 : decode (kby 11) 309 = .ok (.getfield 33, 3) := by decide +kernel
theorem d_11_312 : decode (kby 11) 312 = .ok (.iload_n 3, 1) := by decide +kernel
theorem d_11_313 : decode (kby 11) 313 = .ok (.baload, 1) := by decide +kernel
theorem d_11_314 : decode (kby 11) 314 = .ok (.ifCond .eq 7, 3) := by decide +kernel
theorem d_11_317 : decode (kby 11) 317 = .ok (.iconst 1, 1) := by decide +kernel
theorem d_11_318 : decode (kby 11) 318 = .ok (.goto 4, 3) := by decide +kernel
theorem d_11_321 : decode (kby 11) 321 = .ok (.iconst 0, 1) := by decide +kernel
theorem d_11_322 : decode (kby 11) 322 = .ok (.bastore, 1) := by decide +kernel
theorem d_11_323 : decode (kby 11) 323 = .ok (.aload_n 0, 1) := by decide +kernel
theorem d_11_324 : decode (kby 11) 324 = .ok (.getfield 52, 3) := by decide +kernel
theorem d_11_327 : decode (kby 11) 327 = .ok (.aload_n 0, 1) := by decide +kernel
theorem d_11_328 : decode (kby 11) 328 = .ok (.getfield 65, 3) := by decide +kernel
theorem d_11_331 : decode (kby 11) 331 = .ok (.iload 5, 2) := by decide +kernel
theorem d_11_333 : decode (kby 11) 333 = .ok (.iastore, 1) := by decide +kernel
theorem d_11_334 : decode (kby 11) 334 = .ok (.aload_n 0, 1) := by decide +kernel
theorem d_11_335 : decode (kby 11) 335 = .ok (.getfield 49, 3) := by decide +kernel
theorem d_11_338 : decode (kby 11) 338 = .ok (.aload_n 0, 1) := by decide +kernel
theorem d_11_339 : decode (kby 11) 339 = .ok (.getfield 65, 3) := by decide +kernel
theorem d_11_342 : decode (kby 11) 342 = .ok (.aload_n 0, 1) := by decide +kernel
theorem d_11_343 : decode (kby 11) 343 = .ok (.getfield 46, 3) := by decide +kernel
theorem d_11_346 : decode (kby 11) 346 = .ok (.iload 5, 2) := by decide +kernel
theorem d_11_348 : decode (kby 11) 348 = .ok (.iaload, 1) := by decide +kernel
theorem d_11_349 : decode (kby 11) 349 = .ok (.iastore, 1) := by decide +kernel
theorem d_11_350 : decode (kby 11) 350 = .ok (.aload_n 0, 1) := by decide +kernel
theorem d_11_351 : decode (kby 11) 351 = .ok (.getfield 46, 3) := by decide +kernel
theorem d_11_354 : decode (kby 11) 354 = .ok (.iload 5, 2) := by decide +kernel
theorem d_11_356 : decode (kby 11) 356 = .ok (.aload_n 0, 1) := by decide +kernel
theorem d_11_357 : decode (kby 11) 357 = .ok (.getfield 65, 3) := by decide +kernel
theorem d_11_360 : decode (kby 11) 360 = .ok (.iastore, 1) := by decide +kernel
theorem d_11_361 : decode (kby 11) 361 = .ok (.aload_n 0, 1) := by decide +kernel
theorem d_11_362 : decode (kby 11) 362 = .ok (.dup, 1) := by decide +kernel
theorem d_11_363 : decode (kby 11) 363 = .ok (.getfield 65, 3) := by decide +kernel
theorem d_11_366 : decode (kby 11) 366 = .ok (.dup_x1, 1) := by decide +kernel
theorem d_11_367 : decode (kby 11) 367 = .ok (.iconst 1, 1) := by decide +kernel
theorem d_11_368 : decode (kby 11) 368 = .ok (.iadd, 1) := by decide +kernel
theorem d_11_369 : decode (kby 11) 369 = .ok (.putfield 65, 3) := by decide +kernel
theorem d_11_372 : decode (kby 11) 372 = .ok (.ireturn, 1) := by decide +kernel
set_option maxRecDepth 100000 in
theorem ka_11 : kall 11 0 kc_11 := And.intro (s_iload d_11_0) (And.intro (s_if_ge d_11_2 (by decide +kernel)) (And.intro (s_iconst d_11_5 (by decide +kernel)) (And.intro (s_ret d_11_6 rfl) (And.intro (s_iload_n d_11_7 rfl) (And.intro (s_iconst d_11_8 (by decide +kernel)) (And.intro (s_iload_n d_11_9 rfl) (And.intro (s_imul d_11_10) (And.intro (s_iadd d_11_11) (And.intro (s_bipush d_11_12 (by decide +kernel)) (And.intro (s_iload_n d_11_14 rfl) (And.intro (s_imul d_11_15) (And.intro (s_iadd d_11_16) (And.intro (s_bipush d_11_17 (by decide +kernel)) (And.intro (s_iload d_11_19) (And.intro (s_imul d_11_21) (And.intro (s_iadd d_11_22) (And.intro (s_bipush d_11_23 (by decide +kernel)) (And.intro (s_iand d_11_25) (And.intro (s_istore d_11_26 (by decide +kernel)) (And.intro (s_aload_n d_11_28 rfl) (And.intro (s_get d_11_29 (C := kR3) (T := kT3) (N := 15) rfl kjn3 (by decide +kernel) rfl kf_3_46) (And.intro (s_iload d_11_32) (And.intro (s_iaload d_11_34) (And.intro (s_istore d_11_35 (by decide +kernel)) (And.intro (s_iconst d_11_37 (by decide +kernel)) (And.intro (s_istore d_11_38 (by decide +kernel)) (And.intro (s_iload d_11_40) (And.intro (s_if_lt d_11_42 (by decide +kernel)) (And.intro (s_iload d_11_45) (And.intro (s_sipush d_11_47 (by decide +kernel)) (And.intro (s_icmp_ge d_11_50 (by decide +kernel)) (And.intro (s_aload_n d_11_53 rfl) (And.intro (s_get d_11_54 (C := kR3) (T := kT3) (N := 15) rfl kjn3 (by decide +kernel) rfl kf_3_20) (And.intro (s_iload d_11_57) (And.intro (s_iaload d_11_59) (And.intro (s_iload_n d_11_60 rfl) (And.intro (s_icmp_ne d_11_61 (by decide +kernel)) (And.intro (s_aload_n d_11_64 rfl) (And.intro (s_get d_11_65 (C := kR3) (T := kT3) (N := 15) rfl kjn3 (by decide +kernel) rfl kf_3_24) (And.intro (s_iload d_11_68) (And.intro (s_iaload d_11_70) (And.intro (s_iload_n d_11_71 rfl) (And.intro (s_icmp_ne d_11_72 (by decide +kernel)) (And.intro (s_aload_n d_11_75 rfl) (And.intro (s_get d_11_76 (C := kR3) (T := kT3) (N := 15) rfl kjn3 (by decide +kernel) rfl kf_3_27) (And.intro (s_iload d_11_79) (And.intro (s_iaload d_11_81) (And.intro (s_iload_n d_11_82 rfl) (And.intro (s_icmp_ne d_11_83 (by decide +kernel)) (And.intro (s_aload_n d_11_86 rfl) (And.intro (s_get d_11_87 (C := kR3) (T := kT3) (N := 15) rfl kjn3 (by decide +kernel) rfl kf_3_30) (And.intro (s_iload d_11_90) (And.intro (s_iaload d_11_92) (And.intro (s_iload d_11_93) (And.intro (s_icmp_ne d_11_95 (by decide +kernel)) (And.intro (s_iload d_11_98) (And.intro (s_ret d_11_100 rfl) (And.intro (s_aload_n d_11_101 rfl) (And.intro (s_get d_11_102 (C := kR3) (T := kT3) (N := 15) rfl kjn3 (by decide +kernel) rfl kf_3_49) (And.intro (s_iload d_11_105) (And.intro (s_iaload d_11_107) (And.intro (s_istore d_11_108 (by decide +kernel)) (And.intro (s_iinc d_11_110 (by decide +kernel) (by decide +kernel)) (And.intro (s_goto d_11_113 (by decide +kernel)) (And.intro (s_iload_n d_11_116 rfl) (And.intro (s_iconst d_11_117 (by decide +kernel)) (And.intro (s_icmp_eq d_11_118 (by decide +kernel)) (And.intro (s_iload_n d_11_121 rfl) (And.intro (s_iconst d_11_122 (by decide +kernel)) (And.intro (s_icmp_ne d_11_123 (by decide +kernel)) (And.intro (s_iconst d_11_126 (by decide +kernel)) (And.intro (s_goto d_11_127 (by decide +kernel)) (And.intro (s_iconst d_11_130 (by decide +kernel)) (And.intro (s_istore d_11_131 (by decide +kernel)) (And.intro (s_iload d_11_133) (And.intro (s_if_eq d_11_135 (by decide +kernel)) (And.intro (s_iconst d_11_138 (by decide +kernel)) (And.intro (s_aload_n d_11_139 rfl) (And.intro (s_get d_11_140 (C := kR3) (T := kT3) (N := 15) rfl kjn3 (by decide +kernel) rfl kf_3_43) (And.intro (s_iload_n d_11_143 rfl) (And.intro (s_iaload d_11_144) (And.intro (s_aload_n d_11_145 rfl) (And.intro (s_get d_11_146 (C := kR3) (T := kT3) (N := 15) rfl kjn3 (by decide +kernel) rfl kf_3_43) (And.intro (s_iload_n d_11_149 rfl) (And.intro (s_iaload d_11_150) (And.intro (s_max d_11_151 kl_3_107 k_max1 k_max2 k_max3) (And.intro (s_iadd d_11_154) (And.intro (s_goto d_11_155 (by decide +kernel)) (And.intro (s_iconst d_11_158 (by decide +kernel)) (And.intro (s_istore d_11_159 (by decide +kernel)) (And.intro (s_iload d_11_161) (And.intro (s_bipush d_11_163 (by decide +kernel)) (And.intro (s_icmp_gt d_11_165 (by decide +kernel)) (And.intro (s_aload_n d_11_168 rfl) (And.intro (s_get d_11_169 (C := kR3) (T := kT3) (N := 15) rfl kjn3 (by decide +kernel) rfl kf_3_65) (And.intro (s_sipush d_11_172 (by decide +kernel)) (And.intro (s_icmp_lt d_11_175 (by decide +kernel)) (And.intro (s_iconst d_11_178 (by decide +kernel)) (And.intro (s_ret d_11_179 rfl) (And.intro (s_aload_n d_11_180 rfl) (And.intro (s_get d_11_181 (C := kR3) (T := kT3) (N := 15) rfl kjn3 (by decide +kernel) rfl kf_3_20) (And.intro (s_aload_n d_11_184 rfl) (And.intro (s_get d_11_185 (C := kR3) (T := kT3) (N := 15) rfl kjn3 (by decide +kernel) rfl kf_3_65) (And.intro (s_iload_n d_11_188 rfl) (And.intro (s_iastore d_11_189) (And.intro (s_aload_n d_11_190 rfl) (And.intro (s_get d_11_191 (C := kR3) (T := kT3) (N := 15) rfl kjn3 (by decide +kernel) rfl kf_3_24) (And.intro (s_aload_n d_11_194 rfl) (And.intro (s_get d_11_195 (C := kR3) (T := kT3) (N := 15) rfl kjn3 (by decide +kernel) rfl kf_3_65) (And.intro (s_iload_n d_11_198 rfl) (And.intro (s_iastore d_11_199) (And.intro (s_aload_n d_11_200 rfl) (And.intro (s_get d_11_201 (C := kR3) (T := kT3) (N := 15) rfl kjn3 (by decide +kernel) rfl kf_3_27) (And.intro (s_aload_n d_11_204 rfl) (And.intro (s_get d_11_205 (C := kR3) (T := kT3) (N := 15) rfl kjn3 (by decide +kernel) rfl kf_3_65) (And.intro (s_iload_n d_11_208 rfl) (And.intro (s_iastore d_11_209) (And.intro (s_aload_n d_11_210 rfl) (And.intro (s_get d_11_211 (C := kR3) (T := kT3) (N := 15) rfl kjn3 (by decide +kernel) rfl kf_3_30) (And.intro (s_aload_n d_11_214 rfl) (And.intro (s_get d_11_215 (C := kR3) (T := kT3) (N := 15) rfl kjn3 (by decide +kernel) rfl kf_3_65) (And.intro (s_iload d_11_218) (And.intro (s_iastore d_11_220) (And.intro (s_aload_n d_11_221 rfl) (And.intro (s_get d_11_222 (C := kR3) (T := kT3) (N := 15) rfl kjn3 (by decide +kernel) rfl kf_3_43) (And.intro (s_aload_n d_11_225 rfl) (And.intro (s_get d_11_226 (C := kR3) (T := kT3) (N := 15) rfl kjn3 (by decide +kernel) rfl kf_3_65) (And.intro (s_iload d_11_229) (And.intro (s_iastore d_11_231) (And.intro (s_aload_n d_11_232 rfl) (And.intro (s_get d_11_233 (C := kR3) (T := kT3) (N := 15) rfl kjn3 (by decide +kernel) rfl kf_3_40) (And.intro (s_aload_n d_11_236 rfl) (And.intro (s_get d_11_237 (C := kR3) (T := kT3) (N := 15) rfl kjn3 (by decide +kernel) rfl kf_3_65) (And.intro (s_iload_n d_11_240 rfl) (And.intro (s_if_eq d_11_241 (by decide +kernel)) (And.intro (s_iload d_11_244) (And.intro (s_if_eq d_11_246 (by decide +kernel)) (And.intro (s_aload_n d_11_249 rfl) (And.intro (s_get d_11_250 (C := kR3) (T := kT3) (N := 15) rfl kjn3 (by decide +kernel) rfl kf_3_40) (And.intro (s_iload_n d_11_253 rfl) (And.intro (s_baload d_11_254) (And.intro (s_if_ne d_11_255 (by decide +kernel)) (And.intro (s_aload_n d_11_258 rfl) (And.intro (s_get d_11_259 (C := kR3) (T := kT3) (N := 15) rfl kjn3 (by decide +kernel) rfl kf_3_40) (And.intro (s_iload_n d_11_262 rfl) (And.intro (s_baload d_11_263) (And.intro (s_if_eq d_11_264 (by decide +kernel)) (And.intro (s_iconst d_11_267 (by decide +kernel)) (And.intro (s_goto d_11_268 (by decide +kernel)) (And.intro (s_iconst d_11_271 (by decide +kernel)) (And.intro (s_bastore d_11_272) (And.intro (s_aload_n d_11_273 rfl) (And.intro (s_get d_11_274 (C := kR3) (T := kT3) (N := 15) rfl kjn3 (by decide +kernel) rfl kf_3_33) (And.intro (s_aload_n d_11_277 rfl) (And.intro (s_get d_11_278 (C := kR3) (T := kT3) (N := 15) rfl kjn3 (by decide +kernel) rfl kf_3_65) (And.intro (s_aload_n d_11_281 rfl) (And.intro (s_get d_11_282 (C := kR3) (T := kT3) (N := 15) rfl kjn3 (by decide +kernel) rfl kf_3_55) (And.intro (s_get d_11_285 (C := kR1) (T := kT1) (N := 8) rfl kjn1 (by decide +kernel) rfl kf_3_112) (And.intro (s_iload d_11_288) (And.intro (s_baload d_11_290) (And.intro (s_if_ne d_11_291 (by decide +kernel)) (And.intro (s_iload d_11_294) (And.intro (s_if_eq d_11_296 (by decide +kernel)) (And.intro (s_aload_n d_11_299 rfl) (And.intro (s_get d_11_300 (C := kR3) (T := kT3) (N := 15) rfl kjn3 (by decide +kernel) rfl kf_3_33) (And.intro (s_iload_n d_11_303 rfl) (And.intro (s_baload d_11_304) (And.intro (s_if_ne d_11_305 (by decide +kernel)) (And.intro (s_aload_n d_11_308 rfl) (And.intro (s_get d_11_309 (C := kR3) (T := kT3) (N := 15) rfl kjn3 (by decide +kernel) rfl kf_3_33) (And.intro (s_iload_n d_11_312 rfl) (And.intro (s_baload d_11_313) (And.intro (s_if_eq d_11_314 (by decide +kernel)) (And.intro (s_iconst d_11_317 (by decide +kernel)) (And.intro (s_goto d_11_318 (by decide +kernel)) (And.intro (s_iconst d_11_321 (by decide +kernel)) (And.intro (s_bastore d_11_322) (And.intro (s_aload_n d_11_323 rfl) (And.intro (s_get d_11_324 (C := kR3) (T := kT3) (N := 15) rfl kjn3 (by decide +kernel) rfl kf_3_52) (And.intro (s_aload_n d_11_327 rfl) (And.intro (s_get d_11_328 (C := kR3) (T := kT3) (N := 15) rfl kjn3 (by decide +kernel) rfl kf_3_65) (And.intro (s_iload d_11_331) (And.intro (s_iastore d_11_333) (And.intro (s_aload_n d_11_334 rfl) (And.intro (s_get d_11_335 (C := kR3) (T := kT3) (N := 15) rfl kjn3 (by decide +kernel) rfl kf_3_49) (And.intro (s_aload_n d_11_338 rfl) (And.intro (s_get d_11_339 (C := kR3) (T := kT3) (N := 15) rfl kjn3 (by decide +kernel) rfl kf_3_65) (And.intro (s_aload_n d_11_342 rfl) (And.intro (s_get d_11_343 (C := kR3) (T := kT3) (N := 15) rfl kjn3 (by decide +kernel) rfl kf_3_46) (And.intro (s_iload d_11_346) (And.intro (s_iaload d_11_348) (And.intro (s_iastore d_11_349) (And.intro (s_aload_n d_11_350 rfl) (And.intro (s_get d_11_351 (C := kR3) (T := kT3) (N := 15) rfl kjn3 (by decide +kernel) rfl kf_3_46) (And.intro (s_iload d_11_354) (And.intro (s_aload_n d_11_356 rfl) (And.intro (s_get d_11_357 (C := kR3) (T := kT3) (N := 15) rfl kjn3 (by decide +kernel) rfl kf_3_65) (And.intro (s_iastore d_11_360) (And.intro (s_aload_n d_11_361 rfl) (And.intro (s_dup d_11_362) (And.intro (s_get d_11_363 (C := kR3) (T := kT3) (N := 15) rfl kjn3 (by decide +kernel) rfl kf_3_65) (And.intro (s_dup_x1 d_11_366) (And.intro (s_iconst d_11_367 (by decide +kernel)) (And.intro (s_iadd d_11_368) (And.intro (s_put d_11_369 (C := kR3) (T := kT3) (N := 15) rfl kjn3 (by decide +kernel) rfl kf_3_65 kt3 kty3 knm3 rfl (by decide +kernel)) (And.intro (s_ret d_11_372 rfl) (True.intro)))))))))))))))))))))))))))))))))))))))))))))))))))))))))))))))))))))))))))))))))))))))))))))))))))))))))))))))))))))))))))))))))))))))))))))))))))))))))))))))))))))))))))))))))))))))))))))))))))))))))))))))
theorem d_12_0 : decode (kby 12) 0 = .ok (.aload_n 0, 1) := by decide +kernel
theorem d_12_1 : decode (kby 12) 1 = .ok (.getfield 21, 3) := by decide +kernel
theorem d_12_4 : decode (kby 12) 4 = .ok (.getfield 83, 3) := by decide +kernel
theorem d_12_7 : decode (kby 12) 7 = .ok (.aload_n 0, 1) := by decide +kernel
theorem d_12_8 : decode (kby 12) 8 = .ok (.iload_n 1, 1) := by decide +kernel
theorem d_12_9 : decode (kby 12) 9 = .ok (.invokevirtual 98, 3) := by decide +kernel
theorem d_12_12 : decode (kby 12) 12 = .ok (.invokevirtual 166, 3) := by decide +kernel
theorem d_12_15 : decode (kby 12) 15 = .ok (.ireturn, 1) := by decide +kernel
set_option maxRecDepth 100000 in
theorem ka_12 : kall 12 0 kc_12 := And.intro (s_aload_n d_12_0 rfl) (And.intro (s_get d_12_1 (C := kR0) (T := kT0) (N := 8) rfl kjn0 (by decide +kernel) rfl kf_0_21) (And.intro (s_get d_12_4 (C := kR3) (T := kT3) (N := 15) rfl kjn3 (by decide +kernel) rfl kf_0_83) (And.intro (s_aload_n d_12_7 rfl) (And.intro (s_iload_n d_12_8 rfl) (And.intro (s_cv d_12_9 kl_0_98 k_im_4 k_se_4 kok_4 rfl (by decide +kernel) rfl rfl) (And.intro (s_cv d_12_12 kl_0_166 k_im_1 k_se_1 kok_1 rfl (by decide +kernel) rfl rfl) (And.intro (s_ret d_12_15 rfl) (True.intro))))))))
theorem d_13_0 : decode (kby 13) 0 = .ok (.aload_n 0, 1) := by decide +kernel
theorem d_13_1 : decode (kby 13) 1 = .ok (.aload_n 0, 1) := by decide +kernel
theorem d_13_2 : decode (kby 13) 2 = .ok (.getfield 21, 3) := by decide +kernel
theorem d_13_5 : decode (kby 13) 5 = .ok (.aload_n 0, 1) := by decide +kernel
theorem d_13_6 : decode (kby 13) 6 = .ok (.getfield 10, 3) := by decide +kernel
theorem d_13_9 : decode (kby 13) 9 = .ok (.getfield 65, 3) := by decide +kernel
theorem d_13_12 : decode (kby 13) 12 = .ok (.iload_n 1, 1) := by decide +kernel
theorem d_13_13 : decode (kby 13) 13 = .ok (.invokevirtual 69, 3) := by decide +kernel
theorem d_13_16 : decode (kby 13) 16 = .ok (.invokevirtual 80, 3) := by decide +kernel
theorem d_13_19 : decode (kby 13) 19 = .ok (.invokevirtual 77, 3) := by decide +kernel
theorem d_13_22 : decode (kby 13) 22 = .ok (.ireturn, 1) := by decide +kernel
set_option maxRecDepth 100000 in
theorem ka_13 : kall 13 0 kc_13 := And.intro (s_aload_n d_13_0 rfl) (And.intro (s_aload_n d_13_1 rfl) (And.intro (s_get d_13_2 (C := kR0) (T := kT0) (N := 8) rfl kjn0 (by decide +kernel) rfl kf_0_21) (And.intro (s_aload_n d_13_5 rfl) (And.intro (s_get d_13_6 (C := kR0) (T := kT0) (N := 8) rfl kjn0 (by decide +kernel) rfl kf_0_10) (And.intro (s_get d_13_9 (C := kR1) (T := kT1) (N := 8) rfl kjn1 (by decide +kernel) rfl kf_0_65) (And.intro (s_iload_n d_13_12 rfl) (And.intro (s_cv d_13_13 kl_0_69 k_im_9 k_se_9 kok_9 rfl (by decide +kernel) rfl rfl) (And.intro (s_cv d_13_16 kl_0_80 k_im_14 k_se_14 kok_14 rfl (by decide +kernel) rfl rfl) (And.intro (s_cv d_13_19 kl_0_77 k_im_12 k_se_12 kok_12 rfl (by decide +kernel) rfl rfl) (And.intro (s_ret d_13_22 rfl) (True.intro)))))))))))
theorem d_14_0 : decode (kby 14) 0 = .ok (.aload_n 0, 1) := by decide +kernel
theorem d_14_1 : decode (kby 14) 1 = .ok (.getfield 55, 3) := by decide +kernel
theorem d_14_4 : decode (kby 14) 4 = .ok (.iconst 3, 1) := by decide +kernel
theorem d_14_5 : decode (kby 14) 5 = .ok (.iload_n 1, 1) := by decide +kernel
theorem d_14_6 : decode (kby 14) 6 = .ok (.iconst 0, 1) := by decide +kernel
theorem d_14_7 : decode (kby 14) 7 = .ok (.invokevirtual 85, 3) := by decide +kernel
theorem d_14_10 : decode (kby 14) 10 = .ok (.istore_n 2, 1) := by decide +kernel
theorem d_14_11 : decode (kby 14) 11 = .ok (.aload_n 0, 1) := by decide +kernel
theorem d_14_12 : decode (kby 14) 12 = .ok (.iconst 1, 1) := by decide +kernel
theorem d_14_13 : decode (kby 14) 13 = .ok (.iconst 0, 1) := by decide +kernel
theorem d_14_14 : decode (kby 14) 14 = .ok (.iconst 0, 1) := by decide +kernel
theorem d_14_15 : decode (kby 14) 15 = .ok (.aload_n 0, 1) := by decide +kernel
theorem d_14_16 : decode (kby 14) 16 = .ok (.getfield 55, 3) := by decide +kernel
theorem d_14_19 : decode (kby 14) 19 = .ok (.iconst 3, 1) := by decide +kernel
theorem d_14_20 : decode (kby 14) 20 = .ok (.iload_n 1, 1) := by decide +kernel
theorem d_14_21 : decode (kby 14) 21 = .ok (.iload_n 2, 1) := by decide +kernel
theorem d_14_22 : decode (kby 14) 22 = .ok (.invokevirtual 85, 3) := by decide +kernel
theorem d_14_25 : decode (kby 14) 25 = .ok (.invokevirtual 89, 3) := by decide +kernel
theorem d_14_28 : decode (kby 14) 28 = .ok (.ireturn, 1) := by decide +kernel
set_option maxRecDepth 100000 in
theorem ka_14 : kall 14 0 kc_14 := And.intro (s_aload_n d_14_0 rfl) (And.intro (s_get d_14_1 (C := kR3) (T := kT3) (N := 15) rfl kjn3 (by decide +kernel) rfl kf_3_55) (And.intro (s_iconst d_14_4 (by decide +kernel)) (And.intro (s_iload_n d_14_5 rfl) (And.intro (s_iconst d_14_6 (by decide +kernel)) (And.intro (s_cv d_14_7 kl_3_85 k_im_0 k_se_0 kok_0 rfl (by decide +kernel) rfl rfl) (And.intro (s_istore_n d_14_10 rfl (by decide +kernel)) (And.intro (s_aload_n d_14_11 rfl) (And.intro (s_iconst d_14_12 (by decide +kernel)) (And.intro (s_iconst d_14_13 (by decide +kernel)) (And.intro (s_iconst d_14_14 (by decide +kernel)) (And.intro (s_aload_n d_14_15 rfl) (And.intro (s_get d_14_16 (C := kR3) (T := kT3) (N := 15) rfl kjn3 (by decide +kernel) rfl kf_3_55) (And.intro (s_iconst d_14_19 (by decide +kernel)) (And.intro (s_iload_n d_14_20 rfl) (And.intro (s_iload_n d_14_21 rfl) (And.intro (s_cv d_14_22 kl_3_85 k_im_0 k_se_0 kok_0 rfl (by decide +kernel) rfl rfl) (And.intro (s_cv d_14_25 kl_3_89 k_im_11 k_se_11 kok_11 rfl (by decide +kernel) rfl rfl) (And.intro (s_ret d_14_28 rfl) (True.intro)))))))))))))))))))
theorem d_15_0 : decode (kby 15) 0 = .ok (.aload_n 0, 1) := by decide +kernel
theorem d_15_1 : decode (kby 15) 1 = .ok (.aload_n 0, 1) := by decide +kernel
theorem d_15_2 : decode (kby 15) 2 = .ok (.getfield 21, 3) := by decide +kernel
theorem d_15_5 : decode (kby 15) 5 = .ok (.aload_n 0, 1) := by decide +kernel
theorem d_15_6 : decode (kby 15) 6 = .ok (.getfield 21, 3) := by decide +kernel
theorem d_15_9 : decode (kby 15) 9 = .ok (.getfield 83, 3) := by decide +kernel
theorem d_15_12 : decode (kby 15) 12 = .ok (.iload_n 1, 1) := by decide +kernel
theorem d_15_13 : decode (kby 15) 13 = .ok (.invokevirtual 69, 3) := by decide +kernel
theorem d_15_16 : decode (kby 15) 16 = .ok (.aload_n 0, 1) := by decide +kernel
theorem d_15_17 : decode (kby 15) 17 = .ok (.getfield 21, 3) := by decide +kernel
theorem d_15_20 : decode (kby 15) 20 = .ok (.getfield 83, 3) := by decide +kernel
theorem d_15_23 : decode (kby 15) 23 = .ok (.iload_n 2, 1) := by decide +kernel
theorem d_15_24 : decode (kby 15) 24 = .ok (.invokevirtual 69, 3) := by decide +kernel
theorem d_15_27 : decode (kby 15) 27 = .ok (.invokevirtual 84, 3) := by decide +kernel
theorem d_15_30 : decode (kby 15) 30 = .ok (.invokevirtual 77, 3) := by decide +kernel
theorem d_15_33 : decode (kby 15) 33 = .ok (.ireturn, 1) := by decide +kernel
set_option maxRecDepth 100000 in
theorem ka_15 : kall 15 0 kc_15 := And.intro (s_aload_n d_15_0 rfl) (And.intro (s_aload_n d_15_1 rfl) (And.intro (s_get d_15_2 (C := kR0) (T := kT0) (N := 8) rfl kjn0 (by decide +kernel) rfl kf_0_21) (And.intro (s_aload_n d_15_5 rfl) (And.intro (s_get d_15_6 (C := kR0) (T := kT0) (N := 8) rfl kjn0 (by decide +kernel) rfl kf_0_21) (And.intro (s_get d_15_9 (C := kR3) (T := kT3) (N := 15) rfl kjn3 (by decide +kernel) rfl kf_0_83) (And.intro (s_iload_n d_15_12 rfl) (And.intro (s_cv d_15_13 kl_0_69 k_im_9 k_se_9 kok_9 rfl (by decide +kernel) rfl rfl) (And.intro (s_aload_n d_15_16 rfl) (And.intro (s_get d_15_17 (C := kR0) (T := kT0) (N := 8) rfl kjn0 (by decide +kernel) rfl kf_0_21) (And.intro (s_get d_15_20 (C := kR3) (T := kT3) (N := 15) rfl kjn3 (by decide +kernel) rfl kf_0_83) (And.intro (s_iload_n d_15_23 rfl) (And.intro (s_cv d_15_24 kl_0_69 k_im_9 k_se_9 kok_9 rfl (by decide +kernel) rfl rfl) (And.intro (s_cv d_15_27 kl_0_84 k_im_16 k_se_16 kok_16 rfl (by decide +kernel) rfl rfl) (And.intro (s_cv d_15_30 kl_0_77 k_im_12 k_se_12 kok_12 rfl (by decide +kernel) rfl rfl) (And.intro (s_ret d_15_33 rfl) (True.intro))))))))))))))))
theorem d_16_0 : decode (kby 16) 0 = .ok (.iload_n 1, 1) := by decide +kernel
theorem d_16_1 : decode (kby 16) 1 = .ok (.ifCond .lt 29, 3) := by decide +kernel
theorem d_16_4 : decode (kby 16) 4 = .ok (.iload_n 2, 1) := by decide +kernel
theorem d_16_5 : decode (kby 16) 5 = .ok (.ifCond .lt 25, 3) := by decide +kernel
theorem d_16_8 : decode (kby 16) 8 = .ok (.aload_n 0, 1) := by decide +kernel
theorem d_16_9 : decode (kby 16) 9 = .ok (.getfield 55, 3) := by decide +kernel
theorem d_16_12 : decode (kby 16) 12 = .ok (.aload_n 0, 1) := by decide +kernel
theorem d_16_13 : decode (kby 16) 13 = .ok (.getfield 30, 3) := by decide +kernel
theorem d_16_16 : decode (kby 16) 16 = .ok (.iload_n 1, 1) := by decide +kernel
theorem d_16_17 : decode (kby 16) 17 = .ok (.iaload, 1) := by decide +kernel
theorem d_16_18 : decode (kby 16) 18 = .ok (.aload_n 0, 1) := by decide +kernel
theorem d_16_19 : decode (kby 16) 19 = .ok (.getfield 30, 3) := by decide +kernel
theorem d_16_22 : decode (kby 16) 22 = .ok (.iload_n 2, 1) := by decide +kernel
theorem d_16_23 : decode (kby 16) 23 = .ok (.iaload, 1) := by decide +kernel
theorem d_16_24 : decode (kby 16) 24 = .ok (.invokevirtual 92, 3) := by decide +kernel
theorem d_16_27 : decode (kby 16) 27 = .ok (.ifCond .ne 5, 3) := by decide +kernel
theorem d_16_30 : decode (kby 16) 30 = .ok (.iconst (-1), 1) := by decide +kernel
theorem d_16_31 : decode (kby 16) 31 = .ok (.ireturn, 1) := by decide +kernel
theorem d_16_32 : decode (kby 16) 32 = .ok (.aload_n 0, 1) := by decide +kernel
theorem d_16_33 : decode (kby 16) 33 = .ok (.iconst 3, 1) := by decide +kernel
theorem d_16_34 : decode (kby 16) 34 = .ok (.iload_n 1, 1) := by decide +kernel
theorem d_16_35 : decode (kby 16) 35 = .ok (.iload_n 2, 1) := by decide +kernel
theorem d_16_36 : decode (kby 16) 36 = .ok (.aload_n 0, 1) := by decide +kernel
theorem d_16_37 : decode (kby 16) 37 = .ok (.getfield 55, 3) := by decide +kernel
theorem d_16_40 : decode (kby 16) 40 = .ok (.getfield 96, 3) := by decide +kernel
theorem d_16_43 : decode (kby 16) 43 = .ok (.aload_n 0, 1) := by decide +kernel
theorem d_16_44 : decode (kby 16) 44 = .ok (.getfield 30, 3) := by decide +kernel
theorem d_16_47 : decode (kby 16) 47 = .ok (.iload_n 1, 1) := by decide +kernel
theorem d_16_48 : decode (kby 16) 48 = .ok (.iaload, 1) := by decide +kernel
theorem d_16_49 : decode (kby 16) 49 = .ok (.iaload, 1) := by decide +kernel
theorem d_16_50 : decode (kby 16) 50 = .ok (.invokevirtual 89, 3) := by decide +kernel
theorem d_16_53 : decode (kby 16) 53 = .ok (.ireturn, 1) := by decide +kernel
set_option maxRecDepth 100000 in
theorem ka_16 : kall 16 0 kc_16 := And.intro (s_iload_n d_16_0 rfl) (And.intro (s_if_lt d_16_1 (by decide +kernel)) (And.intro (s_iload_n d_16_4 rfl) (And.intro (s_if_lt d_16_5 (by decide +kernel)) (And.intro (s_aload_n d_16_8 rfl) (And.intro (s_get d_16_9 (C := kR3) (T := kT3) (N := 15) rfl kjn3 (by decide +kernel) rfl kf_3_55) (And.intro (s_aload_n d_16_12 rfl) (And.intro (s_get d_16_13 (C := kR3) (T := kT3) (N := 15) rfl kjn3 (by decide +kernel) rfl kf_3_30) (And.intro (s_iload_n d_16_16 rfl) (And.intro (s_iaload d_16_17) (And.intro (s_aload_n d_16_18 rfl) (And.intro (s_get d_16_19 (C := kR3) (T := kT3) (N := 15) rfl kjn3 (by decide +kernel) rfl kf_3_30) (And.intro (s_iload_n d_16_22 rfl) (And.intro (s_iaload d_16_23) (And.intro (s_cv d_16_24 kl_3_92 k_im_17 k_se_17 kok_17 rfl (by decide +kernel) rfl rfl) (And.intro (s_if_ne d_16_27 (by decide +kernel)) (And.intro (s_iconst d_16_30 (by decide +kernel)) (And.intro (s_ret d_16_31 rfl) (And.intro (s_aload_n d_16_32 rfl) (And.intro (s_iconst d_16_33 (by decide +kernel)) (And.intro (s_iload_n d_16_34 rfl) (And.intro (s_iload_n d_16_35 rfl) (And.intro (s_aload_n d_16_36 rfl) (And.intro (s_get d_16_37 (C := kR3) (T := kT3) (N := 15) rfl kjn3 (by decide +kernel) rfl kf_3_55) (And.intro (s_get d_16_40 (C := kR1) (T := kT1) (N := 8) rfl kjn1 (by decide +kernel) rfl kf_3_96) (And.intro (s_aload_n d_16_43 rfl) (And.intro (s_get d_16_44 (C := kR3) (T := kT3) (N := 15) rfl kjn3 (by decide +kernel) rfl kf_3_30) (And.intro (s_iload_n d_16_47 rfl) (And.intro (s_iaload d_16_48) (And.intro (s_iaload d_16_49) (And.intro (s_cv d_16_50 kl_3_89 k_im_11 k_se_11 kok_11 rfl (by decide +kernel) rfl rfl) (And.intro (s_ret d_16_53 rfl) (True.intro))))))))))))))))))))))))))))))))
theorem d_17_0 : decode (kby 17) 0 = .ok (.aload_n 0, 1) := by decide +kernel
theorem d_17_1 : decode (kby 17) 1 = .ok (.getfield 20, 3) := by decide +kernel
theorem d_17_4 : decode (kby 17) 4 = .ok (.iload_n 1, 1) := by decide +kernel
theorem d_17_5 : decode (kby 17) 5 = .ok (.iaload, 1) := by decide +kernel
theorem d_17_6 : decode (kby 17) 6 = .ok (.iconst 3, 1) := by decide +kernel
theorem d_17_7 : decode (kby 17) 7 = .ok (.if_icmp .ne 17, 3) := by decide +kernel
theorem d_17_10 : decode (kby 17) 10 = .ok (.aload_n 0, 1) := by decide +kernel
theorem d_17_11 : decode (kby 17) 11 = .ok (.getfield 24, 3) := by decide +kernel
theorem d_17_14 : decode (kby 17) 14 = .ok (.iload_n 1, 1) := by decide +kernel
theorem d_17_15 : decode (kby 17) 15 = .ok (.iaload, 1) := by decide +kernel
theorem d_17_16 : decode (kby 17) 16 = .ok (.iload_n 2, 1) := by decide +kernel
theorem d_17_17 : decode (kby 17) 17 = .ok (.if_icmp .ne 7, 3) := by decide +kernel
theorem d_17_20 : decode (kby 17) 20 = .ok (.iconst 1, 1) := by decide +kernel
theorem d_17_21 : decode (kby 17) 21 = .ok (.goto 4, 3) := by decide +kernel
theorem d_17_24 : decode (kby 17) 24 = .ok (.iconst 0, 1) := by decide +kernel
theorem d_17_25 : decode (kby 17) 25 = .ok (.ireturn, 1) := by decide +kernel
set_option maxRecDepth 100000 in
theorem ka_17 : kall 17 0 kc_17 := And.intro (s_aload_n d_17_0 rfl) (And.intro (s_get d_17_1 (C := kR1) (T := kT1) (N := 8) rfl kjn1 (by decide +kernel) rfl kf_1_20) (And.intro (s_iload_n d_17_4 rfl) (And.intro (s_iaload d_17_5) (And.intro (s_iconst d_17_6 (by decide +kernel)) (And.intro (s_icmp_ne d_17_7 (by decide +kernel)) (And.intro (s_aload_n d_17_10 rfl) (And.intro (s_get d_17_11 (C := kR1) (T := kT1) (N := 8) rfl kjn1 (by decide +kernel) rfl kf_1_24) (And.intro (s_iload_n d_17_14 rfl) (And.intro (s_iaload d_17_15) (And.intro (s_iload_n d_17_16 rfl) (And.intro (s_icmp_ne d_17_17 (by decide +kernel)) (And.intro (s_iconst d_17_20 (by decide +kernel)) (And.intro (s_goto d_17_21 (by decide +kernel)) (And.intro (s_iconst d_17_24 (by decide +kernel)) (And.intro (s_retz d_17_25 rfl) (True.intro))))))))))))))))
theorem d_18_0 : decode (kby 18) 0 = .ok (.aload_n 0, 1) := by decide +kernel
theorem d_18_1 : decode (kby 18) 1 = .ok (.aload_n 0, 1) := by decide +kernel
theorem d_18_2 : decode (kby 18) 2 = .ok (.getfield 37, 3) := by decide +kernel
theorem d_18_5 : decode (kby 18) 5 = .ok (.aload_n 0, 1) := by decide +kernel
theorem d_18_6 : decode (kby 18) 6 = .ok (.getfield 21, 3) := by decide +kernel
theorem d_18_9 : decode (kby 18) 9 = .ok (.getfield 83, 3) := by decide +kernel
theorem d_18_12 : decode (kby 18) 12 = .ok (.iload_n 1, 1) := by decide +kernel
theorem d_18_13 : decode (kby 18) 13 = .ok (.invokevirtual 69, 3) := by decide +kernel
theorem d_18_16 : decode (kby 18) 16 = .ok (.aload_n 0, 1) := by decide +kernel
theorem d_18_17 : decode (kby 18) 17 = .ok (.getfield 21, 3) := by decide +kernel
theorem d_18_20 : decode (kby 18) 20 = .ok (.getfield 83, 3) := by decide +kernel
theorem d_18_23 : decode (kby 18) 23 = .ok (.iload_n 2, 1) := by decide +kernel
theorem d_18_24 : decode (kby 18) 24 = .ok (.invokevirtual 69, 3) := by decide +kernel
theorem d_18_27 : decode (kby 18) 27 = .ok (.invokevirtual 88, 3) := by decide +kernel
theorem d_18_30 : decode (kby 18) 30 = .ok (.invokevirtual 77, 3) := by decide +kernel
theorem d_18_33 : decode (kby 18) 33 = .ok (.ireturn, 1) := by decide +kernel
set_option maxRecDepth 100000 in
theorem ka_18 : kall 18 0 kc_18 := And.intro (s_aload_n d_18_0 rfl) (And.intro (s_aload_n d_18_1 rfl) (And.intro (s_get d_18_2 (C := kR0) (T := kT0) (N := 8) rfl kjn0 (by decide +kernel) rfl kf_0_37) (And.intro (s_aload_n d_18_5 rfl) (And.intro (s_get d_18_6 (C := kR0) (T := kT0) (N := 8) rfl kjn0 (by decide +kernel) rfl kf_0_21) (And.intro (s_get d_18_9 (C := kR3) (T := kT3) (N := 15) rfl kjn3 (by decide +kernel) rfl kf_0_83) (And.intro (s_iload_n d_18_12 rfl) (And.intro (s_cv d_18_13 kl_0_69 k_im_9 k_se_9 kok_9 rfl (by decide +kernel) rfl rfl) (And.intro (s_aload_n d_18_16 rfl) (And.intro (s_get d_18_17 (C := kR0) (T := kT0) (N := 8) rfl kjn0 (by decide +kernel) rfl kf_0_21) (And.intro (s_get d_18_20 (C := kR3) (T := kT3) (N := 15) rfl kjn3 (by decide +kernel) rfl kf_0_83) (And.intro (s_iload_n d_18_23 rfl) (And.intro (s_cv d_18_24 kl_0_69 k_im_9 k_se_9 kok_9 rfl (by decide +kernel) rfl rfl) (And.intro (s_cv d_18_27 kl_0_88 k_im_19 k_se_19 kok_19 rfl (by decide +kernel) rfl rfl) (And.intro (s_cv d_18_30 kl_0_77 k_im_12 k_se_12 kok_12 rfl (by decide +kernel) rfl rfl) (And.intro (s_ret d_18_33 rfl) (True.intro))))))))))))))))
theorem d_19_0 : decode (kby 19) 0 = .ok (.aload_n 0, 1) := by decide +kernel
theorem d_19_1 : decode (kby 19) 1 = .ok (.getfield 26, 3) := by decide +kernel
theorem d_19_4 : decode (kby 19) 4 = .ok (.iload_n 1, 1) := by decide +kernel
theorem d_19_5 : decode (kby 19) 5 = .ok (.invokevirtual 43, 3) := by decide +kernel
theorem d_19_8 : decode (kby 19) 8 = .ok (.ifCond .eq 5, 3) := by decide +kernel
theorem d_19_11 : decode (kby 19) 11 = .ok (.iconst (-1), 1) := by decide +kernel
theorem d_19_12 : decode (kby 19) 12 = .ok (.ireturn, 1) := by decide +kernel
theorem d_19_13 : decode (kby 19) 13 = .ok (.aload_n 0, 1) := by decide +kernel
theorem d_19_14 : decode (kby 19) 14 = .ok (.iconst 2, 1) := by decide +kernel
theorem d_19_15 : decode (kby 19) 15 = .ok (.iload_n 1, 1) := by decide +kernel
theorem d_19_16 : decode (kby 19) 16 = .ok (.iconst (-1), 1) := by decide +kernel
theorem d_19_17 : decode (kby 19) 17 = .ok (.invokevirtual 47, 3) := by decide +kernel
theorem d_19_20 : decode (kby 19) 20 = .ok (.aload_n 0, 1) := by decide +kernel
theorem d_19_21 : decode (kby 19) 21 = .ok (.getfield 26, 3) := by decide +kernel
theorem d_19_24 : decode (kby 19) 24 = .ok (.aload_n 0, 1) := by decide +kernel
theorem d_19_25 : decode (kby 19) 25 = .ok (.getfield 26, 3) := by decide +kernel
theorem d_19_28 : decode (kby 19) 28 = .ok (.getfield 51, 3) := by decide +kernel
theorem d_19_31 : decode (kby 19) 31 = .ok (.iload_n 1, 1) := by decide +kernel
theorem d_19_32 : decode (kby 19) 32 = .ok (.iaload, 1) := by decide +kernel
theorem d_19_33 : decode (kby 19) 33 = .ok (.aload_n 0, 1) := by decide +kernel
theorem d_19_34 : decode (kby 19) 34 = .ok (.iload_n 2, 1) := by decide +kernel
theorem d_19_35 : decode (kby 19) 35 = .ok (.iconst 0, 1) := by decide +kernel
theorem d_19_36 : decode (kby 19) 36 = .ok (.iconst 0, 1) := by decide +kernel
theorem d_19_37 : decode (kby 19) 37 = .ok (.invokevirtual 54, 3) := by decide +kernel
theorem d_19_40 : decode (kby 19) 40 = .ok (.invokevirtual 58, 3) := by decide +kernel
theorem d_19_43 : decode (kby 19) 43 = .ok (.ireturn, 1) := by decide +kernel
set_option maxRecDepth 100000 in
theorem ka_19 : kall 19 0 kc_19 := And.intro (s_aload_n d_19_0 rfl) (And.intro (s_get d_19_1 (C := kR5) (T := kT5) (N := 8) rfl kjn5 (by decide +kernel) rfl kf_5_26) (And.intro (s_iload_n d_19_4 rfl) (And.intro (s_cv d_19_5 kl_5_43 k_im_20 k_se_20 kok_20 rfl (by decide +kernel) rfl rfl) (And.intro (s_if_eq d_19_8 (by decide +kernel)) (And.intro (s_iconst d_19_11 (by decide +kernel)) (And.intro (s_ret d_19_12 rfl) (And.intro (s_aload_n d_19_13 rfl) (And.intro (s_iconst d_19_14 (by decide +kernel)) (And.intro (s_iload_n d_19_15 rfl) (And.intro (s_iconst d_19_16 (by decide +kernel)) (And.intro (s_cw d_19_17 kl_5_47 k_im_21 k_se_21 kok_21 rfl (by decide +kernel) rfl rfl) (And.intro (s_aload_n d_19_20 rfl) (And.intro (s_get d_19_21 (C := kR5) (T := kT5) (N := 8) rfl kjn5 (by decide +kernel) rfl kf_5_26) (And.intro (s_aload_n d_19_24 rfl) (And.intro (s_get d_19_25 (C := kR5) (T := kT5) (N := 8) rfl kjn5 (by decide +kernel) rfl kf_5_26) (And.intro (s_get d_19_28 (C := kR3) (T := kT3) (N := 15) rfl kjn3 (by decide +kernel) rfl kf_5_51) (And.intro (s_iload_n d_19_31 rfl) (And.intro (s_iaload d_19_32) (And.intro (s_aload_n d_19_33 rfl) (And.intro (s_iload_n d_19_34 rfl) (And.intro (s_iconst d_19_35 (by decide +kernel)) (And.intro (s_iconst d_19_36 (by decide +kernel)) (And.intro (s_cv d_19_37 kl_5_54 k_im_22 k_se_22 kok_22 rfl (by decide +kernel) rfl rfl) (And.intro (s_cv d_19_40 kl_5_58 k_im_27 k_se_27 kok_27 rfl (by decide +kernel) rfl rfl) (And.intro (s_ret d_19_43 rfl) (True.intro))))))))))))))))))))))))))
theorem d_20_0 : decode (kby 20) 0 = .ok (.iload_n 1, 1) := by decide +kernel
theorem d_20_1 : decode (kby 20) 1 = .ok (.ifCond .ge 7, 3) := by decide +kernel
theorem d_20_4 : decode (kby 20) 4 = .ok (.iconst (-1), 1) := by decide +kernel
theorem d_20_5 : decode (kby 20) 5 = .ok (.goto 9, 3) := by decide +kernel
theorem d_20_8 : decode (kby 20) 8 = .ok (.aload_n 0, 1) := by decide +kernel
theorem d_20_9 : decode (kby 20) 9 = .ok (.getfield 20, 3) := by decide +kernel
theorem d_20_12 : decode (kby 20) 12 = .ok (.iload_n 1, 1) := by decide +kernel
theorem d_20_13 : decode (kby 20) 13 = .ok (.iaload, 1) := by decide +kernel
theorem d_20_14 : decode (kby 20) 14 = .ok (.ireturn, 1) := by decide +kernel
set_option maxRecDepth 100000 in
theorem ka_20 : kall 20 0 kc_20 := And.intro (s_iload_n d_20_0 rfl) (And.intro (s_if_ge d_20_1 (by decide +kernel)) (And.intro (s_iconst d_20_4 (by decide +kernel)) (And.intro (s_goto d_20_5 (by decide +kernel)) (And.intro (s_aload_n d_20_8 rfl) (And.intro (s_get d_20_9 (C := kR3) (T := kT3) (N := 15) rfl kjn3 (by decide +kernel) rfl kf_3_20) (And.intro (s_iload_n d_20_12 rfl) (And.intro (s_iaload d_20_13) (And.intro (s_ret d_20_14 rfl) (True.intro)))))))))
theorem d_21_0 : decode (kby 21) 0 = .ok (.aload_n 0, 1) := by decide +kernel
theorem d_21_1 : decode (kby 21) 1 = .ok (.dup, 1) := by decide +kernel
theorem d_21_2 : decode (kby 21) 2 = .ok (.getfield 30, 3) := by decide +kernel
theorem d_21_5 : decode (kby 21) 5 = .ok (.iconst 1, 1) := by decide +kernel
theorem d_21_6 : decode (kby 21) 6 = .ok (.iadd, 1) := by decide +kernel
theorem d_21_7 : decode (kby 21) 7 = .ok (.putfield 30, 3) := by decide +kernel
theorem d_21_10 : decode (kby 21) 10 = .ok (.aload_n 0, 1) := by decide +kernel
theorem d_21_11 : decode (kby 21) 11 = .ok (.iload_n 1, 1) := by decide +kernel
theorem d_21_12 : decode (kby 21) 12 = .ok (.putfield 34, 3) := by decide +kernel
theorem d_21_15 : decode (kby 21) 15 = .ok (.aload_n 0, 1) := by decide +kernel
theorem d_21_16 : decode (kby 21) 16 = .ok (.iload_n 2, 1) := by decide +kernel
theorem d_21_17 : decode (kby 21) 17 = .ok (.putfield 37, 3) := by decide +kernel
theorem d_21_20 : decode (kby 21) 20 = .ok (.aload_n 0, 1) := by decide +kernel
theorem d_21_21 : decode (kby 21) 21 = .ok (.iload_n 3, 1) := by decide +kernel
theorem d_21_22 : decode (kby 21) 22 = .ok (.putfield 40, 3) := by decide +kernel
theorem d_21_25 : decode (kby 21) 25 = .ok (.return_, 1) := by decide +kernel
set_option maxRecDepth 100000 in
theorem ka_21 : kall 21 0 kc_21 := And.intro (s_aload_n d_21_0 rfl) (And.intro (s_dup d_21_1) (And.intro (s_get d_21_2 (C := kR5) (T := kT5) (N := 8) rfl kjn5 (by decide +kernel) rfl kf_5_30) (And.intro (s_iconst d_21_5 (by decide +kernel)) (And.intro (s_iadd d_21_6) (And.intro (s_put d_21_7 (C := kR5) (T := kT5) (N := 8) rfl kjn5 (by decide +kernel) rfl kf_5_30 kt5 kty5 knm5 rfl (by decide +kernel)) (And.intro (s_aload_n d_21_10 rfl) (And.intro (s_iload_n d_21_11 rfl) (And.intro (s_put d_21_12 (C := kR5) (T := kT5) (N := 8) rfl kjn5 (by decide +kernel) rfl kf_5_34 kt5 kty5 knm5 rfl (by decide +kernel)) (And.intro (s_aload_n d_21_15 rfl) (And.intro (s_iload_n d_21_16 rfl) (And.intro (s_put d_21_17 (C := kR5) (T := kT5) (N := 8) rfl kjn5 (by decide +kernel) rfl kf_5_37 kt5 kty5 knm5 rfl (by decide +kernel)) (And.intro (s_aload_n d_21_20 rfl) (And.intro (s_iload_n d_21_21 rfl) (And.intro (s_put d_21_22 (C := kR5) (T := kT5) (N := 8) rfl kjn5 (by decide +kernel) rfl kf_5_40 kt5 kty5 knm5 rfl (by decide +kernel)) (And.intro (s_rv d_21_25 rfl) (True.intro))))))))))))))))
theorem d_22_0 : decode (kby 22) 0 = .ok (.iload_n 1, 1) := by decide +kernel
theorem d_22_1 : decode (kby 22) 1 = .ok (.ifCond .lt 14, 3) := by decide +kernel
theorem d_22_4 : decode (kby 22) 4 = .ok (.iload_n 2, 1) := by decide +kernel
theorem d_22_5 : decode (kby 22) 5 = .ok (.iload_n 3, 1) := by decide +kernel
theorem d_22_6 : decode (kby 22) 6 = .ok (.if_icmp .gt 9, 3) := by decide +kernel
theorem d_22_9 : decode (kby 22) 9 = .ok (.iload_n 3, 1) := by decide +kernel
theorem d_22_10 : decode (kby 22) 10 = .ok (.bipush 20, 2) := by decide +kernel
theorem d_22_12 : decode (kby 22) 12 = .ok (.if_icmp .lt 5, 3) := by decide +kernel
theorem d_22_15 : decode (kby 22) 15 = .ok (.iconst (-1), 1) := by decide +kernel
theorem d_22_16 : decode (kby 22) 16 = .ok (.ireturn, 1) := by decide +kernel
theorem d_22_17 : decode (kby 22) 17 = .ok (.iload_n 2, 1) := by decide +kernel
theorem d_22_18 : decode (kby 22) 18 = .ok (.sipush 250, 3) := by decide +kernel
theorem d_22_21 : decode (kby 22) 21 = .ok (.imul, 1) := by decide +kernel
theorem d_22_22 : decode (kby 22) 22 = .ok (.iload_n 1, 1) := by decide +kernel
theorem d_22_23 : decode (kby 22) 23 = .ok (.iadd, 1) := by decide +kernel
theorem d_22_24 : decode (kby 22) 24 = .ok (.istore 4, 2) := by decide +kernel
theorem d_22_26 : decode (kby 22) 26 = .ok (.aload_n 0, 1) := by decide +kernel
theorem d_22_27 : decode (kby 22) 27 = .ok (.getfield 13, 3) := by decide +kernel
theorem d_22_30 : decode (kby 22) 30 = .ok (.iload 4, 2) := by decide +kernel
theorem d_22_32 : decode (kby 22) 32 = .ok (.iaload, 1) := by decide +kernel
theorem d_22_33 : decode (kby 22) 33 = .ok (.bipush 8, 2) := by decide +kernel
theorem d_22_35 : decode (kby 22) 35 = .ok (.ishr, 1) := by decide +kernel
theorem d_22_36 : decode (kby 22) 36 = .ok (.aload_n 0, 1) := by decide +kernel
theorem d_22_37 : decode (kby 22) 37 = .ok (.getfield 30, 3) := by decide +kernel
theorem d_22_40 : decode (kby 22) 40 = .ok (.if_icmp .ne 15, 3) := by decide +kernel
theorem d_22_43 : decode (kby 22) 43 = .ok (.aload_n 0, 1) := by decide +kernel
theorem d_22_44 : decode (kby 22) 44 = .ok (.getfield 13, 3) := by decide +kernel
theorem d_22_47 : decode (kby 22) 47 = .ok (.iload 4, 2) := by decide +kernel
theorem d_22_49 : decode (kby 22) 49 = .ok (.iaload, 1) := by decide +kernel
theorem d_22_50 : decode (kby 22) 50 = .ok (.sipush 255, 3) := by decide +kernel
theorem d_22_53 : decode (kby 22) 53 = .ok (.iand, 1) := by decide +kernel
theorem d_22_54 : decode (kby 22) 54 = .ok (.ireturn, 1) := by decide +kernel
theorem d_22_55 : decode (kby 22) 55 = .ok (.aload_n 0, 1) := by decide +kernel
theorem d_22_56 : decode (kby 22) 56 = .ok (.iload_n 1, 1) := by decide +kernel
theorem d_22_57 : decode (kby 22) 57 = .ok (.iload_n 2, 1) := by decide +kernel
theorem d_22_58 : decode (kby 22) 58 = .ok (.iload_n 3, 1) := by decide +kernel
theorem d_22_59 : decode (kby 22) 59 = .ok (.invokevirtual 65, 3) := by decide +kernel
theorem d_22_62 : decode (kby 22) 62 = .ok (.istore 5, 2) := by decide +kernel
theorem d_22_64 : decode (kby 22) 64 = .ok (.iload 5, 2) := by decide +kernel
theorem d_22_66 : decode (kby 22) 66 = .ok (.ifCond .lt 20, 3) := by decide +kernel
theorem d_22_69 : decode (kby 22) 69 = .ok (.aload_n 0, 1) := by decide +kernel
theorem d_22_70 : decode (kby 22) 70 = .ok (.getfield 13, 3) := by decide +kernel
theorem d_22_73 : decode (kby 22) 73 = .ok (.iload 4, 2) := by decide +kernel
theorem d_22_75 : decode (kby 22) 75 = .ok (.aload_n 0, 1) := by decide +kernel
theorem d_22_76 : decode (kby 22) 76 = .ok (.getfield 30, 3) := by decide +kernel
theorem d_22_79 : decode (kby 22) 79 = .ok (.bipush 8, 2) := by decide +kernel
theorem d_22_81 : decode (kby 22) 81 = .ok (.ishl, 1) := by decide +kernel
theorem d_22_82 : decode (kby 22) 82 = .ok (.iload 5, 2) := by decide +kernel
theorem d_22_84 : decode (kby 22) 84 = .ok (.ior, 1) := by decide +kernel
theorem d_22_85 : decode (kby 22) 85 = .ok (.iastore, 1) := by decide +kernel
theorem d_22_86 : decode (kby 22) 86 = .ok (.iload 5, 2) := by decide +kernel
theorem d_22_88 : decode (kby 22) 88 = .ok (.ireturn, 1) := by decide +kernel
set_option maxRecDepth 100000 in
theorem ka_22 : kall 22 0 kc_22 := And.intro (s_iload_n d_22_0 rfl) (And.intro (s_if_lt d_22_1 (by decide +kernel)) (And.intro (s_iload_n d_22_4 rfl) (And.intro (s_iload_n d_22_5 rfl) (And.intro (s_icmp_gt d_22_6 (by decide +kernel)) (And.intro (s_iload_n d_22_9 rfl) (And.intro (s_bipush d_22_10 (by decide +kernel)) (And.intro (s_icmp_lt d_22_12 (by decide +kernel)) (And.intro (s_iconst d_22_15 (by decide +kernel)) (And.intro (s_ret d_22_16 rfl) (And.intro (s_iload_n d_22_17 rfl) (And.intro (s_sipush d_22_18 (by decide +kernel)) (And.intro (s_imul d_22_21) (And.intro (s_iload_n d_22_22 rfl) (And.intro (s_iadd d_22_23) (And.intro (s_istore d_22_24 (by decide +kernel)) (And.intro (s_aload_n d_22_26 rfl) (And.intro (s_get d_22_27 (C := kR5) (T := kT5) (N := 8) rfl kjn5 (by decide +kernel) rfl kf_5_13) (And.intro (s_iload d_22_30) (And.intro (s_iaload d_22_32) (And.intro (s_bipush d_22_33 (by decide +kernel)) (And.intro (s_ishr d_22_35) (And.intro (s_aload_n d_22_36 rfl) (And.intro (s_get d_22_37 (C := kR5) (T := kT5) (N := 8) rfl kjn5 (by decide +kernel) rfl kf_5_30) (And.intro (s_icmp_ne d_22_40 (by decide +kernel)) (And.intro (s_aload_n d_22_43 rfl) (And.intro (s_get d_22_44 (C := kR5) (T := kT5) (N := 8) rfl kjn5 (by decide +kernel) rfl kf_5_13) (And.intro (s_iload d_22_47) (And.intro (s_iaload d_22_49) (And.intro (s_sipush d_22_50 (by decide +kernel)) (And.intro (s_iand d_22_53) (And.intro (s_ret d_22_54 rfl) (And.intro (s_aload_n d_22_55 rfl) (And.intro (s_iload_n d_22_56 rfl) (And.intro (s_iload_n d_22_57 rfl) (And.intro (s_iload_n d_22_58 rfl) (And.intro (s_cv d_22_59 kl_5_65 k_im_23 k_se_23 kok_23 rfl (by decide +kernel) rfl rfl) (And.intro (s_istore d_22_62 (by decide +kernel)) (And.intro (s_iload d_22_64) (And.intro (s_if_lt d_22_66 (by decide +kernel)) (And.intro (s_aload_n d_22_69 rfl) (And.intro (s_get d_22_70 (C := kR5) (T := kT5) (N := 8) rfl kjn5 (by decide +kernel) rfl kf_5_13) (And.intro (s_iload d_22_73) (And.intro (s_aload_n d_22_75 rfl) (And.intro (s_get d_22_76 (C := kR5) (T := kT5) (N := 8) rfl kjn5 (by decide +kernel) rfl kf_5_30) (And.intro (s_bipush d_22_79 (by decide +kernel)) (And.intro (s_ishl d_22_81) (And.intro (s_iload d_22_82) (And.intro (s_ior d_22_84) (And.intro (s_iastore d_22_85) (And.intro (s_iload d_22_86) (And.intro (s_ret d_22_88 rfl) (True.intro))))))))))))))))))))))))))))))))))))))))))))))))))))
