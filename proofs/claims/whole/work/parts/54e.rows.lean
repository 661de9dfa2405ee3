/-! printed: each instruction is sound -/
theorem d_102_0 : decode (kby 102) 0 = .ok (.aload_n 0, 1) := by decide +kernel
theorem d_102_1 : decode (kby 102) 1 = .ok (.invokevirtual 144, 3) := by decide +kernel
theorem d_102_4 : decode (kby 102) 4 = .ok (.ifCond .eq 11, 3) := by decide +kernel
theorem d_102_7 : decode (kby 102) 7 = .ok (.aload_n 0, 1) := by decide +kernel
theorem d_102_8 : decode (kby 102) 8 = .ok (.iload_n 1, 1) := by decide +kernel
theorem d_102_9 : decode (kby 102) 9 = .ok (.invokevirtual 151, 3) := by decide +kernel
theorem d_102_12 : decode (kby 102) 12 = .ok (.goto 4, 3) := by decide +kernel
theorem d_102_15 : decode (kby 102) 15 = .ok (.iconst (-1), 1) := by decide +kernel
theorem d_102_16 : decode (kby 102) 16 = .ok (.ireturn, 1) := by decide +kernel
set_option maxRecDepth 100000 in
theorem ka_102 : kall 102 0 kc_102 := And.intro (s_aload_n d_102_0 rfl) (And.intro (s_cv d_102_1 kl_8_144 k_im_96 k_se_96 kok_96 rfl (by decide +kernel) rfl rfl) (And.intro (s_if_eq d_102_4 (by decide +kernel)) (And.intro (s_aload_n d_102_7 rfl) (And.intro (s_iload_n d_102_8 rfl) (And.intro (s_cv d_102_9 kl_8_151 k_im_103 k_se_103 kok_103 rfl (by decide +kernel) rfl rfl) (And.intro (s_goto d_102_12 (by decide +kernel)) (And.intro (s_iconst d_102_15 (by decide +kernel)) (And.intro (s_ret d_102_16 rfl) (True.intro)))))))))
theorem d_103_0 : decode (kby 103) 0 = .ok (.aload_n 0, 1) := by decide +kernel
theorem d_103_1 : decode (kby 103) 1 = .ok (.getfield 47, 3) := by decide +kernel
theorem d_103_4 : decode (kby 103) 4 = .ok (.iload_n 1, 1) := by decide +kernel
theorem d_103_5 : decode (kby 103) 5 = .ok (.iaload, 1) := by decide +kernel
theorem d_103_6 : decode (kby 103) 6 = .ok (.ifCond .ge 33, 3) := by decide +kernel
theorem d_103_9 : decode (kby 103) 9 = .ok (.aload_n 0, 1) := by decide +kernel
theorem d_103_10 : decode (kby 103) 10 = .ok (.getfield 47, 3) := by decide +kernel
theorem d_103_13 : decode (kby 103) 13 = .ok (.iload_n 1, 1) := by decide +kernel
theorem d_103_14 : decode (kby 103) 14 = .ok (.aload_n 0, 1) := by decide +kernel
theorem d_103_15 : decode (kby 103) 15 = .ok (.getfield 100, 3) := by decide +kernel
theorem d_103_18 : decode (kby 103) 18 = .ok (.iastore, 1) := by decide +kernel
theorem d_103_19 : decode (kby 103) 19 = .ok (.aload_n 0, 1) := by decide +kernel
theorem d_103_20 : decode (kby 103) 20 = .ok (.getfield 50, 3) := by decide +kernel
theorem d_103_23 : decode (kby 103) 23 = .ok (.aload_n 0, 1) := by decide +kernel
theorem d_103_24 : decode (kby 103) 24 = .ok (.getfield 100, 3) := by decide +kernel
theorem d_103_27 : decode (kby 103) 27 = .ok (.iload_n 1, 1) := by decide +kernel
theorem d_103_28 : decode (kby 103) 28 = .ok (.iastore, 1) := by decide +kernel
theorem d_103_29 : decode (kby 103) 29 = .ok (.aload_n 0, 1) := by decide +kernel
theorem d_103_30 : decode (kby 103) 30 = .ok (.dup, 1) := by decide +kernel
theorem d_103_31 : decode (kby 103) 31 = .ok (.getfield 100, 3) := by decide +kernel
theorem d_103_34 : decode (kby 103) 34 = .ok (.iconst 1, 1) := by decide +kernel
theorem d_103_35 : decode (kby 103) 35 = .ok (.iadd, 1) := by decide +kernel
theorem d_103_36 : decode (kby 103) 36 = .ok (.putfield 100, 3) := by decide +kernel
theorem d_103_39 : decode (kby 103) 39 = .ok (.aload_n 0, 1) := by decide +kernel
theorem d_103_40 : decode (kby 103) 40 = .ok (.getfield 47, 3) := by decide +kernel
theorem d_103_43 : decode (kby 103) 43 = .ok (.iload_n 1, 1) := by decide +kernel
theorem d_103_44 : decode (kby 103) 44 = .ok (.iaload, 1) := by decide +kernel
theorem d_103_45 : decode (kby 103) 45 = .ok (.ireturn, 1) := by decide +kernel
set_option maxRecDepth 100000 in
theorem ka_103 : kall 103 0 kc_103 := And.intro (s_aload_n d_103_0 rfl) (And.intro (s_get d_103_1 (C := kR8) (T := kT8) (N := 38) rfl kjn8 (by decide +kernel) rfl kf_8_47) (And.intro (s_iload_n d_103_4 rfl) (And.intro (s_iaload d_103_5) (And.intro (s_if_ge d_103_6 (by decide +kernel)) (And.intro (s_aload_n d_103_9 rfl) (And.intro (s_get d_103_10 (C := kR8) (T := kT8) (N := 38) rfl kjn8 (by decide +kernel) rfl kf_8_47) (And.intro (s_iload_n d_103_13 rfl) (And.intro (s_aload_n d_103_14 rfl) (And.intro (s_get d_103_15 (C := kR8) (T := kT8) (N := 38) rfl kjn8 (by decide +kernel) rfl kf_8_100) (And.intro (s_iastore d_103_18) (And.intro (s_aload_n d_103_19 rfl) (And.intro (s_get d_103_20 (C := kR8) (T := kT8) (N := 38) rfl kjn8 (by decide +kernel) rfl kf_8_50) (And.intro (s_aload_n d_103_23 rfl) (And.intro (s_get d_103_24 (C := kR8) (T := kT8) (N := 38) rfl kjn8 (by decide +kernel) rfl kf_8_100) (And.intro (s_iload_n d_103_27 rfl) (And.intro (s_iastore d_103_28) (And.intro (s_aload_n d_103_29 rfl) (And.intro (s_dup d_103_30) (And.intro (s_get d_103_31 (C := kR8) (T := kT8) (N := 38) rfl kjn8 (by decide +kernel) rfl kf_8_100) (And.intro (s_iconst d_103_34 (by decide +kernel)) (And.intro (s_iadd d_103_35) (And.intro (s_put d_103_36 (C := kR8) (T := kT8) (N := 38) rfl kjn8 (by decide +kernel) rfl kf_8_100 kt8 kty8 knm8 rfl (by decide +kernel)) (And.intro (s_aload_n d_103_39 rfl) (And.intro (s_get d_103_40 (C := kR8) (T := kT8) (N := 38) rfl kjn8 (by decide +kernel) rfl kf_8_47) (And.intro (s_iload_n d_103_43 rfl) (And.intro (s_iaload d_103_44) (And.intro (s_ret d_103_45 rfl) (True.intro))))))))))))))))))))))))))))
theorem d_104_0 : decode (kby 104) 0 = .ok (.aload_n 0, 1) := by decide +kernel
theorem d_104_1 : decode (kby 104) 1 = .ok (.iload_n 1, 1) := by decide +kernel
theorem d_104_2 : decode (kby 104) 2 = .ok (.invokevirtual 160, 3) := by decide +kernel
theorem d_104_5 : decode (kby 104) 5 = .ok (.ifCond .ne 5, 3) := by decide +kernel
theorem d_104_8 : decode (kby 104) 8 = .ok (.iconst (-1), 1) := by decide +kernel
theorem d_104_9 : decode (kby 104) 9 = .ok (.ireturn, 1) := by decide +kernel
theorem d_104_10 : decode (kby 104) 10 = .ok (.aload_n 0, 1) := by decide +kernel
theorem d_104_11 : decode (kby 104) 11 = .ok (.invokevirtual 154, 3) := by decide +kernel
theorem d_104_14 : decode (kby 104) 14 = .ok (.aload_n 0, 1) := by decide +kernel
theorem d_104_15 : decode (kby 104) 15 = .ok (.aload_n 0, 1) := by decide +kernel
theorem d_104_16 : decode (kby 104) 16 = .ok (.getfield 29, 3) := by decide +kernel
theorem d_104_19 : decode (kby 104) 19 = .ok (.iload_n 1, 1) := by decide +kernel
theorem d_104_20 : decode (kby 104) 20 = .ok (.iaload, 1) := by decide +kernel
theorem d_104_21 : decode (kby 104) 21 = .ok (.invokevirtual 110, 3) := by decide +kernel
theorem d_104_24 : decode (kby 104) 24 = .ok (.istore_n 2, 1) := by decide +kernel
theorem d_104_25 : decode (kby 104) 25 = .ok (.aload_n 0, 1) := by decide +kernel
theorem d_104_26 : decode (kby 104) 26 = .ok (.iload_n 2, 1) := by decide +kernel
theorem d_104_27 : decode (kby 104) 27 = .ok (.invokevirtual 164, 3) := by decide +kernel
theorem d_104_30 : decode (kby 104) 30 = .ok (.ireturn, 1) := by decide +kernel
set_option maxRecDepth 100000 in
theorem ka_104 : kall 104 0 kc_104 := And.intro (s_aload_n d_104_0 rfl) (And.intro (s_iload_n d_104_1 rfl) (And.intro (s_cv d_104_2 kl_8_160 k_im_99 k_se_99 kok_99 rfl (by decide +kernel) rfl rfl) (And.intro (s_if_ne d_104_5 (by decide +kernel)) (And.intro (s_iconst d_104_8 (by decide +kernel)) (And.intro (s_ret d_104_9 rfl) (And.intro (s_aload_n d_104_10 rfl) (And.intro (s_cw d_104_11 kl_8_154 k_im_93 k_se_93 kok_93 rfl (by decide +kernel) rfl rfl) (And.intro (s_aload_n d_104_14 rfl) (And.intro (s_aload_n d_104_15 rfl) (And.intro (s_get d_104_16 (C := kR8) (T := kT8) (N := 38) rfl kjn8 (by decide +kernel) rfl kf_8_29) (And.intro (s_iload_n d_104_19 rfl) (And.intro (s_iaload d_104_20) (And.intro (s_cv d_104_21 kl_8_110 k_im_105 k_se_105 kok_105 rfl (by decide +kernel) rfl rfl) (And.intro (s_istore_n d_104_24 rfl (by decide +kernel)) (And.intro (s_aload_n d_104_25 rfl) (And.intro (s_iload_n d_104_26 rfl) (And.intro (s_cv d_104_27 kl_8_164 k_im_102 k_se_102 kok_102 rfl (by decide +kernel) rfl rfl) (And.intro (s_ret d_104_30 rfl) (True.intro)))))))))))))))))))
theorem d_105_0 : decode (kby 105) 0 = .ok (.aload_n 0, 1) := by decide +kernel
theorem d_105_1 : decode (kby 105) 1 = .ok (.iconst 4, 1) := by decide +kernel
theorem d_105_2 : decode (kby 105) 2 = .ok (.iload_n 1, 1) := by decide +kernel
theorem d_105_3 : decode (kby 105) 3 = .ok (.iconst 0, 1) := by decide +kernel
theorem d_105_4 : decode (kby 105) 4 = .ok (.invokevirtual 103, 3) := by decide +kernel
theorem d_105_7 : decode (kby 105) 7 = .ok (.istore_n 2, 1) := by decide +kernel
theorem d_105_8 : decode (kby 105) 8 = .ok (.aload_n 0, 1) := by decide +kernel
theorem d_105_9 : decode (kby 105) 9 = .ok (.iconst 4, 1) := by decide +kernel
theorem d_105_10 : decode (kby 105) 10 = .ok (.iload_n 1, 1) := by decide +kernel
theorem d_105_11 : decode (kby 105) 11 = .ok (.iload_n 2, 1) := by decide +kernel
theorem d_105_12 : decode (kby 105) 12 = .ok (.invokevirtual 103, 3) := by decide +kernel
theorem d_105_15 : decode (kby 105) 15 = .ok (.istore_n 3, 1) := by decide +kernel
theorem d_105_16 : decode (kby 105) 16 = .ok (.aload_n 0, 1) := by decide +kernel
theorem d_105_17 : decode (kby 105) 17 = .ok (.iconst 1, 1) := by decide +kernel
theorem d_105_18 : decode (kby 105) 18 = .ok (.iload_n 1, 1) := by decide +kernel
theorem d_105_19 : decode (kby 105) 19 = .ok (.iconst 0, 1) := by decide +kernel
theorem d_105_20 : decode (kby 105) 20 = .ok (.iload_n 3, 1) := by decide +kernel
theorem d_105_21 : decode (kby 105) 21 = .ok (.invokevirtual 106, 3) := by decide +kernel
theorem d_105_24 : decode (kby 105) 24 = .ok (.ireturn, 1) := by decide +kernel
set_option maxRecDepth 100000 in
theorem ka_105 : kall 105 0 kc_105 := And.intro (s_aload_n d_105_0 rfl) (And.intro (s_iconst d_105_1 (by decide +kernel)) (And.intro (s_iload_n d_105_2 rfl) (And.intro (s_iconst d_105_3 (by decide +kernel)) (And.intro (s_cv d_105_4 kl_8_103 k_im_94 k_se_94 kok_94 rfl (by decide +kernel) rfl rfl) (And.intro (s_istore_n d_105_7 rfl (by decide +kernel)) (And.intro (s_aload_n d_105_8 rfl) (And.intro (s_iconst d_105_9 (by decide +kernel)) (And.intro (s_iload_n d_105_10 rfl) (And.intro (s_iload_n d_105_11 rfl) (And.intro (s_cv d_105_12 kl_8_103 k_im_94 k_se_94 kok_94 rfl (by decide +kernel) rfl rfl) (And.intro (s_istore_n d_105_15 rfl (by decide +kernel)) (And.intro (s_aload_n d_105_16 rfl) (And.intro (s_iconst d_105_17 (by decide +kernel)) (And.intro (s_iload_n d_105_18 rfl) (And.intro (s_iconst d_105_19 (by decide +kernel)) (And.intro (s_iload_n d_105_20 rfl) (And.intro (s_cv d_105_21 kl_8_106 k_im_101 k_se_101 kok_101 rfl (by decide +kernel) rfl rfl) (And.intro (s_ret d_105_24 rfl) (True.intro)))))))))))))))))))
theorem d_106_0 : decode (kby 106) 0 = .ok (.aload_n 0, 1) := by decide +kernel
theorem d_106_1 : decode (kby 106) 1 = .ok (.iload_n 1, 1) := by decide +kernel
theorem d_106_2 : decode (kby 106) 2 = .ok (.invokevirtual 167, 3) := by decide +kernel
theorem d_106_5 : decode (kby 106) 5 = .ok (.ifCond .eq 30, 3) := by decide +kernel
theorem d_106_8 : decode (kby 106) 8 = .ok (.aload_n 0, 1) := by decide +kernel
theorem d_106_9 : decode (kby 106) 9 = .ok (.iload_n 2, 1) := by decide +kernel
theorem d_106_10 : decode (kby 106) 10 = .ok (.invokevirtual 167, 3) := by decide +kernel
theorem d_106_13 : decode (kby 106) 13 = .ok (.ifCond .eq 22, 3) := by decide +kernel
theorem d_106_16 : decode (kby 106) 16 = .ok (.aload_n 0, 1) := by decide +kernel
theorem d_106_17 : decode (kby 106) 17 = .ok (.aload_n 0, 1) := by decide +kernel
theorem d_106_18 : decode (kby 106) 18 = .ok (.getfield 50, 3) := by decide +kernel
theorem d_106_21 : decode (kby 106) 21 = .ok (.iload_n 1, 1) := by decide +kernel
theorem d_106_22 : decode (kby 106) 22 = .ok (.iaload, 1) := by decide +kernel
theorem d_106_23 : decode (kby 106) 23 = .ok (.aload_n 0, 1) := by decide +kernel
theorem d_106_24 : decode (kby 106) 24 = .ok (.getfield 50, 3) := by decide +kernel
theorem d_106_27 : decode (kby 106) 27 = .ok (.iload_n 2, 1) := by decide +kernel
theorem d_106_28 : decode (kby 106) 28 = .ok (.iaload, 1) := by decide +kernel
theorem d_106_29 : decode (kby 106) 29 = .ok (.invokevirtual 170, 3) := by decide +kernel
theorem d_106_32 : decode (kby 106) 32 = .ok (.ifCond .ne 5, 3) := by decide +kernel
theorem d_106_35 : decode (kby 106) 35 = .ok (.iconst (-1), 1) := by decide +kernel
theorem d_106_36 : decode (kby 106) 36 = .ok (.ireturn, 1) := by decide +kernel
theorem d_106_37 : decode (kby 106) 37 = .ok (.aload_n 0, 1) := by decide +kernel
theorem d_106_38 : decode (kby 106) 38 = .ok (.invokevirtual 154, 3) := by decide +kernel
theorem d_106_41 : decode (kby 106) 41 = .ok (.aload_n 0, 1) := by decide +kernel
theorem d_106_42 : decode (kby 106) 42 = .ok (.aload_n 0, 1) := by decide +kernel
theorem d_106_43 : decode (kby 106) 43 = .ok (.getfield 50, 3) := by decide +kernel
theorem d_106_46 : decode (kby 106) 46 = .ok (.iload_n 1, 1) := by decide +kernel
theorem d_106_47 : decode (kby 106) 47 = .ok (.iaload, 1) := by decide +kernel
theorem d_106_48 : decode (kby 106) 48 = .ok (.aload_n 0, 1) := by decide +kernel
theorem d_106_49 : decode (kby 106) 49 = .ok (.getfield 50, 3) := by decide +kernel
theorem d_106_52 : decode (kby 106) 52 = .ok (.iload_n 2, 1) := by decide +kernel
theorem d_106_53 : decode (kby 106) 53 = .ok (.iaload, 1) := by decide +kernel
theorem d_106_54 : decode (kby 106) 54 = .ok (.invokevirtual 114, 3) := by decide +kernel
theorem d_106_57 : decode (kby 106) 57 = .ok (.istore_n 3, 1) := by decide +kernel
theorem d_106_58 : decode (kby 106) 58 = .ok (.aload_n 0, 1) := by decide +kernel
theorem d_106_59 : decode (kby 106) 59 = .ok (.iload_n 3, 1) := by decide +kernel
theorem d_106_60 : decode (kby 106) 60 = .ok (.invokevirtual 164, 3) := by decide +kernel
theorem d_106_63 : decode (kby 106) 63 = .ok (.ireturn, 1) := by decide +kernel
set_option maxRecDepth 100000 in
theorem ka_106 : kall 106 0 kc_106 := And.intro (s_aload_n d_106_0 rfl) (And.intro (s_iload_n d_106_1 rfl) (And.intro (s_cv d_106_2 kl_8_167 k_im_107 k_se_107 kok_107 rfl (by decide +kernel) rfl rfl) (And.intro (s_if_eq d_106_5 (by decide +kernel)) (And.intro (s_aload_n d_106_8 rfl) (And.intro (s_iload_n d_106_9 rfl) (And.intro (s_cv d_106_10 kl_8_167 k_im_107 k_se_107 kok_107 rfl (by decide +kernel) rfl rfl) (And.intro (s_if_eq d_106_13 (by decide +kernel)) (And.intro (s_aload_n d_106_16 rfl) (And.intro (s_aload_n d_106_17 rfl) (And.intro (s_get d_106_18 (C := kR8) (T := kT8) (N := 38) rfl kjn8 (by decide +kernel) rfl kf_8_50) (And.intro (s_iload_n d_106_21 rfl) (And.intro (s_iaload d_106_22) (And.intro (s_aload_n d_106_23 rfl) (And.intro (s_get d_106_24 (C := kR8) (T := kT8) (N := 38) rfl kjn8 (by decide +kernel) rfl kf_8_50) (And.intro (s_iload_n d_106_27 rfl) (And.intro (s_iaload d_106_28) (And.intro (s_cv d_106_29 kl_8_170 k_im_108 k_se_108 kok_108 rfl (by decide +kernel) rfl rfl) (And.intro (s_if_ne d_106_32 (by decide +kernel)) (And.intro (s_iconst d_106_35 (by decide +kernel)) (And.intro (s_ret d_106_36 rfl) (And.intro (s_aload_n d_106_37 rfl) (And.intro (s_cw d_106_38 kl_8_154 k_im_93 k_se_93 kok_93 rfl (by decide +kernel) rfl rfl) (And.intro (s_aload_n d_106_41 rfl) (And.intro (s_aload_n d_106_42 rfl) (And.intro (s_get d_106_43 (C := kR8) (T := kT8) (N := 38) rfl kjn8 (by decide +kernel) rfl kf_8_50) (And.intro (s_iload_n d_106_46 rfl) (And.intro (s_iaload d_106_47) (And.intro (s_aload_n d_106_48 rfl) (And.intro (s_get d_106_49 (C := kR8) (T := kT8) (N := 38) rfl kjn8 (by decide +kernel) rfl kf_8_50) (And.intro (s_iload_n d_106_52 rfl) (And.intro (s_iaload d_106_53) (And.intro (s_cv d_106_54 kl_8_114 k_im_109 k_se_109 kok_109 rfl (by decide +kernel) rfl rfl) (And.intro (s_istore_n d_106_57 rfl (by decide +kernel)) (And.intro (s_aload_n d_106_58 rfl) (And.intro (s_iload_n d_106_59 rfl) (And.intro (s_cv d_106_60 kl_8_164 k_im_102 k_se_102 kok_102 rfl (by decide +kernel) rfl rfl) (And.intro (s_ret d_106_63 rfl) (True.intro))))))))))))))))))))))))))))))))))))))
theorem d_107_0 : decode (kby 107) 0 = .ok (.iload_n 1, 1) := by decide +kernel
theorem d_107_1 : decode (kby 107) 1 = .ok (.ifCond .lt 15, 3) := by decide +kernel
theorem d_107_4 : decode (kby 107) 4 = .ok (.iload_n 1, 1) := by decide +kernel
theorem d_107_5 : decode (kby 107) 5 = .ok (.aload_n 0, 1) := by decide +kernel
theorem d_107_6 : decode (kby 107) 6 = .ok (.getfield 100, 3) := by decide +kernel
theorem d_107_9 : decode (kby 107) 9 = .ok (.if_icmp .ge 7, 3) := by decide +kernel
theorem d_107_12 : decode (kby 107) 12 = .ok (.iconst 1, 1) := by decide +kernel
theorem d_107_13 : decode (kby 107) 13 = .ok (.goto 4, 3) := by decide +kernel
theorem d_107_16 : decode (kby 107) 16 = .ok (.iconst 0, 1) := by decide +kernel
theorem d_107_17 : decode (kby 107) 17 = .ok (.ireturn, 1) := by decide +kernel
set_option maxRecDepth 100000 in
theorem ka_107 : kall 107 0 kc_107 := And.intro (s_iload_n d_107_0 rfl) (And.intro (s_if_lt d_107_1 (by decide +kernel)) (And.intro (s_iload_n d_107_4 rfl) (And.intro (s_aload_n d_107_5 rfl) (And.intro (s_get d_107_6 (C := kR8) (T := kT8) (N := 38) rfl kjn8 (by decide +kernel) rfl kf_8_100) (And.intro (s_icmp_ge d_107_9 (by decide +kernel)) (And.intro (s_iconst d_107_12 (by decide +kernel)) (And.intro (s_goto d_107_13 (by decide +kernel)) (And.intro (s_iconst d_107_16 (by decide +kernel)) (And.intro (s_retz d_107_17 rfl) (True.intro))))))))))
theorem d_108_0 : decode (kby 108) 0 = .ok (.aload_n 0, 1) := by decide +kernel
theorem d_108_1 : decode (kby 108) 1 = .ok (.getfield 41, 3) := by decide +kernel
theorem d_108_4 : decode (kby 108) 4 = .ok (.iload_n 1, 1) := by decide +kernel
theorem d_108_5 : decode (kby 108) 5 = .ok (.iaload, 1) := by decide +kernel
theorem d_108_6 : decode (kby 108) 6 = .ok (.istore_n 3, 1) := by decide +kernel
theorem d_108_7 : decode (kby 108) 7 = .ok (.aload_n 0, 1) := by decide +kernel
theorem d_108_8 : decode (kby 108) 8 = .ok (.getfield 7, 3) := by decide +kernel
theorem d_108_11 : decode (kby 108) 11 = .ok (.iload_n 3, 1) := by decide +kernel
theorem d_108_12 : decode (kby 108) 12 = .ok (.iaload, 1) := by decide +kernel
theorem d_108_13 : decode (kby 108) 13 = .ok (.iconst 4, 1) := by decide +kernel
theorem d_108_14 : decode (kby 108) 14 = .ok (.if_icmp .ne 22, 3) := by decide +kernel
theorem d_108_17 : decode (kby 108) 17 = .ok (.aload_n 0, 1) := by decide +kernel
theorem d_108_18 : decode (kby 108) 18 = .ok (.getfield 13, 3) := by decide +kernel
theorem d_108_21 : decode (kby 108) 21 = .ok (.iload_n 3, 1) := by decide +kernel
theorem d_108_22 : decode (kby 108) 22 = .ok (.iaload, 1) := by decide +kernel
theorem d_108_23 : decode (kby 108) 23 = .ok (.aload_n 0, 1) := by decide +kernel
theorem d_108_24 : decode (kby 108) 24 = .ok (.getfield 41, 3) := by decide +kernel
theorem d_108_27 : decode (kby 108) 27 = .ok (.iload_n 2, 1) := by decide +kernel
theorem d_108_28 : decode (kby 108) 28 = .ok (.iaload, 1) := by decide +kernel
theorem d_108_29 : decode (kby 108) 29 = .ok (.if_icmp .ne 7, 3) := by decide +kernel
theorem d_108_32 : decode (kby 108) 32 = .ok (.iconst 1, 1) := by decide +kernel
theorem d_108_33 : decode (kby 108) 33 = .ok (.goto 4, 3) := by decide +kernel
theorem d_108_36 : decode (kby 108) 36 = .ok (.iconst 0, 1) := by decide +kernel
theorem d_108_37 : decode (kby 108) 37 = .ok (.ireturn, 1) := by decide +kernel
set_option maxRecDepth 100000 in
theorem ka_108 : kall 108 0 kc_108 := And.intro (s_aload_n d_108_0 rfl) (And.intro (s_get d_108_1 (C := kR8) (T := kT8) (N := 38) rfl kjn8 (by decide +kernel) rfl kf_8_41) (And.intro (s_iload_n d_108_4 rfl) (And.intro (s_iaload d_108_5) (And.intro (s_istore_n d_108_6 rfl (by decide +kernel)) (And.intro (s_aload_n d_108_7 rfl) (And.intro (s_get d_108_8 (C := kR8) (T := kT8) (N := 38) rfl kjn8 (by decide +kernel) rfl kf_8_7) (And.intro (s_iload_n d_108_11 rfl) (And.intro (s_iaload d_108_12) (And.intro (s_iconst d_108_13 (by decide +kernel)) (And.intro (s_icmp_ne d_108_14 (by decide +kernel)) (And.intro (s_aload_n d_108_17 rfl) (And.intro (s_get d_108_18 (C := kR8) (T := kT8) (N := 38) rfl kjn8 (by decide +kernel) rfl kf_8_13) (And.intro (s_iload_n d_108_21 rfl) (And.intro (s_iaload d_108_22) (And.intro (s_aload_n d_108_23 rfl) (And.intro (s_get d_108_24 (C := kR8) (T := kT8) (N := 38) rfl kjn8 (by decide +kernel) rfl kf_8_41) (And.intro (s_iload_n d_108_27 rfl) (And.intro (s_iaload d_108_28) (And.intro (s_icmp_ne d_108_29 (by decide +kernel)) (And.intro (s_iconst d_108_32 (by decide +kernel)) (And.intro (s_goto d_108_33 (by decide +kernel)) (And.intro (s_iconst d_108_36 (by decide +kernel)) (And.intro (s_retz d_108_37 rfl) (True.intro))))))))))))))))))))))))
theorem d_109_0 : decode (kby 109) 0 = .ok (.aload_n 0, 1) := by decide +kernel
theorem d_109_1 : decode (kby 109) 1 = .ok (.iconst 3, 1) := by decide +kernel
theorem d_109_2 : decode (kby 109) 2 = .ok (.iload_n 1, 1) := by decide +kernel
theorem d_109_3 : decode (kby 109) 3 = .ok (.iload_n 2, 1) := by decide +kernel
theorem d_109_4 : decode (kby 109) 4 = .ok (.aload_n 0, 1) := by decide +kernel
theorem d_109_5 : decode (kby 109) 5 = .ok (.getfield 16, 3) := by decide +kernel
theorem d_109_8 : decode (kby 109) 8 = .ok (.aload_n 0, 1) := by decide +kernel
theorem d_109_9 : decode (kby 109) 9 = .ok (.getfield 41, 3) := by decide +kernel
theorem d_109_12 : decode (kby 109) 12 = .ok (.iload_n 1, 1) := by decide +kernel
theorem d_109_13 : decode (kby 109) 13 = .ok (.iaload, 1) := by decide +kernel
theorem d_109_14 : decode (kby 109) 14 = .ok (.iaload, 1) := by decide +kernel
theorem d_109_15 : decode (kby 109) 15 = .ok (.invokevirtual 106, 3) := by decide +kernel
theorem d_109_18 : decode (kby 109) 18 = .ok (.ireturn, 1) := by decide +kernel
set_option maxRecDepth 100000 in
theorem ka_109 : kall 109 0 kc_109 := And.intro (s_aload_n d_109_0 rfl) (And.intro (s_iconst d_109_1 (by decide +kernel)) (And.intro (s_iload_n d_109_2 rfl) (And.intro (s_iload_n d_109_3 rfl) (And.intro (s_aload_n d_109_4 rfl) (And.intro (s_get d_109_5 (C := kR8) (T := kT8) (N := 38) rfl kjn8 (by decide +kernel) rfl kf_8_16) (And.intro (s_aload_n d_109_8 rfl) (And.intro (s_get d_109_9 (C := kR8) (T := kT8) (N := 38) rfl kjn8 (by decide +kernel) rfl kf_8_41) (And.intro (s_iload_n d_109_12 rfl) (And.intro (s_iaload d_109_13) (And.intro (s_iaload d_109_14) (And.intro (s_cv d_109_15 kl_8_106 k_im_101 k_se_101 kok_101 rfl (by decide +kernel) rfl rfl) (And.intro (s_ret d_109_18 rfl) (True.intro)))))))))))))
theorem d_110_0 : decode (kby 110) 0 = .ok (.aload_n 0, 1) := by decide +kernel
theorem d_110_1 : decode (kby 110) 1 = .ok (.iload_n 1, 1) := by decide +kernel
theorem d_110_2 : decode (kby 110) 2 = .ok (.invokevirtual 167, 3) := by decide +kernel
theorem d_110_5 : decode (kby 110) 5 = .ok (.ifCond .eq 25, 3) := by decide +kernel
theorem d_110_8 : decode (kby 110) 8 = .ok (.aload_n 0, 1) := by decide +kernel
theorem d_110_9 : decode (kby 110) 9 = .ok (.iload_n 2, 1) := by decide +kernel
theorem d_110_10 : decode (kby 110) 10 = .ok (.invokevirtual 167, 3) := by decide +kernel
theorem d_110_13 : decode (kby 110) 13 = .ok (.ifCond .eq 17, 3) := by decide +kernel
theorem d_110_16 : decode (kby 110) 16 = .ok (.aload_n 0, 1) := by decide +kernel
theorem d_110_17 : decode (kby 110) 17 = .ok (.getfield 32, 3) := by decide +kernel
theorem d_110_20 : decode (kby 110) 20 = .ok (.aload_n 0, 1) := by decide +kernel
theorem d_110_21 : decode (kby 110) 21 = .ok (.getfield 50, 3) := by decide +kernel
theorem d_110_24 : decode (kby 110) 24 = .ok (.iload_n 1, 1) := by decide +kernel
theorem d_110_25 : decode (kby 110) 25 = .ok (.iaload, 1) := by decide +kernel
theorem d_110_26 : decode (kby 110) 26 = .ok (.iaload, 1) := by decide +kernel
theorem d_110_27 : decode (kby 110) 27 = .ok (.ifCond .eq 5, 3) := by decide +kernel
theorem d_110_30 : decode (kby 110) 30 = .ok (.iconst (-1), 1) := by decide +kernel
theorem d_110_31 : decode (kby 110) 31 = .ok (.ireturn, 1) := by decide +kernel
theorem d_110_32 : decode (kby 110) 32 = .ok (.aload_n 0, 1) := by decide +kernel
theorem d_110_33 : decode (kby 110) 33 = .ok (.invokevirtual 154, 3) := by decide +kernel
theorem d_110_36 : decode (kby 110) 36 = .ok (.aload_n 0, 1) := by decide +kernel
theorem d_110_37 : decode (kby 110) 37 = .ok (.aload_n 0, 1) := by decide +kernel
theorem d_110_38 : decode (kby 110) 38 = .ok (.getfield 50, 3) := by decide +kernel
theorem d_110_41 : decode (kby 110) 41 = .ok (.iload_n 1, 1) := by decide +kernel
theorem d_110_42 : decode (kby 110) 42 = .ok (.iaload, 1) := by decide +kernel
theorem d_110_43 : decode (kby 110) 43 = .ok (.aload_n 0, 1) := by decide +kernel
theorem d_110_44 : decode (kby 110) 44 = .ok (.getfield 50, 3) := by decide +kernel
theorem d_110_47 : decode (kby 110) 47 = .ok (.iload_n 2, 1) := by decide +kernel
theorem d_110_48 : decode (kby 110) 48 = .ok (.iaload, 1) := by decide +kernel
theorem d_110_49 : decode (kby 110) 49 = .ok (.invokevirtual 174, 3) := by decide +kernel
theorem d_110_52 : decode (kby 110) 52 = .ok (.istore_n 3, 1) := by decide +kernel
theorem d_110_53 : decode (kby 110) 53 = .ok (.aload_n 0, 1) := by decide +kernel
theorem d_110_54 : decode (kby 110) 54 = .ok (.iload_n 3, 1) := by decide +kernel
theorem d_110_55 : decode (kby 110) 55 = .ok (.invokevirtual 164, 3) := by decide +kernel
theorem d_110_58 : decode (kby 110) 58 = .ok (.ireturn, 1) := by decide +kernel
set_option maxRecDepth 100000 in
theorem ka_110 : kall 110 0 kc_110 := And.intro (s_aload_n d_110_0 rfl) (And.intro (s_iload_n d_110_1 rfl) (And.intro (s_cv d_110_2 kl_8_167 k_im_107 k_se_107 kok_107 rfl (by decide +kernel) rfl rfl) (And.intro (s_if_eq d_110_5 (by decide +kernel)) (And.intro (s_aload_n d_110_8 rfl) (And.intro (s_iload_n d_110_9 rfl) (And.intro (s_cv d_110_10 kl_8_167 k_im_107 k_se_107 kok_107 rfl (by decide +kernel) rfl rfl) (And.intro (s_if_eq d_110_13 (by decide +kernel)) (And.intro (s_aload_n d_110_16 rfl) (And.intro (s_get d_110_17 (C := kR8) (T := kT8) (N := 38) rfl kjn8 (by decide +kernel) rfl kf_8_32) (And.intro (s_aload_n d_110_20 rfl) (And.intro (s_get d_110_21 (C := kR8) (T := kT8) (N := 38) rfl kjn8 (by decide +kernel) rfl kf_8_50) (And.intro (s_iload_n d_110_24 rfl) (And.intro (s_iaload d_110_25) (And.intro (s_iaload d_110_26) (And.intro (s_if_eq d_110_27 (by decide +kernel)) (And.intro (s_iconst d_110_30 (by decide +kernel)) (And.intro (s_ret d_110_31 rfl) (And.intro (s_aload_n d_110_32 rfl) (And.intro (s_cw d_110_33 kl_8_154 k_im_93 k_se_93 kok_93 rfl (by decide +kernel) rfl rfl) (And.intro (s_aload_n d_110_36 rfl) (And.intro (s_aload_n d_110_37 rfl) (And.intro (s_get d_110_38 (C := kR8) (T := kT8) (N := 38) rfl kjn8 (by decide +kernel) rfl kf_8_50) (And.intro (s_iload_n d_110_41 rfl) (And.intro (s_iaload d_110_42) (And.intro (s_aload_n d_110_43 rfl) (And.intro (s_get d_110_44 (C := kR8) (T := kT8) (N := 38) rfl kjn8 (by decide +kernel) rfl kf_8_50) (And.intro (s_iload_n d_110_47 rfl) (And.intro (s_iaload d_110_48) (And.intro (s_cv d_110_49 kl_8_174 k_im_111 k_se_111 kok_111 rfl (by decide +kernel) rfl rfl) (And.intro (s_istore_n d_110_52 rfl (by decide +kernel)) (And.intro (s_aload_n d_110_53 rfl) (And.intro (s_iload_n d_110_54 rfl) (And.intro (s_cv d_110_55 kl_8_164 k_im_102 k_se_102 kok_102 rfl (by decide +kernel) rfl rfl) (And.intro (s_ret d_110_58 rfl) (True.intro)))))))))))))))))))))))))))))))))))
theorem d_111_0 : decode (kby 111) 0 = .ok (.aload_n 0, 1) := by decide +kernel
theorem d_111_1 : decode (kby 111) 1 = .ok (.iload_n 2, 1) := by decide +kernel
theorem d_111_2 : decode (kby 111) 2 = .ok (.iconst 0, 1) := by decide +kernel
theorem d_111_3 : decode (kby 111) 3 = .ok (.iload_n 1, 1) := by decide +kernel
theorem d_111_4 : decode (kby 111) 4 = .ok (.iconst 0, 1) := by decide +kernel
theorem d_111_5 : decode (kby 111) 5 = .ok (.invokevirtual 177, 3) := by decide +kernel
theorem d_111_8 : decode (kby 111) 8 = .ok (.istore_n 3, 1) := by decide +kernel
theorem d_111_9 : decode (kby 111) 9 = .ok (.aload_n 0, 1) := by decide +kernel
theorem d_111_10 : decode (kby 111) 10 = .ok (.aload_n 0, 1) := by decide +kernel
theorem d_111_11 : decode (kby 111) 11 = .ok (.getfield 41, 3) := by decide +kernel
theorem d_111_14 : decode (kby 111) 14 = .ok (.iload_n 1, 1) := by decide +kernel
theorem d_111_15 : decode (kby 111) 15 = .ok (.iaload, 1) := by decide +kernel
theorem d_111_16 : decode (kby 111) 16 = .ok (.iload_n 3, 1) := by decide +kernel
theorem d_111_17 : decode (kby 111) 17 = .ok (.invokevirtual 129, 3) := by decide +kernel
theorem d_111_20 : decode (kby 111) 20 = .ok (.ireturn, 1) := by decide +kernel
set_option maxRecDepth 100000 in
theorem ka_111 : kall 111 0 kc_111 := And.intro (s_aload_n d_111_0 rfl) (And.intro (s_iload_n d_111_1 rfl) (And.intro (s_iconst d_111_2 (by decide +kernel)) (And.intro (s_iload_n d_111_3 rfl) (And.intro (s_iconst d_111_4 (by decide +kernel)) (And.intro (s_cv d_111_5 kl_8_177 k_im_112 k_se_112 kok_112 rfl (by decide +kernel) rfl rfl) (And.intro (s_istore_n d_111_8 rfl (by decide +kernel)) (And.intro (s_aload_n d_111_9 rfl) (And.intro (s_aload_n d_111_10 rfl) (And.intro (s_get d_111_11 (C := kR8) (T := kT8) (N := 38) rfl kjn8 (by decide +kernel) rfl kf_8_41) (And.intro (s_iload_n d_111_14 rfl) (And.intro (s_iaload d_111_15) (And.intro (s_iload_n d_111_16 rfl) (And.intro (s_cv d_111_17 kl_8_129 k_im_116 k_se_116 kok_116 rfl (by decide +kernel) rfl rfl) (And.intro (s_ret d_111_20 rfl) (True.intro)))))))))))))))
theorem d_112_0 : decode (kby 112) 0 = .ok (.aload_n 0, 1) := by decide +kernel
theorem d_112_1 : decode (kby 112) 1 = .ok (.iload_n 1, 1) := by decide +kernel
theorem d_112_2 : decode (kby 112) 2 = .ok (.iload_n 2, 1) := by decide +kernel
theorem d_112_3 : decode (kby 112) 3 = .ok (.iload_n 3, 1) := by decide +kernel
theorem d_112_4 : decode (kby 112) 4 = .ok (.invokevirtual 118, 3) := by decide +kernel
theorem d_112_7 : decode (kby 112) 7 = .ok (.iconst 0, 1) := by decide +kernel
theorem d_112_8 : decode (kby 112) 8 = .ok (.istore 5, 2) := by decide +kernel
theorem d_112_10 : decode (kby 112) 10 = .ok (.iload 5, 2) := by decide +kernel
theorem d_112_12 : decode (kby 112) 12 = .ok (.bipush 21, 2) := by decide +kernel
theorem d_112_14 : decode (kby 112) 14 = .ok (.iload_n 1, 1) := by decide +kernel
theorem d_112_15 : decode (kby 112) 15 = .ok (.imul, 1) := by decide +kernel
theorem d_112_16 : decode (kby 112) 16 = .ok (.bipush 21, 2) := by decide +kernel
theorem d_112_18 : decode (kby 112) 18 = .ok (.iadd, 1) := by decide +kernel
theorem d_112_19 : decode (kby 112) 19 = .ok (.if_icmp .ge 44, 3) := by decide +kernel
theorem d_112_22 : decode (kby 112) 22 = .ok (.aload_n 0, 1) := by decide +kernel
theorem d_112_23 : decode (kby 112) 23 = .ok (.getfield 74, 3) := by decide +kernel
theorem d_112_26 : decode (kby 112) 26 = .ok (.iload 5, 2) := by decide +kernel
theorem d_112_28 : decode (kby 112) 28 = .ok (.baload, 1) := by decide +kernel
theorem d_112_29 : decode (kby 112) 29 = .ok (.ifCond .eq 28, 3) := by decide +kernel
theorem d_112_32 : decode (kby 112) 32 = .ok (.aload_n 0, 1) := by decide +kernel
theorem d_112_33 : decode (kby 112) 33 = .ok (.getfield 77, 3) := by decide +kernel
theorem d_112_36 : decode (kby 112) 36 = .ok (.iload 5, 2) := by decide +kernel
theorem d_112_38 : decode (kby 112) 38 = .ok (.aload_n 0, 1) := by decide +kernel
theorem d_112_39 : decode (kby 112) 39 = .ok (.iload 5, 2) := by decide +kernel
theorem d_112_41 : decode (kby 112) 41 = .ok (.bipush 21, 2) := by decide +kernel
theorem d_112_43 : decode (kby 112) 43 = .ok (.idiv, 1) := by decide +kernel
theorem d_112_44 : decode (kby 112) 44 = .ok (.iload 5, 2) := by decide +kernel
theorem d_112_46 : decode (kby 112) 46 = .ok (.bipush 21, 2) := by decide +kernel
theorem d_112_48 : decode (kby 112) 48 = .ok (.irem, 1) := by decide +kernel
theorem d_112_49 : decode (kby 112) 49 = .ok (.iload_n 2, 1) := by decide +kernel
theorem d_112_50 : decode (kby 112) 50 = .ok (.iload_n 3, 1) := by decide +kernel
theorem d_112_51 : decode (kby 112) 51 = .ok (.iload 4, 2) := by decide +kernel
theorem d_112_53 : decode (kby 112) 53 = .ok (.invokevirtual 122, 3) := by decide +kernel
theorem d_112_56 : decode (kby 112) 56 = .ok (.iastore, 1) := by decide +kernel
theorem d_112_57 : decode (kby 112) 57 = .ok (.iinc 5 1, 3) := by decide +kernel
theorem d_112_60 : decode (kby 112) 60 = .ok (.goto (-50), 3) := by decide +kernel
theorem d_112_63 : decode (kby 112) 63 = .ok (.aload_n 0, 1) := by decide +kernel
theorem d_112_64 : decode (kby 112) 64 = .ok (.getfield 77, 3) := by decide +kernel
theorem d_112_67 : decode (kby 112) 67 = .ok (.bipush 21, 2) := by decide +kernel
theorem d_112_69 : decode (kby 112) 69 = .ok (.iload_n 1, 1) := by decide +kernel
theorem d_112_70 : decode (kby 112) 70 = .ok (.imul, 1) := by decide +kernel
theorem d_112_71 : decode (kby 112) 71 = .ok (.iaload, 1) := by decide +kernel
theorem d_112_72 : decode (kby 112) 72 = .ok (.ireturn, 1) := by decide +kernel
set_option maxRecDepth 100000 in
theorem ka_112 : kall 112 0 kc_112 := And.intro (s_aload_n d_112_0 rfl) (And.intro (s_iload_n d_112_1 rfl) (And.intro (s_iload_n d_112_2 rfl) (And.intro (s_iload_n d_112_3 rfl) (And.intro (s_cw d_112_4 kl_8_118 k_im_113 k_se_113 kok_113 rfl (by decide +kernel) rfl rfl) (And.intro (s_iconst d_112_7 (by decide +kernel)) (And.intro (s_istore d_112_8 (by decide +kernel)) (And.intro (s_iload d_112_10) (And.intro (s_bipush d_112_12 (by decide +kernel)) (And.intro (s_iload_n d_112_14 rfl) (And.intro (s_imul d_112_15) (And.intro (s_bipush d_112_16 (by decide +kernel)) (And.intro (s_iadd d_112_18) (And.intro (s_icmp_ge d_112_19 (by decide +kernel)) (And.intro (s_aload_n d_112_22 rfl) (And.intro (s_get d_112_23 (C := kR8) (T := kT8) (N := 38) rfl kjn8 (by decide +kernel) rfl kf_8_74) (And.intro (s_iload d_112_26) (And.intro (s_baload d_112_28) (And.intro (s_if_eq d_112_29 (by decide +kernel)) (And.intro (s_aload_n d_112_32 rfl) (And.intro (s_get d_112_33 (C := kR8) (T := kT8) (N := 38) rfl kjn8 (by decide +kernel) rfl kf_8_77) (And.intro (s_iload d_112_36) (And.intro (s_aload_n d_112_38 rfl) (And.intro (s_iload d_112_39) (And.intro (s_bipush d_112_41 (by decide +kernel)) (And.intro (s_idiv d_112_43) (And.intro (s_iload d_112_44) (And.intro (s_bipush d_112_46 (by decide +kernel)) (And.intro (s_irem d_112_48) (And.intro (s_iload_n d_112_49 rfl) (And.intro (s_iload_n d_112_50 rfl) (And.intro (s_iload d_112_51) (And.intro (s_cv d_112_53 kl_8_122 k_im_114 k_se_114 kok_114 rfl (by decide +kernel) rfl rfl) (And.intro (s_iastore d_112_56) (And.intro (s_iinc d_112_57 (by decide +kernel) (by decide +kernel)) (And.intro (s_goto d_112_60 (by decide +kernel)) (And.intro (s_aload_n d_112_63 rfl) (And.intro (s_get d_112_64 (C := kR8) (T := kT8) (N := 38) rfl kjn8 (by decide +kernel) rfl kf_8_77) (And.intro (s_bipush d_112_67 (by decide +kernel)) (And.intro (s_iload_n d_112_69 rfl) (And.intro (s_imul d_112_70) (And.intro (s_iaload d_112_71) (And.intro (s_ret d_112_72 rfl) (True.intro)))))))))))))))))))))))))))))))))))))))))))
theorem d_113_0 : decode (kby 113) 0 = .ok (.iconst 0, 1) := by decide +kernel
theorem d_113_1 : decode (kby 113) 1 = .ok (.istore 4, 2) := by decide +kernel
theorem d_113_3 : decode (kby 113) 3 = .ok (.iload 4, 2) := by decide +kernel
theorem d_113_5 : decode (kby 113) 5 = .ok (.bipush 21, 2) := by decide +kernel
theorem d_113_7 : decode (kby 113) 7 = .ok (.iload_n 1, 1) := by decide +kernel
theorem d_113_8 : decode (kby 113) 8 = .ok (.imul, 1) := by decide +kernel
theorem d_113_9 : decode (kby 113) 9 = .ok (.bipush 21, 2) := by decide +kernel
theorem d_113_11 : decode (kby 113) 11 = .ok (.iadd, 1) := by decide +kernel
theorem d_113_12 : decode (kby 113) 12 = .ok (.if_icmp .ge 17, 3) := by decide +kernel
theorem d_113_15 : decode (kby 113) 15 = .ok (.aload_n 0, 1) := by decide +kernel
theorem d_113_16 : decode (kby 113) 16 = .ok (.getfield 74, 3) := by decide +kernel
theorem d_113_19 : decode (kby 113) 19 = .ok (.iload 4, 2) := by decide +kernel
theorem d_113_21 : decode (kby 113) 21 = .ok (.iconst 0, 1) := by decide +kernel
theorem d_113_22 : decode (kby 113) 22 = .ok (.bastore, 1) := by decide +kernel
theorem d_113_23 : decode (kby 113) 23 = .ok (.iinc 4 1, 3) := by decide +kernel
theorem d_113_26 : decode (kby 113) 26 = .ok (.goto (-23), 3) := by decide +kernel
theorem d_113_29 : decode (kby 113) 29 = .ok (.aload_n 0, 1) := by decide +kernel
theorem d_113_30 : decode (kby 113) 30 = .ok (.getfield 74, 3) := by decide +kernel
theorem d_113_33 : decode (kby 113) 33 = .ok (.bipush 21, 2) := by decide +kernel
theorem d_113_35 : decode (kby 113) 35 = .ok (.iload_n 1, 1) := by decide +kernel
theorem d_113_36 : decode (kby 113) 36 = .ok (.imul, 1) := by decide +kernel
theorem d_113_37 : decode (kby 113) 37 = .ok (.iconst 1, 1) := by decide +kernel
theorem d_113_38 : decode (kby 113) 38 = .ok (.bastore, 1) := by decide +kernel
theorem d_113_39 : decode (kby 113) 39 = .ok (.bipush 21, 2) := by decide +kernel
theorem d_113_41 : decode (kby 113) 41 = .ok (.iload_n 1, 1) := by decide +kernel
theorem d_113_42 : decode (kby 113) 42 = .ok (.imul, 1) := by decide +kernel
theorem d_113_43 : decode (kby 113) 43 = .ok (.bipush 20, 2) := by decide +kernel
theorem d_113_45 : decode (kby 113) 45 = .ok (.iadd, 1) := by decide +kernel
theorem d_113_46 : decode (kby 113) 46 = .ok (.istore 4, 2) := by decide +kernel
theorem d_113_48 : decode (kby 113) 48 = .ok (.iload 4, 2) := by decide +kernel
theorem d_113_50 : decode (kby 113) 50 = .ok (.ifCond .lt 138, 3) := by decide +kernel
theorem d_113_53 : decode (kby 113) 53 = .ok (.iload 4, 2) := by decide +kernel
theorem d_113_55 : decode (kby 113) 55 = .ok (.bipush 21, 2) := by decide +kernel
theorem d_113_57 : decode (kby 113) 57 = .ok (.idiv, 1) := by decide +kernel
theorem d_113_58 : decode (kby 113) 58 = .ok (.istore 5, 2) := by decide +kernel
theorem d_113_60 : decode (kby 113) 60 = .ok (.aload_n 0, 1) := by decide +kernel
theorem d_113_61 : decode (kby 113) 61 = .ok (.getfield 74, 3) := by decide +kernel
theorem d_113_64 : decode (kby 113) 64 = .ok (.iload 4, 2) := by decide +kernel
theorem d_113_66 : decode (kby 113) 66 = .ok (.baload, 1) := by decide +kernel
theorem d_113_67 : decode (kby 113) 67 = .ok (.ifCond .eq 115, 3) := by decide +kernel
theorem d_113_70 : decode (kby 113) 70 = .ok (.iload_n 2, 1) := by decide +kernel
theorem d_113_71 : decode (kby 113) 71 = .ok (.iconst 4, 1) := by decide +kernel
theorem d_113_72 : decode (kby 113) 72 = .ok (.if_icmp .ne 12, 3) := by decide +kernel
theorem d_113_75 : decode (kby 113) 75 = .ok (.iload 5, 2) := by decide +kernel
theorem d_113_77 : decode (kby 113) 77 = .ok (.iload_n 3, 1) := by decide +kernel
theorem d_113_78 : decode (kby 113) 78 = .ok (.if_icmp .ne 6, 3) := by decide +kernel
theorem d_113_81 : decode (kby 113) 81 = .ok (.goto 101, 3) := by decide +kernel
theorem d_113_84 : decode (kby 113) 84 = .ok (.iload 4, 2) := by decide +kernel
theorem d_113_86 : decode (kby 113) 86 = .ok (.bipush 21, 2) := by decide +kernel
theorem d_113_88 : decode (kby 113) 88 = .ok (.irem, 1) := by decide +kernel
theorem d_113_89 : decode (kby 113) 89 = .ok (.istore 6, 2) := by decide +kernel
theorem d_113_91 : decode (kby 113) 91 = .ok (.aload_n 0, 1) := by decide +kernel
theorem d_113_92 : decode (kby 113) 92 = .ok (.getfield 32, 3) := by decide +kernel
theorem d_113_95 : decode (kby 113) 95 = .ok (.iload 5, 2) := by decide +kernel
theorem d_113_97 : decode (kby 113) 97 = .ok (.iaload, 1) := by decide +kernel
theorem d_113_98 : decode (kby 113) 98 = .ok (.iconst 3, 1) := by decide +kernel
theorem d_113_99 : decode (kby 113) 99 = .ok (.if_icmp .ne 41, 3) := by decide +kernel
theorem d_113_102 : decode (kby 113) 102 = .ok (.aload_n 0, 1) := by decide +kernel
theorem d_113_103 : decode (kby 113) 103 = .ok (.getfield 74, 3) := by decide +kernel
theorem d_113_106 : decode (kby 113) 106 = .ok (.bipush 21, 2) := by decide +kernel
theorem d_113_108 : decode (kby 113) 108 = .ok (.aload_n 0, 1) := by decide +kernel
theorem d_113_109 : decode (kby 113) 109 = .ok (.getfield 35, 3) := by decide +kernel
theorem d_113_112 : decode (kby 113) 112 = .ok (.iload 5, 2) := by decide +kernel
theorem d_113_114 : decode (kby 113) 114 = .ok (.iaload, 1) := by decide +kernel
theorem d_113_115 : decode (kby 113) 115 = .ok (.imul, 1) := by decide +kernel
theorem d_113_116 : decode (kby 113) 116 = .ok (.iload 6, 2) := by decide +kernel
theorem d_113_118 : decode (kby 113) 118 = .ok (.iadd, 1) := by decide +kernel
theorem d_113_119 : decode (kby 113) 119 = .ok (.iconst 1, 1) := by decide +kernel
theorem d_113_120 : decode (kby 113) 120 = .ok (.bastore, 1) := by decide +kernel
theorem d_113_121 : decode (kby 113) 121 = .ok (.aload_n 0, 1) := by decide +kernel
theorem d_113_122 : decode (kby 113) 122 = .ok (.getfield 74, 3) := by decide +kernel
theorem d_113_125 : decode (kby 113) 125 = .ok (.bipush 21, 2) := by decide +kernel
theorem d_113_127 : decode (kby 113) 127 = .ok (.aload_n 0, 1) := by decide +kernel
theorem d_113_128 : decode (kby 113) 128 = .ok (.getfield 38, 3) := by decide +kernel
theorem d_113_131 : decode (kby 113) 131 = .ok (.iload 5, 2) := by decide +kernel
theorem d_113_133 : decode (kby 113) 133 = .ok (.iaload, 1) := by decide +kernel
theorem d_113_134 : decode (kby 113) 134 = .ok (.imul, 1) := by decide +kernel
theorem d_113_135 : decode (kby 113) 135 = .ok (.iload 6, 2) := by decide +kernel
theorem d_113_137 : decode (kby 113) 137 = .ok (.iadd, 1) := by decide +kernel
theorem d_113_138 : decode (kby 113) 138 = .ok (.iconst 1, 1) := by decide +kernel
theorem d_113_139 : decode (kby 113) 139 = .ok (.bastore, 1) := by decide +kernel
theorem d_113_140 : decode (kby 113) 140 = .ok (.aload_n 0, 1) := by decide +kernel
theorem d_113_141 : decode (kby 113) 141 = .ok (.getfield 32, 3) := by decide +kernel
theorem d_113_144 : decode (kby 113) 144 = .ok (.iload 5, 2) := by decide +kernel
theorem d_113_146 : decode (kby 113) 146 = .ok (.iaload, 1) := by decide +kernel
theorem d_113_147 : decode (kby 113) 147 = .ok (.iconst 4, 1) := by decide +kernel
theorem d_113_148 : decode (kby 113) 148 = .ok (.if_icmp .ne 34, 3) := by decide +kernel
theorem d_113_151 : decode (kby 113) 151 = .ok (.aload_n 0, 1) := by decide +kernel
theorem d_113_152 : decode (kby 113) 152 = .ok (.getfield 74, 3) := by decide +kernel
theorem d_113_155 : decode (kby 113) 155 = .ok (.bipush 21, 2) := by decide +kernel
theorem d_113_157 : decode (kby 113) 157 = .ok (.aload_n 0, 1) := by decide +kernel
theorem d_113_158 : decode (kby 113) 158 = .ok (.getfield 38, 3) := by decide +kernel
theorem d_113_161 : decode (kby 113) 161 = .ok (.iload 5, 2) := by decide +kernel
theorem d_113_163 : decode (kby 113) 163 = .ok (.iaload, 1) := by decide +kernel
theorem d_113_164 : decode (kby 113) 164 = .ok (.imul, 1) := by decide +kernel
theorem d_113_165 : decode (kby 113) 165 = .ok (.iload_n 2, 1) := by decide +kernel
theorem d_113_166 : decode (kby 113) 166 = .ok (.iconst 1, 1) := by decide +kernel
theorem d_113_167 : decode (kby 113) 167 = .ok (.if_icmp .gt 10, 3) := by decide +kernel
theorem d_113_170 : decode (kby 113) 170 = .ok (.iload 6, 2) := by decide +kernel
theorem d_113_172 : decode (kby 113) 172 = .ok (.iconst 1, 1) := by decide +kernel
theorem d_113_173 : decode (kby 113) 173 = .ok (.iadd, 1) := by decide +kernel
theorem d_113_174 : decode (kby 113) 174 = .ok (.goto 5, 3) := by decide +kernel
theorem d_113_177 : decode (kby 113) 177 = .ok (.iload 6, 2) := by decide +kernel
theorem d_113_179 : decode (kby 113) 179 = .ok (.iadd, 1) := by decide +kernel
theorem d_113_180 : decode (kby 113) 180 = .ok (.iconst 1, 1) := by decide +kernel
theorem d_113_181 : decode (kby 113) 181 = .ok (.bastore, 1) := by decide +kernel
theorem d_113_182 : decode (kby 113) 182 = .ok (.iinc 4 (-1), 3) := by decide +kernel
theorem d_113_185 : decode (kby 113) 185 = .ok (.goto (-137), 3) := by decide +kernel
theorem d_113_188 : decode (kby 113) 188 = .ok (.return_, 1) := by decide +kernel
set_option maxRecDepth 100000 in
theorem ka_113 : kall 113 0 kc_113 := And.intro (s_iconst d_113_0 (by decide +kernel)) (And.intro (s_istore d_113_1 (by decide +kernel)) (And.intro (s_iload d_113_3) (And.intro (s_bipush d_113_5 (by decide +kernel)) (And.intro (s_iload_n d_113_7 rfl) (And.intro (s_imul d_113_8) (And.intro (s_bipush d_113_9 (by decide +kernel)) (And.intro (s_iadd d_113_11) (And.intro (s_icmp_ge d_113_12 (by decide +kernel)) (And.intro (s_aload_n d_113_15 rfl) (And.intro (s_get d_113_16 (C := kR8) (T := kT8) (N := 38) rfl kjn8 (by decide +kernel) rfl kf_8_74) (And.intro (s_iload d_113_19) (And.intro (s_iconst d_113_21 (by decide +kernel)) (And.intro (s_bastore d_113_22) (And.intro (s_iinc d_113_23 (by decide +kernel) (by decide +kernel)) (And.intro (s_goto d_113_26 (by decide +kernel)) (And.intro (s_aload_n d_113_29 rfl) (And.intro (s_get d_113_30 (C := kR8) (T := kT8) (N := 38) rfl kjn8 (by decide +kernel) rfl kf_8_74) (And.intro (s_bipush d_113_33 (by decide +kernel)) (And.intro (s_iload_n d_113_35 rfl) (And.intro (s_imul d_113_36) (And.intro (s_iconst d_113_37 (by decide +kernel)) (And.intro (s_bastore d_113_38) (And.intro (s_bipush d_113_39 (by decide +kernel)) (And.intro (s_iload_n d_113_41 rfl) (And.intro (s_imul d_113_42) (And.intro (s_bipush d_113_43 (by decide +kernel)) (And.intro (s_iadd d_113_45) (And.intro (s_istore d_113_46 (by decide +kernel)) (And.intro (s_iload d_113_48) (And.intro (s_if_lt d_113_50 (by decide +kernel)) (And.intro (s_iload d_113_53) (And.intro (s_bipush d_113_55 (by decide +kernel)) (And.intro (s_idiv d_113_57) (And.intro (s_istore d_113_58 (by decide +kernel)) (And.intro (s_aload_n d_113_60 rfl) (And.intro (s_get d_113_61 (C := kR8) (T := kT8) (N := 38) rfl kjn8 (by decide +kernel) rfl kf_8_74) (And.intro (s_iload d_113_64) (And.intro (s_baload d_113_66) (And.intro (s_if_eq d_113_67 (by decide +kernel)) (And.intro (s_iload_n d_113_70 rfl) (And.intro (s_iconst d_113_71 (by decide +kernel)) (And.intro (s_icmp_ne d_113_72 (by decide +kernel)) (And.intro (s_iload d_113_75) (And.intro (s_iload_n d_113_77 rfl) (And.intro (s_icmp_ne d_113_78 (by decide +kernel)) (And.intro (s_goto d_113_81 (by decide +kernel)) (And.intro (s_iload d_113_84) (And.intro (s_bipush d_113_86 (by decide +kernel)) (And.intro (s_irem d_113_88) (And.intro (s_istore d_113_89 (by decide +kernel)) (And.intro (s_aload_n d_113_91 rfl) (And.intro (s_get d_113_92 (C := kR8) (T := kT8) (N := 38) rfl kjn8 (by decide +kernel) rfl kf_8_32) (And.intro (s_iload d_113_95) (And.intro (s_iaload d_113_97) (And.intro (s_iconst d_113_98 (by decide +kernel)) (And.intro (s_icmp_ne d_113_99 (by decide +kernel)) (And.intro (s_aload_n d_113_102 rfl) (And.intro (s_get d_113_103 (C := kR8) (T := kT8) (N := 38) rfl kjn8 (by decide +kernel) rfl kf_8_74) (And.intro (s_bipush d_113_106 (by decide +kernel)) (And.intro (s_aload_n d_113_108 rfl) (And.intro (s_get d_113_109 (C := kR8) (T := kT8) (N := 38) rfl kjn8 (by decide +kernel) rfl kf_8_35) (And.intro (s_iload d_113_112) (And.intro (s_iaload d_113_114) (And.intro (s_imul d_113_115) (And.intro (s_iload d_113_116) (And.intro (s_iadd d_113_118) (And.intro (s_iconst d_113_119 (by decide +kernel)) (And.intro (s_bastore d_113_120) (And.intro (s_aload_n d_113_121 rfl) (And.intro (s_get d_113_122 (C := kR8) (T := kT8) (N := 38) rfl kjn8 (by decide +kernel) rfl kf_8_74) (And.intro (s_bipush d_113_125 (by decide +kernel)) (And.intro (s_aload_n d_113_127 rfl) (And.intro (s_get d_113_128 (C := kR8) (T := kT8) (N := 38) rfl kjn8 (by decide +kernel) rfl kf_8_38) (And.intro (s_iload d_113_131) (And.intro (s_iaload d_113_133) (And.intro (s_imul d_113_134) (And.intro (s_iload d_113_135) (And.intro (s_iadd d_113_137) (And.intro (s_iconst d_113_138 (by decide +kernel)) (And.intro (s_bastore d_113_139) (And.intro (s_aload_n d_113_140 rfl) (And.intro (s_get d_113_141 (C := kR8) (T := kT8) (N := 38) rfl kjn8 (by decide +kernel) rfl kf_8_32) (And.intro (s_iload d_113_144) (And.intro (s_iaload d_113_146) (And.intro (s_iconst d_113_147 (by decide +kernel)) (And.intro (s_icmp_ne d_113_148 (by decide +kernel)) (And.intro (s_aload_n d_113_151 rfl) (And.intro (s_get d_113_152 (C := kR8) (T := kT8) (N := 38) rfl kjn8 (by decide +kernel) rfl kf_8_74) (And.intro (s_bipush d_113_155 (by decide +kernel)) (And.intro (s_aload_n d_113_157 rfl) (And.intro (s_get d_113_158 (C := kR8) (T := kT8) (N := 38) rfl kjn8 (by decide +kernel) rfl kf_8_38) (And.intro (s_iload d_113_161) (And.intro (s_iaload d_113_163) (And.intro (s_imul d_113_164) (And.intro (s_iload_n d_113_165 rfl) (And.intro (s_iconst d_113_166 (by decide +kernel)) (And.intro (s_icmp_gt d_113_167 (by decide +kernel)) (And.intro (s_iload d_113_170) (And.intro (s_iconst d_113_172 (by decide +kernel)) (And.intro (s_iadd d_113_173) (And.intro (s_goto d_113_174 (by decide +kernel)) (And.intro (s_iload d_113_177) (And.intro (s_iadd d_113_179) (And.intro (s_iconst d_113_180 (by decide +kernel)) (And.intro (s_bastore d_113_181) (And.intro (s_iinc d_113_182 (by decide +kernel) (by decide +kernel)) (And.intro (s_goto d_113_185 (by decide +kernel)) (And.intro (s_rv d_113_188 rfl) (True.intro)))))))))))))))))))))))))))))))))))))))))))))))))))))))))))))))))))))))))))))))))))))))))))))))))))))))))))))
theorem d_114_0 : decode (kby 114) 0 = .ok (.iload_n 3, 1) := by decide +kernel
theorem d_114_1 : decode (kby 114) 1 = .ok (.ifCond .ne 23, 3) := by decide +kernel
theorem d_114_4 : decode (kby 114) 4 = .ok (.iload_n 1, 1) := by decide +kernel
theorem d_114_5 : decode (kby 114) 5 = .ok (.iload 4, 2) := by decide +kernel
theorem d_114_7 : decode (kby 114) 7 = .ok (.if_icmp .ne 17, 3) := by decide +kernel
theorem d_114_10 : decode (kby 114) 10 = .ok (.aload_n 0, 1) := by decide +kernel
theorem d_114_11 : decode (kby 114) 11 = .ok (.iconst 5, 1) := by decide +kernel
theorem d_114_12 : decode (kby 114) 12 = .ok (.iload_n 2, 1) := by decide +kernel
theorem d_114_13 : decode (kby 114) 13 = .ok (.iconst 0, 1) := by decide +kernel
theorem d_114_14 : decode (kby 114) 14 = .ok (.aload_n 0, 1) := by decide +kernel
theorem d_114_15 : decode (kby 114) 15 = .ok (.getfield 41, 3) := by decide +kernel
theorem d_114_18 : decode (kby 114) 18 = .ok (.iload_n 1, 1) := by decide +kernel
theorem d_114_19 : decode (kby 114) 19 = .ok (.iaload, 1) := by decide +kernel
theorem d_114_20 : decode (kby 114) 20 = .ok (.invokevirtual 106, 3) := by decide +kernel
theorem d_114_23 : decode (kby 114) 23 = .ok (.ireturn, 1) := by decide +kernel
theorem d_114_24 : decode (kby 114) 24 = .ok (.iload_n 3, 1) := by decide +kernel
theorem d_114_25 : decode (kby 114) 25 = .ok (.iconst 1, 1) := by decide +kernel
theorem d_114_26 : decode (kby 114) 26 = .ok (.if_icmp .ne 26, 3) := by decide +kernel
theorem d_114_29 : decode (kby 114) 29 = .ok (.aload_n 0, 1) := by decide +kernel
theorem d_114_30 : decode (kby 114) 30 = .ok (.getfield 32, 3) := by decide +kernel
theorem d_114_33 : decode (kby 114) 33 = .ok (.iload_n 1, 1) := by decide +kernel
theorem d_114_34 : decode (kby 114) 34 = .ok (.iaload, 1) := by decide +kernel
theorem d_114_35 : decode (kby 114) 35 = .ok (.iconst 5, 1) := by decide +kernel
theorem d_114_36 : decode (kby 114) 36 = .ok (.if_icmp .ne 16, 3) := by decide +kernel
theorem d_114_39 : decode (kby 114) 39 = .ok (.aload_n 0, 1) := by decide +kernel
theorem d_114_40 : decode (kby 114) 40 = .ok (.getfield 35, 3) := by decide +kernel
theorem d_114_43 : decode (kby 114) 43 = .ok (.iload_n 1, 1) := by decide +kernel
theorem d_114_44 : decode (kby 114) 44 = .ok (.iaload, 1) := by decide +kernel
theorem d_114_45 : decode (kby 114) 45 = .ok (.iload_n 2, 1) := by decide +kernel
theorem d_114_46 : decode (kby 114) 46 = .ok (.if_icmp .ne 6, 3) := by decide +kernel
theorem d_114_49 : decode (kby 114) 49 = .ok (.iload 5, 2) := by decide +kernel
theorem d_114_51 : decode (kby 114) 51 = .ok (.ireturn, 1) := by decide +kernel
theorem d_114_52 : decode (kby 114) 52 = .ok (.iload_n 3, 1) := by decide +kernel
theorem d_114_53 : decode (kby 114) 53 = .ok (.iconst 2, 1) := by decide +kernel
theorem d_114_54 : decode (kby 114) 54 = .ok (.if_icmp .eq 8, 3) := by decide +kernel
theorem d_114_57 : decode (kby 114) 57 = .ok (.iload_n 3, 1) := by decide +kernel
theorem d_114_58 : decode (kby 114) 58 = .ok (.iconst 4, 1) := by decide +kernel
theorem d_114_59 : decode (kby 114) 59 = .ok (.if_icmp .ne 12, 3) := by decide +kernel
theorem d_114_62 : decode (kby 114) 62 = .ok (.iload_n 1, 1) := by decide +kernel
theorem d_114_63 : decode (kby 114) 63 = .ok (.iload 4, 2) := by decide +kernel
theorem d_114_65 : decode (kby 114) 65 = .ok (.if_icmp .ne 6, 3) := by decide +kernel
theorem d_114_68 : decode (kby 114) 68 = .ok (.iload 5, 2) := by decide +kernel
theorem d_114_70 : decode (kby 114) 70 = .ok (.ireturn, 1) := by decide +kernel
theorem d_114_71 : decode (kby 114) 71 = .ok (.aload_n 0, 1) := by decide +kernel
theorem d_114_72 : decode (kby 114) 72 = .ok (.getfield 32, 3) := by decide +kernel
theorem d_114_75 : decode (kby 114) 75 = .ok (.iload_n 1, 1) := by decide +kernel
theorem d_114_76 : decode (kby 114) 76 = .ok (.iaload, 1) := by decide +kernel
theorem d_114_77 : decode (kby 114) 77 = .ok (.iconst 3, 1) := by decide +kernel
theorem d_114_78 : decode (kby 114) 78 = .ok (.if_icmp .ne 40, 3) := by decide +kernel
theorem d_114_81 : decode (kby 114) 81 = .ok (.aload_n 0, 1) := by decide +kernel
theorem d_114_82 : decode (kby 114) 82 = .ok (.aload_n 0, 1) := by decide +kernel
theorem d_114_83 : decode (kby 114) 83 = .ok (.getfield 77, 3) := by decide +kernel
theorem d_114_86 : decode (kby 114) 86 = .ok (.bipush 21, 2) := by decide +kernel
theorem d_114_88 : decode (kby 114) 88 = .ok (.aload_n 0, 1) := by decide +kernel
theorem d_114_89 : decode (kby 114) 89 = .ok (.getfield 35, 3) := by decide +kernel
theorem d_114_92 : decode (kby 114) 92 = .ok (.iload_n 1, 1) := by decide +kernel
theorem d_114_93 : decode (kby 114) 93 = .ok (.iaload, 1) := by decide +kernel
theorem d_114_94 : decode (kby 114) 94 = .ok (.imul, 1) := by decide +kernel
theorem d_114_95 : decode (kby 114) 95 = .ok (.iload_n 2, 1) := by decide +kernel
theorem d_114_96 : decode (kby 114) 96 = .ok (.iadd, 1) := by decide +kernel
theorem d_114_97 : decode (kby 114) 97 = .ok (.iaload, 1) := by decide +kernel
theorem d_114_98 : decode (kby 114) 98 = .ok (.aload_n 0, 1) := by decide +kernel
theorem d_114_99 : decode (kby 114) 99 = .ok (.getfield 77, 3) := by decide +kernel
theorem d_114_102 : decode (kby 114) 102 = .ok (.bipush 21, 2) := by decide +kernel
theorem d_114_104 : decode (kby 114) 104 = .ok (.aload_n 0, 1) := by decide +kernel
theorem d_114_105 : decode (kby 114) 105 = .ok (.getfield 38, 3) := by decide +kernel
theorem d_114_108 : decode (kby 114) 108 = .ok (.iload_n 1, 1) := by decide +kernel
theorem d_114_109 : decode (kby 114) 109 = .ok (.iaload, 1) := by decide +kernel
theorem d_114_110 : decode (kby 114) 110 = .ok (.imul, 1) := by decide +kernel
theorem d_114_111 : decode (kby 114) 111 = .ok (.iload_n 2, 1) := by decide +kernel
theorem d_114_112 : decode (kby 114) 112 = .ok (.iadd, 1) := by decide +kernel
theorem d_114_113 : decode (kby 114) 113 = .ok (.iaload, 1) := by decide +kernel
theorem d_114_114 : decode (kby 114) 114 = .ok (.invokevirtual 114, 3) := by decide +kernel
theorem d_114_117 : decode (kby 114) 117 = .ok (.ireturn, 1) := by decide +kernel
theorem d_114_118 : decode (kby 114) 118 = .ok (.aload_n 0, 1) := by decide +kernel
theorem d_114_119 : decode (kby 114) 119 = .ok (.getfield 32, 3) := by decide +kernel
theorem d_114_122 : decode (kby 114) 122 = .ok (.iload_n 1, 1) := by decide +kernel
theorem d_114_123 : decode (kby 114) 123 = .ok (.iaload, 1) := by decide +kernel
theorem d_114_124 : decode (kby 114) 124 = .ok (.iconst 4, 1) := by decide +kernel
theorem d_114_125 : decode (kby 114) 125 = .ok (.if_icmp .ne 71, 3) := by decide +kernel
theorem d_114_128 : decode (kby 114) 128 = .ok (.aload_n 0, 1) := by decide +kernel
theorem d_114_129 : decode (kby 114) 129 = .ok (.getfield 77, 3) := by decide +kernel
theorem d_114_132 : decode (kby 114) 132 = .ok (.bipush 21, 2) := by decide +kernel
theorem d_114_134 : decode (kby 114) 134 = .ok (.aload_n 0, 1) := by decide +kernel
theorem d_114_135 : decode (kby 114) 135 = .ok (.getfield 38, 3) := by decide +kernel
theorem d_114_138 : decode (kby 114) 138 = .ok (.iload_n 1, 1) := by decide +kernel
theorem d_114_139 : decode (kby 114) 139 = .ok (.iaload, 1) := by decide +kernel
theorem d_114_140 : decode (kby 114) 140 = .ok (.imul, 1) := by decide +kernel
theorem d_114_141 : decode (kby 114) 141 = .ok (.iload_n 3, 1) := by decide +kernel
theorem d_114_142 : decode (kby 114) 142 = .ok (.iconst 1, 1) := by decide +kernel
theorem d_114_143 : decode (kby 114) 143 = .ok (.if_icmp .gt 9, 3) := by decide +kernel
theorem d_114_146 : decode (kby 114) 146 = .ok (.iload_n 2, 1) := by decide +kernel
theorem d_114_147 : decode (kby 114) 147 = .ok (.iconst 1, 1) := by decide +kernel
theorem d_114_148 : decode (kby 114) 148 = .ok (.iadd, 1) := by decide +kernel
theorem d_114_149 : decode (kby 114) 149 = .ok (.goto 4, 3) := by decide +kernel
theorem d_114_152 : decode (kby 114) 152 = .ok (.iload_n 2, 1) := by decide +kernel
theorem d_114_153 : decode (kby 114) 153 = .ok (.iadd, 1) := by decide +kernel
theorem d_114_154 : decode (kby 114) 154 = .ok (.iaload, 1) := by decide +kernel
theorem d_114_155 : decode (kby 114) 155 = .ok (.istore 6, 2) := by decide +kernel
theorem d_114_157 : decode (kby 114) 157 = .ok (.iload_n 3, 1) := by decide +kernel
theorem d_114_158 : decode (kby 114) 158 = .ok (.iconst 3, 1) := by decide +kernel
theorem d_114_159 : decode (kby 114) 159 = .ok (.if_icmp .ne 20, 3) := by decide +kernel
theorem d_114_162 : decode (kby 114) 162 = .ok (.aload_n 0, 1) := by decide +kernel
theorem d_114_163 : decode (kby 114) 163 = .ok (.aload_n 0, 1) := by decide +kernel
theorem d_114_164 : decode (kby 114) 164 = .ok (.getfield 35, 3) := by decide +kernel
theorem d_114_167 : decode (kby 114) 167 = .ok (.iload_n 1, 1) := by decide +kernel
theorem d_114_168 : decode (kby 114) 168 = .ok (.iaload, 1) := by decide +kernel
theorem d_114_169 : decode (kby 114) 169 = .ok (.iload 4, 2) := by decide +kernel
theorem d_114_171 : decode (kby 114) 171 = .ok (.iload 5, 2) := by decide +kernel
theorem d_114_173 : decode (kby 114) 173 = .ok (.invokevirtual 126, 3) := by decide +kernel
theorem d_114_176 : decode (kby 114) 176 = .ok (.goto 9, 3) := by decide +kernel
theorem d_114_179 : decode (kby 114) 179 = .ok (.aload_n 0, 1) := by decide +kernel
theorem d_114_180 : decode (kby 114) 180 = .ok (.getfield 35, 3) := by decide +kernel
theorem d_114_183 : decode (kby 114) 183 = .ok (.iload_n 1, 1) := by decide +kernel
theorem d_114_184 : decode (kby 114) 184 = .ok (.iaload, 1) := by decide +kernel
theorem d_114_185 : decode (kby 114) 185 = .ok (.istore 7, 2) := by decide +kernel
theorem d_114_187 : decode (kby 114) 187 = .ok (.aload_n 0, 1) := by decide +kernel
theorem d_114_188 : decode (kby 114) 188 = .ok (.iload 7, 2) := by decide +kernel
theorem d_114_190 : decode (kby 114) 190 = .ok (.iload 6, 2) := by decide +kernel
theorem d_114_192 : decode (kby 114) 192 = .ok (.invokevirtual 129, 3) := by decide +kernel
theorem d_114_195 : decode (kby 114) 195 = .ok (.ireturn, 1) := by decide +kernel
theorem d_114_196 : decode (kby 114) 196 = .ok (.iload_n 3, 1) := by decide +kernel
theorem d_114_197 : decode (kby 114) 197 = .ok (.iconst 3, 1) := by decide +kernel
theorem d_114_198 : decode (kby 114) 198 = .ok (.if_icmp .ne 13, 3) := by decide +kernel
theorem d_114_201 : decode (kby 114) 201 = .ok (.aload_n 0, 1) := by decide +kernel
theorem d_114_202 : decode (kby 114) 202 = .ok (.getfield 32, 3) := by decide +kernel
theorem d_114_205 : decode (kby 114) 205 = .ok (.iload_n 1, 1) := by decide +kernel
theorem d_114_206 : decode (kby 114) 206 = .ok (.iaload, 1) := by decide +kernel
theorem d_114_207 : decode (kby 114) 207 = .ok (.iconst 2, 1) := by decide +kernel
theorem d_114_208 : decode (kby 114) 208 = .ok (.if_icmp .ne 5, 3) := by decide +kernel
theorem d_114_211 : decode (kby 114) 211 = .ok (.iload_n 1, 1) := by decide +kernel
theorem d_114_212 : decode (kby 114) 212 = .ok (.ireturn, 1) := by decide +kernel
theorem d_114_213 : decode (kby 114) 213 = .ok (.aload_n 0, 1) := by decide +kernel
theorem d_114_214 : decode (kby 114) 214 = .ok (.aload_n 0, 1) := by decide +kernel
theorem d_114_215 : decode (kby 114) 215 = .ok (.getfield 32, 3) := by decide +kernel
theorem d_114_218 : decode (kby 114) 218 = .ok (.iload_n 1, 1) := by decide +kernel
theorem d_114_219 : decode (kby 114) 219 = .ok (.iaload, 1) := by decide +kernel
theorem d_114_220 : decode (kby 114) 220 = .ok (.iconst 1, 1) := by decide +kernel
theorem d_114_221 : decode (kby 114) 221 = .ok (.if_icmp .ne 12, 3) := by decide +kernel
theorem d_114_224 : decode (kby 114) 224 = .ok (.aload_n 0, 1) := by decide +kernel
theorem d_114_225 : decode (kby 114) 225 = .ok (.getfield 35, 3) := by decide +kernel
theorem d_114_228 : decode (kby 114) 228 = .ok (.iload_n 1, 1) := by decide +kernel
theorem d_114_229 : decode (kby 114) 229 = .ok (.iaload, 1) := by decide +kernel
theorem d_114_230 : decode (kby 114) 230 = .ok (.goto 9, 3) := by decide +kernel
theorem d_114_233 : decode (kby 114) 233 = .ok (.aload_n 0, 1) := by decide +kernel
theorem d_114_234 : decode (kby 114) 234 = .ok (.getfield 41, 3) := by decide +kernel
theorem d_114_237 : decode (kby 114) 237 = .ok (.iload_n 1, 1) := by decide +kernel
theorem d_114_238 : decode (kby 114) 238 = .ok (.iaload, 1) := by decide +kernel
theorem d_114_239 : decode (kby 114) 239 = .ok (.iload 4, 2) := by decide +kernel
theorem d_114_241 : decode (kby 114) 241 = .ok (.iload 5, 2) := by decide +kernel
theorem d_114_243 : decode (kby 114) 243 = .ok (.invokevirtual 126, 3) := by decide +kernel
theorem d_114_246 : decode (kby 114) 246 = .ok (.istore 6, 2) := by decide +kernel
theorem d_114_248 : decode (kby 114) 248 = .ok (.aload_n 0, 1) := by decide +kernel
theorem d_114_249 : decode (kby 114) 249 = .ok (.getfield 32, 3) := by decide +kernel
theorem d_114_252 : decode (kby 114) 252 = .ok (.iload_n 1, 1) := by decide +kernel
theorem d_114_253 : decode (kby 114) 253 = .ok (.iaload, 1) := by decide +kernel
theorem d_114_254 : decode (kby 114) 254 = .ok (.iconst 1, 1) := by decide +kernel
theorem d_114_255 : decode (kby 114) 255 = .ok (.if_icmp .ne 12, 3) := by decide +kernel
theorem d_114_258 : decode (kby 114) 258 = .ok (.aload_n 0, 1) := by decide +kernel
theorem d_114_259 : decode (kby 114) 259 = .ok (.iload 6, 2) := by decide +kernel
theorem d_114_261 : decode (kby 114) 261 = .ok (.invokevirtual 110, 3) := by decide +kernel
theorem d_114_264 : decode (kby 114) 264 = .ok (.goto 22, 3) := by decide +kernel
theorem d_114_267 : decode (kby 114) 267 = .ok (.aload_n 0, 1) := by decide +kernel
theorem d_114_268 : decode (kby 114) 268 = .ok (.aload_n 0, 1) := by decide +kernel
theorem d_114_269 : decode (kby 114) 269 = .ok (.getfield 32, 3) := by decide +kernel
theorem d_114_272 : decode (kby 114) 272 = .ok (.iload_n 1, 1) := by decide +kernel
theorem d_114_273 : decode (kby 114) 273 = .ok (.iaload, 1) := by decide +kernel
theorem d_114_274 : decode (kby 114) 274 = .ok (.aload_n 0, 1) := by decide +kernel
theorem d_114_275 : decode (kby 114) 275 = .ok (.getfield 35, 3) := by decide +kernel
theorem d_114_278 : decode (kby 114) 278 = .ok (.iload_n 1, 1) := by decide +kernel
theorem d_114_279 : decode (kby 114) 279 = .ok (.iaload, 1) := by decide +kernel
theorem d_114_280 : decode (kby 114) 280 = .ok (.iconst 0, 1) := by decide +kernel
theorem d_114_281 : decode (kby 114) 281 = .ok (.iload 6, 2) := by decide +kernel
theorem d_114_283 : decode (kby 114) 283 = .ok (.invokevirtual 106, 3) := by decide +kernel
theorem d_114_286 : decode (kby 114) 286 = .ok (.ireturn, 1) := by decide +kernel
set_option maxRecDepth 100000 in
theorem ka_114 : kall 114 0 kc_114 := And.intro (s_iload_n d_114_0 rfl) (And.intro (s_if_ne d_114_1 (by decide +kernel)) (And.intro (s_iload_n d_114_4 rfl) (And.intro (s_iload d_114_5) (And.intro (s_icmp_ne d_114_7 (by decide +kernel)) (And.intro (s_aload_n d_114_10 rfl) (And.intro (s_iconst d_114_11 (by decide +kernel)) (And.intro (s_iload_n d_114_12 rfl) (And.intro (s_iconst d_114_13 (by decide +kernel)) (And.intro (s_aload_n d_114_14 rfl) (And.intro (s_get d_114_15 (C := kR8) (T := kT8) (N := 38) rfl kjn8 (by decide +kernel) rfl kf_8_41) (And.intro (s_iload_n d_114_18 rfl) (And.intro (s_iaload d_114_19) (And.intro (s_cv d_114_20 kl_8_106 k_im_101 k_se_101 kok_101 rfl (by decide +kernel) rfl rfl) (And.intro (s_ret d_114_23 rfl) (And.intro (s_iload_n d_114_24 rfl) (And.intro (s_iconst d_114_25 (by decide +kernel)) (And.intro (s_icmp_ne d_114_26 (by decide +kernel)) (And.intro (s_aload_n d_114_29 rfl) (And.intro (s_get d_114_30 (C := kR8) (T := kT8) (N := 38) rfl kjn8 (by decide +kernel) rfl kf_8_32) (And.intro (s_iload_n d_114_33 rfl) (And.intro (s_iaload d_114_34) (And.intro (s_iconst d_114_35 (by decide +kernel)) (And.intro (s_icmp_ne d_114_36 (by decide +kernel)) (And.intro (s_aload_n d_114_39 rfl) (And.intro (s_get d_114_40 (C := kR8) (T := kT8) (N := 38) rfl kjn8 (by decide +kernel) rfl kf_8_35) (And.intro (s_iload_n d_114_43 rfl) (And.intro (s_iaload d_114_44) (And.intro (s_iload_n d_114_45 rfl) (And.intro (s_icmp_ne d_114_46 (by decide +kernel)) (And.intro (s_iload d_114_49) (And.intro (s_ret d_114_51 rfl) (And.intro (s_iload_n d_114_52 rfl) (And.intro (s_iconst d_114_53 (by decide +kernel)) (And.intro (s_icmp_eq d_114_54 (by decide +kernel)) (And.intro (s_iload_n d_114_57 rfl) (And.intro (s_iconst d_114_58 (by decide +kernel)) (And.intro (s_icmp_ne d_114_59 (by decide +kernel)) (And.intro (s_iload_n d_114_62 rfl) (And.intro (s_iload d_114_63) (And.intro (s_icmp_ne d_114_65 (by decide +kernel)) (And.intro (s_iload d_114_68) (And.intro (s_ret d_114_70 rfl) (And.intro (s_aload_n d_114_71 rfl) (And.intro (s_get d_114_72 (C := kR8) (T := kT8) (N := 38) rfl kjn8 (by decide +kernel) rfl kf_8_32) (And.intro (s_iload_n d_114_75 rfl) (And.intro (s_iaload d_114_76) (And.intro (s_iconst d_114_77 (by decide +kernel)) (And.intro (s_icmp_ne d_114_78 (by decide +kernel)) (And.intro (s_aload_n d_114_81 rfl) (And.intro (s_aload_n d_114_82 rfl) (And.intro (s_get d_114_83 (C := kR8) (T := kT8) (N := 38) rfl kjn8 (by decide +kernel) rfl kf_8_77) (And.intro (s_bipush d_114_86 (by decide +kernel)) (And.intro (s_aload_n d_114_88 rfl) (And.intro (s_get d_114_89 (C := kR8) (T := kT8) (N := 38) rfl kjn8 (by decide +kernel) rfl kf_8_35) (And.intro (s_iload_n d_114_92 rfl) (And.intro (s_iaload d_114_93) (And.intro (s_imul d_114_94) (And.intro (s_iload_n d_114_95 rfl) (And.intro (s_iadd d_114_96) (And.intro (s_iaload d_114_97) (And.intro (s_aload_n d_114_98 rfl) (And.intro (s_get d_114_99 (C := kR8) (T := kT8) (N := 38) rfl kjn8 (by decide +kernel) rfl kf_8_77) (And.intro (s_bipush d_114_102 (by decide +kernel)) (And.intro (s_aload_n d_114_104 rfl) (And.intro (s_get d_114_105 (C := kR8) (T := kT8) (N := 38) rfl kjn8 (by decide +kernel) rfl kf_8_38) (And.intro (s_iload_n d_114_108 rfl) (And.intro (s_iaload d_114_109) (And.intro (s_imul d_114_110) (And.intro (s_iload_n d_114_111 rfl) (And.intro (s_iadd d_114_112) (And.intro (s_iaload d_114_113) (And.intro (s_cv d_114_114 kl_8_114 k_im_109 k_se_109 kok_109 rfl (by decide +kernel) rfl rfl) (And.intro (s_ret d_114_117 rfl) (And.intro (s_aload_n d_114_118 rfl) (And.intro (s_get d_114_119 (C := kR8) (T := kT8) (N := 38) rfl kjn8 (by decide +kernel) rfl kf_8_32) (And.intro (s_iload_n d_114_122 rfl) (And.intro (s_iaload d_114_123) (And.intro (s_iconst d_114_124 (by decide +kernel)) (And.intro (s_icmp_ne d_114_125 (by decide +kernel)) (And.intro (s_aload_n d_114_128 rfl) (And.intro (s_get d_114_129 (C := kR8) (T := kT8) (N := 38) rfl kjn8 (by decide +kernel) rfl kf_8_77) (And.intro (s_bipush d_114_132 (by decide +kernel)) (And.intro (s_aload_n d_114_134 rfl) (And.intro (s_get d_114_135 (C := kR8) (T := kT8) (N := 38) rfl kjn8 (by decide +kernel) rfl kf_8_38) (And.intro (s_iload_n d_114_138 rfl) (And.intro (s_iaload d_114_139) (And.intro (s_imul d_114_140) (And.intro (s_iload_n d_114_141 rfl) (And.intro (s_iconst d_114_142 (by decide +kernel)) (And.intro (s_icmp_gt d_114_143 (by decide +kernel)) (And.intro (s_iload_n d_114_146 rfl) (And.intro (s_iconst d_114_147 (by decide +kernel)) (And.intro (s_iadd d_114_148) (And.intro (s_goto d_114_149 (by decide +kernel)) (And.intro (s_iload_n d_114_152 rfl) (And.intro (s_iadd d_114_153) (And.intro (s_iaload d_114_154) (And.intro (s_istore d_114_155 (by decide +kernel)) (And.intro (s_iload_n d_114_157 rfl) (And.intro (s_iconst d_114_158 (by decide +kernel)) (And.intro (s_icmp_ne d_114_159 (by decide +kernel)) (And.intro (s_aload_n d_114_162 rfl) (And.intro (s_aload_n d_114_163 rfl) (And.intro (s_get d_114_164 (C := kR8) (T := kT8) (N := 38) rfl kjn8 (by decide +kernel) rfl kf_8_35) (And.intro (s_iload_n d_114_167 rfl) (And.intro (s_iaload d_114_168) (And.intro (s_iload d_114_169) (And.intro (s_iload d_114_171) (And.intro (s_cv d_114_173 kl_8_126 k_im_115 k_se_115 kok_115 rfl (by decide +kernel) rfl rfl) (And.intro (s_goto d_114_176 (by decide +kernel)) (And.intro (s_aload_n d_114_179 rfl) (And.intro (s_get d_114_180 (C := kR8) (T := kT8) (N := 38) rfl kjn8 (by decide +kernel) rfl kf_8_35) (And.intro (s_iload_n d_114_183 rfl) (And.intro (s_iaload d_114_184) (And.intro (s_istore d_114_185 (by decide +kernel)) (And.intro (s_aload_n d_114_187 rfl) (And.intro (s_iload d_114_188) (And.intro (s_iload d_114_190) (And.intro (s_cv d_114_192 kl_8_129 k_im_116 k_se_116 kok_116 rfl (by decide +kernel) rfl rfl) (And.intro (s_ret d_114_195 rfl) (And.intro (s_iload_n d_114_196 rfl) (And.intro (s_iconst d_114_197 (by decide +kernel)) (And.intro (s_icmp_ne d_114_198 (by decide +kernel)) (And.intro (s_aload_n d_114_201 rfl) (And.intro (s_get d_114_202 (C := kR8) (T := kT8) (N := 38) rfl kjn8 (by decide +kernel) rfl kf_8_32) (And.intro (s_iload_n d_114_205 rfl) (And.intro (s_iaload d_114_206) (And.intro (s_iconst d_114_207 (by decide +kernel)) (And.intro (s_icmp_ne d_114_208 (by decide +kernel)) (And.intro (s_iload_n d_114_211 rfl) (And.intro (s_ret d_114_212 rfl) (And.intro (s_aload_n d_114_213 rfl) (And.intro (s_aload_n d_114_214 rfl) (And.intro (s_get d_114_215 (C := kR8) (T := kT8) (N := 38) rfl kjn8 (by decide +kernel) rfl kf_8_32) (And.intro (s_iload_n d_114_218 rfl) (And.intro (s_iaload d_114_219) (And.intro (s_iconst d_114_220 (by decide +kernel)) (And.intro (s_icmp_ne d_114_221 (by decide +kernel)) (And.intro (s_aload_n d_114_224 rfl) (And.intro (s_get d_114_225 (C := kR8) (T := kT8) (N := 38) rfl kjn8 (by decide +kernel) rfl kf_8_35) (And.intro (s_iload_n d_114_228 rfl) (And.intro (s_iaload d_114_229) (And.intro (s_goto d_114_230 (by decide +kernel)) (And.intro (s_aload_n d_114_233 rfl) (And.intro (s_get d_114_234 (C := kR8) (T := kT8) (N := 38) rfl kjn8 (by decide +kernel) rfl kf_8_41) (And.intro (s_iload_n d_114_237 rfl) (And.intro (s_iaload d_114_238) (And.intro (s_iload d_114_239) (And.intro (s_iload d_114_241) (And.intro (s_cv d_114_243 kl_8_126 k_im_115 k_se_115 kok_115 rfl (by decide +kernel) rfl rfl) (And.intro (s_istore d_114_246 (by decide +kernel)) (And.intro (s_aload_n d_114_248 rfl) (And.intro (s_get d_114_249 (C := kR8) (T := kT8) (N := 38) rfl kjn8 (by decide +kernel) rfl kf_8_32) (And.intro (s_iload_n d_114_252 rfl) (And.intro (s_iaload d_114_253) (And.intro (s_iconst d_114_254 (by decide +kernel)) (And.intro (s_icmp_ne d_114_255 (by decide +kernel)) (And.intro (s_aload_n d_114_258 rfl) (And.intro (s_iload d_114_259) (And.intro (s_cv d_114_261 kl_8_110 k_im_105 k_se_105 kok_105 rfl (by decide +kernel) rfl rfl) (And.intro (s_goto d_114_264 (by decide +kernel)) (And.intro (s_aload_n d_114_267 rfl) (And.intro (s_aload_n d_114_268 rfl) (And.intro (s_get d_114_269 (C := kR8) (T := kT8) (N := 38) rfl kjn8 (by decide +kernel) rfl kf_8_32) (And.intro (s_iload_n d_114_272 rfl) (And.intro (s_iaload d_114_273) (And.intro (s_aload_n d_114_274 rfl) (And.intro (s_get d_114_275 (C := kR8) (T := kT8) (N := 38) rfl kjn8 (by decide +kernel) rfl kf_8_35) (And.intro (s_iload_n d_114_278 rfl) (And.intro (s_iaload d_114_279) (And.intro (s_iconst d_114_280 (by decide +kernel)) (And.intro (s_iload d_114_281) (And.intro (s_cv d_114_283 kl_8_106 k_im_101 k_se_101 kok_101 rfl (by decide +kernel) rfl rfl) (And.intro (s_ret d_114_286 rfl) (True.intro)))))))))))))))))))))))))))))))))))))))))))))))))))))))))))))))))))))))))))))))))))))))))))))))))))))))))))))))))))))))))))))))))))))))))))))))))))))))))))))))))))))))))))))))
theorem d_115_0 : decode (kby 115) 0 = .ok (.iconst 0, 1) := by decide +kernel
theorem d_115_1 : decode (kby 115) 1 = .ok (.istore 4, 2) := by decide +kernel
theorem d_115_3 : decode (kby 115) 3 = .ok (.iload 4, 2) := by decide +kernel
theorem d_115_5 : decode (kby 115) 5 = .ok (.iload_n 1, 1) := by decide +kernel
theorem d_115_6 : decode (kby 115) 6 = .ok (.if_icmp .ge 17, 3) := by decide +kernel
theorem d_115_9 : decode (kby 115) 9 = .ok (.aload_n 0, 1) := by decide +kernel
theorem d_115_10 : decode (kby 115) 10 = .ok (.getfield 80, 3) := by decide +kernel
theorem d_115_13 : decode (kby 115) 13 = .ok (.iload 4, 2) := by decide +kernel
theorem d_115_15 : decode (kby 115) 15 = .ok (.iconst 0, 1) := by decide +kernel
theorem d_115_16 : decode (kby 115) 16 = .ok (.bastore, 1) := by decide +kernel
theorem d_115_17 : decode (kby 115) 17 = .ok (.iinc 4 1, 3) := by decide +kernel
theorem d_115_20 : decode (kby 115) 20 = .ok (.goto (-17), 3) := by decide +kernel
theorem d_115_23 : decode (kby 115) 23 = .ok (.aload_n 0, 1) := by decide +kernel
theorem d_115_24 : decode (kby 115) 24 = .ok (.getfield 80, 3) := by decide +kernel
theorem d_115_27 : decode (kby 115) 27 = .ok (.iload_n 1, 1) := by decide +kernel
theorem d_115_28 : decode (kby 115) 28 = .ok (.iconst 1, 1) := by decide +kernel
theorem d_115_29 : decode (kby 115) 29 = .ok (.bastore, 1) := by decide +kernel
theorem d_115_30 : decode (kby 115) 30 = .ok (.iload_n 1, 1) := by decide +kernel
theorem d_115_31 : decode (kby 115) 31 = .ok (.istore 4, 2) := by decide +kernel
theorem d_115_33 : decode (kby 115) 33 = .ok (.iload 4, 2) := by decide +kernel
theorem d_115_35 : decode (kby 115) 35 = .ok (.ifCond .lt 56, 3) := by decide +kernel
theorem d_115_38 : decode (kby 115) 38 = .ok (.aload_n 0, 1) := by decide +kernel
theorem d_115_39 : decode (kby 115) 39 = .ok (.getfield 80, 3) := by decide +kernel
theorem d_115_42 : decode (kby 115) 42 = .ok (.iload 4, 2) := by decide +kernel
theorem d_115_44 : decode (kby 115) 44 = .ok (.baload, 1) := by decide +kernel
theorem d_115_45 : decode (kby 115) 45 = .ok (.ifCond .eq 40, 3) := by decide +kernel
theorem d_115_48 : decode (kby 115) 48 = .ok (.aload_n 0, 1) := by decide +kernel
theorem d_115_49 : decode (kby 115) 49 = .ok (.getfield 7, 3) := by decide +kernel
theorem d_115_52 : decode (kby 115) 52 = .ok (.iload 4, 2) := by decide +kernel
theorem d_115_54 : decode (kby 115) 54 = .ok (.iaload, 1) := by decide +kernel
theorem d_115_55 : decode (kby 115) 55 = .ok (.iconst 4, 1) := by decide +kernel
theorem d_115_56 : decode (kby 115) 56 = .ok (.if_icmp .ne 29, 3) := by decide +kernel
theorem d_115_59 : decode (kby 115) 59 = .ok (.aload_n 0, 1) := by decide +kernel
theorem d_115_60 : decode (kby 115) 60 = .ok (.getfield 80, 3) := by decide +kernel
theorem d_115_63 : decode (kby 115) 63 = .ok (.aload_n 0, 1) := by decide +kernel
theorem d_115_64 : decode (kby 115) 64 = .ok (.getfield 13, 3) := by decide +kernel
theorem d_115_67 : decode (kby 115) 67 = .ok (.iload 4, 2) := by decide +kernel
theorem d_115_69 : decode (kby 115) 69 = .ok (.iaload, 1) := by decide +kernel
theorem d_115_70 : decode (kby 115) 70 = .ok (.iconst 1, 1) := by decide +kernel
theorem d_115_71 : decode (kby 115) 71 = .ok (.bastore, 1) := by decide +kernel
theorem d_115_72 : decode (kby 115) 72 = .ok (.aload_n 0, 1) := by decide +kernel
theorem d_115_73 : decode (kby 115) 73 = .ok (.getfield 80, 3) := by decide +kernel
theorem d_115_76 : decode (kby 115) 76 = .ok (.aload_n 0, 1) := by decide +kernel
theorem d_115_77 : decode (kby 115) 77 = .ok (.getfield 16, 3) := by decide +kernel
theorem d_115_80 : decode (kby 115) 80 = .ok (.iload 4, 2) := by decide +kernel
theorem d_115_82 : decode (kby 115) 82 = .ok (.iaload, 1) := by decide +kernel
theorem d_115_83 : decode (kby 115) 83 = .ok (.iconst 1, 1) := by decide +kernel
theorem d_115_84 : decode (kby 115) 84 = .ok (.bastore, 1) := by decide +kernel
theorem d_115_85 : decode (kby 115) 85 = .ok (.iinc 4 (-1), 3) := by decide +kernel
theorem d_115_88 : decode (kby 115) 88 = .ok (.goto (-55), 3) := by decide +kernel
theorem d_115_91 : decode (kby 115) 91 = .ok (.iconst 0, 1) := by decide +kernel
theorem d_115_92 : decode (kby 115) 92 = .ok (.istore 4, 2) := by decide +kernel
theorem d_115_94 : decode (kby 115) 94 = .ok (.iload 4, 2) := by decide +kernel
theorem d_115_96 : decode (kby 115) 96 = .ok (.iload_n 1, 1) := by decide +kernel
theorem d_115_97 : decode (kby 115) 97 = .ok (.if_icmp .gt 88, 3) := by decide +kernel
theorem d_115_100 : decode (kby 115) 100 = .ok (.aload_n 0, 1) := by decide +kernel
theorem d_115_101 : decode (kby 115) 101 = .ok (.getfield 80, 3) := by decide +kernel
theorem d_115_104 : decode (kby 115) 104 = .ok (.iload 4, 2) := by decide +kernel
theorem d_115_106 : decode (kby 115) 106 = .ok (.baload, 1) := by decide +kernel
theorem d_115_107 : decode (kby 115) 107 = .ok (.ifCond .ne 6, 3) := by decide +kernel
theorem d_115_110 : decode (kby 115) 110 = .ok (.goto 69, 3) := by decide +kernel
theorem d_115_113 : decode (kby 115) 113 = .ok (.aload_n 0, 1) := by decide +kernel
theorem d_115_114 : decode (kby 115) 114 = .ok (.getfield 83, 3) := by decide +kernel
theorem d_115_117 : decode (kby 115) 117 = .ok (.iload 4, 2) := by decide +kernel
theorem d_115_119 : decode (kby 115) 119 = .ok (.iload 4, 2) := by decide +kernel
theorem d_115_121 : decode (kby 115) 121 = .ok (.iload_n 2, 1) := by decide +kernel
theorem d_115_122 : decode (kby 115) 122 = .ok (.if_icmp .ne 7, 3) := by decide +kernel
theorem d_115_125 : decode (kby 115) 125 = .ok (.iload_n 3, 1) := by decide +kernel
theorem d_115_126 : decode (kby 115) 126 = .ok (.goto 5, 3) := by decide +kernel
theorem d_115_129 : decode (kby 115) 129 = .ok (.iload 4, 2) := by decide +kernel
theorem d_115_131 : decode (kby 115) 131 = .ok (.iastore, 1) := by decide +kernel
theorem d_115_132 : decode (kby 115) 132 = .ok (.aload_n 0, 1) := by decide +kernel
theorem d_115_133 : decode (kby 115) 133 = .ok (.getfield 7, 3) := by decide +kernel
theorem d_115_136 : decode (kby 115) 136 = .ok (.iload 4, 2) := by decide +kernel
theorem d_115_138 : decode (kby 115) 138 = .ok (.iaload, 1) := by decide +kernel
theorem d_115_139 : decode (kby 115) 139 = .ok (.iconst 4, 1) := by decide +kernel
theorem d_115_140 : decode (kby 115) 140 = .ok (.if_icmp .ne 39, 3) := by decide +kernel
theorem d_115_143 : decode (kby 115) 143 = .ok (.aload_n 0, 1) := by decide +kernel
theorem d_115_144 : decode (kby 115) 144 = .ok (.getfield 83, 3) := by decide +kernel
theorem d_115_147 : decode (kby 115) 147 = .ok (.iload 4, 2) := by decide +kernel
theorem d_115_149 : decode (kby 115) 149 = .ok (.aload_n 0, 1) := by decide +kernel
theorem d_115_150 : decode (kby 115) 150 = .ok (.iconst 4, 1) := by decide +kernel
theorem d_115_151 : decode (kby 115) 151 = .ok (.aload_n 0, 1) := by decide +kernel
theorem d_115_152 : decode (kby 115) 152 = .ok (.getfield 83, 3) := by decide +kernel
theorem d_115_155 : decode (kby 115) 155 = .ok (.aload_n 0, 1) := by decide +kernel
theorem d_115_156 : decode (kby 115) 156 = .ok (.getfield 13, 3) := by decide +kernel
theorem d_115_159 : decode (kby 115) 159 = .ok (.iload 4, 2) := by decide +kernel
theorem d_115_161 : decode (kby 115) 161 = .ok (.iaload, 1) := by decide +kernel
theorem d_115_162 : decode (kby 115) 162 = .ok (.iaload, 1) := by decide +kernel
theorem d_115_163 : decode (kby 115) 163 = .ok (.aload_n 0, 1) := by decide +kernel
theorem d_115_164 : decode (kby 115) 164 = .ok (.getfield 83, 3) := by decide +kernel
theorem d_115_167 : decode (kby 115) 167 = .ok (.aload_n 0, 1) := by decide +kernel
theorem d_115_168 : decode (kby 115) 168 = .ok (.getfield 16, 3) := by decide +kernel
theorem d_115_171 : decode (kby 115) 171 = .ok (.iload 4, 2) := by decide +kernel
theorem d_115_173 : decode (kby 115) 173 = .ok (.iaload, 1) := by decide +kernel
theorem d_115_174 : decode (kby 115) 174 = .ok (.iaload, 1) := by decide +kernel
theorem d_115_175 : decode (kby 115) 175 = .ok (.invokevirtual 103, 3) := by decide +kernel
theorem d_115_178 : decode (kby 115) 178 = .ok (.iastore, 1) := by decide +kernel
theorem d_115_179 : decode (kby 115) 179 = .ok (.iinc 4 1, 3) := by decide +kernel
theorem d_115_182 : decode (kby 115) 182 = .ok (.goto (-88), 3) := by decide +kernel
theorem d_115_185 : decode (kby 115) 185 = .ok (.aload_n 0, 1) := by decide +kernel
theorem d_115_186 : decode (kby 115) 186 = .ok (.getfield 83, 3) := by decide +kernel
theorem d_115_189 : decode (kby 115) 189 = .ok (.iload_n 1, 1) := by decide +kernel
theorem d_115_190 : decode (kby 115) 190 = .ok (.iaload, 1) := by decide +kernel
theorem d_115_191 : decode (kby 115) 191 = .ok (.ireturn, 1) := by decide +kernel
set_option maxRecDepth 100000 in
theorem ka_115 : kall 115 0 kc_115 := And.intro (s_iconst d_115_0 (by decide +kernel)) (And.intro (s_istore d_115_1 (by decide +kernel)) (And.intro (s_iload d_115_3) (And.intro (s_iload_n d_115_5 rfl) (And.intro (s_icmp_ge d_115_6 (by decide +kernel)) (And.intro (s_aload_n d_115_9 rfl) (And.intro (s_get d_115_10 (C := kR8) (T := kT8) (N := 38) rfl kjn8 (by decide +kernel) rfl kf_8_80) (And.intro (s_iload d_115_13) (And.intro (s_iconst d_115_15 (by decide +kernel)) (And.intro (s_bastore d_115_16) (And.intro (s_iinc d_115_17 (by decide +kernel) (by decide +kernel)) (And.intro (s_goto d_115_20 (by decide +kernel)) (And.intro (s_aload_n d_115_23 rfl) (And.intro (s_get d_115_24 (C := kR8) (T := kT8) (N := 38) rfl kjn8 (by decide +kernel) rfl kf_8_80) (And.intro (s_iload_n d_115_27 rfl) (And.intro (s_iconst d_115_28 (by decide +kernel)) (And.intro (s_bastore d_115_29) (And.intro (s_iload_n d_115_30 rfl) (And.intro (s_istore d_115_31 (by decide +kernel)) (And.intro (s_iload d_115_33) (And.intro (s_if_lt d_115_35 (by decide +kernel)) (And.intro (s_aload_n d_115_38 rfl) (And.intro (s_get d_115_39 (C := kR8) (T := kT8) (N := 38) rfl kjn8 (by decide +kernel) rfl kf_8_80) (And.intro (s_iload d_115_42) (And.intro (s_baload d_115_44) (And.intro (s_if_eq d_115_45 (by decide +kernel)) (And.intro (s_aload_n d_115_48 rfl) (And.intro (s_get d_115_49 (C := kR8) (T := kT8) (N := 38) rfl kjn8 (by decide +kernel) rfl kf_8_7) (And.intro (s_iload d_115_52) (And.intro (s_iaload d_115_54) (And.intro (s_iconst d_115_55 (by decide +kernel)) (And.intro (s_icmp_ne d_115_56 (by decide +kernel)) (And.intro (s_aload_n d_115_59 rfl) (And.intro (s_get d_115_60 (C := kR8) (T := kT8) (N := 38) rfl kjn8 (by decide +kernel) rfl kf_8_80) (And.intro (s_aload_n d_115_63 rfl) (And.intro (s_get d_115_64 (C := kR8) (T := kT8) (N := 38) rfl kjn8 (by decide +kernel) rfl kf_8_13) (And.intro (s_iload d_115_67) (And.intro (s_iaload d_115_69) (And.intro (s_iconst d_115_70 (by decide +kernel)) (And.intro (s_bastore d_115_71) (And.intro (s_aload_n d_115_72 rfl) (And.intro (s_get d_115_73 (C := kR8) (T := kT8) (N := 38) rfl kjn8 (by decide +kernel) rfl kf_8_80) (And.intro (s_aload_n d_115_76 rfl) (And.intro (s_get d_115_77 (C := kR8) (T := kT8) (N := 38) rfl kjn8 (by decide +kernel) rfl kf_8_16) (And.intro (s_iload d_115_80) (And.intro (s_iaload d_115_82) (And.intro (s_iconst d_115_83 (by decide +kernel)) (And.intro (s_bastore d_115_84) (And.intro (s_iinc d_115_85 (by decide +kernel) (by decide +kernel)) (And.intro (s_goto d_115_88 (by decide +kernel)) (And.intro (s_iconst d_115_91 (by decide +kernel)) (And.intro (s_istore d_115_92 (by decide +kernel)) (And.intro (s_iload d_115_94) (And.intro (s_iload_n d_115_96 rfl) (And.intro (s_icmp_gt d_115_97 (by decide +kernel)) (And.intro (s_aload_n d_115_100 rfl) (And.intro (s_get d_115_101 (C := kR8) (T := kT8) (N := 38) rfl kjn8 (by decide +kernel) rfl kf_8_80) (And.intro (s_iload d_115_104) (And.intro (s_baload d_115_106) (And.intro (s_if_ne d_115_107 (by decide +kernel)) (And.intro (s_goto d_115_110 (by decide +kernel)) (And.intro (s_aload_n d_115_113 rfl) (And.intro (s_get d_115_114 (C := kR8) (T := kT8) (N := 38) rfl kjn8 (by decide +kernel) rfl kf_8_83) (And.intro (s_iload d_115_117) (And.intro (s_iload d_115_119) (And.intro (s_iload_n d_115_121 rfl) (And.intro (s_icmp_ne d_115_122 (by decide +kernel)) (And.intro (s_iload_n d_115_125 rfl) (And.intro (s_goto d_115_126 (by decide +kernel)) (And.intro (s_iload d_115_129) (And.intro (s_iastore d_115_131) (And.intro (s_aload_n d_115_132 rfl) (And.intro (s_get d_115_133 (C := kR8) (T := kT8) (N := 38) rfl kjn8 (by decide +kernel) rfl kf_8_7) (And.intro (s_iload d_115_136) (And.intro (s_iaload d_115_138) (And.intro (s_iconst d_115_139 (by decide +kernel)) (And.intro (s_icmp_ne d_115_140 (by decide +kernel)) (And.intro (s_aload_n d_115_143 rfl) (And.intro (s_get d_115_144 (C := kR8) (T := kT8) (N := 38) rfl kjn8 (by decide +kernel) rfl kf_8_83) (And.intro (s_iload d_115_147) (And.intro (s_aload_n d_115_149 rfl) (And.intro (s_iconst d_115_150 (by decide +kernel)) (And.intro (s_aload_n d_115_151 rfl) (And.intro (s_get d_115_152 (C := kR8) (T := kT8) (N := 38) rfl kjn8 (by decide +kernel) rfl kf_8_83) (And.intro (s_aload_n d_115_155 rfl) (And.intro (s_get d_115_156 (C := kR8) (T := kT8) (N := 38) rfl kjn8 (by decide +kernel) rfl kf_8_13) (And.intro (s_iload d_115_159) (And.intro (s_iaload d_115_161) (And.intro (s_iaload d_115_162) (And.intro (s_aload_n d_115_163 rfl) (And.intro (s_get d_115_164 (C := kR8) (T := kT8) (N := 38) rfl kjn8 (by decide +kernel) rfl kf_8_83) (And.intro (s_aload_n d_115_167 rfl) (And.intro (s_get d_115_168 (C := kR8) (T := kT8) (N := 38) rfl kjn8 (by decide +kernel) rfl kf_8_16) (And.intro (s_iload d_115_171) (And.intro (s_iaload d_115_173) (And.intro (s_iaload d_115_174) (And.intro (s_cv d_115_175 kl_8_103 k_im_94 k_se_94 kok_94 rfl (by decide +kernel) rfl rfl) (And.intro (s_iastore d_115_178) (And.intro (s_iinc d_115_179 (by decide +kernel) (by decide +kernel)) (And.intro (s_goto d_115_182 (by decide +kernel)) (And.intro (s_aload_n d_115_185 rfl) (And.intro (s_get d_115_186 (C := kR8) (T := kT8) (N := 38) rfl kjn8 (by decide +kernel) rfl kf_8_83) (And.intro (s_iload_n d_115_189 rfl) (And.intro (s_iaload d_115_190) (And.intro (s_ret d_115_191 rfl) (True.intro)))))))))))))))))))))))))))))))))))))))))))))))))))))))))))))))))))))))))))))))))))))))))))))))))))))))))
theorem d_116_0 : decode (kby 116) 0 = .ok (.aload_n 0, 1) := by decide +kernel
theorem d_116_1 : decode (kby 116) 1 = .ok (.iconst 4, 1) := by decide +kernel
theorem d_116_2 : decode (kby 116) 2 = .ok (.iload_n 1, 1) := by decide +kernel
theorem d_116_3 : decode (kby 116) 3 = .ok (.aload_n 0, 1) := by decide +kernel
theorem d_116_4 : decode (kby 116) 4 = .ok (.getfield 41, 3) := by decide +kernel
theorem d_116_7 : decode (kby 116) 7 = .ok (.iload_n 2, 1) := by decide +kernel
theorem d_116_8 : decode (kby 116) 8 = .ok (.iaload, 1) := by decide +kernel
theorem d_116_9 : decode (kby 116) 9 = .ok (.invokevirtual 103, 3) := by decide +kernel
theorem d_116_12 : decode (kby 116) 12 = .ok (.istore_n 3, 1) := by decide +kernel
theorem d_116_13 : decode (kby 116) 13 = .ok (.aload_n 0, 1) := by decide +kernel
theorem d_116_14 : decode (kby 116) 14 = .ok (.iconst 4, 1) := by decide +kernel
theorem d_116_15 : decode (kby 116) 15 = .ok (.iload_n 1, 1) := by decide +kernel
theorem d_116_16 : decode (kby 116) 16 = .ok (.iload_n 2, 1) := by decide +kernel
theorem d_116_17 : decode (kby 116) 17 = .ok (.iload_n 3, 1) := by decide +kernel
theorem d_116_18 : decode (kby 116) 18 = .ok (.invokevirtual 106, 3) := by decide +kernel
theorem d_116_21 : decode (kby 116) 21 = .ok (.ireturn, 1) := by decide +kernel
set_option maxRecDepth 100000 in
theorem ka_116 : kall 116 0 kc_116 := And.intro (s_aload_n d_116_0 rfl) (And.intro (s_iconst d_116_1 (by decide +kernel)) (And.intro (s_iload_n d_116_2 rfl) (And.intro (s_aload_n d_116_3 rfl) (And.intro (s_get d_116_4 (C := kR8) (T := kT8) (N := 38) rfl kjn8 (by decide +kernel) rfl kf_8_41) (And.intro (s_iload_n d_116_7 rfl) (And.intro (s_iaload d_116_8) (And.intro (s_cv d_116_9 kl_8_103 k_im_94 k_se_94 kok_94 rfl (by decide +kernel) rfl rfl) (And.intro (s_istore_n d_116_12 rfl (by decide +kernel)) (And.intro (s_aload_n d_116_13 rfl) (And.intro (s_iconst d_116_14 (by decide +kernel)) (And.intro (s_iload_n d_116_15 rfl) (And.intro (s_iload_n d_116_16 rfl) (And.intro (s_iload_n d_116_17 rfl) (And.intro (s_cv d_116_18 kl_8_106 k_im_101 k_se_101 kok_101 rfl (by decide +kernel) rfl rfl) (And.intro (s_ret d_116_21 rfl) (True.intro))))))))))))))))
theorem d_117_0 : decode (kby 117) 0 = .ok (.aload_n 0, 1) := by decide +kernel
theorem d_117_1 : decode (kby 117) 1 = .ok (.invokevirtual 154, 3) := by decide +kernel
theorem d_117_4 : decode (kby 117) 4 = .ok (.aload_n 0, 1) := by decide +kernel
theorem d_117_5 : decode (kby 117) 5 = .ok (.iload_n 1, 1) := by decide +kernel
theorem d_117_6 : decode (kby 117) 6 = .ok (.iload_n 2, 1) := by decide +kernel
theorem d_117_7 : decode (kby 117) 7 = .ok (.iload_n 3, 1) := by decide +kernel
theorem d_117_8 : decode (kby 117) 8 = .ok (.iload 4, 2) := by decide +kernel
theorem d_117_10 : decode (kby 117) 10 = .ok (.invokevirtual 221, 3) := by decide +kernel
theorem d_117_13 : decode (kby 117) 13 = .ok (.istore 5, 2) := by decide +kernel
theorem d_117_15 : decode (kby 117) 15 = .ok (.aload_n 0, 1) := by decide +kernel
theorem d_117_16 : decode (kby 117) 16 = .ok (.invokevirtual 144, 3) := by decide +kernel
theorem d_117_19 : decode (kby 117) 19 = .ok (.ifCond .eq 8, 3) := by decide +kernel
theorem d_117_22 : decode (kby 117) 22 = .ok (.iload 5, 2) := by decide +kernel
theorem d_117_24 : decode (kby 117) 24 = .ok (.goto 4, 3) := by decide +kernel
theorem d_117_27 : decode (kby 117) 27 = .ok (.iconst (-1), 1) := by decide +kernel
theorem d_117_28 : decode (kby 117) 28 = .ok (.ireturn, 1) := by decide +kernel
set_option maxRecDepth 100000 in
theorem ka_117 : kall 117 0 kc_117 := And.intro (s_aload_n d_117_0 rfl) (And.intro (s_cw d_117_1 kl_8_154 k_im_93 k_se_93 kok_93 rfl (by decide +kernel) rfl rfl) (And.intro (s_aload_n d_117_4 rfl) (And.intro (s_iload_n d_117_5 rfl) (And.intro (s_iload_n d_117_6 rfl) (And.intro (s_iload_n d_117_7 rfl) (And.intro (s_iload d_117_8) (And.intro (s_cv d_117_10 kl_8_221 k_im_118 k_se_118 kok_118 rfl (by decide +kernel) rfl rfl) (And.intro (s_istore d_117_13 (by decide +kernel)) (And.intro (s_aload_n d_117_15 rfl) (And.intro (s_cv d_117_16 kl_8_144 k_im_96 k_se_96 kok_96 rfl (by decide +kernel) rfl rfl) (And.intro (s_if_eq d_117_19 (by decide +kernel)) (And.intro (s_iload d_117_22) (And.intro (s_goto d_117_24 (by decide +kernel)) (And.intro (s_iconst d_117_27 (by decide +kernel)) (And.intro (s_ret d_117_28 rfl) (True.intro))))))))))))))))
theorem d_118_0 : decode (kby 118) 0 = .ok (.aload_n 0, 1) := by decide +kernel
theorem d_118_1 : decode (kby 118) 1 = .ok (.iconst 0, 1) := by decide +kernel
theorem d_118_2 : decode (kby 118) 2 = .ok (.putfield 180, 3) := by decide +kernel
theorem d_118_5 : decode (kby 118) 5 = .ok (.iload_n 1, 1) := by decide +kernel
theorem d_118_6 : decode (kby 118) 6 = .ok (.ifCond .lt 45, 3) := by decide +kernel
theorem d_118_9 : decode (kby 118) 9 = .ok (.iload_n 1, 1) := by decide +kernel
theorem d_118_10 : decode (kby 118) 10 = .ok (.bipush 10, 2) := by decide +kernel
theorem d_118_12 : decode (kby 118) 12 = .ok (.if_icmp .gt 39, 3) := by decide +kernel
theorem d_118_15 : decode (kby 118) 15 = .ok (.iload_n 1, 1) := by decide +kernel
theorem d_118_16 : decode (kby 118) 16 = .ok (.iconst 0, 1) := by decide +kernel
theorem d_118_17 : decode (kby 118) 17 = .ok (.invokestatic 187, 3) := by decide +kernel
theorem d_118_20 : decode (kby 118) 20 = .ok (.ifCond .eq 11, 3) := by decide +kernel
theorem d_118_23 : decode (kby 118) 23 = .ok (.aload_n 0, 1) := by decide +kernel
theorem d_118_24 : decode (kby 118) 24 = .ok (.iload_n 2, 1) := by decide +kernel
theorem d_118_25 : decode (kby 118) 25 = .ok (.invokevirtual 190, 3) := by decide +kernel
theorem d_118_28 : decode (kby 118) 28 = .ok (.ifCond .eq 23, 3) := by decide +kernel
theorem d_118_31 : decode (kby 118) 31 = .ok (.iload_n 1, 1) := by decide +kernel
theorem d_118_32 : decode (kby 118) 32 = .ok (.iconst 1, 1) := by decide +kernel
theorem d_118_33 : decode (kby 118) 33 = .ok (.invokestatic 187, 3) := by decide +kernel
theorem d_118_36 : decode (kby 118) 36 = .ok (.ifCond .eq 11, 3) := by decide +kernel
theorem d_118_39 : decode (kby 118) 39 = .ok (.aload_n 0, 1) := by decide +kernel
theorem d_118_40 : decode (kby 118) 40 = .ok (.iload_n 3, 1) := by decide +kernel
theorem d_118_41 : decode (kby 118) 41 = .ok (.invokevirtual 190, 3) := by decide +kernel
theorem d_118_44 : decode (kby 118) 44 = .ok (.ifCond .eq 7, 3) := by decide +kernel
theorem d_118_47 : decode (kby 118) 47 = .ok (.iconst 1, 1) := by decide +kernel
theorem d_118_48 : decode (kby 118) 48 = .ok (.goto 4, 3) := by decide +kernel
theorem d_118_51 : decode (kby 118) 51 = .ok (.iconst 0, 1) := by decide +kernel
theorem d_118_52 : decode (kby 118) 52 = .ok (.istore 5, 2) := by decide +kernel
theorem d_118_54 : decode (kby 118) 54 = .ok (.iload 5, 2) := by decide +kernel
theorem d_118_56 : decode (kby 118) 56 = .ok (.ifCond .eq 29, 3) := by decide +kernel
theorem d_118_59 : decode (kby 118) 59 = .ok (.iload_n 1, 1) := by decide +kernel
theorem d_118_60 : decode (kby 118) 60 = .ok (.ifCond .eq 18, 3) := by decide +kernel
theorem d_118_63 : decode (kby 118) 63 = .ok (.iload_n 1, 1) := by decide +kernel
theorem d_118_64 : decode (kby 118) 64 = .ok (.iconst 3, 1) := by decide +kernel
theorem d_118_65 : decode (kby 118) 65 = .ok (.if_icmp .eq 13, 3) := by decide +kernel
theorem d_118_68 : decode (kby 118) 68 = .ok (.iload_n 1, 1) := by decide +kernel
theorem d_118_69 : decode (kby 118) 69 = .ok (.iconst 4, 1) := by decide +kernel
theorem d_118_70 : decode (kby 118) 70 = .ok (.if_icmp .eq 8, 3) := by decide +kernel
theorem d_118_73 : decode (kby 118) 73 = .ok (.iload_n 1, 1) := by decide +kernel
theorem d_118_74 : decode (kby 118) 74 = .ok (.iconst 5, 1) := by decide +kernel
theorem d_118_75 : decode (kby 118) 75 = .ok (.if_icmp .ne 10, 3) := by decide +kernel
theorem d_118_78 : decode (kby 118) 78 = .ok (.aload_n 0, 1) := by decide +kernel
theorem d_118_79 : decode (kby 118) 79 = .ok (.iload_n 2, 1) := by decide +kernel
theorem d_118_80 : decode (kby 118) 80 = .ok (.invokevirtual 167, 3) := by decide +kernel
theorem d_118_83 : decode (kby 118) 83 = .ok (.istore 5, 2) := by decide +kernel
theorem d_118_85 : decode (kby 118) 85 = .ok (.iload 5, 2) := by decide +kernel
theorem d_118_87 : decode (kby 118) 87 = .ok (.ifCond .eq 33, 3) := by decide +kernel
theorem d_118_90 : decode (kby 118) 90 = .ok (.iload_n 1, 1) := by decide +kernel
theorem d_118_91 : decode (kby 118) 91 = .ok (.bipush 8, 2) := by decide +kernel
theorem d_118_93 : decode (kby 118) 93 = .ok (.if_icmp .ne 27, 3) := by decide +kernel
theorem d_118_96 : decode (kby 118) 96 = .ok (.aload_n 0, 1) := by decide +kernel
theorem d_118_97 : decode (kby 118) 97 = .ok (.iload_n 3, 1) := by decide +kernel
theorem d_118_98 : decode (kby 118) 98 = .ok (.invokevirtual 167, 3) := by decide +kernel
theorem d_118_101 : decode (kby 118) 101 = .ok (.ifCond .eq 16, 3) := by decide +kernel
theorem d_118_104 : decode (kby 118) 104 = .ok (.aload_n 0, 1) := by decide +kernel
theorem d_118_105 : decode (kby 118) 105 = .ok (.iload 4, 2) := by decide +kernel
theorem d_118_107 : decode (kby 118) 107 = .ok (.invokevirtual 167, 3) := by decide +kernel
theorem d_118_110 : decode (kby 118) 110 = .ok (.ifCond .eq 7, 3) := by decide +kernel
theorem d_118_113 : decode (kby 118) 113 = .ok (.iconst 1, 1) := by decide +kernel
theorem d_118_114 : decode (kby 118) 114 = .ok (.goto 4, 3) := by decide +kernel
theorem d_118_117 : decode (kby 118) 117 = .ok (.iconst 0, 1) := by decide +kernel
theorem d_118_118 : decode (kby 118) 118 = .ok (.istore 5, 2) := by decide +kernel
theorem d_118_120 : decode (kby 118) 120 = .ok (.iload 5, 2) := by decide +kernel
theorem d_118_122 : decode (kby 118) 122 = .ok (.ifCond .eq 33, 3) := by decide +kernel
theorem d_118_125 : decode (kby 118) 125 = .ok (.iload_n 1, 1) := by decide +kernel
theorem d_118_126 : decode (kby 118) 126 = .ok (.bipush 9, 2) := by decide +kernel
theorem d_118_128 : decode (kby 118) 128 = .ok (.if_icmp .ne 27, 3) := by decide +kernel
theorem d_118_131 : decode (kby 118) 131 = .ok (.aload_n 0, 1) := by decide +kernel
theorem d_118_132 : decode (kby 118) 132 = .ok (.iload_n 3, 1) := by decide +kernel
theorem d_118_133 : decode (kby 118) 133 = .ok (.invokevirtual 160, 3) := by decide +kernel
theorem d_118_136 : decode (kby 118) 136 = .ok (.ifCond .eq 16, 3) := by decide +kernel
theorem d_118_139 : decode (kby 118) 139 = .ok (.aload_n 0, 1) := by decide +kernel
theorem d_118_140 : decode (kby 118) 140 = .ok (.iload 4, 2) := by decide +kernel
theorem d_118_142 : decode (kby 118) 142 = .ok (.invokevirtual 160, 3) := by decide +kernel
theorem d_118_145 : decode (kby 118) 145 = .ok (.ifCond .eq 7, 3) := by decide +kernel
theorem d_118_148 : decode (kby 118) 148 = .ok (.iconst 1, 1) := by decide +kernel
theorem d_118_149 : decode (kby 118) 149 = .ok (.goto 4, 3) := by decide +kernel
theorem d_118_152 : decode (kby 118) 152 = .ok (.iconst 0, 1) := by decide +kernel
theorem d_118_153 : decode (kby 118) 153 = .ok (.istore 5, 2) := by decide +kernel
theorem d_118_155 : decode (kby 118) 155 = .ok (.iload 5, 2) := by decide +kernel
theorem d_118_157 : decode (kby 118) 157 = .ok (.ifCond .ne 7, 3) := by decide +kernel
theorem d_118_160 : decode (kby 118) 160 = .ok (.iconst (-1), 1) := by decide +kernel
theorem d_118_161 : decode (kby 118) 161 = .ok (.goto 43, 3) := by decide +kernel
theorem d_118_164 : decode (kby 118) 164 = .ok (.iload_n 1, 1) := by decide +kernel
theorem d_118_165 : decode (kby 118) 165 = .ok (.iconst 5, 1) := by decide +kernel
theorem d_118_166 : decode (kby 118) 166 = .ok (.if_icmp .ge 13, 3) := by decide +kernel
theorem d_118_169 : decode (kby 118) 169 = .ok (.aload_n 0, 1) := by decide +kernel
theorem d_118_170 : decode (kby 118) 170 = .ok (.iload_n 1, 1) := by decide +kernel
theorem d_118_171 : decode (kby 118) 171 = .ok (.iload_n 2, 1) := by decide +kernel
theorem d_118_172 : decode (kby 118) 172 = .ok (.iload_n 3, 1) := by decide +kernel
theorem d_118_173 : decode (kby 118) 173 = .ok (.invokevirtual 193, 3) := by decide +kernel
theorem d_118_176 : decode (kby 118) 176 = .ok (.goto 28, 3) := by decide +kernel
theorem d_118_179 : decode (kby 118) 179 = .ok (.iload_n 1, 1) := by decide +kernel
theorem d_118_180 : decode (kby 118) 180 = .ok (.bipush 8, 2) := by decide +kernel
theorem d_118_182 : decode (kby 118) 182 = .ok (.if_icmp .ge 13, 3) := by decide +kernel
theorem d_118_185 : decode (kby 118) 185 = .ok (.aload_n 0, 1) := by decide +kernel
theorem d_118_186 : decode (kby 118) 186 = .ok (.iload_n 1, 1) := by decide +kernel
theorem d_118_187 : decode (kby 118) 187 = .ok (.iload_n 2, 1) := by decide +kernel
theorem d_118_188 : decode (kby 118) 188 = .ok (.iload_n 3, 1) := by decide +kernel
theorem d_118_189 : decode (kby 118) 189 = .ok (.invokevirtual 196, 3) := by decide +kernel
theorem d_118_192 : decode (kby 118) 192 = .ok (.goto 12, 3) := by decide +kernel
theorem d_118_195 : decode (kby 118) 195 = .ok (.aload_n 0, 1) := by decide +kernel
theorem d_118_196 : decode (kby 118) 196 = .ok (.iload_n 1, 1) := by decide +kernel
theorem d_118_197 : decode (kby 118) 197 = .ok (.iload_n 2, 1) := by decide +kernel
theorem d_118_198 : decode (kby 118) 198 = .ok (.iload_n 3, 1) := by decide +kernel
theorem d_118_199 : decode (kby 118) 199 = .ok (.iload 4, 2) := by decide +kernel
theorem d_118_201 : decode (kby 118) 201 = .ok (.invokevirtual 199, 3) := by decide +kernel
theorem d_118_204 : decode (kby 118) 204 = .ok (.istore 6, 2) := by decide +kernel
theorem d_118_206 : decode (kby 118) 206 = .ok (.iload 6, 2) := by decide +kernel
theorem d_118_208 : decode (kby 118) 208 = .ok (.ifCond .ge 8, 3) := by decide +kernel
theorem d_118_211 : decode (kby 118) 211 = .ok (.aload_n 0, 1) := by decide +kernel
theorem d_118_212 : decode (kby 118) 212 = .ok (.iconst 1, 1) := by decide +kernel
theorem d_118_213 : decode (kby 118) 213 = .ok (.putfield 93, 3) := by decide +kernel
theorem d_118_216 : decode (kby 118) 216 = .ok (.aload_n 0, 1) := by decide +kernel
theorem d_118_217 : decode (kby 118) 217 = .ok (.getfield 93, 3) := by decide +kernel
theorem d_118_220 : decode (kby 118) 220 = .ok (.ifCond .eq 7, 3) := by decide +kernel
theorem d_118_223 : decode (kby 118) 223 = .ok (.iconst (-1), 1) := by decide +kernel
theorem d_118_224 : decode (kby 118) 224 = .ok (.goto 9, 3) := by decide +kernel
theorem d_118_227 : decode (kby 118) 227 = .ok (.aload_n 0, 1) := by decide +kernel
theorem d_118_228 : decode (kby 118) 228 = .ok (.iload 6, 2) := by decide +kernel
theorem d_118_230 : decode (kby 118) 230 = .ok (.invokevirtual 202, 3) := by decide +kernel
theorem d_118_233 : decode (kby 118) 233 = .ok (.ireturn, 1) := by decide +kernel
set_option maxRecDepth 100000 in
theorem ka_118 : kall 118 0 kc_118 := And.intro (s_aload_n d_118_0 rfl) (And.intro (s_iconst d_118_1 (by decide +kernel)) (And.intro (s_put d_118_2 (C := kR8) (T := kT8) (N := 38) rfl kjn8 (by decide +kernel) rfl kf_8_180 kt8 kty8 knm8 rfl (by decide +kernel)) (And.intro (s_iload_n d_118_5 rfl) (And.intro (s_if_lt d_118_6 (by decide +kernel)) (And.intro (s_iload_n d_118_9 rfl) (And.intro (s_bipush d_118_10 (by decide +kernel)) (And.intro (s_icmp_gt d_118_12 (by decide +kernel)) (And.intro (s_iload_n d_118_15 rfl) (And.intro (s_iconst d_118_16 (by decide +kernel)) (And.intro (s_cs d_118_17 kl_8_187 k_st_119 rfl kok_119 rfl (by decide +kernel) rfl) (And.intro (s_if_eq d_118_20 (by decide +kernel)) (And.intro (s_aload_n d_118_23 rfl) (And.intro (s_iload_n d_118_24 rfl) (And.intro (s_cv d_118_25 kl_8_190 k_im_120 k_se_120 kok_120 rfl (by decide +kernel) rfl rfl) (And.intro (s_if_eq d_118_28 (by decide +kernel)) (And.intro (s_iload_n d_118_31 rfl) (And.intro (s_iconst d_118_32 (by decide +kernel)) (And.intro (s_cs d_118_33 kl_8_187 k_st_119 rfl kok_119 rfl (by decide +kernel) rfl) (And.intro (s_if_eq d_118_36 (by decide +kernel)) (And.intro (s_aload_n d_118_39 rfl) (And.intro (s_iload_n d_118_40 rfl) (And.intro (s_cv d_118_41 kl_8_190 k_im_120 k_se_120 kok_120 rfl (by decide +kernel) rfl rfl) (And.intro (s_if_eq d_118_44 (by decide +kernel)) (And.intro (s_iconst d_118_47 (by decide +kernel)) (And.intro (s_goto d_118_48 (by decide +kernel)) (And.intro (s_iconst d_118_51 (by decide +kernel)) (And.intro (s_istore d_118_52 (by decide +kernel)) (And.intro (s_iload d_118_54) (And.intro (s_if_eq d_118_56 (by decide +kernel)) (And.intro (s_iload_n d_118_59 rfl) (And.intro (s_if_eq d_118_60 (by decide +kernel)) (And.intro (s_iload_n d_118_63 rfl) (And.intro (s_iconst d_118_64 (by decide +kernel)) (And.intro (s_icmp_eq d_118_65 (by decide +kernel)) (And.intro (s_iload_n d_118_68 rfl) (And.intro (s_iconst d_118_69 (by decide +kernel)) (And.intro (s_icmp_eq d_118_70 (by decide +kernel)) (And.intro (s_iload_n d_118_73 rfl) (And.intro (s_iconst d_118_74 (by decide +kernel)) (And.intro (s_icmp_ne d_118_75 (by decide +kernel)) (And.intro (s_aload_n d_118_78 rfl) (And.intro (s_iload_n d_118_79 rfl) (And.intro (s_cv d_118_80 kl_8_167 k_im_107 k_se_107 kok_107 rfl (by decide +kernel) rfl rfl) (And.intro (s_istore d_118_83 (by decide +kernel)) (And.intro (s_iload d_118_85) (And.intro (s_if_eq d_118_87 (by decide +kernel)) (And.intro (s_iload_n d_118_90 rfl) (And.intro (s_bipush d_118_91 (by decide +kernel)) (And.intro (s_icmp_ne d_118_93 (by decide +kernel)) (And.intro (s_aload_n d_118_96 rfl) (And.intro (s_iload_n d_118_97 rfl) (And.intro (s_cv d_118_98 kl_8_167 k_im_107 k_se_107 kok_107 rfl (by decide +kernel) rfl rfl) (And.intro (s_if_eq d_118_101 (by decide +kernel)) (And.intro (s_aload_n d_118_104 rfl) (And.intro (s_iload d_118_105) (And.intro (s_cv d_118_107 kl_8_167 k_im_107 k_se_107 kok_107 rfl (by decide +kernel) rfl rfl) (And.intro (s_if_eq d_118_110 (by decide +kernel)) (And.intro (s_iconst d_118_113 (by decide +kernel)) (And.intro (s_goto d_118_114 (by decide +kernel)) (And.intro (s_iconst d_118_117 (by decide +kernel)) (And.intro (s_istore d_118_118 (by decide +kernel)) (And.intro (s_iload d_118_120) (And.intro (s_if_eq d_118_122 (by decide +kernel)) (And.intro (s_iload_n d_118_125 rfl) (And.intro (s_bipush d_118_126 (by decide +kernel)) (And.intro (s_icmp_ne d_118_128 (by decide +kernel)) (And.intro (s_aload_n d_118_131 rfl) (And.intro (s_iload_n d_118_132 rfl) (And.intro (s_cv d_118_133 kl_8_160 k_im_99 k_se_99 kok_99 rfl (by decide +kernel) rfl rfl) (And.intro (s_if_eq d_118_136 (by decide +kernel)) (And.intro (s_aload_n d_118_139 rfl) (And.intro (s_iload d_118_140) (And.intro (s_cv d_118_142 kl_8_160 k_im_99 k_se_99 kok_99 rfl (by decide +kernel) rfl rfl) (And.intro (s_if_eq d_118_145 (by decide +kernel)) (And.intro (s_iconst d_118_148 (by decide +kernel)) (And.intro (s_goto d_118_149 (by decide +kernel)) (And.intro (s_iconst d_118_152 (by decide +kernel)) (And.intro (s_istore d_118_153 (by decide +kernel)) (And.intro (s_iload d_118_155) (And.intro (s_if_ne d_118_157 (by decide +kernel)) (And.intro (s_iconst d_118_160 (by decide +kernel)) (And.intro (s_goto d_118_161 (by decide +kernel)) (And.intro (s_iload_n d_118_164 rfl) (And.intro (s_iconst d_118_165 (by decide +kernel)) (And.intro (s_icmp_ge d_118_166 (by decide +kernel)) (And.intro (s_aload_n d_118_169 rfl) (And.intro (s_iload_n d_118_170 rfl) (And.intro (s_iload_n d_118_171 rfl) (And.intro (s_iload_n d_118_172 rfl) (And.intro (s_cv d_118_173 kl_8_193 k_im_121 k_se_121 kok_121 rfl (by decide +kernel) rfl rfl) (And.intro (s_goto d_118_176 (by decide +kernel)) (And.intro (s_iload_n d_118_179 rfl) (And.intro (s_bipush d_118_180 (by decide +kernel)) (And.intro (s_icmp_ge d_118_182 (by decide +kernel)) (And.intro (s_aload_n d_118_185 rfl) (And.intro (s_iload_n d_118_186 rfl) (And.intro (s_iload_n d_118_187 rfl) (And.intro (s_iload_n d_118_188 rfl) (And.intro (s_cv d_118_189 kl_8_196 k_im_128 k_se_128 kok_128 rfl (by decide +kernel) rfl rfl) (And.intro (s_goto d_118_192 (by decide +kernel)) (And.intro (s_aload_n d_118_195 rfl) (And.intro (s_iload_n d_118_196 rfl) (And.intro (s_iload_n d_118_197 rfl) (And.intro (s_iload_n d_118_198 rfl) (And.intro (s_iload d_118_199) (And.intro (s_cv d_118_201 kl_8_199 k_im_129 k_se_129 kok_129 rfl (by decide +kernel) rfl rfl) (And.intro (s_istore d_118_204 (by decide +kernel)) (And.intro (s_iload d_118_206) (And.intro (s_if_ge d_118_208 (by decide +kernel)) (And.intro (s_aload_n d_118_211 rfl) (And.intro (s_iconst d_118_212 (by decide +kernel)) (And.intro (s_putz d_118_213 (C := kR8) (T := kT8) (N := 38) rfl kjn8 (by decide +kernel) rfl kf_8_93 kt8 kty8 knm8 rfl (by decide +kernel)) (And.intro (s_aload_n d_118_216 rfl) (And.intro (s_get d_118_217 (C := kR8) (T := kT8) (N := 38) rfl kjn8 (by decide +kernel) rfl kf_8_93) (And.intro (s_if_eq d_118_220 (by decide +kernel)) (And.intro (s_iconst d_118_223 (by decide +kernel)) (And.intro (s_goto d_118_224 (by decide +kernel)) (And.intro (s_aload_n d_118_227 rfl) (And.intro (s_iload d_118_228) (And.intro (s_cv d_118_230 kl_8_202 k_im_130 k_se_130 kok_130 rfl (by decide +kernel) rfl rfl) (And.intro (s_ret d_118_233 rfl) (True.intro))))))))))))))))))))))))))))))))))))))))))))))))))))))))))))))))))))))))))))))))))))))))))))))))))))))))))))))))))))))))))
