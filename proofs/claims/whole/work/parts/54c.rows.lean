/-! printed: each instruction is sound -/
theorem d_51_0 : decode (kby 51) 0 = .ok (.iconst 0, 1) := by decide +kernel
theorem d_51_1 : decode (kby 51) 1 = .ok (.istore_n 2, 1) := by decide +kernel
theorem d_51_2 : decode (kby 51) 2 = .ok (.iload_n 2, 1) := by decide +kernel
theorem d_51_3 : decode (kby 51) 3 = .ok (.aload_n 0, 1) := by decide +kernel
theorem d_51_4 : decode (kby 51) 4 = .ok (.getfield 43, 3) := by decide +kernel
theorem d_51_7 : decode (kby 51) 7 = .ok (.if_icmp .ge 20, 3) := by decide +kernel
theorem d_51_10 : decode (kby 51) 10 = .ok (.aload_n 0, 1) := by decide +kernel
theorem d_51_11 : decode (kby 51) 11 = .ok (.getfield 21, 3) := by decide +kernel
theorem d_51_14 : decode (kby 51) 14 = .ok (.iload_n 2, 1) := by decide +kernel
theorem d_51_15 : decode (kby 51) 15 = .ok (.iaload, 1) := by decide +kernel
theorem d_51_16 : decode (kby 51) 16 = .ok (.iload_n 1, 1) := by decide +kernel
theorem d_51_17 : decode (kby 51) 17 = .ok (.if_icmp .ne 4, 3) := by decide +kernel
theorem d_51_20 : decode (kby 51) 20 = .ok (.return_, 1) := by decide +kernel
theorem d_51_21 : decode (kby 51) 21 = .ok (.iinc 2 1, 3) := by decide +kernel
theorem d_51_24 : decode (kby 51) 24 = .ok (.goto (-22), 3) := by decide +kernel
theorem d_51_27 : decode (kby 51) 27 = .ok (.iload_n 1, 1) := by decide +kernel
theorem d_51_28 : decode (kby 51) 28 = .ok (.ifCond .lt 12, 3) := by decide +kernel
theorem d_51_31 : decode (kby 51) 31 = .ok (.aload_n 0, 1) := by decide +kernel
theorem d_51_32 : decode (kby 51) 32 = .ok (.getfield 43, 3) := by decide +kernel
theorem d_51_35 : decode (kby 51) 35 = .ok (.bipush 12, 2) := by decide +kernel
theorem d_51_37 : decode (kby 51) 37 = .ok (.if_icmp .lt 9, 3) := by decide +kernel
theorem d_51_40 : decode (kby 51) 40 = .ok (.aload_n 0, 1) := by decide +kernel
theorem d_51_41 : decode (kby 51) 41 = .ok (.iconst 1, 1) := by decide +kernel
theorem d_51_42 : decode (kby 51) 42 = .ok (.putfield 46, 3) := by decide +kernel
theorem d_51_45 : decode (kby 51) 45 = .ok (.return_, 1) := by decide +kernel
theorem d_51_46 : decode (kby 51) 46 = .ok (.aload_n 0, 1) := by decide +kernel
theorem d_51_47 : decode (kby 51) 47 = .ok (.getfield 21, 3) := by decide +kernel
theorem d_51_50 : decode (kby 51) 50 = .ok (.aload_n 0, 1) := by decide +kernel
theorem d_51_51 : decode (kby 51) 51 = .ok (.getfield 43, 3) := by decide +kernel
theorem d_51_54 : decode (kby 51) 54 = .ok (.iload_n 1, 1) := by decide +kernel
theorem d_51_55 : decode (kby 51) 55 = .ok (.iastore, 1) := by decide +kernel
theorem d_51_56 : decode (kby 51) 56 = .ok (.aload_n 0, 1) := by decide +kernel
theorem d_51_57 : decode (kby 51) 57 = .ok (.dup, 1) := by decide +kernel
theorem d_51_58 : decode (kby 51) 58 = .ok (.getfield 43, 3) := by decide +kernel
theorem d_51_61 : decode (kby 51) 61 = .ok (.iconst 1, 1) := by decide +kernel
theorem d_51_62 : decode (kby 51) 62 = .ok (.iadd, 1) := by decide +kernel
theorem d_51_63 : decode (kby 51) 63 = .ok (.putfield 43, 3) := by decide +kernel
theorem d_51_66 : decode (kby 51) 66 = .ok (.return_, 1) := by decide +kernel
set_option maxRecDepth 100000 in
theorem ka_51 : kall 51 0 kc_51 := And.intro (s_iconst d_51_0 (by decide +kernel)) (And.intro (s_istore_n d_51_1 rfl (by decide +kernel)) (And.intro (s_iload_n d_51_2 rfl) (And.intro (s_aload_n d_51_3 rfl) (And.intro (s_get d_51_4 (C := kR4) (T := kT4) (N := 8) rfl kjn4 (by decide +kernel) rfl kf_4_43) (And.intro (s_icmp_ge d_51_7 (by decide +kernel)) (And.intro (s_aload_n d_51_10 rfl) (And.intro (s_get d_51_11 (C := kR4) (T := kT4) (N := 8) rfl kjn4 (by decide +kernel) rfl kf_4_21) (And.intro (s_iload_n d_51_14 rfl) (And.intro (s_iaload d_51_15) (And.intro (s_iload_n d_51_16 rfl) (And.intro (s_icmp_ne d_51_17 (by decide +kernel)) (And.intro (s_rv d_51_20 rfl) (And.intro (s_iinc d_51_21 (by decide +kernel) (by decide +kernel)) (And.intro (s_goto d_51_24 (by decide +kernel)) (And.intro (s_iload_n d_51_27 rfl) (And.intro (s_if_lt d_51_28 (by decide +kernel)) (And.intro (s_aload_n d_51_31 rfl) (And.intro (s_get d_51_32 (C := kR4) (T := kT4) (N := 8) rfl kjn4 (by decide +kernel) rfl kf_4_43) (And.intro (s_bipush d_51_35 (by decide +kernel)) (And.intro (s_icmp_lt d_51_37 (by decide +kernel)) (And.intro (s_aload_n d_51_40 rfl) (And.intro (s_iconst d_51_41 (by decide +kernel)) (And.intro (s_putz d_51_42 (C := kR4) (T := kT4) (N := 8) rfl kjn4 (by decide +kernel) rfl kf_4_46 kt4 kty4 knm4 rfl (by decide +kernel)) (And.intro (s_rv d_51_45 rfl) (And.intro (s_aload_n d_51_46 rfl) (And.intro (s_get d_51_47 (C := kR4) (T := kT4) (N := 8) rfl kjn4 (by decide +kernel) rfl kf_4_21) (And.intro (s_aload_n d_51_50 rfl) (And.intro (s_get d_51_51 (C := kR4) (T := kT4) (N := 8) rfl kjn4 (by decide +kernel) rfl kf_4_43) (And.intro (s_iload_n d_51_54 rfl) (And.intro (s_iastore d_51_55) (And.intro (s_aload_n d_51_56 rfl) (And.intro (s_dup d_51_57) (And.intro (s_get d_51_58 (C := kR4) (T := kT4) (N := 8) rfl kjn4 (by decide +kernel) rfl kf_4_43) (And.intro (s_iconst d_51_61 (by decide +kernel)) (And.intro (s_iadd d_51_62) (And.intro (s_put d_51_63 (C := kR4) (T := kT4) (N := 8) rfl kjn4 (by decide +kernel) rfl kf_4_43 kt4 kty4 knm4 rfl (by decide +kernel)) (And.intro (s_rv d_51_66 rfl) (True.intro))))))))))))))))))))))))))))))))))))))
theorem d_52_0 : decode (kby 52) 0 = .ok (.aload_n 0, 1) := by decide +kernel
theorem d_52_1 : decode (kby 52) 1 = .ok (.iload_n 1, 1) := by decide +kernel
theorem d_52_2 : decode (kby 52) 2 = .ok (.invokevirtual 125, 3) := by decide +kernel
theorem d_52_5 : decode (kby 52) 5 = .ok (.istore_n 3, 1) := by decide +kernel
theorem d_52_6 : decode (kby 52) 6 = .ok (.aload_n 0, 1) := by decide +kernel
theorem d_52_7 : decode (kby 52) 7 = .ok (.iload_n 2, 1) := by decide +kernel
theorem d_52_8 : decode (kby 52) 8 = .ok (.invokevirtual 125, 3) := by decide +kernel
theorem d_52_11 : decode (kby 52) 11 = .ok (.istore 4, 2) := by decide +kernel
theorem d_52_13 : decode (kby 52) 13 = .ok (.iload_n 3, 1) := by decide +kernel
theorem d_52_14 : decode (kby 52) 14 = .ok (.ifCond .lt 8, 3) := by decide +kernel
theorem d_52_17 : decode (kby 52) 17 = .ok (.iload 4, 2) := by decide +kernel
theorem d_52_19 : decode (kby 52) 19 = .ok (.ifCond .ge 5, 3) := by decide +kernel
theorem d_52_22 : decode (kby 52) 22 = .ok (.iconst (-1), 1) := by decide +kernel
theorem d_52_23 : decode (kby 52) 23 = .ok (.ireturn, 1) := by decide +kernel
theorem d_52_24 : decode (kby 52) 24 = .ok (.aload_n 0, 1) := by decide +kernel
theorem d_52_25 : decode (kby 52) 25 = .ok (.getfield 15, 3) := by decide +kernel
theorem d_52_28 : decode (kby 52) 28 = .ok (.iload_n 3, 1) := by decide +kernel
theorem d_52_29 : decode (kby 52) 29 = .ok (.iload 4, 2) := by decide +kernel
theorem d_52_31 : decode (kby 52) 31 = .ok (.invokevirtual 133, 3) := by decide +kernel
theorem d_52_34 : decode (kby 52) 34 = .ok (.istore 5, 2) := by decide +kernel
theorem d_52_36 : decode (kby 52) 36 = .ok (.aload_n 0, 1) := by decide +kernel
theorem d_52_37 : decode (kby 52) 37 = .ok (.getfield 15, 3) := by decide +kernel
theorem d_52_40 : decode (kby 52) 40 = .ok (.aload_n 0, 1) := by decide +kernel
theorem d_52_41 : decode (kby 52) 41 = .ok (.iload_n 1, 1) := by decide +kernel
theorem d_52_42 : decode (kby 52) 42 = .ok (.invokevirtual 126, 3) := by decide +kernel
theorem d_52_45 : decode (kby 52) 45 = .ok (.aload_n 0, 1) := by decide +kernel
theorem d_52_46 : decode (kby 52) 46 = .ok (.iload_n 2, 1) := by decide +kernel
theorem d_52_47 : decode (kby 52) 47 = .ok (.invokevirtual 126, 3) := by decide +kernel
theorem d_52_50 : decode (kby 52) 50 = .ok (.invokevirtual 133, 3) := by decide +kernel
theorem d_52_53 : decode (kby 52) 53 = .ok (.istore 6, 2) := by decide +kernel
theorem d_52_55 : decode (kby 52) 55 = .ok (.aload_n 0, 1) := by decide +kernel
theorem d_52_56 : decode (kby 52) 56 = .ok (.iload_n 1, 1) := by decide +kernel
theorem d_52_57 : decode (kby 52) 57 = .ok (.iload_n 2, 1) := by decide +kernel
theorem d_52_58 : decode (kby 52) 58 = .ok (.aload_n 0, 1) := by decide +kernel
theorem d_52_59 : decode (kby 52) 59 = .ok (.getfield 15, 3) := by decide +kernel
theorem d_52_62 : decode (kby 52) 62 = .ok (.iload 5, 2) := by decide +kernel
theorem d_52_64 : decode (kby 52) 64 = .ok (.iload 6, 2) := by decide +kernel
theorem d_52_66 : decode (kby 52) 66 = .ok (.invokevirtual 122, 3) := by decide +kernel
theorem d_52_69 : decode (kby 52) 69 = .ok (.invokevirtual 129, 3) := by decide +kernel
theorem d_52_72 : decode (kby 52) 72 = .ok (.ireturn, 1) := by decide +kernel
set_option maxRecDepth 100000 in
theorem ka_52 : kall 52 0 kc_52 := And.intro (s_aload_n d_52_0 rfl) (And.intro (s_iload_n d_52_1 rfl) (And.intro (s_cv d_52_2 kl_6_125 k_im_40 k_se_40 kok_40 rfl (by decide +kernel) rfl rfl) (And.intro (s_istore_n d_52_5 rfl (by decide +kernel)) (And.intro (s_aload_n d_52_6 rfl) (And.intro (s_iload_n d_52_7 rfl) (And.intro (s_cv d_52_8 kl_6_125 k_im_40 k_se_40 kok_40 rfl (by decide +kernel) rfl rfl) (And.intro (s_istore d_52_11 (by decide +kernel)) (And.intro (s_iload_n d_52_13 rfl) (And.intro (s_if_lt d_52_14 (by decide +kernel)) (And.intro (s_iload d_52_17) (And.intro (s_if_ge d_52_19 (by decide +kernel)) (And.intro (s_iconst d_52_22 (by decide +kernel)) (And.intro (s_ret d_52_23 rfl) (And.intro (s_aload_n d_52_24 rfl) (And.intro (s_get d_52_25 (C := kR6) (T := kT6) (N := 6) rfl kjn6 (by decide +kernel) rfl kf_6_15) (And.intro (s_iload_n d_52_28 rfl) (And.intro (s_iload d_52_29) (And.intro (s_cv d_52_31 kl_6_133 k_im_16 k_se_16 kok_16 rfl (by decide +kernel) rfl rfl) (And.intro (s_istore d_52_34 (by decide +kernel)) (And.intro (s_aload_n d_52_36 rfl) (And.intro (s_get d_52_37 (C := kR6) (T := kT6) (N := 6) rfl kjn6 (by decide +kernel) rfl kf_6_15) (And.intro (s_aload_n d_52_40 rfl) (And.intro (s_iload_n d_52_41 rfl) (And.intro (s_cv d_52_42 kl_6_126 k_im_45 k_se_45 kok_45 rfl (by decide +kernel) rfl rfl) (And.intro (s_aload_n d_52_45 rfl) (And.intro (s_iload_n d_52_46 rfl) (And.intro (s_cv d_52_47 kl_6_126 k_im_45 k_se_45 kok_45 rfl (by decide +kernel) rfl rfl) (And.intro (s_cv d_52_50 kl_6_133 k_im_16 k_se_16 kok_16 rfl (by decide +kernel) rfl rfl) (And.intro (s_istore d_52_53 (by decide +kernel)) (And.intro (s_aload_n d_52_55 rfl) (And.intro (s_iload_n d_52_56 rfl) (And.intro (s_iload_n d_52_57 rfl) (And.intro (s_aload_n d_52_58 rfl) (And.intro (s_get d_52_59 (C := kR6) (T := kT6) (N := 6) rfl kjn6 (by decide +kernel) rfl kf_6_15) (And.intro (s_iload d_52_62) (And.intro (s_iload d_52_64) (And.intro (s_cv d_52_66 kl_6_122 k_im_34 k_se_34 kok_34 rfl (by decide +kernel) rfl rfl) (And.intro (s_cv d_52_69 kl_6_129 k_im_47 k_se_47 kok_47 rfl (by decide +kernel) rfl rfl) (And.intro (s_ret d_52_72 rfl) (True.intro))))))))))))))))))))))))))))))))))))))))
theorem d_53_0 : decode (kby 53) 0 = .ok (.aload_n 0, 1) := by decide +kernel
theorem d_53_1 : decode (kby 53) 1 = .ok (.iload_n 2, 1) := by decide +kernel
theorem d_53_2 : decode (kby 53) 2 = .ok (.invokevirtual 125, 3) := by decide +kernel
theorem d_53_5 : decode (kby 53) 5 = .ok (.istore_n 3, 1) := by decide +kernel
theorem d_53_6 : decode (kby 53) 6 = .ok (.iload_n 3, 1) := by decide +kernel
theorem d_53_7 : decode (kby 53) 7 = .ok (.ifCond .lt 23, 3) := by decide +kernel
theorem d_53_10 : decode (kby 53) 10 = .ok (.aload_n 0, 1) := by decide +kernel
theorem d_53_11 : decode (kby 53) 11 = .ok (.getfield 15, 3) := by decide +kernel
theorem d_53_14 : decode (kby 53) 14 = .ok (.iload_n 1, 1) := by decide +kernel
theorem d_53_15 : decode (kby 53) 15 = .ok (.invokevirtual 136, 3) := by decide +kernel
theorem d_53_18 : decode (kby 53) 18 = .ok (.ifCond .ne 12, 3) := by decide +kernel
theorem d_53_21 : decode (kby 53) 21 = .ok (.aload_n 0, 1) := by decide +kernel
theorem d_53_22 : decode (kby 53) 22 = .ok (.iload_n 1, 1) := by decide +kernel
theorem d_53_23 : decode (kby 53) 23 = .ok (.iload_n 2, 1) := by decide +kernel
theorem d_53_24 : decode (kby 53) 24 = .ok (.invokevirtual 139, 3) := by decide +kernel
theorem d_53_27 : decode (kby 53) 27 = .ok (.ifCond .eq 5, 3) := by decide +kernel
theorem d_53_30 : decode (kby 53) 30 = .ok (.iconst (-1), 1) := by decide +kernel
theorem d_53_31 : decode (kby 53) 31 = .ok (.ireturn, 1) := by decide +kernel
theorem d_53_32 : decode (kby 53) 32 = .ok (.aload_n 0, 1) := by decide +kernel
theorem d_53_33 : decode (kby 53) 33 = .ok (.getfield 19, 3) := by decide +kernel
theorem d_53_36 : decode (kby 53) 36 = .ok (.iload_n 2, 1) := by decide +kernel
theorem d_53_37 : decode (kby 53) 37 = .ok (.iconst (-1), 1) := by decide +kernel
theorem d_53_38 : decode (kby 53) 38 = .ok (.invokevirtual 115, 3) := by decide +kernel
theorem d_53_41 : decode (kby 53) 41 = .ok (.aload_n 0, 1) := by decide +kernel
theorem d_53_42 : decode (kby 53) 42 = .ok (.getfield 23, 3) := by decide +kernel
theorem d_53_45 : decode (kby 53) 45 = .ok (.iload_n 1, 1) := by decide +kernel
theorem d_53_46 : decode (kby 53) 46 = .ok (.iload_n 3, 1) := by decide +kernel
theorem d_53_47 : decode (kby 53) 47 = .ok (.invokevirtual 142, 3) := by decide +kernel
theorem d_53_50 : decode (kby 53) 50 = .ok (.istore 4, 2) := by decide +kernel
theorem d_53_52 : decode (kby 53) 52 = .ok (.aload_n 0, 1) := by decide +kernel
theorem d_53_53 : decode (kby 53) 53 = .ok (.getfield 19, 3) := by decide +kernel
theorem d_53_56 : decode (kby 53) 56 = .ok (.aload_n 0, 1) := by decide +kernel
theorem d_53_57 : decode (kby 53) 57 = .ok (.getfield 15, 3) := by decide +kernel
theorem d_53_60 : decode (kby 53) 60 = .ok (.iload 4, 2) := by decide +kernel
theorem d_53_62 : decode (kby 53) 62 = .ok (.aload_n 0, 1) := by decide +kernel
theorem d_53_63 : decode (kby 53) 63 = .ok (.getfield 23, 3) := by decide +kernel
theorem d_53_66 : decode (kby 53) 66 = .ok (.iload_n 1, 1) := by decide +kernel
theorem d_53_67 : decode (kby 53) 67 = .ok (.aload_n 0, 1) := by decide +kernel
theorem d_53_68 : decode (kby 53) 68 = .ok (.iload_n 2, 1) := by decide +kernel
theorem d_53_69 : decode (kby 53) 69 = .ok (.invokevirtual 126, 3) := by decide +kernel
theorem d_53_72 : decode (kby 53) 72 = .ok (.invokevirtual 142, 3) := by decide +kernel
theorem d_53_75 : decode (kby 53) 75 = .ok (.invokevirtual 122, 3) := by decide +kernel
theorem d_53_78 : decode (kby 53) 78 = .ok (.invokevirtual 119, 3) := by decide +kernel
theorem d_53_81 : decode (kby 53) 81 = .ok (.ireturn, 1) := by decide +kernel
set_option maxRecDepth 100000 in
theorem ka_53 : kall 53 0 kc_53 := And.intro (s_aload_n d_53_0 rfl) (And.intro (s_iload_n d_53_1 rfl) (And.intro (s_cv d_53_2 kl_6_125 k_im_40 k_se_40 kok_40 rfl (by decide +kernel) rfl rfl) (And.intro (s_istore_n d_53_5 rfl (by decide +kernel)) (And.intro (s_iload_n d_53_6 rfl) (And.intro (s_if_lt d_53_7 (by decide +kernel)) (And.intro (s_aload_n d_53_10 rfl) (And.intro (s_get d_53_11 (C := kR6) (T := kT6) (N := 6) rfl kjn6 (by decide +kernel) rfl kf_6_15) (And.intro (s_iload_n d_53_14 rfl) (And.intro (s_cv d_53_15 kl_6_136 k_im_20 k_se_20 kok_20 rfl (by decide +kernel) rfl rfl) (And.intro (s_if_ne d_53_18 (by decide +kernel)) (And.intro (s_aload_n d_53_21 rfl) (And.intro (s_iload_n d_53_22 rfl) (And.intro (s_iload_n d_53_23 rfl) (And.intro (s_cv d_53_24 kl_6_139 k_im_54 k_se_54 kok_54 rfl (by decide +kernel) rfl rfl) (And.intro (s_if_eq d_53_27 (by decide +kernel)) (And.intro (s_iconst d_53_30 (by decide +kernel)) (And.intro (s_ret d_53_31 rfl) (And.intro (s_aload_n d_53_32 rfl) (And.intro (s_get d_53_33 (C := kR6) (T := kT6) (N := 6) rfl kjn6 (by decide +kernel) rfl kf_6_19) (And.intro (s_iload_n d_53_36 rfl) (And.intro (s_iconst d_53_37 (by decide +kernel)) (And.intro (s_cw d_53_38 kl_6_115 k_im_48 k_se_48 kok_48 rfl (by decide +kernel) rfl rfl) (And.intro (s_aload_n d_53_41 rfl) (And.intro (s_get d_53_42 (C := kR6) (T := kT6) (N := 6) rfl kjn6 (by decide +kernel) rfl kf_6_23) (And.intro (s_iload_n d_53_45 rfl) (And.intro (s_iload_n d_53_46 rfl) (And.intro (s_cv d_53_47 kl_6_142 k_im_19 k_se_19 kok_19 rfl (by decide +kernel) rfl rfl) (And.intro (s_istore d_53_50 (by decide +kernel)) (And.intro (s_aload_n d_53_52 rfl) (And.intro (s_get d_53_53 (C := kR6) (T := kT6) (N := 6) rfl kjn6 (by decide +kernel) rfl kf_6_19) (And.intro (s_aload_n d_53_56 rfl) (And.intro (s_get d_53_57 (C := kR6) (T := kT6) (N := 6) rfl kjn6 (by decide +kernel) rfl kf_6_15) (And.intro (s_iload d_53_60) (And.intro (s_aload_n d_53_62 rfl) (And.intro (s_get d_53_63 (C := kR6) (T := kT6) (N := 6) rfl kjn6 (by decide +kernel) rfl kf_6_23) (And.intro (s_iload_n d_53_66 rfl) (And.intro (s_aload_n d_53_67 rfl) (And.intro (s_iload_n d_53_68 rfl) (And.intro (s_cv d_53_69 kl_6_126 k_im_45 k_se_45 kok_45 rfl (by decide +kernel) rfl rfl) (And.intro (s_cv d_53_72 kl_6_142 k_im_19 k_se_19 kok_19 rfl (by decide +kernel) rfl rfl) (And.intro (s_cv d_53_75 kl_6_122 k_im_34 k_se_34 kok_34 rfl (by decide +kernel) rfl rfl) (And.intro (s_cv d_53_78 kl_6_119 k_im_36 k_se_36 kok_36 rfl (by decide +kernel) rfl rfl) (And.intro (s_ret d_53_81 rfl) (True.intro))))))))))))))))))))))))))))))))))))))))))))
theorem d_54_0 : decode (kby 54) 0 = .ok (.aload_n 0, 1) := by decide +kernel
theorem d_54_1 : decode (kby 54) 1 = .ok (.getfield 15, 3) := by decide +kernel
theorem d_54_4 : decode (kby 54) 4 = .ok (.iload_n 1, 1) := by decide +kernel
theorem d_54_5 : decode (kby 54) 5 = .ok (.invokevirtual 147, 3) := by decide +kernel
theorem d_54_8 : decode (kby 54) 8 = .ok (.iconst 0, 1) := by decide +kernel
theorem d_54_9 : decode (kby 54) 9 = .ok (.istore_n 3, 1) := by decide +kernel
theorem d_54_10 : decode (kby 54) 10 = .ok (.iload_n 3, 1) := by decide +kernel
theorem d_54_11 : decode (kby 54) 11 = .ok (.aload_n 0, 1) := by decide +kernel
theorem d_54_12 : decode (kby 54) 12 = .ok (.getfield 19, 3) := by decide +kernel
theorem d_54_15 : decode (kby 54) 15 = .ok (.iload_n 2, 1) := by decide +kernel
theorem d_54_16 : decode (kby 54) 16 = .ok (.invokevirtual 151, 3) := by decide +kernel
theorem d_54_19 : decode (kby 54) 19 = .ok (.if_icmp .ge 31, 3) := by decide +kernel
theorem d_54_22 : decode (kby 54) 22 = .ok (.aload_n 0, 1) := by decide +kernel
theorem d_54_23 : decode (kby 54) 23 = .ok (.getfield 15, 3) := by decide +kernel
theorem d_54_26 : decode (kby 54) 26 = .ok (.getfield 154, 3) := by decide +kernel
theorem d_54_29 : decode (kby 54) 29 = .ok (.aload_n 0, 1) := by decide +kernel
theorem d_54_30 : decode (kby 54) 30 = .ok (.getfield 19, 3) := by decide +kernel
theorem d_54_33 : decode (kby 54) 33 = .ok (.iload_n 2, 1) := by decide +kernel
theorem d_54_34 : decode (kby 54) 34 = .ok (.iload_n 3, 1) := by decide +kernel
theorem d_54_35 : decode (kby 54) 35 = .ok (.invokevirtual 158, 3) := by decide +kernel
theorem d_54_38 : decode (kby 54) 38 = .ok (.baload, 1) := by decide +kernel
theorem d_54_39 : decode (kby 54) 39 = .ok (.ifCond .eq 5, 3) := by decide +kernel
theorem d_54_42 : decode (kby 54) 42 = .ok (.iconst 1, 1) := by decide +kernel
theorem d_54_43 : decode (kby 54) 43 = .ok (.ireturn, 1) := by decide +kernel
theorem d_54_44 : decode (kby 54) 44 = .ok (.iinc 3 1, 3) := by decide +kernel
theorem d_54_47 : decode (kby 54) 47 = .ok (.goto (-37), 3) := by decide +kernel
theorem d_54_50 : decode (kby 54) 50 = .ok (.iconst 0, 1) := by decide +kernel
theorem d_54_51 : decode (kby 54) 51 = .ok (.ireturn, 1) := by decide +kernel
set_option maxRecDepth 100000 in
theorem ka_54 : kall 54 0 kc_54 := And.intro (s_aload_n d_54_0 rfl) (And.intro (s_get d_54_1 (C := kR6) (T := kT6) (N := 6) rfl kjn6 (by decide +kernel) rfl kf_6_15) (And.intro (s_iload_n d_54_4 rfl) (And.intro (s_cw d_54_5 kl_6_147 k_im_55 k_se_55 kok_55 rfl (by decide +kernel) rfl rfl) (And.intro (s_iconst d_54_8 (by decide +kernel)) (And.intro (s_istore_n d_54_9 rfl (by decide +kernel)) (And.intro (s_iload_n d_54_10 rfl) (And.intro (s_aload_n d_54_11 rfl) (And.intro (s_get d_54_12 (C := kR6) (T := kT6) (N := 6) rfl kjn6 (by decide +kernel) rfl kf_6_19) (And.intro (s_iload_n d_54_15 rfl) (And.intro (s_cv d_54_16 kl_6_151 k_im_49 k_se_49 kok_49 rfl (by decide +kernel) rfl rfl) (And.intro (s_icmp_ge d_54_19 (by decide +kernel)) (And.intro (s_aload_n d_54_22 rfl) (And.intro (s_get d_54_23 (C := kR6) (T := kT6) (N := 6) rfl kjn6 (by decide +kernel) rfl kf_6_15) (And.intro (s_get d_54_26 (C := kR3) (T := kT3) (N := 15) rfl kjn3 (by decide +kernel) rfl kf_6_154) (And.intro (s_aload_n d_54_29 rfl) (And.intro (s_get d_54_30 (C := kR6) (T := kT6) (N := 6) rfl kjn6 (by decide +kernel) rfl kf_6_19) (And.intro (s_iload_n d_54_33 rfl) (And.intro (s_iload_n d_54_34 rfl) (And.intro (s_cv d_54_35 kl_6_158 k_im_50 k_se_50 kok_50 rfl (by decide +kernel) rfl rfl) (And.intro (s_baload d_54_38) (And.intro (s_if_eq d_54_39 (by decide +kernel)) (And.intro (s_iconst d_54_42 (by decide +kernel)) (And.intro (s_retz d_54_43 rfl) (And.intro (s_iinc d_54_44 (by decide +kernel) (by decide +kernel)) (And.intro (s_goto d_54_47 (by decide +kernel)) (And.intro (s_iconst d_54_50 (by decide +kernel)) (And.intro (s_retz d_54_51 rfl) (True.intro))))))))))))))))))))))))))))
theorem d_55_0 : decode (kby 55) 0 = .ok (.iconst 0, 1) := by decide +kernel
theorem d_55_1 : decode (kby 55) 1 = .ok (.istore_n 2, 1) := by decide +kernel
theorem d_55_2 : decode (kby 55) 2 = .ok (.iload_n 2, 1) := by decide +kernel
theorem d_55_3 : decode (kby 55) 3 = .ok (.aload_n 0, 1) := by decide +kernel
theorem d_55_4 : decode (kby 55) 4 = .ok (.getfield 65, 3) := by decide +kernel
theorem d_55_7 : decode (kby 55) 7 = .ok (.if_icmp .ge 61, 3) := by decide +kernel
theorem d_55_10 : decode (kby 55) 10 = .ok (.aload_n 0, 1) := by decide +kernel
theorem d_55_11 : decode (kby 55) 11 = .ok (.getfield 37, 3) := by decide +kernel
theorem d_55_14 : decode (kby 55) 14 = .ok (.iload_n 2, 1) := by decide +kernel
theorem d_55_15 : decode (kby 55) 15 = .ok (.iload_n 2, 1) := by decide +kernel
theorem d_55_16 : decode (kby 55) 16 = .ok (.iload_n 1, 1) := by decide +kernel
theorem d_55_17 : decode (kby 55) 17 = .ok (.if_icmp .eq 39, 3) := by decide +kernel
theorem d_55_20 : decode (kby 55) 20 = .ok (.aload_n 0, 1) := by decide +kernel
theorem d_55_21 : decode (kby 55) 21 = .ok (.iload_n 2, 1) := by decide +kernel
theorem d_55_22 : decode (kby 55) 22 = .ok (.invokevirtual 79, 3) := by decide +kernel
theorem d_55_25 : decode (kby 55) 25 = .ok (.ifCond .eq 35, 3) := by decide +kernel
theorem d_55_28 : decode (kby 55) 28 = .ok (.aload_n 0, 1) := by decide +kernel
theorem d_55_29 : decode (kby 55) 29 = .ok (.getfield 37, 3) := by decide +kernel
theorem d_55_32 : decode (kby 55) 32 = .ok (.aload_n 0, 1) := by decide +kernel
theorem d_55_33 : decode (kby 55) 33 = .ok (.getfield 24, 3) := by decide +kernel
theorem d_55_36 : decode (kby 55) 36 = .ok (.iload_n 2, 1) := by decide +kernel
theorem d_55_37 : decode (kby 55) 37 = .ok (.iaload, 1) := by decide +kernel
theorem d_55_38 : decode (kby 55) 38 = .ok (.baload, 1) := by decide +kernel
theorem d_55_39 : decode (kby 55) 39 = .ok (.ifCond .ne 17, 3) := by decide +kernel
theorem d_55_42 : decode (kby 55) 42 = .ok (.aload_n 0, 1) := by decide +kernel
theorem d_55_43 : decode (kby 55) 43 = .ok (.getfield 37, 3) := by decide +kernel
theorem d_55_46 : decode (kby 55) 46 = .ok (.aload_n 0, 1) := by decide +kernel
theorem d_55_47 : decode (kby 55) 47 = .ok (.getfield 27, 3) := by decide +kernel
theorem d_55_50 : decode (kby 55) 50 = .ok (.iload_n 2, 1) := by decide +kernel
theorem d_55_51 : decode (kby 55) 51 = .ok (.iaload, 1) := by decide +kernel
theorem d_55_52 : decode (kby 55) 52 = .ok (.baload, 1) := by decide +kernel
theorem d_55_53 : decode (kby 55) 53 = .ok (.ifCond .eq 7, 3) := by decide +kernel
theorem d_55_56 : decode (kby 55) 56 = .ok (.iconst 1, 1) := by decide +kernel
theorem d_55_57 : decode (kby 55) 57 = .ok (.goto 4, 3) := by decide +kernel
theorem d_55_60 : decode (kby 55) 60 = .ok (.iconst 0, 1) := by decide +kernel
theorem d_55_61 : decode (kby 55) 61 = .ok (.bastore, 1) := by decide +kernel
theorem d_55_62 : decode (kby 55) 62 = .ok (.iinc 2 1, 3) := by decide +kernel
theorem d_55_65 : decode (kby 55) 65 = .ok (.goto (-63), 3) := by decide +kernel
theorem d_55_68 : decode (kby 55) 68 = .ok (.return_, 1) := by decide +kernel
set_option maxRecDepth 100000 in
theorem ka_55 : kall 55 0 kc_55 := And.intro (s_iconst d_55_0 (by decide +kernel)) (And.intro (s_istore_n d_55_1 rfl (by decide +kernel)) (And.intro (s_iload_n d_55_2 rfl) (And.intro (s_aload_n d_55_3 rfl) (And.intro (s_get d_55_4 (C := kR3) (T := kT3) (N := 15) rfl kjn3 (by decide +kernel) rfl kf_3_65) (And.intro (s_icmp_ge d_55_7 (by decide +kernel)) (And.intro (s_aload_n d_55_10 rfl) (And.intro (s_get d_55_11 (C := kR3) (T := kT3) (N := 15) rfl kjn3 (by decide +kernel) rfl kf_3_37) (And.intro (s_iload_n d_55_14 rfl) (And.intro (s_iload_n d_55_15 rfl) (And.intro (s_iload_n d_55_16 rfl) (And.intro (s_icmp_eq d_55_17 (by decide +kernel)) (And.intro (s_aload_n d_55_20 rfl) (And.intro (s_iload_n d_55_21 rfl) (And.intro (s_cv d_55_22 kl_3_79 k_im_56 k_se_56 kok_56 rfl (by decide +kernel) rfl rfl) (And.intro (s_if_eq d_55_25 (by decide +kernel)) (And.intro (s_aload_n d_55_28 rfl) (And.intro (s_get d_55_29 (C := kR3) (T := kT3) (N := 15) rfl kjn3 (by decide +kernel) rfl kf_3_37) (And.intro (s_aload_n d_55_32 rfl) (And.intro (s_get d_55_33 (C := kR3) (T := kT3) (N := 15) rfl kjn3 (by decide +kernel) rfl kf_3_24) (And.intro (s_iload_n d_55_36 rfl) (And.intro (s_iaload d_55_37) (And.intro (s_baload d_55_38) (And.intro (s_if_ne d_55_39 (by decide +kernel)) (And.intro (s_aload_n d_55_42 rfl) (And.intro (s_get d_55_43 (C := kR3) (T := kT3) (N := 15) rfl kjn3 (by decide +kernel) rfl kf_3_37) (And.intro (s_aload_n d_55_46 rfl) (And.intro (s_get d_55_47 (C := kR3) (T := kT3) (N := 15) rfl kjn3 (by decide +kernel) rfl kf_3_27) (And.intro (s_iload_n d_55_50 rfl) (And.intro (s_iaload d_55_51) (And.intro (s_baload d_55_52) (And.intro (s_if_eq d_55_53 (by decide +kernel)) (And.intro (s_iconst d_55_56 (by decide +kernel)) (And.intro (s_goto d_55_57 (by decide +kernel)) (And.intro (s_iconst d_55_60 (by decide +kernel)) (And.intro (s_bastore d_55_61) (And.intro (s_iinc d_55_62 (by decide +kernel) (by decide +kernel)) (And.intro (s_goto d_55_65 (by decide +kernel)) (And.intro (s_rv d_55_68 rfl) (True.intro)))))))))))))))))))))))))))))))))))))))
theorem d_56_0 : decode (kby 56) 0 = .ok (.aload_n 0, 1) := by decide +kernel
theorem d_56_1 : decode (kby 56) 1 = .ok (.getfield 20, 3) := by decide +kernel
theorem d_56_4 : decode (kby 56) 4 = .ok (.iload_n 1, 1) := by decide +kernel
theorem d_56_5 : decode (kby 56) 5 = .ok (.iaload, 1) := by decide +kernel
theorem d_56_6 : decode (kby 56) 6 = .ok (.iconst 3, 1) := by decide +kernel
theorem d_56_7 : decode (kby 56) 7 = .ok (.if_icmp .eq 13, 3) := by decide +kernel
theorem d_56_10 : decode (kby 56) 10 = .ok (.aload_n 0, 1) := by decide +kernel
theorem d_56_11 : decode (kby 56) 11 = .ok (.getfield 20, 3) := by decide +kernel
theorem d_56_14 : decode (kby 56) 14 = .ok (.iload_n 1, 1) := by decide +kernel
theorem d_56_15 : decode (kby 56) 15 = .ok (.iaload, 1) := by decide +kernel
theorem d_56_16 : decode (kby 56) 16 = .ok (.iconst 4, 1) := by decide +kernel
theorem d_56_17 : decode (kby 56) 17 = .ok (.if_icmp .ne 7, 3) := by decide +kernel
theorem d_56_20 : decode (kby 56) 20 = .ok (.iconst 1, 1) := by decide +kernel
theorem d_56_21 : decode (kby 56) 21 = .ok (.goto 4, 3) := by decide +kernel
theorem d_56_24 : decode (kby 56) 24 = .ok (.iconst 0, 1) := by decide +kernel
theorem d_56_25 : decode (kby 56) 25 = .ok (.ireturn, 1) := by decide +kernel
set_option maxRecDepth 100000 in
theorem ka_56 : kall 56 0 kc_56 := And.intro (s_aload_n d_56_0 rfl) (And.intro (s_get d_56_1 (C := kR3) (T := kT3) (N := 15) rfl kjn3 (by decide +kernel) rfl kf_3_20) (And.intro (s_iload_n d_56_4 rfl) (And.intro (s_iaload d_56_5) (And.intro (s_iconst d_56_6 (by decide +kernel)) (And.intro (s_icmp_eq d_56_7 (by decide +kernel)) (And.intro (s_aload_n d_56_10 rfl) (And.intro (s_get d_56_11 (C := kR3) (T := kT3) (N := 15) rfl kjn3 (by decide +kernel) rfl kf_3_20) (And.intro (s_iload_n d_56_14 rfl) (And.intro (s_iaload d_56_15) (And.intro (s_iconst d_56_16 (by decide +kernel)) (And.intro (s_icmp_ne d_56_17 (by decide +kernel)) (And.intro (s_iconst d_56_20 (by decide +kernel)) (And.intro (s_goto d_56_21 (by decide +kernel)) (And.intro (s_iconst d_56_24 (by decide +kernel)) (And.intro (s_retz d_56_25 rfl) (True.intro))))))))))))))))
theorem d_57_0 : decode (kby 57) 0 = .ok (.aload_n 0, 1) := by decide +kernel
theorem d_57_1 : decode (kby 57) 1 = .ok (.getfield 15, 3) := by decide +kernel
theorem d_57_4 : decode (kby 57) 4 = .ok (.iload_n 1, 1) := by decide +kernel
theorem d_57_5 : decode (kby 57) 5 = .ok (.invokevirtual 161, 3) := by decide +kernel
theorem d_57_8 : decode (kby 57) 8 = .ok (.istore_n 2, 1) := by decide +kernel
theorem d_57_9 : decode (kby 57) 9 = .ok (.aload_n 0, 1) := by decide +kernel
theorem d_57_10 : decode (kby 57) 10 = .ok (.getfield 15, 3) := by decide +kernel
theorem d_57_13 : decode (kby 57) 13 = .ok (.iload_n 2, 1) := by decide +kernel
theorem d_57_14 : decode (kby 57) 14 = .ok (.invokevirtual 136, 3) := by decide +kernel
theorem d_57_17 : decode (kby 57) 17 = .ok (.iconst 4, 1) := by decide +kernel
theorem d_57_18 : decode (kby 57) 18 = .ok (.if_icmp .eq 5, 3) := by decide +kernel
theorem d_57_21 : decode (kby 57) 21 = .ok (.iconst (-1), 1) := by decide +kernel
theorem d_57_22 : decode (kby 57) 22 = .ok (.ireturn, 1) := by decide +kernel
theorem d_57_23 : decode (kby 57) 23 = .ok (.aload_n 0, 1) := by decide +kernel
theorem d_57_24 : decode (kby 57) 24 = .ok (.getfield 19, 3) := by decide +kernel
theorem d_57_27 : decode (kby 57) 27 = .ok (.aload_n 0, 1) := by decide +kernel
theorem d_57_28 : decode (kby 57) 28 = .ok (.getfield 15, 3) := by decide +kernel
theorem d_57_31 : decode (kby 57) 31 = .ok (.iload_n 1, 1) := by decide +kernel
theorem d_57_32 : decode (kby 57) 32 = .ok (.aload_n 0, 1) := by decide +kernel
theorem d_57_33 : decode (kby 57) 33 = .ok (.getfield 23, 3) := by decide +kernel
theorem d_57_36 : decode (kby 57) 36 = .ok (.iload_n 2, 1) := by decide +kernel
theorem d_57_37 : decode (kby 57) 37 = .ok (.aload_n 0, 1) := by decide +kernel
theorem d_57_38 : decode (kby 57) 38 = .ok (.getfield 15, 3) := by decide +kernel
theorem d_57_41 : decode (kby 57) 41 = .ok (.iload_n 1, 1) := by decide +kernel
theorem d_57_42 : decode (kby 57) 42 = .ok (.invokevirtual 112, 3) := by decide +kernel
theorem d_57_45 : decode (kby 57) 45 = .ok (.invokevirtual 164, 3) := by decide +kernel
theorem d_57_48 : decode (kby 57) 48 = .ok (.invokevirtual 122, 3) := by decide +kernel
theorem d_57_51 : decode (kby 57) 51 = .ok (.invokevirtual 119, 3) := by decide +kernel
theorem d_57_54 : decode (kby 57) 54 = .ok (.ireturn, 1) := by decide +kernel
set_option maxRecDepth 100000 in
theorem ka_57 : kall 57 0 kc_57 := And.intro (s_aload_n d_57_0 rfl) (And.intro (s_get d_57_1 (C := kR6) (T := kT6) (N := 6) rfl kjn6 (by decide +kernel) rfl kf_6_15) (And.intro (s_iload_n d_57_4 rfl) (And.intro (s_cv d_57_5 kl_6_161 k_im_44 k_se_44 kok_44 rfl (by decide +kernel) rfl rfl) (And.intro (s_istore_n d_57_8 rfl (by decide +kernel)) (And.intro (s_aload_n d_57_9 rfl) (And.intro (s_get d_57_10 (C := kR6) (T := kT6) (N := 6) rfl kjn6 (by decide +kernel) rfl kf_6_15) (And.intro (s_iload_n d_57_13 rfl) (And.intro (s_cv d_57_14 kl_6_136 k_im_20 k_se_20 kok_20 rfl (by decide +kernel) rfl rfl) (And.intro (s_iconst d_57_17 (by decide +kernel)) (And.intro (s_icmp_eq d_57_18 (by decide +kernel)) (And.intro (s_iconst d_57_21 (by decide +kernel)) (And.intro (s_ret d_57_22 rfl) (And.intro (s_aload_n d_57_23 rfl) (And.intro (s_get d_57_24 (C := kR6) (T := kT6) (N := 6) rfl kjn6 (by decide +kernel) rfl kf_6_19) (And.intro (s_aload_n d_57_27 rfl) (And.intro (s_get d_57_28 (C := kR6) (T := kT6) (N := 6) rfl kjn6 (by decide +kernel) rfl kf_6_15) (And.intro (s_iload_n d_57_31 rfl) (And.intro (s_aload_n d_57_32 rfl) (And.intro (s_get d_57_33 (C := kR6) (T := kT6) (N := 6) rfl kjn6 (by decide +kernel) rfl kf_6_23) (And.intro (s_iload_n d_57_36 rfl) (And.intro (s_aload_n d_57_37 rfl) (And.intro (s_get d_57_38 (C := kR6) (T := kT6) (N := 6) rfl kjn6 (by decide +kernel) rfl kf_6_15) (And.intro (s_iload_n d_57_41 rfl) (And.intro (s_cv d_57_42 kl_6_112 k_im_46 k_se_46 kok_46 rfl (by decide +kernel) rfl rfl) (And.intro (s_cv d_57_45 kl_6_164 k_im_58 k_se_58 kok_58 rfl (by decide +kernel) rfl rfl) (And.intro (s_cv d_57_48 kl_6_122 k_im_34 k_se_34 kok_34 rfl (by decide +kernel) rfl rfl) (And.intro (s_cv d_57_51 kl_6_119 k_im_36 k_se_36 kok_36 rfl (by decide +kernel) rfl rfl) (And.intro (s_ret d_57_54 rfl) (True.intro)))))))))))))))))))))))))))))
theorem d_58_0 : decode (kby 58) 0 = .ok (.aload_n 0, 1) := by decide +kernel
theorem d_58_1 : decode (kby 58) 1 = .ok (.iconst 3, 1) := by decide +kernel
theorem d_58_2 : decode (kby 58) 2 = .ok (.iconst (-1), 1) := by decide +kernel
theorem d_58_3 : decode (kby 58) 3 = .ok (.iload_n 2, 1) := by decide +kernel
theorem d_58_4 : decode (kby 58) 4 = .ok (.invokevirtual 47, 3) := by decide +kernel
theorem d_58_7 : decode (kby 58) 7 = .ok (.aload_n 0, 1) := by decide +kernel
theorem d_58_8 : decode (kby 58) 8 = .ok (.aload_n 0, 1) := by decide +kernel
theorem d_58_9 : decode (kby 58) 9 = .ok (.getfield 26, 3) := by decide +kernel
theorem d_58_12 : decode (kby 58) 12 = .ok (.getfield 62, 3) := by decide +kernel
theorem d_58_15 : decode (kby 58) 15 = .ok (.iload_n 1, 1) := by decide +kernel
theorem d_58_16 : decode (kby 58) 16 = .ok (.iaload, 1) := by decide +kernel
theorem d_58_17 : decode (kby 58) 17 = .ok (.iconst 0, 1) := by decide +kernel
theorem d_58_18 : decode (kby 58) 18 = .ok (.iconst 0, 1) := by decide +kernel
theorem d_58_19 : decode (kby 58) 19 = .ok (.invokevirtual 54, 3) := by decide +kernel
theorem d_58_22 : decode (kby 58) 22 = .ok (.ireturn, 1) := by decide +kernel
set_option maxRecDepth 100000 in
theorem ka_58 : kall 58 0 kc_58 := And.intro (s_aload_n d_58_0 rfl) (And.intro (s_iconst d_58_1 (by decide +kernel)) (And.intro (s_iconst d_58_2 (by decide +kernel)) (And.intro (s_iload_n d_58_3 rfl) (And.intro (s_cw d_58_4 kl_5_47 k_im_21 k_se_21 kok_21 rfl (by decide +kernel) rfl rfl) (And.intro (s_aload_n d_58_7 rfl) (And.intro (s_aload_n d_58_8 rfl) (And.intro (s_get d_58_9 (C := kR5) (T := kT5) (N := 8) rfl kjn5 (by decide +kernel) rfl kf_5_26) (And.intro (s_get d_58_12 (C := kR3) (T := kT3) (N := 15) rfl kjn3 (by decide +kernel) rfl kf_5_62) (And.intro (s_iload_n d_58_15 rfl) (And.intro (s_iaload d_58_16) (And.intro (s_iconst d_58_17 (by decide +kernel)) (And.intro (s_iconst d_58_18 (by decide +kernel)) (And.intro (s_cv d_58_19 kl_5_54 k_im_22 k_se_22 kok_22 rfl (by decide +kernel) rfl rfl) (And.intro (s_ret d_58_22 rfl) (True.intro)))))))))))))))
theorem d_59_0 : decode (kby 59) 0 = .ok (.aload_n 0, 1) := by decide +kernel
theorem d_59_1 : decode (kby 59) 1 = .ok (.getfield 15, 3) := by decide +kernel
theorem d_59_4 : decode (kby 59) 4 = .ok (.iload_n 1, 1) := by decide +kernel
theorem d_59_5 : decode (kby 59) 5 = .ok (.invokevirtual 167, 3) := by decide +kernel
theorem d_59_8 : decode (kby 59) 8 = .ok (.ifCond .eq 5, 3) := by decide +kernel
theorem d_59_11 : decode (kby 59) 11 = .ok (.iconst (-1), 1) := by decide +kernel
theorem d_59_12 : decode (kby 59) 12 = .ok (.ireturn, 1) := by decide +kernel
theorem d_59_13 : decode (kby 59) 13 = .ok (.aload_n 0, 1) := by decide +kernel
theorem d_59_14 : decode (kby 59) 14 = .ok (.getfield 19, 3) := by decide +kernel
theorem d_59_17 : decode (kby 59) 17 = .ok (.iload_n 1, 1) := by decide +kernel
theorem d_59_18 : decode (kby 59) 18 = .ok (.invokevirtual 168, 3) := by decide +kernel
theorem d_59_21 : decode (kby 59) 21 = .ok (.aload_n 0, 1) := by decide +kernel
theorem d_59_22 : decode (kby 59) 22 = .ok (.getfield 19, 3) := by decide +kernel
theorem d_59_25 : decode (kby 59) 25 = .ok (.iload_n 1, 1) := by decide +kernel
theorem d_59_26 : decode (kby 59) 26 = .ok (.invokevirtual 119, 3) := by decide +kernel
theorem d_59_29 : decode (kby 59) 29 = .ok (.ireturn, 1) := by decide +kernel
set_option maxRecDepth 100000 in
theorem ka_59 : kall 59 0 kc_59 := And.intro (s_aload_n d_59_0 rfl) (And.intro (s_get d_59_1 (C := kR6) (T := kT6) (N := 6) rfl kjn6 (by decide +kernel) rfl kf_6_15) (And.intro (s_iload_n d_59_4 rfl) (And.intro (s_cv d_59_5 kl_6_167 k_im_35 k_se_35 kok_35 rfl (by decide +kernel) rfl rfl) (And.intro (s_if_eq d_59_8 (by decide +kernel)) (And.intro (s_iconst d_59_11 (by decide +kernel)) (And.intro (s_ret d_59_12 rfl) (And.intro (s_aload_n d_59_13 rfl) (And.intro (s_get d_59_14 (C := kR6) (T := kT6) (N := 6) rfl kjn6 (by decide +kernel) rfl kf_6_19) (And.intro (s_iload_n d_59_17 rfl) (And.intro (s_cw d_59_18 kl_6_168 k_im_51 k_se_51 kok_51 rfl (by decide +kernel) rfl rfl) (And.intro (s_aload_n d_59_21 rfl) (And.intro (s_get d_59_22 (C := kR6) (T := kT6) (N := 6) rfl kjn6 (by decide +kernel) rfl kf_6_19) (And.intro (s_iload_n d_59_25 rfl) (And.intro (s_cv d_59_26 kl_6_119 k_im_36 k_se_36 kok_36 rfl (by decide +kernel) rfl rfl) (And.intro (s_ret d_59_29 rfl) (True.intro))))))))))))))))
theorem d_60_0 : decode (kby 60) 0 = .ok (.aload_n 0, 1) := by decide +kernel
theorem d_60_1 : decode (kby 60) 1 = .ok (.iload_n 1, 1) := by decide +kernel
theorem d_60_2 : decode (kby 60) 2 = .ok (.invokevirtual 125, 3) := by decide +kernel
theorem d_60_5 : decode (kby 60) 5 = .ok (.istore_n 3, 1) := by decide +kernel
theorem d_60_6 : decode (kby 60) 6 = .ok (.iload_n 3, 1) := by decide +kernel
theorem d_60_7 : decode (kby 60) 7 = .ok (.ifCond .lt 15, 3) := by decide +kernel
theorem d_60_10 : decode (kby 60) 10 = .ok (.iload_n 3, 1) := by decide +kernel
theorem d_60_11 : decode (kby 60) 11 = .ok (.aload_n 0, 1) := by decide +kernel
theorem d_60_12 : decode (kby 60) 12 = .ok (.getfield 19, 3) := by decide +kernel
theorem d_60_15 : decode (kby 60) 15 = .ok (.iload_n 2, 1) := by decide +kernel
theorem d_60_16 : decode (kby 60) 16 = .ok (.invokevirtual 106, 3) := by decide +kernel
theorem d_60_19 : decode (kby 60) 19 = .ok (.if_icmp .eq 5, 3) := by decide +kernel
theorem d_60_22 : decode (kby 60) 22 = .ok (.iconst (-1), 1) := by decide +kernel
theorem d_60_23 : decode (kby 60) 23 = .ok (.ireturn, 1) := by decide +kernel
theorem d_60_24 : decode (kby 60) 24 = .ok (.aload_n 0, 1) := by decide +kernel
theorem d_60_25 : decode (kby 60) 25 = .ok (.iload_n 1, 1) := by decide +kernel
theorem d_60_26 : decode (kby 60) 26 = .ok (.iload_n 2, 1) := by decide +kernel
theorem d_60_27 : decode (kby 60) 27 = .ok (.aload_n 0, 1) := by decide +kernel
theorem d_60_28 : decode (kby 60) 28 = .ok (.iload_n 1, 1) := by decide +kernel
theorem d_60_29 : decode (kby 60) 29 = .ok (.invokevirtual 126, 3) := by decide +kernel
theorem d_60_32 : decode (kby 60) 32 = .ok (.invokevirtual 129, 3) := by decide +kernel
theorem d_60_35 : decode (kby 60) 35 = .ok (.ireturn, 1) := by decide +kernel
set_option maxRecDepth 100000 in
theorem ka_60 : kall 60 0 kc_60 := And.intro (s_aload_n d_60_0 rfl) (And.intro (s_iload_n d_60_1 rfl) (And.intro (s_cv d_60_2 kl_6_125 k_im_40 k_se_40 kok_40 rfl (by decide +kernel) rfl rfl) (And.intro (s_istore_n d_60_5 rfl (by decide +kernel)) (And.intro (s_iload_n d_60_6 rfl) (And.intro (s_if_lt d_60_7 (by decide +kernel)) (And.intro (s_iload_n d_60_10 rfl) (And.intro (s_aload_n d_60_11 rfl) (And.intro (s_get d_60_12 (C := kR6) (T := kT6) (N := 6) rfl kjn6 (by decide +kernel) rfl kf_6_19) (And.intro (s_iload_n d_60_15 rfl) (And.intro (s_cv d_60_16 kl_6_106 k_im_41 k_se_41 kok_41 rfl (by decide +kernel) rfl rfl) (And.intro (s_icmp_eq d_60_19 (by decide +kernel)) (And.intro (s_iconst d_60_22 (by decide +kernel)) (And.intro (s_ret d_60_23 rfl) (And.intro (s_aload_n d_60_24 rfl) (And.intro (s_iload_n d_60_25 rfl) (And.intro (s_iload_n d_60_26 rfl) (And.intro (s_aload_n d_60_27 rfl) (And.intro (s_iload_n d_60_28 rfl) (And.intro (s_cv d_60_29 kl_6_126 k_im_45 k_se_45 kok_45 rfl (by decide +kernel) rfl rfl) (And.intro (s_cv d_60_32 kl_6_129 k_im_47 k_se_47 kok_47 rfl (by decide +kernel) rfl rfl) (And.intro (s_ret d_60_35 rfl) (True.intro))))))))))))))))))))))
theorem d_61_0 : decode (kby 61) 0 = .ok (.aload_n 0, 1) := by decide +kernel
theorem d_61_1 : decode (kby 61) 1 = .ok (.getfield 19, 3) := by decide +kernel
theorem d_61_4 : decode (kby 61) 4 = .ok (.iload_n 1, 1) := by decide +kernel
theorem d_61_5 : decode (kby 61) 5 = .ok (.invokevirtual 106, 3) := by decide +kernel
theorem d_61_8 : decode (kby 61) 8 = .ok (.istore_n 3, 1) := by decide +kernel
theorem d_61_9 : decode (kby 61) 9 = .ok (.aload_n 0, 1) := by decide +kernel
theorem d_61_10 : decode (kby 61) 10 = .ok (.getfield 19, 3) := by decide +kernel
theorem d_61_13 : decode (kby 61) 13 = .ok (.iload_n 2, 1) := by decide +kernel
theorem d_61_14 : decode (kby 61) 14 = .ok (.invokevirtual 106, 3) := by decide +kernel
theorem d_61_17 : decode (kby 61) 17 = .ok (.istore 4, 2) := by decide +kernel
theorem d_61_19 : decode (kby 61) 19 = .ok (.aload_n 0, 1) := by decide +kernel
theorem d_61_20 : decode (kby 61) 20 = .ok (.getfield 19, 3) := by decide +kernel
theorem d_61_23 : decode (kby 61) 23 = .ok (.iload_n 1, 1) := by decide +kernel
theorem d_61_24 : decode (kby 61) 24 = .ok (.iload 4, 2) := by decide +kernel
theorem d_61_26 : decode (kby 61) 26 = .ok (.invokevirtual 115, 3) := by decide +kernel
theorem d_61_29 : decode (kby 61) 29 = .ok (.aload_n 0, 1) := by decide +kernel
theorem d_61_30 : decode (kby 61) 30 = .ok (.getfield 19, 3) := by decide +kernel
theorem d_61_33 : decode (kby 61) 33 = .ok (.iload_n 2, 1) := by decide +kernel
theorem d_61_34 : decode (kby 61) 34 = .ok (.iload_n 3, 1) := by decide +kernel
theorem d_61_35 : decode (kby 61) 35 = .ok (.invokevirtual 115, 3) := by decide +kernel
theorem d_61_38 : decode (kby 61) 38 = .ok (.aload_n 0, 1) := by decide +kernel
theorem d_61_39 : decode (kby 61) 39 = .ok (.getfield 19, 3) := by decide +kernel
theorem d_61_42 : decode (kby 61) 42 = .ok (.aload_n 0, 1) := by decide +kernel
theorem d_61_43 : decode (kby 61) 43 = .ok (.getfield 15, 3) := by decide +kernel
theorem d_61_46 : decode (kby 61) 46 = .ok (.iload_n 3, 1) := by decide +kernel
theorem d_61_47 : decode (kby 61) 47 = .ok (.iload 4, 2) := by decide +kernel
theorem d_61_49 : decode (kby 61) 49 = .ok (.invokevirtual 122, 3) := by decide +kernel
theorem d_61_52 : decode (kby 61) 52 = .ok (.invokevirtual 119, 3) := by decide +kernel
theorem d_61_55 : decode (kby 61) 55 = .ok (.ireturn, 1) := by decide +kernel
set_option maxRecDepth 100000 in
theorem ka_61 : kall 61 0 kc_61 := And.intro (s_aload_n d_61_0 rfl) (And.intro (s_get d_61_1 (C := kR6) (T := kT6) (N := 6) rfl kjn6 (by decide +kernel) rfl kf_6_19) (And.intro (s_iload_n d_61_4 rfl) (And.intro (s_cv d_61_5 kl_6_106 k_im_41 k_se_41 kok_41 rfl (by decide +kernel) rfl rfl) (And.intro (s_istore_n d_61_8 rfl (by decide +kernel)) (And.intro (s_aload_n d_61_9 rfl) (And.intro (s_get d_61_10 (C := kR6) (T := kT6) (N := 6) rfl kjn6 (by decide +kernel) rfl kf_6_19) (And.intro (s_iload_n d_61_13 rfl) (And.intro (s_cv d_61_14 kl_6_106 k_im_41 k_se_41 kok_41 rfl (by decide +kernel) rfl rfl) (And.intro (s_istore d_61_17 (by decide +kernel)) (And.intro (s_aload_n d_61_19 rfl) (And.intro (s_get d_61_20 (C := kR6) (T := kT6) (N := 6) rfl kjn6 (by decide +kernel) rfl kf_6_19) (And.intro (s_iload_n d_61_23 rfl) (And.intro (s_iload d_61_24) (And.intro (s_cw d_61_26 kl_6_115 k_im_48 k_se_48 kok_48 rfl (by decide +kernel) rfl rfl) (And.intro (s_aload_n d_61_29 rfl) (And.intro (s_get d_61_30 (C := kR6) (T := kT6) (N := 6) rfl kjn6 (by decide +kernel) rfl kf_6_19) (And.intro (s_iload_n d_61_33 rfl) (And.intro (s_iload_n d_61_34 rfl) (And.intro (s_cw d_61_35 kl_6_115 k_im_48 k_se_48 kok_48 rfl (by decide +kernel) rfl rfl) (And.intro (s_aload_n d_61_38 rfl) (And.intro (s_get d_61_39 (C := kR6) (T := kT6) (N := 6) rfl kjn6 (by decide +kernel) rfl kf_6_19) (And.intro (s_aload_n d_61_42 rfl) (And.intro (s_get d_61_43 (C := kR6) (T := kT6) (N := 6) rfl kjn6 (by decide +kernel) rfl kf_6_15) (And.intro (s_iload_n d_61_46 rfl) (And.intro (s_iload d_61_47) (And.intro (s_cv d_61_49 kl_6_122 k_im_34 k_se_34 kok_34 rfl (by decide +kernel) rfl rfl) (And.intro (s_cv d_61_52 kl_6_119 k_im_36 k_se_36 kok_36 rfl (by decide +kernel) rfl rfl) (And.intro (s_ret d_61_55 rfl) (True.intro)))))))))))))))))))))))))))))
theorem d_62_0 : decode (kby 62) 0 = .ok (.aload_n 0, 1) := by decide +kernel
theorem d_62_1 : decode (kby 62) 1 = .ok (.getfield 15, 3) := by decide +kernel
theorem d_62_4 : decode (kby 62) 4 = .ok (.iload_n 1, 1) := by decide +kernel
theorem d_62_5 : decode (kby 62) 5 = .ok (.invokevirtual 136, 3) := by decide +kernel
theorem d_62_8 : decode (kby 62) 8 = .ok (.ifCond .ne 23, 3) := by decide +kernel
theorem d_62_11 : decode (kby 62) 11 = .ok (.aload_n 0, 1) := by decide +kernel
theorem d_62_12 : decode (kby 62) 12 = .ok (.getfield 15, 3) := by decide +kernel
theorem d_62_15 : decode (kby 62) 15 = .ok (.iload_n 2, 1) := by decide +kernel
theorem d_62_16 : decode (kby 62) 16 = .ok (.invokevirtual 167, 3) := by decide +kernel
theorem d_62_19 : decode (kby 62) 19 = .ok (.aload_n 0, 1) := by decide +kernel
theorem d_62_20 : decode (kby 62) 20 = .ok (.getfield 15, 3) := by decide +kernel
theorem d_62_23 : decode (kby 62) 23 = .ok (.getfield 171, 3) := by decide +kernel
theorem d_62_26 : decode (kby 62) 26 = .ok (.iload_n 1, 1) := by decide +kernel
theorem d_62_27 : decode (kby 62) 27 = .ok (.iaload, 1) := by decide +kernel
theorem d_62_28 : decode (kby 62) 28 = .ok (.if_icmp .eq 5, 3) := by decide +kernel
theorem d_62_31 : decode (kby 62) 31 = .ok (.iconst 0, 1) := by decide +kernel
theorem d_62_32 : decode (kby 62) 32 = .ok (.ireturn, 1) := by decide +kernel
theorem d_62_33 : decode (kby 62) 33 = .ok (.aload_n 0, 1) := by decide +kernel
theorem d_62_34 : decode (kby 62) 34 = .ok (.getfield 23, 3) := by decide +kernel
theorem d_62_37 : decode (kby 62) 37 = .ok (.iconst 0, 1) := by decide +kernel
theorem d_62_38 : decode (kby 62) 38 = .ok (.iload_n 1, 1) := by decide +kernel
theorem d_62_39 : decode (kby 62) 39 = .ok (.iload_n 2, 1) := by decide +kernel
theorem d_62_40 : decode (kby 62) 40 = .ok (.invokevirtual 175, 3) := by decide +kernel
theorem d_62_43 : decode (kby 62) 43 = .ok (.iconst 1, 1) := by decide +kernel
theorem d_62_44 : decode (kby 62) 44 = .ok (.ireturn, 1) := by decide +kernel
set_option maxRecDepth 100000 in
theorem ka_62 : kall 62 0 kc_62 := And.intro (s_aload_n d_62_0 rfl) (And.intro (s_get d_62_1 (C := kR6) (T := kT6) (N := 6) rfl kjn6 (by decide +kernel) rfl kf_6_15) (And.intro (s_iload_n d_62_4 rfl) (And.intro (s_cv d_62_5 kl_6_136 k_im_20 k_se_20 kok_20 rfl (by decide +kernel) rfl rfl) (And.intro (s_if_ne d_62_8 (by decide +kernel)) (And.intro (s_aload_n d_62_11 rfl) (And.intro (s_get d_62_12 (C := kR6) (T := kT6) (N := 6) rfl kjn6 (by decide +kernel) rfl kf_6_15) (And.intro (s_iload_n d_62_15 rfl) (And.intro (s_cv d_62_16 kl_6_167 k_im_35 k_se_35 kok_35 rfl (by decide +kernel) rfl rfl) (And.intro (s_aload_n d_62_19 rfl) (And.intro (s_get d_62_20 (C := kR6) (T := kT6) (N := 6) rfl kjn6 (by decide +kernel) rfl kf_6_15) (And.intro (s_get d_62_23 (C := kR3) (T := kT3) (N := 15) rfl kjn3 (by decide +kernel) rfl kf_6_171) (And.intro (s_iload_n d_62_26 rfl) (And.intro (s_iaload d_62_27) (And.intro (s_icmp_eq d_62_28 (by decide +kernel)) (And.intro (s_iconst d_62_31 (by decide +kernel)) (And.intro (s_retz d_62_32 rfl) (And.intro (s_aload_n d_62_33 rfl) (And.intro (s_get d_62_34 (C := kR6) (T := kT6) (N := 6) rfl kjn6 (by decide +kernel) rfl kf_6_23) (And.intro (s_iconst d_62_37 (by decide +kernel)) (And.intro (s_iload_n d_62_38 rfl) (And.intro (s_iload_n d_62_39 rfl) (And.intro (s_cw d_62_40 kl_6_175 k_im_21 k_se_21 kok_21 rfl (by decide +kernel) rfl rfl) (And.intro (s_iconst d_62_43 (by decide +kernel)) (And.intro (s_retz d_62_44 rfl) (True.intro)))))))))))))))))))))))))
theorem d_63_0 : decode (kby 63) 0 = .ok (.iload_n 2, 1) := by decide +kernel
theorem d_63_1 : decode (kby 63) 1 = .ok (.ifCond .ne 5, 3) := by decide +kernel
theorem d_63_4 : decode (kby 63) 4 = .ok (.iconst (-1), 1) := by decide +kernel
theorem d_63_5 : decode (kby 63) 5 = .ok (.ireturn, 1) := by decide +kernel
theorem d_63_6 : decode (kby 63) 6 = .ok (.iconst 0, 1) := by decide +kernel
theorem d_63_7 : decode (kby 63) 7 = .ok (.istore_n 3, 1) := by decide +kernel
theorem d_63_8 : decode (kby 63) 8 = .ok (.iload_n 3, 1) := by decide +kernel
theorem d_63_9 : decode (kby 63) 9 = .ok (.aload_n 0, 1) := by decide +kernel
theorem d_63_10 : decode (kby 63) 10 = .ok (.getfield 19, 3) := by decide +kernel
theorem d_63_13 : decode (kby 63) 13 = .ok (.iload_n 1, 1) := by decide +kernel
theorem d_63_14 : decode (kby 63) 14 = .ok (.invokevirtual 151, 3) := by decide +kernel
theorem d_63_17 : decode (kby 63) 17 = .ok (.if_icmp .ge 32, 3) := by decide +kernel
theorem d_63_20 : decode (kby 63) 20 = .ok (.aload_n 0, 1) := by decide +kernel
theorem d_63_21 : decode (kby 63) 21 = .ok (.getfield 19, 3) := by decide +kernel
theorem d_63_24 : decode (kby 63) 24 = .ok (.aload_n 0, 1) := by decide +kernel
theorem d_63_25 : decode (kby 63) 25 = .ok (.getfield 23, 3) := by decide +kernel
theorem d_63_28 : decode (kby 63) 28 = .ok (.aload_n 0, 1) := by decide +kernel
theorem d_63_29 : decode (kby 63) 29 = .ok (.getfield 19, 3) := by decide +kernel
theorem d_63_32 : decode (kby 63) 32 = .ok (.iload_n 1, 1) := by decide +kernel
theorem d_63_33 : decode (kby 63) 33 = .ok (.iload_n 3, 1) := by decide +kernel
theorem d_63_34 : decode (kby 63) 34 = .ok (.invokevirtual 158, 3) := by decide +kernel
theorem d_63_37 : decode (kby 63) 37 = .ok (.invokevirtual 183, 3) := by decide +kernel
theorem d_63_40 : decode (kby 63) 40 = .ok (.invokevirtual 168, 3) := by decide +kernel
theorem d_63_43 : decode (kby 63) 43 = .ok (.iinc 3 1, 3) := by decide +kernel
theorem d_63_46 : decode (kby 63) 46 = .ok (.goto (-38), 3) := by decide +kernel
theorem d_63_49 : decode (kby 63) 49 = .ok (.aload_n 0, 1) := by decide +kernel
theorem d_63_50 : decode (kby 63) 50 = .ok (.getfield 19, 3) := by decide +kernel
theorem d_63_53 : decode (kby 63) 53 = .ok (.aload_n 0, 1) := by decide +kernel
theorem d_63_54 : decode (kby 63) 54 = .ok (.getfield 23, 3) := by decide +kernel
theorem d_63_57 : decode (kby 63) 57 = .ok (.aload_n 0, 1) := by decide +kernel
theorem d_63_58 : decode (kby 63) 58 = .ok (.getfield 19, 3) := by decide +kernel
theorem d_63_61 : decode (kby 63) 61 = .ok (.iload_n 1, 1) := by decide +kernel
theorem d_63_62 : decode (kby 63) 62 = .ok (.invokevirtual 106, 3) := by decide +kernel
theorem d_63_65 : decode (kby 63) 65 = .ok (.invokevirtual 183, 3) := by decide +kernel
theorem d_63_68 : decode (kby 63) 68 = .ok (.invokevirtual 119, 3) := by decide +kernel
theorem d_63_71 : decode (kby 63) 71 = .ok (.ireturn, 1) := by decide +kernel
set_option maxRecDepth 100000 in
theorem ka_63 : kall 63 0 kc_63 := And.intro (s_iload_n d_63_0 rfl) (And.intro (s_if_ne d_63_1 (by decide +kernel)) (And.intro (s_iconst d_63_4 (by decide +kernel)) (And.intro (s_ret d_63_5 rfl) (And.intro (s_iconst d_63_6 (by decide +kernel)) (And.intro (s_istore_n d_63_7 rfl (by decide +kernel)) (And.intro (s_iload_n d_63_8 rfl) (And.intro (s_aload_n d_63_9 rfl) (And.intro (s_get d_63_10 (C := kR6) (T := kT6) (N := 6) rfl kjn6 (by decide +kernel) rfl kf_6_19) (And.intro (s_iload_n d_63_13 rfl) (And.intro (s_cv d_63_14 kl_6_151 k_im_49 k_se_49 kok_49 rfl (by decide +kernel) rfl rfl) (And.intro (s_icmp_ge d_63_17 (by decide +kernel)) (And.intro (s_aload_n d_63_20 rfl) (And.intro (s_get d_63_21 (C := kR6) (T := kT6) (N := 6) rfl kjn6 (by decide +kernel) rfl kf_6_19) (And.intro (s_aload_n d_63_24 rfl) (And.intro (s_get d_63_25 (C := kR6) (T := kT6) (N := 6) rfl kjn6 (by decide +kernel) rfl kf_6_23) (And.intro (s_aload_n d_63_28 rfl) (And.intro (s_get d_63_29 (C := kR6) (T := kT6) (N := 6) rfl kjn6 (by decide +kernel) rfl kf_6_19) (And.intro (s_iload_n d_63_32 rfl) (And.intro (s_iload_n d_63_33 rfl) (And.intro (s_cv d_63_34 kl_6_158 k_im_50 k_se_50 kok_50 rfl (by decide +kernel) rfl rfl) (And.intro (s_cv d_63_37 kl_6_183 k_im_64 k_se_64 kok_64 rfl (by decide +kernel) rfl rfl) (And.intro (s_cw d_63_40 kl_6_168 k_im_51 k_se_51 kok_51 rfl (by decide +kernel) rfl rfl) (And.intro (s_iinc d_63_43 (by decide +kernel) (by decide +kernel)) (And.intro (s_goto d_63_46 (by decide +kernel)) (And.intro (s_aload_n d_63_49 rfl) (And.intro (s_get d_63_50 (C := kR6) (T := kT6) (N := 6) rfl kjn6 (by decide +kernel) rfl kf_6_19) (And.intro (s_aload_n d_63_53 rfl) (And.intro (s_get d_63_54 (C := kR6) (T := kT6) (N := 6) rfl kjn6 (by decide +kernel) rfl kf_6_23) (And.intro (s_aload_n d_63_57 rfl) (And.intro (s_get d_63_58 (C := kR6) (T := kT6) (N := 6) rfl kjn6 (by decide +kernel) rfl kf_6_19) (And.intro (s_iload_n d_63_61 rfl) (And.intro (s_cv d_63_62 kl_6_106 k_im_41 k_se_41 kok_41 rfl (by decide +kernel) rfl rfl) (And.intro (s_cv d_63_65 kl_6_183 k_im_64 k_se_64 kok_64 rfl (by decide +kernel) rfl rfl) (And.intro (s_cv d_63_68 kl_6_119 k_im_36 k_se_36 kok_36 rfl (by decide +kernel) rfl rfl) (And.intro (s_ret d_63_71 rfl) (True.intro))))))))))))))))))))))))))))))))))))
theorem d_64_0 : decode (kby 64) 0 = .ok (.aload_n 0, 1) := by decide +kernel
theorem d_64_1 : decode (kby 64) 1 = .ok (.iload_n 1, 1) := by decide +kernel
theorem d_64_2 : decode (kby 64) 2 = .ok (.iconst 0, 1) := by decide +kernel
theorem d_64_3 : decode (kby 64) 3 = .ok (.iconst 0, 1) := by decide +kernel
theorem d_64_4 : decode (kby 64) 4 = .ok (.invokevirtual 54, 3) := by decide +kernel
theorem d_64_7 : decode (kby 64) 7 = .ok (.ireturn, 1) := by decide +kernel
set_option maxRecDepth 100000 in
theorem ka_64 : kall 64 0 kc_64 := And.intro (s_aload_n d_64_0 rfl) (And.intro (s_iload_n d_64_1 rfl) (And.intro (s_iconst d_64_2 (by decide +kernel)) (And.intro (s_iconst d_64_3 (by decide +kernel)) (And.intro (s_cv d_64_4 kl_5_54 k_im_22 k_se_22 kok_22 rfl (by decide +kernel) rfl rfl) (And.intro (s_ret d_64_7 rfl) (True.intro))))))
theorem d_65_0 : decode (kby 65) 0 = .ok (.aload_n 0, 1) := by decide +kernel
theorem d_65_1 : decode (kby 65) 1 = .ok (.getfield 9, 3) := by decide +kernel
theorem d_65_4 : decode (kby 65) 4 = .ok (.getfield 99, 3) := by decide +kernel
theorem d_65_7 : decode (kby 65) 7 = .ok (.iload_n 1, 1) := by decide +kernel
theorem d_65_8 : decode (kby 65) 8 = .ok (.invokevirtual 94, 3) := by decide +kernel
theorem d_65_11 : decode (kby 65) 11 = .ok (.ireturn, 1) := by decide +kernel
set_option maxRecDepth 100000 in
theorem ka_65 : kall 65 0 kc_65 := And.intro (s_aload_n d_65_0 rfl) (And.intro (s_get d_65_1 (C := kR6) (T := kT6) (N := 6) rfl kjn6 (by decide +kernel) rfl kf_6_9) (And.intro (s_get d_65_4 (C := kR1) (T := kT1) (N := 8) rfl kjn1 (by decide +kernel) rfl kf_6_99) (And.intro (s_iload_n d_65_7 rfl) (And.intro (s_cv d_65_8 kl_6_94 k_im_9 k_se_9 kok_9 rfl (by decide +kernel) rfl rfl) (And.intro (s_ret d_65_11 rfl) (True.intro))))))
theorem d_66_0 : decode (kby 66) 0 = .ok (.aload_n 0, 1) := by decide +kernel
theorem d_66_1 : decode (kby 66) 1 = .ok (.getfield 9, 3) := by decide +kernel
theorem d_66_4 : decode (kby 66) 4 = .ok (.iload_n 1, 1) := by decide +kernel
theorem d_66_5 : decode (kby 66) 5 = .ok (.invokevirtual 179, 3) := by decide +kernel
theorem d_66_8 : decode (kby 66) 8 = .ok (.ifCond .eq 7, 3) := by decide +kernel
theorem d_66_11 : decode (kby 66) 11 = .ok (.iload_n 2, 1) := by decide +kernel
theorem d_66_12 : decode (kby 66) 12 = .ok (.ifCond .ge 5, 3) := by decide +kernel
theorem d_66_15 : decode (kby 66) 15 = .ok (.iconst 0, 1) := by decide +kernel
theorem d_66_16 : decode (kby 66) 16 = .ok (.ireturn, 1) := by decide +kernel
theorem d_66_17 : decode (kby 66) 17 = .ok (.aload_n 0, 1) := by decide +kernel
theorem d_66_18 : decode (kby 66) 18 = .ok (.getfield 23, 3) := by decide +kernel
theorem d_66_21 : decode (kby 66) 21 = .ok (.iconst 1, 1) := by decide +kernel
theorem d_66_22 : decode (kby 66) 22 = .ok (.iload_n 1, 1) := by decide +kernel
theorem d_66_23 : decode (kby 66) 23 = .ok (.iload_n 2, 1) := by decide +kernel
theorem d_66_24 : decode (kby 66) 24 = .ok (.invokevirtual 175, 3) := by decide +kernel
theorem d_66_27 : decode (kby 66) 27 = .ok (.iconst 1, 1) := by decide +kernel
theorem d_66_28 : decode (kby 66) 28 = .ok (.ireturn, 1) := by decide +kernel
set_option maxRecDepth 100000 in
theorem ka_66 : kall 66 0 kc_66 := And.intro (s_aload_n d_66_0 rfl) (And.intro (s_get d_66_1 (C := kR6) (T := kT6) (N := 6) rfl kjn6 (by decide +kernel) rfl kf_6_9) (And.intro (s_iload_n d_66_4 rfl) (And.intro (s_cv d_66_5 kl_6_179 k_im_67 k_se_67 kok_67 rfl (by decide +kernel) rfl rfl) (And.intro (s_if_eq d_66_8 (by decide +kernel)) (And.intro (s_iload_n d_66_11 rfl) (And.intro (s_if_ge d_66_12 (by decide +kernel)) (And.intro (s_iconst d_66_15 (by decide +kernel)) (And.intro (s_retz d_66_16 rfl) (And.intro (s_aload_n d_66_17 rfl) (And.intro (s_get d_66_18 (C := kR6) (T := kT6) (N := 6) rfl kjn6 (by decide +kernel) rfl kf_6_23) (And.intro (s_iconst d_66_21 (by decide +kernel)) (And.intro (s_iload_n d_66_22 rfl) (And.intro (s_iload_n d_66_23 rfl) (And.intro (s_cw d_66_24 kl_6_175 k_im_21 k_se_21 kok_21 rfl (by decide +kernel) rfl rfl) (And.intro (s_iconst d_66_27 (by decide +kernel)) (And.intro (s_retz d_66_28 rfl) (True.intro)))))))))))))))))
theorem d_67_0 : decode (kby 67) 0 = .ok (.iload_n 1, 1) := by decide +kernel
theorem d_67_1 : decode (kby 67) 1 = .ok (.ifCond .lt 17, 3) := by decide +kernel
theorem d_67_4 : decode (kby 67) 4 = .ok (.aload_n 0, 1) := by decide +kernel
theorem d_67_5 : decode (kby 67) 5 = .ok (.getfield 20, 3) := by decide +kernel
theorem d_67_8 : decode (kby 67) 8 = .ok (.iload_n 1, 1) := by decide +kernel
theorem d_67_9 : decode (kby 67) 9 = .ok (.iaload, 1) := by decide +kernel
theorem d_67_10 : decode (kby 67) 10 = .ok (.iconst 1, 1) := by decide +kernel
theorem d_67_11 : decode (kby 67) 11 = .ok (.if_icmp .ne 7, 3) := by decide +kernel
theorem d_67_14 : decode (kby 67) 14 = .ok (.iconst 1, 1) := by decide +kernel
theorem d_67_15 : decode (kby 67) 15 = .ok (.goto 4, 3) := by decide +kernel
theorem d_67_18 : decode (kby 67) 18 = .ok (.iconst 0, 1) := by decide +kernel
theorem d_67_19 : decode (kby 67) 19 = .ok (.ireturn, 1) := by decide +kernel
set_option maxRecDepth 100000 in
theorem ka_67 : kall 67 0 kc_67 := And.intro (s_iload_n d_67_0 rfl) (And.intro (s_if_lt d_67_1 (by decide +kernel)) (And.intro (s_aload_n d_67_4 rfl) (And.intro (s_get d_67_5 (C := kR1) (T := kT1) (N := 8) rfl kjn1 (by decide +kernel) rfl kf_1_20) (And.intro (s_iload_n d_67_8 rfl) (And.intro (s_iaload d_67_9) (And.intro (s_iconst d_67_10 (by decide +kernel)) (And.intro (s_icmp_ne d_67_11 (by decide +kernel)) (And.intro (s_iconst d_67_14 (by decide +kernel)) (And.intro (s_goto d_67_15 (by decide +kernel)) (And.intro (s_iconst d_67_18 (by decide +kernel)) (And.intro (s_retz d_67_19 rfl) (True.intro))))))))))))
theorem d_68_0 : decode (kby 68) 0 = .ok (.aload_n 0, 1) := by decide +kernel
theorem d_68_1 : decode (kby 68) 1 = .ok (.iload_n 1, 1) := by decide +kernel
theorem d_68_2 : decode (kby 68) 2 = .ok (.invokevirtual 125, 3) := by decide +kernel
theorem d_68_5 : decode (kby 68) 5 = .ok (.istore_n 3, 1) := by decide +kernel
theorem d_68_6 : decode (kby 68) 6 = .ok (.iload_n 3, 1) := by decide +kernel
theorem d_68_7 : decode (kby 68) 7 = .ok (.ifCond .ge 5, 3) := by decide +kernel
theorem d_68_10 : decode (kby 68) 10 = .ok (.iconst (-1), 1) := by decide +kernel
theorem d_68_11 : decode (kby 68) 11 = .ok (.ireturn, 1) := by decide +kernel
theorem d_68_12 : decode (kby 68) 12 = .ok (.aload_n 0, 1) := by decide +kernel
theorem d_68_13 : decode (kby 68) 13 = .ok (.getfield 23, 3) := by decide +kernel
theorem d_68_16 : decode (kby 68) 16 = .ok (.iconst 0, 1) := by decide +kernel
theorem d_68_17 : decode (kby 68) 17 = .ok (.iload_n 3, 1) := by decide +kernel
theorem d_68_18 : decode (kby 68) 18 = .ok (.aload_n 0, 1) := by decide +kernel
theorem d_68_19 : decode (kby 68) 19 = .ok (.iload_n 1, 1) := by decide +kernel
theorem d_68_20 : decode (kby 68) 20 = .ok (.invokevirtual 126, 3) := by decide +kernel
theorem d_68_23 : decode (kby 68) 23 = .ok (.invokevirtual 175, 3) := by decide +kernel
theorem d_68_26 : decode (kby 68) 26 = .ok (.aload_n 0, 1) := by decide +kernel
theorem d_68_27 : decode (kby 68) 27 = .ok (.iload_n 1, 1) := by decide +kernel
theorem d_68_28 : decode (kby 68) 28 = .ok (.iload_n 2, 1) := by decide +kernel
theorem d_68_29 : decode (kby 68) 29 = .ok (.aload_n 0, 1) := by decide +kernel
theorem d_68_30 : decode (kby 68) 30 = .ok (.getfield 23, 3) := by decide +kernel
theorem d_68_33 : decode (kby 68) 33 = .ok (.aload_n 0, 1) := by decide +kernel
theorem d_68_34 : decode (kby 68) 34 = .ok (.getfield 19, 3) := by decide +kernel
theorem d_68_37 : decode (kby 68) 37 = .ok (.iload_n 2, 1) := by decide +kernel
theorem d_68_38 : decode (kby 68) 38 = .ok (.invokevirtual 106, 3) := by decide +kernel
theorem d_68_41 : decode (kby 68) 41 = .ok (.invokevirtual 183, 3) := by decide +kernel
theorem d_68_44 : decode (kby 68) 44 = .ok (.invokevirtual 129, 3) := by decide +kernel
theorem d_68_47 : decode (kby 68) 47 = .ok (.ireturn, 1) := by decide +kernel
set_option maxRecDepth 100000 in
theorem ka_68 : kall 68 0 kc_68 := And.intro (s_aload_n d_68_0 rfl) (And.intro (s_iload_n d_68_1 rfl) (And.intro (s_cv d_68_2 kl_6_125 k_im_40 k_se_40 kok_40 rfl (by decide +kernel) rfl rfl) (And.intro (s_istore_n d_68_5 rfl (by decide +kernel)) (And.intro (s_iload_n d_68_6 rfl) (And.intro (s_if_ge d_68_7 (by decide +kernel)) (And.intro (s_iconst d_68_10 (by decide +kernel)) (And.intro (s_ret d_68_11 rfl) (And.intro (s_aload_n d_68_12 rfl) (And.intro (s_get d_68_13 (C := kR6) (T := kT6) (N := 6) rfl kjn6 (by decide +kernel) rfl kf_6_23) (And.intro (s_iconst d_68_16 (by decide +kernel)) (And.intro (s_iload_n d_68_17 rfl) (And.intro (s_aload_n d_68_18 rfl) (And.intro (s_iload_n d_68_19 rfl) (And.intro (s_cv d_68_20 kl_6_126 k_im_45 k_se_45 kok_45 rfl (by decide +kernel) rfl rfl) (And.intro (s_cw d_68_23 kl_6_175 k_im_21 k_se_21 kok_21 rfl (by decide +kernel) rfl rfl) (And.intro (s_aload_n d_68_26 rfl) (And.intro (s_iload_n d_68_27 rfl) (And.intro (s_iload_n d_68_28 rfl) (And.intro (s_aload_n d_68_29 rfl) (And.intro (s_get d_68_30 (C := kR6) (T := kT6) (N := 6) rfl kjn6 (by decide +kernel) rfl kf_6_23) (And.intro (s_aload_n d_68_33 rfl) (And.intro (s_get d_68_34 (C := kR6) (T := kT6) (N := 6) rfl kjn6 (by decide +kernel) rfl kf_6_19) (And.intro (s_iload_n d_68_37 rfl) (And.intro (s_cv d_68_38 kl_6_106 k_im_41 k_se_41 kok_41 rfl (by decide +kernel) rfl rfl) (And.intro (s_cv d_68_41 kl_6_183 k_im_64 k_se_64 kok_64 rfl (by decide +kernel) rfl rfl) (And.intro (s_cv d_68_44 kl_6_129 k_im_47 k_se_47 kok_47 rfl (by decide +kernel) rfl rfl) (And.intro (s_ret d_68_47 rfl) (True.intro))))))))))))))))))))))))))))
theorem d_69_0 : decode (kby 69) 0 = .ok (.aload_n 0, 1) := by decide +kernel
theorem d_69_1 : decode (kby 69) 1 = .ok (.getfield 21, 3) := by decide +kernel
theorem d_69_4 : decode (kby 69) 4 = .ok (.getfield 83, 3) := by decide +kernel
theorem d_69_7 : decode (kby 69) 7 = .ok (.iload_n 1, 1) := by decide +kernel
theorem d_69_8 : decode (kby 69) 8 = .ok (.invokevirtual 69, 3) := by decide +kernel
theorem d_69_11 : decode (kby 69) 11 = .ok (.istore_n 2, 1) := by decide +kernel
theorem d_69_12 : decode (kby 69) 12 = .ok (.aload_n 0, 1) := by decide +kernel
theorem d_69_13 : decode (kby 69) 13 = .ok (.getfield 21, 3) := by decide +kernel
theorem d_69_16 : decode (kby 69) 16 = .ok (.iload_n 2, 1) := by decide +kernel
theorem d_69_17 : decode (kby 69) 17 = .ok (.invokevirtual 101, 3) := by decide +kernel
theorem d_69_20 : decode (kby 69) 20 = .ok (.ifCond .eq 12, 3) := by decide +kernel
theorem d_69_23 : decode (kby 69) 23 = .ok (.aload_n 0, 1) := by decide +kernel
theorem d_69_24 : decode (kby 69) 24 = .ok (.getfield 105, 3) := by decide +kernel
theorem d_69_27 : decode (kby 69) 27 = .ok (.bipush 8, 2) := by decide +kernel
theorem d_69_29 : decode (kby 69) 29 = .ok (.if_icmp .lt 5, 3) := by decide +kernel
theorem d_69_32 : decode (kby 69) 32 = .ok (.iconst (-1), 1) := by decide +kernel
theorem d_69_33 : decode (kby 69) 33 = .ok (.ireturn, 1) := by decide +kernel
theorem d_69_34 : decode (kby 69) 34 = .ok (.aload_n 0, 1) := by decide +kernel
theorem d_69_35 : decode (kby 69) 35 = .ok (.getfield 21, 3) := by decide +kernel
theorem d_69_38 : decode (kby 69) 38 = .ok (.iconst 2, 1) := by decide +kernel
theorem d_69_39 : decode (kby 69) 39 = .ok (.aload_n 0, 1) := by decide +kernel
theorem d_69_40 : decode (kby 69) 40 = .ok (.getfield 105, 3) := by decide +kernel
theorem d_69_43 : decode (kby 69) 43 = .ok (.iconst 0, 1) := by decide +kernel
theorem d_69_44 : decode (kby 69) 44 = .ok (.aload_n 0, 1) := by decide +kernel
theorem d_69_45 : decode (kby 69) 45 = .ok (.getfield 21, 3) := by decide +kernel
theorem d_69_48 : decode (kby 69) 48 = .ok (.iload_n 2, 1) := by decide +kernel
theorem d_69_49 : decode (kby 69) 49 = .ok (.invokevirtual 109, 3) := by decide +kernel
theorem d_69_52 : decode (kby 69) 52 = .ok (.invokevirtual 74, 3) := by decide +kernel
theorem d_69_55 : decode (kby 69) 55 = .ok (.istore_n 3, 1) := by decide +kernel
theorem d_69_56 : decode (kby 69) 56 = .ok (.aload_n 0, 1) := by decide +kernel
theorem d_69_57 : decode (kby 69) 57 = .ok (.getfield 28, 3) := by decide +kernel
theorem d_69_60 : decode (kby 69) 60 = .ok (.invokevirtual 112, 3) := by decide +kernel
theorem d_69_63 : decode (kby 69) 63 = .ok (.aload_n 0, 1) := by decide +kernel
theorem d_69_64 : decode (kby 69) 64 = .ok (.aload_n 0, 1) := by decide +kernel
theorem d_69_65 : decode (kby 69) 65 = .ok (.getfield 28, 3) := by decide +kernel
theorem d_69_68 : decode (kby 69) 68 = .ok (.aload_n 0, 1) := by decide +kernel
theorem d_69_69 : decode (kby 69) 69 = .ok (.getfield 21, 3) := by decide +kernel
theorem d_69_72 : decode (kby 69) 72 = .ok (.iload_n 3, 1) := by decide +kernel
theorem d_69_73 : decode (kby 69) 73 = .ok (.iload_n 2, 1) := by decide +kernel
theorem d_69_74 : decode (kby 69) 74 = .ok (.invokevirtual 115, 3) := by decide +kernel
theorem d_69_77 : decode (kby 69) 77 = .ok (.invokevirtual 118, 3) := by decide +kernel
theorem d_69_80 : decode (kby 69) 80 = .ok (.invokevirtual 98, 3) := by decide +kernel
theorem d_69_83 : decode (kby 69) 83 = .ok (.istore 4, 2) := by decide +kernel
theorem d_69_85 : decode (kby 69) 85 = .ok (.iload 4, 2) := by decide +kernel
theorem d_69_87 : decode (kby 69) 87 = .ok (.ifCond .lt 13, 3) := by decide +kernel
theorem d_69_90 : decode (kby 69) 90 = .ok (.aload_n 0, 1) := by decide +kernel
theorem d_69_91 : decode (kby 69) 91 = .ok (.dup, 1) := by decide +kernel
theorem d_69_92 : decode (kby 69) 92 = .ok (.getfield 105, 3) := by decide +kernel
theorem d_69_95 : decode (kby 69) 95 = .ok (.iconst 1, 1) := by decide +kernel
theorem d_69_96 : decode (kby 69) 96 = .ok (.iadd, 1) := by decide +kernel
theorem d_69_97 : decode (kby 69) 97 = .ok (.putfield 105, 3) := by decide +kernel
theorem d_69_100 : decode (kby 69) 100 = .ok (.iload 4, 2) := by decide +kernel
theorem d_69_102 : decode (kby 69) 102 = .ok (.ireturn, 1) := by decide +kernel
set_option maxRecDepth 100000 in
theorem ka_69 : kall 69 0 kc_69 := And.intro (s_aload_n d_69_0 rfl) (And.intro (s_get d_69_1 (C := kR0) (T := kT0) (N := 8) rfl kjn0 (by decide +kernel) rfl kf_0_21) (And.intro (s_get d_69_4 (C := kR3) (T := kT3) (N := 15) rfl kjn3 (by decide +kernel) rfl kf_0_83) (And.intro (s_iload_n d_69_7 rfl) (And.intro (s_cv d_69_8 kl_0_69 k_im_9 k_se_9 kok_9 rfl (by decide +kernel) rfl rfl) (And.intro (s_istore_n d_69_11 rfl (by decide +kernel)) (And.intro (s_aload_n d_69_12 rfl) (And.intro (s_get d_69_13 (C := kR0) (T := kT0) (N := 8) rfl kjn0 (by decide +kernel) rfl kf_0_21) (And.intro (s_iload_n d_69_16 rfl) (And.intro (s_cv d_69_17 kl_0_101 k_im_70 k_se_70 kok_70 rfl (by decide +kernel) rfl rfl) (And.intro (s_if_eq d_69_20 (by decide +kernel)) (And.intro (s_aload_n d_69_23 rfl) (And.intro (s_get d_69_24 (C := kR0) (T := kT0) (N := 8) rfl kjn0 (by decide +kernel) rfl kf_0_105) (And.intro (s_bipush d_69_27 (by decide +kernel)) (And.intro (s_icmp_lt d_69_29 (by decide +kernel)) (And.intro (s_iconst d_69_32 (by decide +kernel)) (And.intro (s_ret d_69_33 rfl) (And.intro (s_aload_n d_69_34 rfl) (And.intro (s_get d_69_35 (C := kR0) (T := kT0) (N := 8) rfl kjn0 (by decide +kernel) rfl kf_0_21) (And.intro (s_iconst d_69_38 (by decide +kernel)) (And.intro (s_aload_n d_69_39 rfl) (And.intro (s_get d_69_40 (C := kR0) (T := kT0) (N := 8) rfl kjn0 (by decide +kernel) rfl kf_0_105) (And.intro (s_iconst d_69_43 (by decide +kernel)) (And.intro (s_aload_n d_69_44 rfl) (And.intro (s_get d_69_45 (C := kR0) (T := kT0) (N := 8) rfl kjn0 (by decide +kernel) rfl kf_0_21) (And.intro (s_iload_n d_69_48 rfl) (And.intro (s_cv d_69_49 kl_0_109 k_im_35 k_se_35 kok_35 rfl (by decide +kernel) rfl rfl) (And.intro (s_cv d_69_52 kl_0_74 k_im_11 k_se_11 kok_11 rfl (by decide +kernel) rfl rfl) (And.intro (s_istore_n d_69_55 rfl (by decide +kernel)) (And.intro (s_aload_n d_69_56 rfl) (And.intro (s_get d_69_57 (C := kR0) (T := kT0) (N := 8) rfl kjn0 (by decide +kernel) rfl kf_0_28) (And.intro (s_cw d_69_60 kl_0_112 k_im_31 k_se_31 kok_31 rfl (by decide +kernel) rfl rfl) (And.intro (s_aload_n d_69_63 rfl) (And.intro (s_aload_n d_69_64 rfl) (And.intro (s_get d_69_65 (C := kR0) (T := kT0) (N := 8) rfl kjn0 (by decide +kernel) rfl kf_0_28) (And.intro (s_aload_n d_69_68 rfl) (And.intro (s_get d_69_69 (C := kR0) (T := kT0) (N := 8) rfl kjn0 (by decide +kernel) rfl kf_0_21) (And.intro (s_iload_n d_69_72 rfl) (And.intro (s_iload_n d_69_73 rfl) (And.intro (s_cv d_69_74 kl_0_115 k_im_34 k_se_34 kok_34 rfl (by decide +kernel) rfl rfl) (And.intro (s_cv d_69_77 kl_0_118 k_im_36 k_se_36 kok_36 rfl (by decide +kernel) rfl rfl) (And.intro (s_cv d_69_80 kl_0_98 k_im_4 k_se_4 kok_4 rfl (by decide +kernel) rfl rfl) (And.intro (s_istore d_69_83 (by decide +kernel)) (And.intro (s_iload d_69_85) (And.intro (s_if_lt d_69_87 (by decide +kernel)) (And.intro (s_aload_n d_69_90 rfl) (And.intro (s_dup d_69_91) (And.intro (s_get d_69_92 (C := kR0) (T := kT0) (N := 8) rfl kjn0 (by decide +kernel) rfl kf_0_105) (And.intro (s_iconst d_69_95 (by decide +kernel)) (And.intro (s_iadd d_69_96) (And.intro (s_put d_69_97 (C := kR0) (T := kT0) (N := 8) rfl kjn0 (by decide +kernel) rfl kf_0_105 kt0 kty0 knm0 rfl (by decide +kernel)) (And.intro (s_iload d_69_100) (And.intro (s_ret d_69_102 rfl) (True.intro)))))))))))))))))))))))))))))))))))))))))))))))))))))
theorem d_70_0 : decode (kby 70) 0 = .ok (.iload_n 1, 1) := by decide +kernel
theorem d_70_1 : decode (kby 70) 1 = .ok (.ifCond .lt 25, 3) := by decide +kernel
theorem d_70_4 : decode (kby 70) 4 = .ok (.aload_n 0, 1) := by decide +kernel
theorem d_70_5 : decode (kby 70) 5 = .ok (.getfield 40, 3) := by decide +kernel
theorem d_70_8 : decode (kby 70) 8 = .ok (.iload_n 1, 1) := by decide +kernel
theorem d_70_9 : decode (kby 70) 9 = .ok (.baload, 1) := by decide +kernel
theorem d_70_10 : decode (kby 70) 10 = .ok (.ifCond .ne 16, 3) := by decide +kernel
theorem d_70_13 : decode (kby 70) 13 = .ok (.aload_n 0, 1) := by decide +kernel
theorem d_70_14 : decode (kby 70) 14 = .ok (.getfield 33, 3) := by decide +kernel
theorem d_70_17 : decode (kby 70) 17 = .ok (.iload_n 1, 1) := by decide +kernel
theorem d_70_18 : decode (kby 70) 18 = .ok (.baload, 1) := by decide +kernel
theorem d_70_19 : decode (kby 70) 19 = .ok (.ifCond .ne 7, 3) := by decide +kernel
theorem d_70_22 : decode (kby 70) 22 = .ok (.iconst 1, 1) := by decide +kernel
theorem d_70_23 : decode (kby 70) 23 = .ok (.goto 4, 3) := by decide +kernel
theorem d_70_26 : decode (kby 70) 26 = .ok (.iconst 0, 1) := by decide +kernel
theorem d_70_27 : decode (kby 70) 27 = .ok (.ireturn, 1) := by decide +kernel
set_option maxRecDepth 100000 in
theorem ka_70 : kall 70 0 kc_70 := And.intro (s_iload_n d_70_0 rfl) (And.intro (s_if_lt d_70_1 (by decide +kernel)) (And.intro (s_aload_n d_70_4 rfl) (And.intro (s_get d_70_5 (C := kR3) (T := kT3) (N := 15) rfl kjn3 (by decide +kernel) rfl kf_3_40) (And.intro (s_iload_n d_70_8 rfl) (And.intro (s_baload d_70_9) (And.intro (s_if_ne d_70_10 (by decide +kernel)) (And.intro (s_aload_n d_70_13 rfl) (And.intro (s_get d_70_14 (C := kR3) (T := kT3) (N := 15) rfl kjn3 (by decide +kernel) rfl kf_3_33) (And.intro (s_iload_n d_70_17 rfl) (And.intro (s_baload d_70_18) (And.intro (s_if_ne d_70_19 (by decide +kernel)) (And.intro (s_iconst d_70_22 (by decide +kernel)) (And.intro (s_goto d_70_23 (by decide +kernel)) (And.intro (s_iconst d_70_26 (by decide +kernel)) (And.intro (s_retz d_70_27 rfl) (True.intro))))))))))))))))
theorem d_71_0 : decode (kby 71) 0 = .ok (.aload_n 0, 1) := by decide +kernel
theorem d_71_1 : decode (kby 71) 1 = .ok (.getfield 28, 3) := by decide +kernel
theorem d_71_4 : decode (kby 71) 4 = .ok (.iload_n 1, 1) := by decide +kernel
theorem d_71_5 : decode (kby 71) 5 = .ok (.invokevirtual 121, 3) := by decide +kernel
theorem d_71_8 : decode (kby 71) 8 = .ok (.istore_n 2, 1) := by decide +kernel
theorem d_71_9 : decode (kby 71) 9 = .ok (.aload_n 0, 1) := by decide +kernel
theorem d_71_10 : decode (kby 71) 10 = .ok (.getfield 21, 3) := by decide +kernel
theorem d_71_13 : decode (kby 71) 13 = .ok (.iload_n 2, 1) := by decide +kernel
theorem d_71_14 : decode (kby 71) 14 = .ok (.invokevirtual 124, 3) := by decide +kernel
theorem d_71_17 : decode (kby 71) 17 = .ok (.istore_n 3, 1) := by decide +kernel
theorem d_71_18 : decode (kby 71) 18 = .ok (.aload_n 0, 1) := by decide +kernel
theorem d_71_19 : decode (kby 71) 19 = .ok (.getfield 21, 3) := by decide +kernel
theorem d_71_22 : decode (kby 71) 22 = .ok (.iload_n 3, 1) := by decide +kernel
theorem d_71_23 : decode (kby 71) 23 = .ok (.invokevirtual 101, 3) := by decide +kernel
theorem d_71_26 : decode (kby 71) 26 = .ok (.ifCond .eq 33, 3) := by decide +kernel
theorem d_71_29 : decode (kby 71) 29 = .ok (.aload_n 0, 1) := by decide +kernel
theorem d_71_30 : decode (kby 71) 30 = .ok (.getfield 28, 3) := by decide +kernel
theorem d_71_33 : decode (kby 71) 33 = .ok (.iload_n 1, 1) := by decide +kernel
theorem d_71_34 : decode (kby 71) 34 = .ok (.invokevirtual 127, 3) := by decide +kernel
theorem d_71_37 : decode (kby 71) 37 = .ok (.ifCond .ne 22, 3) := by decide +kernel
theorem d_71_40 : decode (kby 71) 40 = .ok (.aload_n 0, 1) := by decide +kernel
theorem d_71_41 : decode (kby 71) 41 = .ok (.getfield 130, 3) := by decide +kernel
theorem d_71_44 : decode (kby 71) 44 = .ok (.iconst 3, 1) := by decide +kernel
theorem d_71_45 : decode (kby 71) 45 = .ok (.if_icmp .ge 14, 3) := by decide +kernel
theorem d_71_48 : decode (kby 71) 48 = .ok (.aload_n 0, 1) := by decide +kernel
theorem d_71_49 : decode (kby 71) 49 = .ok (.getfield 105, 3) := by decide +kernel
theorem d_71_52 : decode (kby 71) 52 = .ok (.iconst 2, 1) := by decide +kernel
theorem d_71_53 : decode (kby 71) 53 = .ok (.iadd, 1) := by decide +kernel
theorem d_71_54 : decode (kby 71) 54 = .ok (.bipush 8, 2) := by decide +kernel
theorem d_71_56 : decode (kby 71) 56 = .ok (.if_icmp .le 5, 3) := by decide +kernel
theorem d_71_59 : decode (kby 71) 59 = .ok (.iconst (-1), 1) := by decide +kernel
theorem d_71_60 : decode (kby 71) 60 = .ok (.ireturn, 1) := by decide +kernel
theorem d_71_61 : decode (kby 71) 61 = .ok (.aload_n 0, 1) := by decide +kernel
theorem d_71_62 : decode (kby 71) 62 = .ok (.aload_n 0, 1) := by decide +kernel
theorem d_71_63 : decode (kby 71) 63 = .ok (.iload_n 3, 1) := by decide +kernel
theorem d_71_64 : decode (kby 71) 64 = .ok (.aload_n 0, 1) := by decide +kernel
theorem d_71_65 : decode (kby 71) 65 = .ok (.getfield 21, 3) := by decide +kernel
theorem d_71_68 : decode (kby 71) 68 = .ok (.aload_n 0, 1) := by decide +kernel
theorem d_71_69 : decode (kby 71) 69 = .ok (.getfield 21, 3) := by decide +kernel
theorem d_71_72 : decode (kby 71) 72 = .ok (.iload_n 2, 1) := by decide +kernel
theorem d_71_73 : decode (kby 71) 73 = .ok (.invokevirtual 133, 3) := by decide +kernel
theorem d_71_76 : decode (kby 71) 76 = .ok (.invokevirtual 109, 3) := by decide +kernel
theorem d_71_79 : decode (kby 71) 79 = .ok (.invokevirtual 136, 3) := by decide +kernel
theorem d_71_82 : decode (kby 71) 82 = .ok (.invokevirtual 98, 3) := by decide +kernel
theorem d_71_85 : decode (kby 71) 85 = .ok (.istore 4, 2) := by decide +kernel
theorem d_71_87 : decode (kby 71) 87 = .ok (.iload 4, 2) := by decide +kernel
theorem d_71_89 : decode (kby 71) 89 = .ok (.ifCond .lt 23, 3) := by decide +kernel
theorem d_71_92 : decode (kby 71) 92 = .ok (.aload_n 0, 1) := by decide +kernel
theorem d_71_93 : decode (kby 71) 93 = .ok (.dup, 1) := by decide +kernel
theorem d_71_94 : decode (kby 71) 94 = .ok (.getfield 130, 3) := by decide +kernel
theorem d_71_97 : decode (kby 71) 97 = .ok (.iconst 1, 1) := by decide +kernel
theorem d_71_98 : decode (kby 71) 98 = .ok (.iadd, 1) := by decide +kernel
theorem d_71_99 : decode (kby 71) 99 = .ok (.putfield 130, 3) := by decide +kernel
theorem d_71_102 : decode (kby 71) 102 = .ok (.aload_n 0, 1) := by decide +kernel
theorem d_71_103 : decode (kby 71) 103 = .ok (.dup, 1) := by decide +kernel
theorem d_71_104 : decode (kby 71) 104 = .ok (.getfield 105, 3) := by decide +kernel
theorem d_71_107 : decode (kby 71) 107 = .ok (.iconst 2, 1) := by decide +kernel
theorem d_71_108 : decode (kby 71) 108 = .ok (.iadd, 1) := by decide +kernel
theorem d_71_109 : decode (kby 71) 109 = .ok (.putfield 105, 3) := by decide +kernel
theorem d_71_112 : decode (kby 71) 112 = .ok (.iload 4, 2) := by decide +kernel
theorem d_71_114 : decode (kby 71) 114 = .ok (.ireturn, 1) := by decide +kernel
set_option maxRecDepth 100000 in
theorem ka_71 : kall 71 0 kc_71 := And.intro (s_aload_n d_71_0 rfl) (And.intro (s_get d_71_1 (C := kR0) (T := kT0) (N := 8) rfl kjn0 (by decide +kernel) rfl kf_0_28) (And.intro (s_iload_n d_71_4 rfl) (And.intro (s_cv d_71_5 kl_0_121 k_im_41 k_se_41 kok_41 rfl (by decide +kernel) rfl rfl) (And.intro (s_istore_n d_71_8 rfl (by decide +kernel)) (And.intro (s_aload_n d_71_9 rfl) (And.intro (s_get d_71_10 (C := kR0) (T := kT0) (N := 8) rfl kjn0 (by decide +kernel) rfl kf_0_21) (And.intro (s_iload_n d_71_13 rfl) (And.intro (s_cv d_71_14 kl_0_124 k_im_44 k_se_44 kok_44 rfl (by decide +kernel) rfl rfl) (And.intro (s_istore_n d_71_17 rfl (by decide +kernel)) (And.intro (s_aload_n d_71_18 rfl) (And.intro (s_get d_71_19 (C := kR0) (T := kT0) (N := 8) rfl kjn0 (by decide +kernel) rfl kf_0_21) (And.intro (s_iload_n d_71_22 rfl) (And.intro (s_cv d_71_23 kl_0_101 k_im_70 k_se_70 kok_70 rfl (by decide +kernel) rfl rfl) (And.intro (s_if_eq d_71_26 (by decide +kernel)) (And.intro (s_aload_n d_71_29 rfl) (And.intro (s_get d_71_30 (C := kR0) (T := kT0) (N := 8) rfl kjn0 (by decide +kernel) rfl kf_0_28) (And.intro (s_iload_n d_71_33 rfl) (And.intro (s_cv d_71_34 kl_0_127 k_im_49 k_se_49 kok_49 rfl (by decide +kernel) rfl rfl) (And.intro (s_if_ne d_71_37 (by decide +kernel)) (And.intro (s_aload_n d_71_40 rfl) (And.intro (s_get d_71_41 (C := kR0) (T := kT0) (N := 8) rfl kjn0 (by decide +kernel) rfl kf_0_130) (And.intro (s_iconst d_71_44 (by decide +kernel)) (And.intro (s_icmp_ge d_71_45 (by decide +kernel)) (And.intro (s_aload_n d_71_48 rfl) (And.intro (s_get d_71_49 (C := kR0) (T := kT0) (N := 8) rfl kjn0 (by decide +kernel) rfl kf_0_105) (And.intro (s_iconst d_71_52 (by decide +kernel)) (And.intro (s_iadd d_71_53) (And.intro (s_bipush d_71_54 (by decide +kernel)) (And.intro (s_icmp_le d_71_56 (by decide +kernel)) (And.intro (s_iconst d_71_59 (by decide +kernel)) (And.intro (s_ret d_71_60 rfl) (And.intro (s_aload_n d_71_61 rfl) (And.intro (s_aload_n d_71_62 rfl) (And.intro (s_iload_n d_71_63 rfl) (And.intro (s_aload_n d_71_64 rfl) (And.intro (s_get d_71_65 (C := kR0) (T := kT0) (N := 8) rfl kjn0 (by decide +kernel) rfl kf_0_21) (And.intro (s_aload_n d_71_68 rfl) (And.intro (s_get d_71_69 (C := kR0) (T := kT0) (N := 8) rfl kjn0 (by decide +kernel) rfl kf_0_21) (And.intro (s_iload_n d_71_72 rfl) (And.intro (s_cv d_71_73 kl_0_133 k_im_46 k_se_46 kok_46 rfl (by decide +kernel) rfl rfl) (And.intro (s_cv d_71_76 kl_0_109 k_im_35 k_se_35 kok_35 rfl (by decide +kernel) rfl rfl) (And.intro (s_cv d_71_79 kl_0_136 k_im_72 k_se_72 kok_72 rfl (by decide +kernel) rfl rfl) (And.intro (s_cv d_71_82 kl_0_98 k_im_4 k_se_4 kok_4 rfl (by decide +kernel) rfl rfl) (And.intro (s_istore d_71_85 (by decide +kernel)) (And.intro (s_iload d_71_87) (And.intro (s_if_lt d_71_89 (by decide +kernel)) (And.intro (s_aload_n d_71_92 rfl) (And.intro (s_dup d_71_93) (And.intro (s_get d_71_94 (C := kR0) (T := kT0) (N := 8) rfl kjn0 (by decide +kernel) rfl kf_0_130) (And.intro (s_iconst d_71_97 (by decide +kernel)) (And.intro (s_iadd d_71_98) (And.intro (s_put d_71_99 (C := kR0) (T := kT0) (N := 8) rfl kjn0 (by decide +kernel) rfl kf_0_130 kt0 kty0 knm0 rfl (by decide +kernel)) (And.intro (s_aload_n d_71_102 rfl) (And.intro (s_dup d_71_103) (And.intro (s_get d_71_104 (C := kR0) (T := kT0) (N := 8) rfl kjn0 (by decide +kernel) rfl kf_0_105) (And.intro (s_iconst d_71_107 (by decide +kernel)) (And.intro (s_iadd d_71_108) (And.intro (s_put d_71_109 (C := kR0) (T := kT0) (N := 8) rfl kjn0 (by decide +kernel) rfl kf_0_105 kt0 kty0 knm0 rfl (by decide +kernel)) (And.intro (s_iload d_71_112) (And.intro (s_ret d_71_114 rfl) (True.intro)))))))))))))))))))))))))))))))))))))))))))))))))))))))))))))
theorem d_72_0 : decode (kby 72) 0 = .ok (.aload_n 0, 1) := by decide +kernel
theorem d_72_1 : decode (kby 72) 1 = .ok (.getfield 10, 3) := by decide +kernel
theorem d_72_4 : decode (kby 72) 4 = .ok (.iconst 2, 1) := by decide +kernel
theorem d_72_5 : decode (kby 72) 5 = .ok (.aload_n 0, 1) := by decide +kernel
theorem d_72_6 : decode (kby 72) 6 = .ok (.getfield 130, 3) := by decide +kernel
theorem d_72_9 : decode (kby 72) 9 = .ok (.iconst 0, 1) := by decide +kernel
theorem d_72_10 : decode (kby 72) 10 = .ok (.invokevirtual 57, 3) := by decide +kernel
theorem d_72_13 : decode (kby 72) 13 = .ok (.istore_n 3, 1) := by decide +kernel
theorem d_72_14 : decode (kby 72) 14 = .ok (.aload_n 0, 1) := by decide +kernel
theorem d_72_15 : decode (kby 72) 15 = .ok (.getfield 21, 3) := by decide +kernel
theorem d_72_18 : decode (kby 72) 18 = .ok (.iconst 2, 1) := by decide +kernel
theorem d_72_19 : decode (kby 72) 19 = .ok (.aload_n 0, 1) := by decide +kernel
theorem d_72_20 : decode (kby 72) 20 = .ok (.getfield 105, 3) := by decide +kernel
theorem d_72_23 : decode (kby 72) 23 = .ok (.iconst 0, 1) := by decide +kernel
theorem d_72_24 : decode (kby 72) 24 = .ok (.aload_n 0, 1) := by decide +kernel
theorem d_72_25 : decode (kby 72) 25 = .ok (.getfield 10, 3) := by decide +kernel
theorem d_72_28 : decode (kby 72) 28 = .ok (.iconst 3, 1) := by decide +kernel
theorem d_72_29 : decode (kby 72) 29 = .ok (.iload_n 2, 1) := by decide +kernel
theorem d_72_30 : decode (kby 72) 30 = .ok (.iload_n 3, 1) := by decide +kernel
theorem d_72_31 : decode (kby 72) 31 = .ok (.invokevirtual 57, 3) := by decide +kernel
theorem d_72_34 : decode (kby 72) 34 = .ok (.invokevirtual 74, 3) := by decide +kernel
theorem d_72_37 : decode (kby 72) 37 = .ok (.istore 4, 2) := by decide +kernel
theorem d_72_39 : decode (kby 72) 39 = .ok (.aload_n 0, 1) := by decide +kernel
theorem d_72_40 : decode (kby 72) 40 = .ok (.getfield 21, 3) := by decide +kernel
theorem d_72_43 : decode (kby 72) 43 = .ok (.iconst 2, 1) := by decide +kernel
theorem d_72_44 : decode (kby 72) 44 = .ok (.aload_n 0, 1) := by decide +kernel
theorem d_72_45 : decode (kby 72) 45 = .ok (.getfield 105, 3) := by decide +kernel
theorem d_72_48 : decode (kby 72) 48 = .ok (.iconst 1, 1) := by decide +kernel
theorem d_72_49 : decode (kby 72) 49 = .ok (.iadd, 1) := by decide +kernel
theorem d_72_50 : decode (kby 72) 50 = .ok (.iconst 0, 1) := by decide +kernel
theorem d_72_51 : decode (kby 72) 51 = .ok (.aload_n 0, 1) := by decide +kernel
theorem d_72_52 : decode (kby 72) 52 = .ok (.getfield 10, 3) := by decide +kernel
theorem d_72_55 : decode (kby 72) 55 = .ok (.iconst 3, 1) := by decide +kernel
theorem d_72_56 : decode (kby 72) 56 = .ok (.iload_n 3, 1) := by decide +kernel
theorem d_72_57 : decode (kby 72) 57 = .ok (.iload_n 2, 1) := by decide +kernel
theorem d_72_58 : decode (kby 72) 58 = .ok (.invokevirtual 57, 3) := by decide +kernel
theorem d_72_61 : decode (kby 72) 61 = .ok (.invokevirtual 74, 3) := by decide +kernel
theorem d_72_64 : decode (kby 72) 64 = .ok (.istore 5, 2) := by decide +kernel
theorem d_72_66 : decode (kby 72) 66 = .ok (.aload_n 0, 1) := by decide +kernel
theorem d_72_67 : decode (kby 72) 67 = .ok (.getfield 21, 3) := by decide +kernel
theorem d_72_70 : decode (kby 72) 70 = .ok (.iconst 0, 1) := by decide +kernel
theorem d_72_71 : decode (kby 72) 71 = .ok (.iconst 0, 1) := by decide +kernel
theorem d_72_72 : decode (kby 72) 72 = .ok (.iconst 0, 1) := by decide +kernel
theorem d_72_73 : decode (kby 72) 73 = .ok (.iload_n 3, 1) := by decide +kernel
theorem d_72_74 : decode (kby 72) 74 = .ok (.invokevirtual 74, 3) := by decide +kernel
theorem d_72_77 : decode (kby 72) 77 = .ok (.istore 6, 2) := by decide +kernel
theorem d_72_79 : decode (kby 72) 79 = .ok (.aload_n 0, 1) := by decide +kernel
theorem d_72_80 : decode (kby 72) 80 = .ok (.getfield 21, 3) := by decide +kernel
theorem d_72_83 : decode (kby 72) 83 = .ok (.iconst 0, 1) := by decide +kernel
theorem d_72_84 : decode (kby 72) 84 = .ok (.iconst 0, 1) := by decide +kernel
theorem d_72_85 : decode (kby 72) 85 = .ok (.iconst 0, 1) := by decide +kernel
theorem d_72_86 : decode (kby 72) 86 = .ok (.iload_n 2, 1) := by decide +kernel
theorem d_72_87 : decode (kby 72) 87 = .ok (.invokevirtual 74, 3) := by decide +kernel
theorem d_72_90 : decode (kby 72) 90 = .ok (.istore 7, 2) := by decide +kernel
theorem d_72_92 : decode (kby 72) 92 = .ok (.aload_n 0, 1) := by decide +kernel
theorem d_72_93 : decode (kby 72) 93 = .ok (.getfield 21, 3) := by decide +kernel
theorem d_72_96 : decode (kby 72) 96 = .ok (.aload_n 0, 1) := by decide +kernel
theorem d_72_97 : decode (kby 72) 97 = .ok (.getfield 21, 3) := by decide +kernel
theorem d_72_100 : decode (kby 72) 100 = .ok (.iload 4, 2) := by decide +kernel
theorem d_72_102 : decode (kby 72) 102 = .ok (.aload_n 0, 1) := by decide +kernel
theorem d_72_103 : decode (kby 72) 103 = .ok (.getfield 21, 3) := by decide +kernel
theorem d_72_106 : decode (kby 72) 106 = .ok (.iload 5, 2) := by decide +kernel
theorem d_72_108 : decode (kby 72) 108 = .ok (.iload 6, 2) := by decide +kernel
theorem d_72_110 : decode (kby 72) 110 = .ok (.invokevirtual 84, 3) := by decide +kernel
theorem d_72_113 : decode (kby 72) 113 = .ok (.invokevirtual 84, 3) := by decide +kernel
theorem d_72_116 : decode (kby 72) 116 = .ok (.iload 6, 2) := by decide +kernel
theorem d_72_118 : decode (kby 72) 118 = .ok (.invokevirtual 115, 3) := by decide +kernel
theorem d_72_121 : decode (kby 72) 121 = .ok (.istore 8, 2) := by decide +kernel
theorem d_72_123 : decode (kby 72) 123 = .ok (.aload_n 0, 1) := by decide +kernel
theorem d_72_124 : decode (kby 72) 124 = .ok (.getfield 21, 3) := by decide +kernel
theorem d_72_127 : decode (kby 72) 127 = .ok (.aload_n 0, 1) := by decide +kernel
theorem d_72_128 : decode (kby 72) 128 = .ok (.getfield 21, 3) := by decide +kernel
theorem d_72_131 : decode (kby 72) 131 = .ok (.iload 5, 2) := by decide +kernel
theorem d_72_133 : decode (kby 72) 133 = .ok (.aload_n 0, 1) := by decide +kernel
theorem d_72_134 : decode (kby 72) 134 = .ok (.getfield 21, 3) := by decide +kernel
theorem d_72_137 : decode (kby 72) 137 = .ok (.iload 4, 2) := by decide +kernel
theorem d_72_139 : decode (kby 72) 139 = .ok (.iload 7, 2) := by decide +kernel
theorem d_72_141 : decode (kby 72) 141 = .ok (.invokevirtual 84, 3) := by decide +kernel
theorem d_72_144 : decode (kby 72) 144 = .ok (.invokevirtual 84, 3) := by decide +kernel
theorem d_72_147 : decode (kby 72) 147 = .ok (.iload 7, 2) := by decide +kernel
theorem d_72_149 : decode (kby 72) 149 = .ok (.invokevirtual 115, 3) := by decide +kernel
theorem d_72_152 : decode (kby 72) 152 = .ok (.istore 9, 2) := by decide +kernel
theorem d_72_154 : decode (kby 72) 154 = .ok (.aload_n 0, 1) := by decide +kernel
theorem d_72_155 : decode (kby 72) 155 = .ok (.getfield 28, 3) := by decide +kernel
theorem d_72_158 : decode (kby 72) 158 = .ok (.invokevirtual 112, 3) := by decide +kernel
theorem d_72_161 : decode (kby 72) 161 = .ok (.aload_n 0, 1) := by decide +kernel
theorem d_72_162 : decode (kby 72) 162 = .ok (.getfield 28, 3) := by decide +kernel
theorem d_72_165 : decode (kby 72) 165 = .ok (.iload 8, 2) := by decide +kernel
theorem d_72_167 : decode (kby 72) 167 = .ok (.invokevirtual 118, 3) := by decide +kernel
theorem d_72_170 : decode (kby 72) 170 = .ok (.istore 10, 2) := by decide +kernel
theorem d_72_172 : decode (kby 72) 172 = .ok (.aload_n 0, 1) := by decide +kernel
theorem d_72_173 : decode (kby 72) 173 = .ok (.getfield 28, 3) := by decide +kernel
theorem d_72_176 : decode (kby 72) 176 = .ok (.aload_n 0, 1) := by decide +kernel
theorem d_72_177 : decode (kby 72) 177 = .ok (.getfield 21, 3) := by decide +kernel
theorem d_72_180 : decode (kby 72) 180 = .ok (.aload_n 0, 1) := by decide +kernel
theorem d_72_181 : decode (kby 72) 181 = .ok (.getfield 21, 3) := by decide +kernel
theorem d_72_184 : decode (kby 72) 184 = .ok (.iload_n 1, 1) := by decide +kernel
theorem d_72_185 : decode (kby 72) 185 = .ok (.iload 7, 2) := by decide +kernel
theorem d_72_187 : decode (kby 72) 187 = .ok (.invokevirtual 84, 3) := by decide +kernel
theorem d_72_190 : decode (kby 72) 190 = .ok (.iload 9, 2) := by decide +kernel
theorem d_72_192 : decode (kby 72) 192 = .ok (.invokevirtual 115, 3) := by decide +kernel
theorem d_72_195 : decode (kby 72) 195 = .ok (.invokevirtual 118, 3) := by decide +kernel
theorem d_72_198 : decode (kby 72) 198 = .ok (.istore 11, 2) := by decide +kernel
theorem d_72_200 : decode (kby 72) 200 = .ok (.iload 11, 2) := by decide +kernel
theorem d_72_202 : decode (kby 72) 202 = .ok (.ifCond .ge 7, 3) := by decide +kernel
theorem d_72_205 : decode (kby 72) 205 = .ok (.iconst (-1), 1) := by decide +kernel
theorem d_72_206 : decode (kby 72) 206 = .ok (.goto 5, 3) := by decide +kernel
theorem d_72_209 : decode (kby 72) 209 = .ok (.iload 10, 2) := by decide +kernel
theorem d_72_211 : decode (kby 72) 211 = .ok (.ireturn, 1) := by decide +kernel
set_option maxRecDepth 100000 in
theorem ka_72 : kall 72 0 kc_72 := And.intro (s_aload_n d_72_0 rfl) (And.intro (s_get d_72_1 (C := kR0) (T := kT0) (N := 8) rfl kjn0 (by decide +kernel) rfl kf_0_10) (And.intro (s_iconst d_72_4 (by decide +kernel)) (And.intro (s_aload_n d_72_5 rfl) (And.intro (s_get d_72_6 (C := kR0) (T := kT0) (N := 8) rfl kjn0 (by decide +kernel) rfl kf_0_130) (And.intro (s_iconst d_72_9 (by decide +kernel)) (And.intro (s_cv d_72_10 kl_0_57 k_im_0 k_se_0 kok_0 rfl (by decide +kernel) rfl rfl) (And.intro (s_istore_n d_72_13 rfl (by decide +kernel)) (And.intro (s_aload_n d_72_14 rfl) (And.intro (s_get d_72_15 (C := kR0) (T := kT0) (N := 8) rfl kjn0 (by decide +kernel) rfl kf_0_21) (And.intro (s_iconst d_72_18 (by decide +kernel)) (And.intro (s_aload_n d_72_19 rfl) (And.intro (s_get d_72_20 (C := kR0) (T := kT0) (N := 8) rfl kjn0 (by decide +kernel) rfl kf_0_105) (And.intro (s_iconst d_72_23 (by decide +kernel)) (And.intro (s_aload_n d_72_24 rfl) (And.intro (s_get d_72_25 (C := kR0) (T := kT0) (N := 8) rfl kjn0 (by decide +kernel) rfl kf_0_10) (And.intro (s_iconst d_72_28 (by decide +kernel)) (And.intro (s_iload_n d_72_29 rfl) (And.intro (s_iload_n d_72_30 rfl) (And.intro (s_cv d_72_31 kl_0_57 k_im_0 k_se_0 kok_0 rfl (by decide +kernel) rfl rfl) (And.intro (s_cv d_72_34 kl_0_74 k_im_11 k_se_11 kok_11 rfl (by decide +kernel) rfl rfl) (And.intro (s_istore d_72_37 (by decide +kernel)) (And.intro (s_aload_n d_72_39 rfl) (And.intro (s_get d_72_40 (C := kR0) (T := kT0) (N := 8) rfl kjn0 (by decide +kernel) rfl kf_0_21) (And.intro (s_iconst d_72_43 (by decide +kernel)) (And.intro (s_aload_n d_72_44 rfl) (And.intro (s_get d_72_45 (C := kR0) (T := kT0) (N := 8) rfl kjn0 (by decide +kernel) rfl kf_0_105) (And.intro (s_iconst d_72_48 (by decide +kernel)) (And.intro (s_iadd d_72_49) (And.intro (s_iconst d_72_50 (by decide +kernel)) (And.intro (s_aload_n d_72_51 rfl) (And.intro (s_get d_72_52 (C := kR0) (T := kT0) (N := 8) rfl kjn0 (by decide +kernel) rfl kf_0_10) (And.intro (s_iconst d_72_55 (by decide +kernel)) (And.intro (s_iload_n d_72_56 rfl) (And.intro (s_iload_n d_72_57 rfl) (And.intro (s_cv d_72_58 kl_0_57 k_im_0 k_se_0 kok_0 rfl (by decide +kernel) rfl rfl) (And.intro (s_cv d_72_61 kl_0_74 k_im_11 k_se_11 kok_11 rfl (by decide +kernel) rfl rfl) (And.intro (s_istore d_72_64 (by decide +kernel)) (And.intro (s_aload_n d_72_66 rfl) (And.intro (s_get d_72_67 (C := kR0) (T := kT0) (N := 8) rfl kjn0 (by decide +kernel) rfl kf_0_21) (And.intro (s_iconst d_72_70 (by decide +kernel)) (And.intro (s_iconst d_72_71 (by decide +kernel)) (And.intro (s_iconst d_72_72 (by decide +kernel)) (And.intro (s_iload_n d_72_73 rfl) (And.intro (s_cv d_72_74 kl_0_74 k_im_11 k_se_11 kok_11 rfl (by decide +kernel) rfl rfl) (And.intro (s_istore d_72_77 (by decide +kernel)) (And.intro (s_aload_n d_72_79 rfl) (And.intro (s_get d_72_80 (C := kR0) (T := kT0) (N := 8) rfl kjn0 (by decide +kernel) rfl kf_0_21) (And.intro (s_iconst d_72_83 (by decide +kernel)) (And.intro (s_iconst d_72_84 (by decide +kernel)) (And.intro (s_iconst d_72_85 (by decide +kernel)) (And.intro (s_iload_n d_72_86 rfl) (And.intro (s_cv d_72_87 kl_0_74 k_im_11 k_se_11 kok_11 rfl (by decide +kernel) rfl rfl) (And.intro (s_istore d_72_90 (by decide +kernel)) (And.intro (s_aload_n d_72_92 rfl) (And.intro (s_get d_72_93 (C := kR0) (T := kT0) (N := 8) rfl kjn0 (by decide +kernel) rfl kf_0_21) (And.intro (s_aload_n d_72_96 rfl) (And.intro (s_get d_72_97 (C := kR0) (T := kT0) (N := 8) rfl kjn0 (by decide +kernel) rfl kf_0_21) (And.intro (s_iload d_72_100) (And.intro (s_aload_n d_72_102 rfl) (And.intro (s_get d_72_103 (C := kR0) (T := kT0) (N := 8) rfl kjn0 (by decide +kernel) rfl kf_0_21) (And.intro (s_iload d_72_106) (And.intro (s_iload d_72_108) (And.intro (s_cv d_72_110 kl_0_84 k_im_16 k_se_16 kok_16 rfl (by decide +kernel) rfl rfl) (And.intro (s_cv d_72_113 kl_0_84 k_im_16 k_se_16 kok_16 rfl (by decide +kernel) rfl rfl) (And.intro (s_iload d_72_116) (And.intro (s_cv d_72_118 kl_0_115 k_im_34 k_se_34 kok_34 rfl (by decide +kernel) rfl rfl) (And.intro (s_istore d_72_121 (by decide +kernel)) (And.intro (s_aload_n d_72_123 rfl) (And.intro (s_get d_72_124 (C := kR0) (T := kT0) (N := 8) rfl kjn0 (by decide +kernel) rfl kf_0_21) (And.intro (s_aload_n d_72_127 rfl) (And.intro (s_get d_72_128 (C := kR0) (T := kT0) (N := 8) rfl kjn0 (by decide +kernel) rfl kf_0_21) (And.intro (s_iload d_72_131) (And.intro (s_aload_n d_72_133 rfl) (And.intro (s_get d_72_134 (C := kR0) (T := kT0) (N := 8) rfl kjn0 (by decide +kernel) rfl kf_0_21) (And.intro (s_iload d_72_137) (And.intro (s_iload d_72_139) (And.intro (s_cv d_72_141 kl_0_84 k_im_16 k_se_16 kok_16 rfl (by decide +kernel) rfl rfl) (And.intro (s_cv d_72_144 kl_0_84 k_im_16 k_se_16 kok_16 rfl (by decide +kernel) rfl rfl) (And.intro (s_iload d_72_147) (And.intro (s_cv d_72_149 kl_0_115 k_im_34 k_se_34 kok_34 rfl (by decide +kernel) rfl rfl) (And.intro (s_istore d_72_152 (by decide +kernel)) (And.intro (s_aload_n d_72_154 rfl) (And.intro (s_get d_72_155 (C := kR0) (T := kT0) (N := 8) rfl kjn0 (by decide +kernel) rfl kf_0_28) (And.intro (s_cw d_72_158 kl_0_112 k_im_31 k_se_31 kok_31 rfl (by decide +kernel) rfl rfl) (And.intro (s_aload_n d_72_161 rfl) (And.intro (s_get d_72_162 (C := kR0) (T := kT0) (N := 8) rfl kjn0 (by decide +kernel) rfl kf_0_28) (And.intro (s_iload d_72_165) (And.intro (s_cv d_72_167 kl_0_118 k_im_36 k_se_36 kok_36 rfl (by decide +kernel) rfl rfl) (And.intro (s_istore d_72_170 (by decide +kernel)) (And.intro (s_aload_n d_72_172 rfl) (And.intro (s_get d_72_173 (C := kR0) (T := kT0) (N := 8) rfl kjn0 (by decide +kernel) rfl kf_0_28) (And.intro (s_aload_n d_72_176 rfl) (And.intro (s_get d_72_177 (C := kR0) (T := kT0) (N := 8) rfl kjn0 (by decide +kernel) rfl kf_0_21) (And.intro (s_aload_n d_72_180 rfl) (And.intro (s_get d_72_181 (C := kR0) (T := kT0) (N := 8) rfl kjn0 (by decide +kernel) rfl kf_0_21) (And.intro (s_iload_n d_72_184 rfl) (And.intro (s_iload d_72_185) (And.intro (s_cv d_72_187 kl_0_84 k_im_16 k_se_16 kok_16 rfl (by decide +kernel) rfl rfl) (And.intro (s_iload d_72_190) (And.intro (s_cv d_72_192 kl_0_115 k_im_34 k_se_34 kok_34 rfl (by decide +kernel) rfl rfl) (And.intro (s_cv d_72_195 kl_0_118 k_im_36 k_se_36 kok_36 rfl (by decide +kernel) rfl rfl) (And.intro (s_istore d_72_198 (by decide +kernel)) (And.intro (s_iload d_72_200) (And.intro (s_if_ge d_72_202 (by decide +kernel)) (And.intro (s_iconst d_72_205 (by decide +kernel)) (And.intro (s_goto d_72_206 (by decide +kernel)) (And.intro (s_iload d_72_209) (And.intro (s_ret d_72_211 rfl) (True.intro)))))))))))))))))))))))))))))))))))))))))))))))))))))))))))))))))))))))))))))))))))))))))))))))))))))))))))))
theorem d_73_0 : decode (kby 73) 0 = .ok (.aload_n 0, 1) := by decide +kernel
theorem d_73_1 : decode (kby 73) 1 = .ok (.getfield 46, 3) := by decide +kernel
theorem d_73_4 : decode (kby 73) 4 = .ok (.iload_n 1, 1) := by decide +kernel
theorem d_73_5 : decode (kby 73) 5 = .ok (.invokevirtual 139, 3) := by decide +kernel
theorem d_73_8 : decode (kby 73) 8 = .ok (.ifCond .eq 18, 3) := by decide +kernel
theorem d_73_11 : decode (kby 73) 11 = .ok (.aload_n 0, 1) := by decide +kernel
theorem d_73_12 : decode (kby 73) 12 = .ok (.getfield 53, 3) := by decide +kernel
theorem d_73_15 : decode (kby 73) 15 = .ok (.iload_n 1, 1) := by decide +kernel
theorem d_73_16 : decode (kby 73) 16 = .ok (.iload_n 2, 1) := by decide +kernel
theorem d_73_17 : decode (kby 73) 17 = .ok (.iload_n 3, 1) := by decide +kernel
theorem d_73_18 : decode (kby 73) 18 = .ok (.iload 4, 2) := by decide +kernel
theorem d_73_20 : decode (kby 73) 20 = .ok (.invokevirtual 142, 3) := by decide +kernel
theorem d_73_23 : decode (kby 73) 23 = .ok (.goto 4, 3) := by decide +kernel
theorem d_73_26 : decode (kby 73) 26 = .ok (.iconst (-1), 1) := by decide +kernel
theorem d_73_27 : decode (kby 73) 27 = .ok (.ireturn, 1) := by decide +kernel
set_option maxRecDepth 100000 in
theorem ka_73 : kall 73 0 kc_73 := And.intro (s_aload_n d_73_0 rfl) (And.intro (s_get d_73_1 (C := kR0) (T := kT0) (N := 8) rfl kjn0 (by decide +kernel) rfl kf_0_46) (And.intro (s_iload_n d_73_4 rfl) (And.intro (s_cv d_73_5 kl_0_139 k_im_74 k_se_74 kok_74 rfl (by decide +kernel) rfl rfl) (And.intro (s_if_eq d_73_8 (by decide +kernel)) (And.intro (s_aload_n d_73_11 rfl) (And.intro (s_get d_73_12 (C := kR0) (T := kT0) (N := 8) rfl kjn0 (by decide +kernel) rfl kf_0_53) (And.intro (s_iload_n d_73_15 rfl) (And.intro (s_iload_n d_73_16 rfl) (And.intro (s_iload_n d_73_17 rfl) (And.intro (s_iload d_73_18) (And.intro (s_cv d_73_20 kl_0_142 k_im_75 k_se_75 kok_75 rfl (by decide +kernel) rfl rfl) (And.intro (s_goto d_73_23 (by decide +kernel)) (And.intro (s_iconst d_73_26 (by decide +kernel)) (And.intro (s_ret d_73_27 rfl) (True.intro)))))))))))))))
