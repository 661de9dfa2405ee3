/-! printed: each instruction is sound -/
theorem d_74_0 : decode (kby 74) 0 = .ok (.iload_n 1, 1) := by decide +kernel
theorem d_74_1 : decode (kby 74) 1 = .ok (.ifCond .lt 13, 3) := by decide +kernel
theorem d_74_4 : decode (kby 74) 4 = .ok (.iload_n 1, 1) := by decide +kernel
theorem d_74_5 : decode (kby 74) 5 = .ok (.bipush 10, 2) := by decide +kernel
theorem d_74_7 : decode (kby 74) 7 = .ok (.if_icmp .gt 7, 3) := by decide +kernel
theorem d_74_10 : decode (kby 74) 10 = .ok (.iconst 1, 1) := by decide +kernel
theorem d_74_11 : decode (kby 74) 11 = .ok (.goto 4, 3) := by decide +kernel
theorem d_74_14 : decode (kby 74) 14 = .ok (.iconst 0, 1) := by decide +kernel
theorem d_74_15 : decode (kby 74) 15 = .ok (.ireturn, 1) := by decide +kernel
set_option maxRecDepth 100000 in
theorem ka_74 : kall 74 0 kc_74 := And.intro (s_iload_n d_74_0 rfl) (And.intro (s_if_lt d_74_1 (by decide +kernel)) (And.intro (s_iload_n d_74_4 rfl) (And.intro (s_bipush d_74_5 (by decide +kernel)) (And.intro (s_icmp_gt d_74_7 (by decide +kernel)) (And.intro (s_iconst d_74_10 (by decide +kernel)) (And.intro (s_goto d_74_11 (by decide +kernel)) (And.intro (s_iconst d_74_14 (by decide +kernel)) (And.intro (s_retz d_74_15 rfl) (True.intro)))))))))
theorem d_75_0 : decode (kby 75) 0 = .ok (.aload_n 0, 1) := by decide +kernel
theorem d_75_1 : decode (kby 75) 1 = .ok (.getfield 24, 3) := by decide +kernel
theorem d_75_4 : decode (kby 75) 4 = .ok (.bipush 12, 2) := by decide +kernel
theorem d_75_6 : decode (kby 75) 6 = .ok (.if_icmp .lt 5, 3) := by decide +kernel
theorem d_75_9 : decode (kby 75) 9 = .ok (.iconst (-1), 1) := by decide +kernel
theorem d_75_10 : decode (kby 75) 10 = .ok (.ireturn, 1) := by decide +kernel
theorem d_75_11 : decode (kby 75) 11 = .ok (.aload_n 0, 1) := by decide +kernel
theorem d_75_12 : decode (kby 75) 12 = .ok (.getfield 11, 3) := by decide +kernel
theorem d_75_15 : decode (kby 75) 15 = .ok (.aload_n 0, 1) := by decide +kernel
theorem d_75_16 : decode (kby 75) 16 = .ok (.getfield 24, 3) := by decide +kernel
theorem d_75_19 : decode (kby 75) 19 = .ok (.iload_n 1, 1) := by decide +kernel
theorem d_75_20 : decode (kby 75) 20 = .ok (.iastore, 1) := by decide +kernel
theorem d_75_21 : decode (kby 75) 21 = .ok (.aload_n 0, 1) := by decide +kernel
theorem d_75_22 : decode (kby 75) 22 = .ok (.getfield 15, 3) := by decide +kernel
theorem d_75_25 : decode (kby 75) 25 = .ok (.aload_n 0, 1) := by decide +kernel
theorem d_75_26 : decode (kby 75) 26 = .ok (.getfield 24, 3) := by decide +kernel
theorem d_75_29 : decode (kby 75) 29 = .ok (.iload_n 2, 1) := by decide +kernel
theorem d_75_30 : decode (kby 75) 30 = .ok (.iastore, 1) := by decide +kernel
theorem d_75_31 : decode (kby 75) 31 = .ok (.aload_n 0, 1) := by decide +kernel
theorem d_75_32 : decode (kby 75) 32 = .ok (.getfield 18, 3) := by decide +kernel
theorem d_75_35 : decode (kby 75) 35 = .ok (.aload_n 0, 1) := by decide +kernel
theorem d_75_36 : decode (kby 75) 36 = .ok (.getfield 24, 3) := by decide +kernel
theorem d_75_39 : decode (kby 75) 39 = .ok (.iload_n 3, 1) := by decide +kernel
theorem d_75_40 : decode (kby 75) 40 = .ok (.iastore, 1) := by decide +kernel
theorem d_75_41 : decode (kby 75) 41 = .ok (.aload_n 0, 1) := by decide +kernel
theorem d_75_42 : decode (kby 75) 42 = .ok (.getfield 21, 3) := by decide +kernel
theorem d_75_45 : decode (kby 75) 45 = .ok (.aload_n 0, 1) := by decide +kernel
theorem d_75_46 : decode (kby 75) 46 = .ok (.getfield 24, 3) := by decide +kernel
theorem d_75_49 : decode (kby 75) 49 = .ok (.iload 4, 2) := by decide +kernel
theorem d_75_51 : decode (kby 75) 51 = .ok (.iastore, 1) := by decide +kernel
theorem d_75_52 : decode (kby 75) 52 = .ok (.aload_n 0, 1) := by decide +kernel
theorem d_75_53 : decode (kby 75) 53 = .ok (.dup, 1) := by decide +kernel
theorem d_75_54 : decode (kby 75) 54 = .ok (.getfield 24, 3) := by decide +kernel
theorem d_75_57 : decode (kby 75) 57 = .ok (.dup_x1, 1) := by decide +kernel
theorem d_75_58 : decode (kby 75) 58 = .ok (.iconst 1, 1) := by decide +kernel
theorem d_75_59 : decode (kby 75) 59 = .ok (.iadd, 1) := by decide +kernel
theorem d_75_60 : decode (kby 75) 60 = .ok (.putfield 24, 3) := by decide +kernel
theorem d_75_63 : decode (kby 75) 63 = .ok (.ireturn, 1) := by decide +kernel
set_option maxRecDepth 100000 in
theorem ka_75 : kall 75 0 kc_75 := And.intro (s_aload_n d_75_0 rfl) (And.intro (s_get d_75_1 (C := kR7) (T := kT7) (N := 5) rfl kjn7 (by decide +kernel) rfl kf_7_24) (And.intro (s_bipush d_75_4 (by decide +kernel)) (And.intro (s_icmp_lt d_75_6 (by decide +kernel)) (And.intro (s_iconst d_75_9 (by decide +kernel)) (And.intro (s_ret d_75_10 rfl) (And.intro (s_aload_n d_75_11 rfl) (And.intro (s_get d_75_12 (C := kR7) (T := kT7) (N := 5) rfl kjn7 (by decide +kernel) rfl kf_7_11) (And.intro (s_aload_n d_75_15 rfl) (And.intro (s_get d_75_16 (C := kR7) (T := kT7) (N := 5) rfl kjn7 (by decide +kernel) rfl kf_7_24) (And.intro (s_iload_n d_75_19 rfl) (And.intro (s_iastore d_75_20) (And.intro (s_aload_n d_75_21 rfl) (And.intro (s_get d_75_22 (C := kR7) (T := kT7) (N := 5) rfl kjn7 (by decide +kernel) rfl kf_7_15) (And.intro (s_aload_n d_75_25 rfl) (And.intro (s_get d_75_26 (C := kR7) (T := kT7) (N := 5) rfl kjn7 (by decide +kernel) rfl kf_7_24) (And.intro (s_iload_n d_75_29 rfl) (And.intro (s_iastore d_75_30) (And.intro (s_aload_n d_75_31 rfl) (And.intro (s_get d_75_32 (C := kR7) (T := kT7) (N := 5) rfl kjn7 (by decide +kernel) rfl kf_7_18) (And.intro (s_aload_n d_75_35 rfl) (And.intro (s_get d_75_36 (C := kR7) (T := kT7) (N := 5) rfl kjn7 (by decide +kernel) rfl kf_7_24) (And.intro (s_iload_n d_75_39 rfl) (And.intro (s_iastore d_75_40) (And.intro (s_aload_n d_75_41 rfl) (And.intro (s_get d_75_42 (C := kR7) (T := kT7) (N := 5) rfl kjn7 (by decide +kernel) rfl kf_7_21) (And.intro (s_aload_n d_75_45 rfl) (And.intro (s_get d_75_46 (C := kR7) (T := kT7) (N := 5) rfl kjn7 (by decide +kernel) rfl kf_7_24) (And.intro (s_iload d_75_49) (And.intro (s_iastore d_75_51) (And.intro (s_aload_n d_75_52 rfl) (And.intro (s_dup d_75_53) (And.intro (s_get d_75_54 (C := kR7) (T := kT7) (N := 5) rfl kjn7 (by decide +kernel) rfl kf_7_24) (And.intro (s_dup_x1 d_75_57) (And.intro (s_iconst d_75_58 (by decide +kernel)) (And.intro (s_iadd d_75_59) (And.intro (s_put d_75_60 (C := kR7) (T := kT7) (N := 5) rfl kjn7 (by decide +kernel) rfl kf_7_24 kt7 kty7 knm7 rfl (by decide +kernel)) (And.intro (s_ret d_75_63 rfl) (True.intro))))))))))))))))))))))))))))))))))))))
theorem d_76_0 : decode (kby 76) 0 = .ok (.aload_n 0, 1) := by decide +kernel
theorem d_76_1 : decode (kby 76) 1 = .ok (.getfield 53, 3) := by decide +kernel
theorem d_76_4 : decode (kby 76) 4 = .ok (.invokevirtual 145, 3) := by decide +kernel
theorem d_76_7 : decode (kby 76) 7 = .ok (.ireturn, 1) := by decide +kernel
set_option maxRecDepth 100000 in
theorem ka_76 : kall 76 0 kc_76 := And.intro (s_aload_n d_76_0 rfl) (And.intro (s_get d_76_1 (C := kR0) (T := kT0) (N := 8) rfl kjn0 (by decide +kernel) rfl kf_0_53) (And.intro (s_cv d_76_4 kl_0_145 k_im_77 k_se_77 kok_77 rfl (by decide +kernel) rfl rfl) (And.intro (s_ret d_76_7 rfl) (True.intro))))
theorem d_77_0 : decode (kby 77) 0 = .ok (.aload_n 0, 1) := by decide +kernel
theorem d_77_1 : decode (kby 77) 1 = .ok (.getfield 24, 3) := by decide +kernel
theorem d_77_4 : decode (kby 77) 4 = .ok (.istore_n 1, 1) := by decide +kernel
theorem d_77_5 : decode (kby 77) 5 = .ok (.aload_n 0, 1) := by decide +kernel
theorem d_77_6 : decode (kby 77) 6 = .ok (.iconst 0, 1) := by decide +kernel
theorem d_77_7 : decode (kby 77) 7 = .ok (.putfield 24, 3) := by decide +kernel
theorem d_77_10 : decode (kby 77) 10 = .ok (.iload_n 1, 1) := by decide +kernel
theorem d_77_11 : decode (kby 77) 11 = .ok (.ireturn, 1) := by decide +kernel
set_option maxRecDepth 100000 in
theorem ka_77 : kall 77 0 kc_77 := And.intro (s_aload_n d_77_0 rfl) (And.intro (s_get d_77_1 (C := kR7) (T := kT7) (N := 5) rfl kjn7 (by decide +kernel) rfl kf_7_24) (And.intro (s_istore_n d_77_4 rfl (by decide +kernel)) (And.intro (s_aload_n d_77_5 rfl) (And.intro (s_iconst d_77_6 (by decide +kernel)) (And.intro (s_put d_77_7 (C := kR7) (T := kT7) (N := 5) rfl kjn7 (by decide +kernel) rfl kf_7_24 kt7 kty7 knm7 rfl (by decide +kernel)) (And.intro (s_iload_n d_77_10 rfl) (And.intro (s_ret d_77_11 rfl) (True.intro))))))))
theorem d_78_0 : decode (kby 78) 0 = .ok (.aload_n 0, 1) := by decide +kernel
theorem d_78_1 : decode (kby 78) 1 = .ok (.getfield 28, 3) := by decide +kernel
theorem d_78_4 : decode (kby 78) 4 = .ok (.invokevirtual 149, 3) := by decide +kernel
theorem d_78_7 : decode (kby 78) 7 = .ok (.istore_n 1, 1) := by decide +kernel
theorem d_78_8 : decode (kby 78) 8 = .ok (.iconst 0, 1) := by decide +kernel
theorem d_78_9 : decode (kby 78) 9 = .ok (.istore_n 2, 1) := by decide +kernel
theorem d_78_10 : decode (kby 78) 10 = .ok (.iload_n 2, 1) := by decide +kernel
theorem d_78_11 : decode (kby 78) 11 = .ok (.aload_n 0, 1) := by decide +kernel
theorem d_78_12 : decode (kby 78) 12 = .ok (.getfield 53, 3) := by decide +kernel
theorem d_78_15 : decode (kby 78) 15 = .ok (.invokevirtual 152, 3) := by decide +kernel
theorem d_78_18 : decode (kby 78) 18 = .ok (.if_icmp .ge 74, 3) := by decide +kernel
theorem d_78_21 : decode (kby 78) 21 = .ok (.aload_n 0, 1) := by decide +kernel
theorem d_78_22 : decode (kby 78) 22 = .ok (.getfield 46, 3) := by decide +kernel
theorem d_78_25 : decode (kby 78) 25 = .ok (.iload_n 1, 1) := by decide +kernel
theorem d_78_26 : decode (kby 78) 26 = .ok (.iload_n 2, 1) := by decide +kernel
theorem d_78_27 : decode (kby 78) 27 = .ok (.invokevirtual 91, 3) := by decide +kernel
theorem d_78_30 : decode (kby 78) 30 = .ok (.aload_n 0, 1) := by decide +kernel
theorem d_78_31 : decode (kby 78) 31 = .ok (.getfield 46, 3) := by decide +kernel
theorem d_78_34 : decode (kby 78) 34 = .ok (.aload_n 0, 1) := by decide +kernel
theorem d_78_35 : decode (kby 78) 35 = .ok (.getfield 53, 3) := by decide +kernel
theorem d_78_38 : decode (kby 78) 38 = .ok (.getfield 153, 3) := by decide +kernel
theorem d_78_41 : decode (kby 78) 41 = .ok (.iload_n 2, 1) := by decide +kernel
theorem d_78_42 : decode (kby 78) 42 = .ok (.iaload, 1) := by decide +kernel
theorem d_78_43 : decode (kby 78) 43 = .ok (.aload_n 0, 1) := by decide +kernel
theorem d_78_44 : decode (kby 78) 44 = .ok (.getfield 53, 3) := by decide +kernel
theorem d_78_47 : decode (kby 78) 47 = .ok (.getfield 157, 3) := by decide +kernel
theorem d_78_50 : decode (kby 78) 50 = .ok (.iload_n 2, 1) := by decide +kernel
theorem d_78_51 : decode (kby 78) 51 = .ok (.iaload, 1) := by decide +kernel
theorem d_78_52 : decode (kby 78) 52 = .ok (.aload_n 0, 1) := by decide +kernel
theorem d_78_53 : decode (kby 78) 53 = .ok (.getfield 53, 3) := by decide +kernel
theorem d_78_56 : decode (kby 78) 56 = .ok (.getfield 160, 3) := by decide +kernel
theorem d_78_59 : decode (kby 78) 59 = .ok (.iload_n 2, 1) := by decide +kernel
theorem d_78_60 : decode (kby 78) 60 = .ok (.iaload, 1) := by decide +kernel
theorem d_78_61 : decode (kby 78) 61 = .ok (.aload_n 0, 1) := by decide +kernel
theorem d_78_62 : decode (kby 78) 62 = .ok (.getfield 53, 3) := by decide +kernel
theorem d_78_65 : decode (kby 78) 65 = .ok (.getfield 163, 3) := by decide +kernel
theorem d_78_68 : decode (kby 78) 68 = .ok (.iload_n 2, 1) := by decide +kernel
theorem d_78_69 : decode (kby 78) 69 = .ok (.iaload, 1) := by decide +kernel
theorem d_78_70 : decode (kby 78) 70 = .ok (.invokevirtual 95, 3) := by decide +kernel
theorem d_78_73 : decode (kby 78) 73 = .ok (.ifCond .ge 13, 3) := by decide +kernel
theorem d_78_76 : decode (kby 78) 76 = .ok (.aload_n 0, 1) := by decide +kernel
theorem d_78_77 : decode (kby 78) 77 = .ok (.iconst (-1), 1) := by decide +kernel
theorem d_78_78 : decode (kby 78) 78 = .ok (.invokevirtual 98, 3) := by decide +kernel
theorem d_78_81 : decode (kby 78) 81 = .ok (.pop, 1) := by decide +kernel
theorem d_78_82 : decode (kby 78) 82 = .ok (.iconst (-1), 1) := by decide +kernel
theorem d_78_83 : decode (kby 78) 83 = .ok (.iload_n 2, 1) := by decide +kernel
theorem d_78_84 : decode (kby 78) 84 = .ok (.isub, 1) := by decide +kernel
theorem d_78_85 : decode (kby 78) 85 = .ok (.ireturn, 1) := by decide +kernel
theorem d_78_86 : decode (kby 78) 86 = .ok (.iinc 2 1, 3) := by decide +kernel
theorem d_78_89 : decode (kby 78) 89 = .ok (.goto (-79), 3) := by decide +kernel
theorem d_78_92 : decode (kby 78) 92 = .ok (.aload_n 0, 1) := by decide +kernel
theorem d_78_93 : decode (kby 78) 93 = .ok (.aload_n 0, 1) := by decide +kernel
theorem d_78_94 : decode (kby 78) 94 = .ok (.getfield 53, 3) := by decide +kernel
theorem d_78_97 : decode (kby 78) 97 = .ok (.invokevirtual 152, 3) := by decide +kernel
theorem d_78_100 : decode (kby 78) 100 = .ok (.invokevirtual 98, 3) := by decide +kernel
theorem d_78_103 : decode (kby 78) 103 = .ok (.ireturn, 1) := by decide +kernel
set_option maxRecDepth 100000 in
theorem ka_78 : kall 78 0 kc_78 := And.intro (s_aload_n d_78_0 rfl) (And.intro (s_get d_78_1 (C := kR0) (T := kT0) (N := 8) rfl kjn0 (by decide +kernel) rfl kf_0_28) (And.intro (s_cv d_78_4 kl_0_149 k_im_38 k_se_38 kok_38 rfl (by decide +kernel) rfl rfl) (And.intro (s_istore_n d_78_7 rfl (by decide +kernel)) (And.intro (s_iconst d_78_8 (by decide +kernel)) (And.intro (s_istore_n d_78_9 rfl (by decide +kernel)) (And.intro (s_iload_n d_78_10 rfl) (And.intro (s_aload_n d_78_11 rfl) (And.intro (s_get d_78_12 (C := kR0) (T := kT0) (N := 8) rfl kjn0 (by decide +kernel) rfl kf_0_53) (And.intro (s_cv d_78_15 kl_0_152 k_im_79 k_se_79 kok_79 rfl (by decide +kernel) rfl rfl) (And.intro (s_icmp_ge d_78_18 (by decide +kernel)) (And.intro (s_aload_n d_78_21 rfl) (And.intro (s_get d_78_22 (C := kR0) (T := kT0) (N := 8) rfl kjn0 (by decide +kernel) rfl kf_0_46) (And.intro (s_iload_n d_78_25 rfl) (And.intro (s_iload_n d_78_26 rfl) (And.intro (s_cw d_78_27 kl_0_91 k_im_29 k_se_29 kok_29 rfl (by decide +kernel) rfl rfl) (And.intro (s_aload_n d_78_30 rfl) (And.intro (s_get d_78_31 (C := kR0) (T := kT0) (N := 8) rfl kjn0 (by decide +kernel) rfl kf_0_46) (And.intro (s_aload_n d_78_34 rfl) (And.intro (s_get d_78_35 (C := kR0) (T := kT0) (N := 8) rfl kjn0 (by decide +kernel) rfl kf_0_53) (And.intro (s_get d_78_38 (C := kR7) (T := kT7) (N := 5) rfl kjn7 (by decide +kernel) rfl kf_0_153) (And.intro (s_iload_n d_78_41 rfl) (And.intro (s_iaload d_78_42) (And.intro (s_aload_n d_78_43 rfl) (And.intro (s_get d_78_44 (C := kR0) (T := kT0) (N := 8) rfl kjn0 (by decide +kernel) rfl kf_0_53) (And.intro (s_get d_78_47 (C := kR7) (T := kT7) (N := 5) rfl kjn7 (by decide +kernel) rfl kf_0_157) (And.intro (s_iload_n d_78_50 rfl) (And.intro (s_iaload d_78_51) (And.intro (s_aload_n d_78_52 rfl) (And.intro (s_get d_78_53 (C := kR0) (T := kT0) (N := 8) rfl kjn0 (by decide +kernel) rfl kf_0_53) (And.intro (s_get d_78_56 (C := kR7) (T := kT7) (N := 5) rfl kjn7 (by decide +kernel) rfl kf_0_160) (And.intro (s_iload_n d_78_59 rfl) (And.intro (s_iaload d_78_60) (And.intro (s_aload_n d_78_61 rfl) (And.intro (s_get d_78_62 (C := kR0) (T := kT0) (N := 8) rfl kjn0 (by decide +kernel) rfl kf_0_53) (And.intro (s_get d_78_65 (C := kR7) (T := kT7) (N := 5) rfl kjn7 (by decide +kernel) rfl kf_0_163) (And.intro (s_iload_n d_78_68 rfl) (And.intro (s_iaload d_78_69) (And.intro (s_cv d_78_70 kl_0_95 k_im_30 k_se_30 kok_30 rfl (by decide +kernel) rfl rfl) (And.intro (s_if_ge d_78_73 (by decide +kernel)) (And.intro (s_aload_n d_78_76 rfl) (And.intro (s_iconst d_78_77 (by decide +kernel)) (And.intro (s_cv d_78_78 kl_0_98 k_im_4 k_se_4 kok_4 rfl (by decide +kernel) rfl rfl) (And.intro (s_pop d_78_81) (And.intro (s_iconst d_78_82 (by decide +kernel)) (And.intro (s_iload_n d_78_83 rfl) (And.intro (s_isub d_78_84) (And.intro (s_ret d_78_85 rfl) (And.intro (s_iinc d_78_86 (by decide +kernel) (by decide +kernel)) (And.intro (s_goto d_78_89 (by decide +kernel)) (And.intro (s_aload_n d_78_92 rfl) (And.intro (s_aload_n d_78_93 rfl) (And.intro (s_get d_78_94 (C := kR0) (T := kT0) (N := 8) rfl kjn0 (by decide +kernel) rfl kf_0_53) (And.intro (s_cv d_78_97 kl_0_152 k_im_79 k_se_79 kok_79 rfl (by decide +kernel) rfl rfl) (And.intro (s_cv d_78_100 kl_0_98 k_im_4 k_se_4 kok_4 rfl (by decide +kernel) rfl rfl) (And.intro (s_ret d_78_103 rfl) (True.intro))))))))))))))))))))))))))))))))))))))))))))))))))))))))
theorem d_79_0 : decode (kby 79) 0 = .ok (.aload_n 0, 1) := by decide +kernel
theorem d_79_1 : decode (kby 79) 1 = .ok (.getfield 24, 3) := by decide +kernel
theorem d_79_4 : decode (kby 79) 4 = .ok (.ireturn, 1) := by decide +kernel
set_option maxRecDepth 100000 in
theorem ka_79 : kall 79 0 kc_79 := And.intro (s_aload_n d_79_0 rfl) (And.intro (s_get d_79_1 (C := kR7) (T := kT7) (N := 5) rfl kjn7 (by decide +kernel) rfl kf_7_24) (And.intro (s_ret d_79_4 rfl) (True.intro)))
theorem d_80_0 : decode (kby 80) 0 = .ok (.aload_n 0, 1) := by decide +kernel
theorem d_80_1 : decode (kby 80) 1 = .ok (.getfield 10, 3) := by decide +kernel
theorem d_80_4 : decode (kby 80) 4 = .ok (.getfield 65, 3) := by decide +kernel
theorem d_80_7 : decode (kby 80) 7 = .ok (.aload_n 0, 1) := by decide +kernel
theorem d_80_8 : decode (kby 80) 8 = .ok (.getfield 21, 3) := by decide +kernel
theorem d_80_11 : decode (kby 80) 11 = .ok (.aload_n 0, 1) := by decide +kernel
theorem d_80_12 : decode (kby 80) 12 = .ok (.getfield 21, 3) := by decide +kernel
theorem d_80_15 : decode (kby 80) 15 = .ok (.getfield 83, 3) := by decide +kernel
theorem d_80_18 : decode (kby 80) 18 = .ok (.iload_n 1, 1) := by decide +kernel
theorem d_80_19 : decode (kby 80) 19 = .ok (.invokevirtual 69, 3) := by decide +kernel
theorem d_80_22 : decode (kby 80) 22 = .ok (.invokevirtual 109, 3) := by decide +kernel
theorem d_80_25 : decode (kby 80) 25 = .ok (.invokevirtual 166, 3) := by decide +kernel
theorem d_80_28 : decode (kby 80) 28 = .ok (.ireturn, 1) := by decide +kernel
set_option maxRecDepth 100000 in
theorem ka_80 : kall 80 0 kc_80 := And.intro (s_aload_n d_80_0 rfl) (And.intro (s_get d_80_1 (C := kR0) (T := kT0) (N := 8) rfl kjn0 (by decide +kernel) rfl kf_0_10) (And.intro (s_get d_80_4 (C := kR1) (T := kT1) (N := 8) rfl kjn1 (by decide +kernel) rfl kf_0_65) (And.intro (s_aload_n d_80_7 rfl) (And.intro (s_get d_80_8 (C := kR0) (T := kT0) (N := 8) rfl kjn0 (by decide +kernel) rfl kf_0_21) (And.intro (s_aload_n d_80_11 rfl) (And.intro (s_get d_80_12 (C := kR0) (T := kT0) (N := 8) rfl kjn0 (by decide +kernel) rfl kf_0_21) (And.intro (s_get d_80_15 (C := kR3) (T := kT3) (N := 15) rfl kjn3 (by decide +kernel) rfl kf_0_83) (And.intro (s_iload_n d_80_18 rfl) (And.intro (s_cv d_80_19 kl_0_69 k_im_9 k_se_9 kok_9 rfl (by decide +kernel) rfl rfl) (And.intro (s_cv d_80_22 kl_0_109 k_im_35 k_se_35 kok_35 rfl (by decide +kernel) rfl rfl) (And.intro (s_cv d_80_25 kl_0_166 k_im_1 k_se_1 kok_1 rfl (by decide +kernel) rfl rfl) (And.intro (s_ret d_80_28 rfl) (True.intro)))))))))))))
theorem d_81_0 : decode (kby 81) 0 = .ok (.aload_n 0, 1) := by decide +kernel
theorem d_81_1 : decode (kby 81) 1 = .ok (.getfield 21, 3) := by decide +kernel
theorem d_81_4 : decode (kby 81) 4 = .ok (.aload_n 0, 1) := by decide +kernel
theorem d_81_5 : decode (kby 81) 5 = .ok (.getfield 21, 3) := by decide +kernel
theorem d_81_8 : decode (kby 81) 8 = .ok (.getfield 83, 3) := by decide +kernel
theorem d_81_11 : decode (kby 81) 11 = .ok (.iload_n 1, 1) := by decide +kernel
theorem d_81_12 : decode (kby 81) 12 = .ok (.invokevirtual 69, 3) := by decide +kernel
theorem d_81_15 : decode (kby 81) 15 = .ok (.invokevirtual 169, 3) := by decide +kernel
theorem d_81_18 : decode (kby 81) 18 = .ok (.ireturn, 1) := by decide +kernel
set_option maxRecDepth 100000 in
theorem ka_81 : kall 81 0 kc_81 := And.intro (s_aload_n d_81_0 rfl) (And.intro (s_get d_81_1 (C := kR0) (T := kT0) (N := 8) rfl kjn0 (by decide +kernel) rfl kf_0_21) (And.intro (s_aload_n d_81_4 rfl) (And.intro (s_get d_81_5 (C := kR0) (T := kT0) (N := 8) rfl kjn0 (by decide +kernel) rfl kf_0_21) (And.intro (s_get d_81_8 (C := kR3) (T := kT3) (N := 15) rfl kjn3 (by decide +kernel) rfl kf_0_83) (And.intro (s_iload_n d_81_11 rfl) (And.intro (s_cv d_81_12 kl_0_69 k_im_9 k_se_9 kok_9 rfl (by decide +kernel) rfl rfl) (And.intro (s_cv d_81_15 kl_0_169 k_im_20 k_se_20 kok_20 rfl (by decide +kernel) rfl rfl) (And.intro (s_ret d_81_18 rfl) (True.intro)))))))))
theorem d_82_0 : decode (kby 82) 0 = .ok (.aload_n 0, 1) := by decide +kernel
theorem d_82_1 : decode (kby 82) 1 = .ok (.getfield 21, 3) := by decide +kernel
theorem d_82_4 : decode (kby 82) 4 = .ok (.getfield 83, 3) := by decide +kernel
theorem d_82_7 : decode (kby 82) 7 = .ok (.iload_n 1, 1) := by decide +kernel
theorem d_82_8 : decode (kby 82) 8 = .ok (.invokevirtual 69, 3) := by decide +kernel
theorem d_82_11 : decode (kby 82) 11 = .ok (.istore_n 3, 1) := by decide +kernel
theorem d_82_12 : decode (kby 82) 12 = .ok (.aload_n 0, 1) := by decide +kernel
theorem d_82_13 : decode (kby 82) 13 = .ok (.getfield 21, 3) := by decide +kernel
theorem d_82_16 : decode (kby 82) 16 = .ok (.iload_n 3, 1) := by decide +kernel
theorem d_82_17 : decode (kby 82) 17 = .ok (.invokevirtual 169, 3) := by decide +kernel
theorem d_82_20 : decode (kby 82) 20 = .ok (.tableswitch 103 0 3 #[32, 103, 32, 50], 32) := by decide +kernel
theorem d_82_52 : decode (kby 82) 52 = .ok (.iload_n 2, 1) := by decide +kernel
theorem d_82_53 : decode (kby 82) 53 = .ok (.ifCond .ne 15, 3) := by decide +kernel
theorem d_82_56 : decode (kby 82) 56 = .ok (.aload_n 0, 1) := by decide +kernel
theorem d_82_57 : decode (kby 82) 57 = .ok (.getfield 21, 3) := by decide +kernel
theorem d_82_60 : decode (kby 82) 60 = .ok (.getfield 172, 3) := by decide +kernel
theorem d_82_63 : decode (kby 82) 63 = .ok (.iload_n 3, 1) := by decide +kernel
theorem d_82_64 : decode (kby 82) 64 = .ok (.iaload, 1) := by decide +kernel
theorem d_82_65 : decode (kby 82) 65 = .ok (.goto 4, 3) := by decide +kernel
theorem d_82_68 : decode (kby 82) 68 = .ok (.iconst (-1), 1) := by decide +kernel
theorem d_82_69 : decode (kby 82) 69 = .ok (.ireturn, 1) := by decide +kernel
theorem d_82_70 : decode (kby 82) 70 = .ok (.iload_n 2, 1) := by decide +kernel
theorem d_82_71 : decode (kby 82) 71 = .ok (.ifCond .ne 23, 3) := by decide +kernel
theorem d_82_74 : decode (kby 82) 74 = .ok (.aload_n 0, 1) := by decide +kernel
theorem d_82_75 : decode (kby 82) 75 = .ok (.getfield 21, 3) := by decide +kernel
theorem d_82_78 : decode (kby 82) 78 = .ok (.getfield 83, 3) := by decide +kernel
theorem d_82_81 : decode (kby 82) 81 = .ok (.aload_n 0, 1) := by decide +kernel
theorem d_82_82 : decode (kby 82) 82 = .ok (.getfield 21, 3) := by decide +kernel
theorem d_82_85 : decode (kby 82) 85 = .ok (.getfield 172, 3) := by decide +kernel
theorem d_82_88 : decode (kby 82) 88 = .ok (.iload_n 3, 1) := by decide +kernel
theorem d_82_89 : decode (kby 82) 89 = .ok (.iaload, 1) := by decide +kernel
theorem d_82_90 : decode (kby 82) 90 = .ok (.invokevirtual 166, 3) := by decide +kernel
theorem d_82_93 : decode (kby 82) 93 = .ok (.ireturn, 1) := by decide +kernel
theorem d_82_94 : decode (kby 82) 94 = .ok (.iload_n 2, 1) := by decide +kernel
theorem d_82_95 : decode (kby 82) 95 = .ok (.iconst 1, 1) := by decide +kernel
theorem d_82_96 : decode (kby 82) 96 = .ok (.if_icmp .ne 25, 3) := by decide +kernel
theorem d_82_99 : decode (kby 82) 99 = .ok (.aload_n 0, 1) := by decide +kernel
theorem d_82_100 : decode (kby 82) 100 = .ok (.getfield 21, 3) := by decide +kernel
theorem d_82_103 : decode (kby 82) 103 = .ok (.getfield 83, 3) := by decide +kernel
theorem d_82_106 : decode (kby 82) 106 = .ok (.aload_n 0, 1) := by decide +kernel
theorem d_82_107 : decode (kby 82) 107 = .ok (.getfield 21, 3) := by decide +kernel
theorem d_82_110 : decode (kby 82) 110 = .ok (.getfield 175, 3) := by decide +kernel
theorem d_82_113 : decode (kby 82) 113 = .ok (.iload_n 3, 1) := by decide +kernel
theorem d_82_114 : decode (kby 82) 114 = .ok (.iaload, 1) := by decide +kernel
theorem d_82_115 : decode (kby 82) 115 = .ok (.invokevirtual 166, 3) := by decide +kernel
theorem d_82_118 : decode (kby 82) 118 = .ok (.goto 4, 3) := by decide +kernel
theorem d_82_121 : decode (kby 82) 121 = .ok (.iconst (-1), 1) := by decide +kernel
theorem d_82_122 : decode (kby 82) 122 = .ok (.ireturn, 1) := by decide +kernel
theorem d_82_123 : decode (kby 82) 123 = .ok (.iconst (-1), 1) := by decide +kernel
theorem d_82_124 : decode (kby 82) 124 = .ok (.ireturn, 1) := by decide +kernel
set_option maxRecDepth 100000 in
theorem ka_82 : kall 82 0 kc_82 := And.intro (s_aload_n d_82_0 rfl) (And.intro (s_get d_82_1 (C := kR0) (T := kT0) (N := 8) rfl kjn0 (by decide +kernel) rfl kf_0_21) (And.intro (s_get d_82_4 (C := kR3) (T := kT3) (N := 15) rfl kjn3 (by decide +kernel) rfl kf_0_83) (And.intro (s_iload_n d_82_7 rfl) (And.intro (s_cv d_82_8 kl_0_69 k_im_9 k_se_9 kok_9 rfl (by decide +kernel) rfl rfl) (And.intro (s_istore_n d_82_11 rfl (by decide +kernel)) (And.intro (s_aload_n d_82_12 rfl) (And.intro (s_get d_82_13 (C := kR0) (T := kT0) (N := 8) rfl kjn0 (by decide +kernel) rfl kf_0_21) (And.intro (s_iload_n d_82_16 rfl) (And.intro (s_cv d_82_17 kl_0_169 k_im_20 k_se_20 kok_20 rfl (by decide +kernel) rfl rfl) (And.intro (s_switch d_82_20 (by decide +kernel)) (And.intro (s_iload_n d_82_52 rfl) (And.intro (s_if_ne d_82_53 (by decide +kernel)) (And.intro (s_aload_n d_82_56 rfl) (And.intro (s_get d_82_57 (C := kR0) (T := kT0) (N := 8) rfl kjn0 (by decide +kernel) rfl kf_0_21) (And.intro (s_get d_82_60 (C := kR3) (T := kT3) (N := 15) rfl kjn3 (by decide +kernel) rfl kf_0_172) (And.intro (s_iload_n d_82_63 rfl) (And.intro (s_iaload d_82_64) (And.intro (s_goto d_82_65 (by decide +kernel)) (And.intro (s_iconst d_82_68 (by decide +kernel)) (And.intro (s_ret d_82_69 rfl) (And.intro (s_iload_n d_82_70 rfl) (And.intro (s_if_ne d_82_71 (by decide +kernel)) (And.intro (s_aload_n d_82_74 rfl) (And.intro (s_get d_82_75 (C := kR0) (T := kT0) (N := 8) rfl kjn0 (by decide +kernel) rfl kf_0_21) (And.intro (s_get d_82_78 (C := kR3) (T := kT3) (N := 15) rfl kjn3 (by decide +kernel) rfl kf_0_83) (And.intro (s_aload_n d_82_81 rfl) (And.intro (s_get d_82_82 (C := kR0) (T := kT0) (N := 8) rfl kjn0 (by decide +kernel) rfl kf_0_21) (And.intro (s_get d_82_85 (C := kR3) (T := kT3) (N := 15) rfl kjn3 (by decide +kernel) rfl kf_0_172) (And.intro (s_iload_n d_82_88 rfl) (And.intro (s_iaload d_82_89) (And.intro (s_cv d_82_90 kl_0_166 k_im_1 k_se_1 kok_1 rfl (by decide +kernel) rfl rfl) (And.intro (s_ret d_82_93 rfl) (And.intro (s_iload_n d_82_94 rfl) (And.intro (s_iconst d_82_95 (by decide +kernel)) (And.intro (s_icmp_ne d_82_96 (by decide +kernel)) (And.intro (s_aload_n d_82_99 rfl) (And.intro (s_get d_82_100 (C := kR0) (T := kT0) (N := 8) rfl kjn0 (by decide +kernel) rfl kf_0_21) (And.intro (s_get d_82_103 (C := kR3) (T := kT3) (N := 15) rfl kjn3 (by decide +kernel) rfl kf_0_83) (And.intro (s_aload_n d_82_106 rfl) (And.intro (s_get d_82_107 (C := kR0) (T := kT0) (N := 8) rfl kjn0 (by decide +kernel) rfl kf_0_21) (And.intro (s_get d_82_110 (C := kR3) (T := kT3) (N := 15) rfl kjn3 (by decide +kernel) rfl kf_0_175) (And.intro (s_iload_n d_82_113 rfl) (And.intro (s_iaload d_82_114) (And.intro (s_cv d_82_115 kl_0_166 k_im_1 k_se_1 kok_1 rfl (by decide +kernel) rfl rfl) (And.intro (s_goto d_82_118 (by decide +kernel)) (And.intro (s_iconst d_82_121 (by decide +kernel)) (And.intro (s_ret d_82_122 rfl) (And.intro (s_iconst d_82_123 (by decide +kernel)) (And.intro (s_ret d_82_124 rfl) (True.intro))))))))))))))))))))))))))))))))))))))))))))))))))
theorem d_83_0 : decode (kby 83) 0 = .ok (.aload_n 0, 1) := by decide +kernel
theorem d_83_1 : decode (kby 83) 1 = .ok (.getfield 21, 3) := by decide +kernel
theorem d_83_4 : decode (kby 83) 4 = .ok (.getfield 83, 3) := by decide +kernel
theorem d_83_7 : decode (kby 83) 7 = .ok (.iload_n 1, 1) := by decide +kernel
theorem d_83_8 : decode (kby 83) 8 = .ok (.invokevirtual 69, 3) := by decide +kernel
theorem d_83_11 : decode (kby 83) 11 = .ok (.istore_n 3, 1) := by decide +kernel
theorem d_83_12 : decode (kby 83) 12 = .ok (.aload_n 0, 1) := by decide +kernel
theorem d_83_13 : decode (kby 83) 13 = .ok (.getfield 21, 3) := by decide +kernel
theorem d_83_16 : decode (kby 83) 16 = .ok (.getfield 83, 3) := by decide +kernel
theorem d_83_19 : decode (kby 83) 19 = .ok (.iload_n 2, 1) := by decide +kernel
theorem d_83_20 : decode (kby 83) 20 = .ok (.invokevirtual 69, 3) := by decide +kernel
theorem d_83_23 : decode (kby 83) 23 = .ok (.istore 4, 2) := by decide +kernel
theorem d_83_25 : decode (kby 83) 25 = .ok (.aload_n 0, 1) := by decide +kernel
theorem d_83_26 : decode (kby 83) 26 = .ok (.getfield 21, 3) := by decide +kernel
theorem d_83_29 : decode (kby 83) 29 = .ok (.iload_n 3, 1) := by decide +kernel
theorem d_83_30 : decode (kby 83) 30 = .ok (.invokevirtual 169, 3) := by decide +kernel
theorem d_83_33 : decode (kby 83) 33 = .ok (.ifCond .ne 8, 3) := by decide +kernel
theorem d_83_36 : decode (kby 83) 36 = .ok (.iload 4, 2) := by decide +kernel
theorem d_83_38 : decode (kby 83) 38 = .ok (.ifCond .ge 5, 3) := by decide +kernel
theorem d_83_41 : decode (kby 83) 41 = .ok (.iconst 0, 1) := by decide +kernel
theorem d_83_42 : decode (kby 83) 42 = .ok (.ireturn, 1) := by decide +kernel
theorem d_83_43 : decode (kby 83) 43 = .ok (.aload_n 0, 1) := by decide +kernel
theorem d_83_44 : decode (kby 83) 44 = .ok (.getfield 21, 3) := by decide +kernel
theorem d_83_47 : decode (kby 83) 47 = .ok (.iload_n 3, 1) := by decide +kernel
theorem d_83_48 : decode (kby 83) 48 = .ok (.invokevirtual 178, 3) := by decide +kernel
theorem d_83_51 : decode (kby 83) 51 = .ok (.aload_n 0, 1) := by decide +kernel
theorem d_83_52 : decode (kby 83) 52 = .ok (.getfield 21, 3) := by decide +kernel
theorem d_83_55 : decode (kby 83) 55 = .ok (.getfield 182, 3) := by decide +kernel
theorem d_83_58 : decode (kby 83) 58 = .ok (.iload 4, 2) := by decide +kernel
theorem d_83_60 : decode (kby 83) 60 = .ok (.baload, 1) := by decide +kernel
theorem d_83_61 : decode (kby 83) 61 = .ok (.ireturn, 1) := by decide +kernel
set_option maxRecDepth 100000 in
theorem ka_83 : kall 83 0 kc_83 := And.intro (s_aload_n d_83_0 rfl) (And.intro (s_get d_83_1 (C := kR0) (T := kT0) (N := 8) rfl kjn0 (by decide +kernel) rfl kf_0_21) (And.intro (s_get d_83_4 (C := kR3) (T := kT3) (N := 15) rfl kjn3 (by decide +kernel) rfl kf_0_83) (And.intro (s_iload_n d_83_7 rfl) (And.intro (s_cv d_83_8 kl_0_69 k_im_9 k_se_9 kok_9 rfl (by decide +kernel) rfl rfl) (And.intro (s_istore_n d_83_11 rfl (by decide +kernel)) (And.intro (s_aload_n d_83_12 rfl) (And.intro (s_get d_83_13 (C := kR0) (T := kT0) (N := 8) rfl kjn0 (by decide +kernel) rfl kf_0_21) (And.intro (s_get d_83_16 (C := kR3) (T := kT3) (N := 15) rfl kjn3 (by decide +kernel) rfl kf_0_83) (And.intro (s_iload_n d_83_19 rfl) (And.intro (s_cv d_83_20 kl_0_69 k_im_9 k_se_9 kok_9 rfl (by decide +kernel) rfl rfl) (And.intro (s_istore d_83_23 (by decide +kernel)) (And.intro (s_aload_n d_83_25 rfl) (And.intro (s_get d_83_26 (C := kR0) (T := kT0) (N := 8) rfl kjn0 (by decide +kernel) rfl kf_0_21) (And.intro (s_iload_n d_83_29 rfl) (And.intro (s_cv d_83_30 kl_0_169 k_im_20 k_se_20 kok_20 rfl (by decide +kernel) rfl rfl) (And.intro (s_if_ne d_83_33 (by decide +kernel)) (And.intro (s_iload d_83_36) (And.intro (s_if_ge d_83_38 (by decide +kernel)) (And.intro (s_iconst d_83_41 (by decide +kernel)) (And.intro (s_retz d_83_42 rfl) (And.intro (s_aload_n d_83_43 rfl) (And.intro (s_get d_83_44 (C := kR0) (T := kT0) (N := 8) rfl kjn0 (by decide +kernel) rfl kf_0_21) (And.intro (s_iload_n d_83_47 rfl) (And.intro (s_cw d_83_48 kl_0_178 k_im_55 k_se_55 kok_55 rfl (by decide +kernel) rfl rfl) (And.intro (s_aload_n d_83_51 rfl) (And.intro (s_get d_83_52 (C := kR0) (T := kT0) (N := 8) rfl kjn0 (by decide +kernel) rfl kf_0_21) (And.intro (s_get d_83_55 (C := kR3) (T := kT3) (N := 15) rfl kjn3 (by decide +kernel) rfl kf_0_182) (And.intro (s_iload d_83_58) (And.intro (s_baload d_83_60) (And.intro (s_retz d_83_61 rfl) (True.intro)))))))))))))))))))))))))))))))
theorem d_84_0 : decode (kby 84) 0 = .ok (.aload_n 0, 1) := by decide +kernel
theorem d_84_1 : decode (kby 84) 1 = .ok (.getfield 21, 3) := by decide +kernel
theorem d_84_4 : decode (kby 84) 4 = .ok (.getfield 83, 3) := by decide +kernel
theorem d_84_7 : decode (kby 84) 7 = .ok (.aload_n 0, 1) := by decide +kernel
theorem d_84_8 : decode (kby 84) 8 = .ok (.getfield 28, 3) := by decide +kernel
theorem d_84_11 : decode (kby 84) 11 = .ok (.iload_n 1, 1) := by decide +kernel
theorem d_84_12 : decode (kby 84) 12 = .ok (.invokevirtual 121, 3) := by decide +kernel
theorem d_84_15 : decode (kby 84) 15 = .ok (.invokevirtual 166, 3) := by decide +kernel
theorem d_84_18 : decode (kby 84) 18 = .ok (.ireturn, 1) := by decide +kernel
set_option maxRecDepth 100000 in
theorem ka_84 : kall 84 0 kc_84 := And.intro (s_aload_n d_84_0 rfl) (And.intro (s_get d_84_1 (C := kR0) (T := kT0) (N := 8) rfl kjn0 (by decide +kernel) rfl kf_0_21) (And.intro (s_get d_84_4 (C := kR3) (T := kT3) (N := 15) rfl kjn3 (by decide +kernel) rfl kf_0_83) (And.intro (s_aload_n d_84_7 rfl) (And.intro (s_get d_84_8 (C := kR0) (T := kT0) (N := 8) rfl kjn0 (by decide +kernel) rfl kf_0_28) (And.intro (s_iload_n d_84_11 rfl) (And.intro (s_cv d_84_12 kl_0_121 k_im_41 k_se_41 kok_41 rfl (by decide +kernel) rfl rfl) (And.intro (s_cv d_84_15 kl_0_166 k_im_1 k_se_1 kok_1 rfl (by decide +kernel) rfl rfl) (And.intro (s_ret d_84_18 rfl) (True.intro)))))))))
theorem d_85_0 : decode (kby 85) 0 = .ok (.aload_n 0, 1) := by decide +kernel
theorem d_85_1 : decode (kby 85) 1 = .ok (.getfield 28, 3) := by decide +kernel
theorem d_85_4 : decode (kby 85) 4 = .ok (.iload_n 1, 1) := by decide +kernel
theorem d_85_5 : decode (kby 85) 5 = .ok (.invokevirtual 127, 3) := by decide +kernel
theorem d_85_8 : decode (kby 85) 8 = .ok (.ireturn, 1) := by decide +kernel
set_option maxRecDepth 100000 in
theorem ka_85 : kall 85 0 kc_85 := And.intro (s_aload_n d_85_0 rfl) (And.intro (s_get d_85_1 (C := kR0) (T := kT0) (N := 8) rfl kjn0 (by decide +kernel) rfl kf_0_28) (And.intro (s_iload_n d_85_4 rfl) (And.intro (s_cv d_85_5 kl_0_127 k_im_49 k_se_49 kok_49 rfl (by decide +kernel) rfl rfl) (And.intro (s_ret d_85_8 rfl) (True.intro)))))
theorem d_86_0 : decode (kby 86) 0 = .ok (.aload_n 0, 1) := by decide +kernel
theorem d_86_1 : decode (kby 86) 1 = .ok (.getfield 28, 3) := by decide +kernel
theorem d_86_4 : decode (kby 86) 4 = .ok (.iload_n 1, 1) := by decide +kernel
theorem d_86_5 : decode (kby 86) 5 = .ok (.aload_n 0, 1) := by decide +kernel
theorem d_86_6 : decode (kby 86) 6 = .ok (.getfield 21, 3) := by decide +kernel
theorem d_86_9 : decode (kby 86) 9 = .ok (.getfield 83, 3) := by decide +kernel
theorem d_86_12 : decode (kby 86) 12 = .ok (.iload_n 2, 1) := by decide +kernel
theorem d_86_13 : decode (kby 86) 13 = .ok (.invokevirtual 69, 3) := by decide +kernel
theorem d_86_16 : decode (kby 86) 16 = .ok (.invokevirtual 186, 3) := by decide +kernel
theorem d_86_19 : decode (kby 86) 19 = .ok (.ireturn, 1) := by decide +kernel
set_option maxRecDepth 100000 in
theorem ka_86 : kall 86 0 kc_86 := And.intro (s_aload_n d_86_0 rfl) (And.intro (s_get d_86_1 (C := kR0) (T := kT0) (N := 8) rfl kjn0 (by decide +kernel) rfl kf_0_28) (And.intro (s_iload_n d_86_4 rfl) (And.intro (s_aload_n d_86_5 rfl) (And.intro (s_get d_86_6 (C := kR0) (T := kT0) (N := 8) rfl kjn0 (by decide +kernel) rfl kf_0_21) (And.intro (s_get d_86_9 (C := kR3) (T := kT3) (N := 15) rfl kjn3 (by decide +kernel) rfl kf_0_83) (And.intro (s_iload_n d_86_12 rfl) (And.intro (s_cv d_86_13 kl_0_69 k_im_9 k_se_9 kok_9 rfl (by decide +kernel) rfl rfl) (And.intro (s_cv d_86_16 kl_0_186 k_im_87 k_se_87 kok_87 rfl (by decide +kernel) rfl rfl) (And.intro (s_retz d_86_19 rfl) (True.intro))))))))))
theorem d_87_0 : decode (kby 87) 0 = .ok (.iconst 0, 1) := by decide +kernel
theorem d_87_1 : decode (kby 87) 1 = .ok (.istore_n 3, 1) := by decide +kernel
theorem d_87_2 : decode (kby 87) 2 = .ok (.iload_n 3, 1) := by decide +kernel
theorem d_87_3 : decode (kby 87) 3 = .ok (.aload_n 0, 1) := by decide +kernel
theorem d_87_4 : decode (kby 87) 4 = .ok (.iload_n 1, 1) := by decide +kernel
theorem d_87_5 : decode (kby 87) 5 = .ok (.invokevirtual 35, 3) := by decide +kernel
theorem d_87_8 : decode (kby 87) 8 = .ok (.if_icmp .ge 21, 3) := by decide +kernel
theorem d_87_11 : decode (kby 87) 11 = .ok (.aload_n 0, 1) := by decide +kernel
theorem d_87_12 : decode (kby 87) 12 = .ok (.iload_n 1, 1) := by decide +kernel
theorem d_87_13 : decode (kby 87) 13 = .ok (.iload_n 3, 1) := by decide +kernel
theorem d_87_14 : decode (kby 87) 14 = .ok (.invokevirtual 39, 3) := by decide +kernel
theorem d_87_17 : decode (kby 87) 17 = .ok (.iload_n 2, 1) := by decide +kernel
theorem d_87_18 : decode (kby 87) 18 = .ok (.if_icmp .ne 5, 3) := by decide +kernel
theorem d_87_21 : decode (kby 87) 21 = .ok (.iconst 1, 1) := by decide +kernel
theorem d_87_22 : decode (kby 87) 22 = .ok (.ireturn, 1) := by decide +kernel
theorem d_87_23 : decode (kby 87) 23 = .ok (.iinc 3 1, 3) := by decide +kernel
theorem d_87_26 : decode (kby 87) 26 = .ok (.goto (-24), 3) := by decide +kernel
theorem d_87_29 : decode (kby 87) 29 = .ok (.iconst 0, 1) := by decide +kernel
theorem d_87_30 : decode (kby 87) 30 = .ok (.ireturn, 1) := by decide +kernel
set_option maxRecDepth 100000 in
theorem ka_87 : kall 87 0 kc_87 := And.intro (s_iconst d_87_0 (by decide +kernel)) (And.intro (s_istore_n d_87_1 rfl (by decide +kernel)) (And.intro (s_iload_n d_87_2 rfl) (And.intro (s_aload_n d_87_3 rfl) (And.intro (s_iload_n d_87_4 rfl) (And.intro (s_cv d_87_5 kl_4_35 k_im_49 k_se_49 kok_49 rfl (by decide +kernel) rfl rfl) (And.intro (s_icmp_ge d_87_8 (by decide +kernel)) (And.intro (s_aload_n d_87_11 rfl) (And.intro (s_iload_n d_87_12 rfl) (And.intro (s_iload_n d_87_13 rfl) (And.intro (s_cv d_87_14 kl_4_39 k_im_50 k_se_50 kok_50 rfl (by decide +kernel) rfl rfl) (And.intro (s_iload_n d_87_17 rfl) (And.intro (s_icmp_ne d_87_18 (by decide +kernel)) (And.intro (s_iconst d_87_21 (by decide +kernel)) (And.intro (s_retz d_87_22 rfl) (And.intro (s_iinc d_87_23 (by decide +kernel) (by decide +kernel)) (And.intro (s_goto d_87_26 (by decide +kernel)) (And.intro (s_iconst d_87_29 (by decide +kernel)) (And.intro (s_retz d_87_30 rfl) (True.intro)))))))))))))))))))
theorem d_88_0 : decode (kby 88) 0 = .ok (.iload_n 1, 1) := by decide +kernel
theorem d_88_1 : decode (kby 88) 1 = .ok (.tableswitch 81 0 4 #[35, 43, 51, 59, 70], 35) := by decide +kernel
theorem d_88_36 : decode (kby 88) 36 = .ok (.aload_n 0, 1) := by decide +kernel
theorem d_88_37 : decode (kby 88) 37 = .ok (.getfield 21, 3) := by decide +kernel
theorem d_88_40 : decode (kby 88) 40 = .ok (.invokevirtual 189, 3) := by decide +kernel
theorem d_88_43 : decode (kby 88) 43 = .ok (.ireturn, 1) := by decide +kernel
theorem d_88_44 : decode (kby 88) 44 = .ok (.aload_n 0, 1) := by decide +kernel
theorem d_88_45 : decode (kby 88) 45 = .ok (.getfield 10, 3) := by decide +kernel
theorem d_88_48 : decode (kby 88) 48 = .ok (.invokevirtual 190, 3) := by decide +kernel
theorem d_88_51 : decode (kby 88) 51 = .ok (.ireturn, 1) := by decide +kernel
theorem d_88_52 : decode (kby 88) 52 = .ok (.aload_n 0, 1) := by decide +kernel
theorem d_88_53 : decode (kby 88) 53 = .ok (.getfield 28, 3) := by decide +kernel
theorem d_88_56 : decode (kby 88) 56 = .ok (.invokevirtual 149, 3) := by decide +kernel
theorem d_88_59 : decode (kby 88) 59 = .ok (.ireturn, 1) := by decide +kernel
theorem d_88_60 : decode (kby 88) 60 = .ok (.aload_n 0, 1) := by decide +kernel
theorem d_88_61 : decode (kby 88) 61 = .ok (.getfield 21, 3) := by decide +kernel
theorem d_88_64 : decode (kby 88) 64 = .ok (.getfield 83, 3) := by decide +kernel
theorem d_88_67 : decode (kby 88) 67 = .ok (.invokevirtual 191, 3) := by decide +kernel
theorem d_88_70 : decode (kby 88) 70 = .ok (.ireturn, 1) := by decide +kernel
theorem d_88_71 : decode (kby 88) 71 = .ok (.aload_n 0, 1) := by decide +kernel
theorem d_88_72 : decode (kby 88) 72 = .ok (.getfield 10, 3) := by decide +kernel
theorem d_88_75 : decode (kby 88) 75 = .ok (.getfield 65, 3) := by decide +kernel
theorem d_88_78 : decode (kby 88) 78 = .ok (.invokevirtual 191, 3) := by decide +kernel
theorem d_88_81 : decode (kby 88) 81 = .ok (.ireturn, 1) := by decide +kernel
theorem d_88_82 : decode (kby 88) 82 = .ok (.iconst (-1), 1) := by decide +kernel
theorem d_88_83 : decode (kby 88) 83 = .ok (.ireturn, 1) := by decide +kernel
set_option maxRecDepth 100000 in
theorem ka_88 : kall 88 0 kc_88 := And.intro (s_iload_n d_88_0 rfl) (And.intro (s_switch d_88_1 (by decide +kernel)) (And.intro (s_aload_n d_88_36 rfl) (And.intro (s_get d_88_37 (C := kR0) (T := kT0) (N := 8) rfl kjn0 (by decide +kernel) rfl kf_0_21) (And.intro (s_cv d_88_40 kl_0_189 k_im_89 k_se_89 kok_89 rfl (by decide +kernel) rfl rfl) (And.intro (s_ret d_88_43 rfl) (And.intro (s_aload_n d_88_44 rfl) (And.intro (s_get d_88_45 (C := kR0) (T := kT0) (N := 8) rfl kjn0 (by decide +kernel) rfl kf_0_10) (And.intro (s_cv d_88_48 kl_0_190 k_im_90 k_se_90 kok_90 rfl (by decide +kernel) rfl rfl) (And.intro (s_ret d_88_51 rfl) (And.intro (s_aload_n d_88_52 rfl) (And.intro (s_get d_88_53 (C := kR0) (T := kT0) (N := 8) rfl kjn0 (by decide +kernel) rfl kf_0_28) (And.intro (s_cv d_88_56 kl_0_149 k_im_38 k_se_38 kok_38 rfl (by decide +kernel) rfl rfl) (And.intro (s_ret d_88_59 rfl) (And.intro (s_aload_n d_88_60 rfl) (And.intro (s_get d_88_61 (C := kR0) (T := kT0) (N := 8) rfl kjn0 (by decide +kernel) rfl kf_0_21) (And.intro (s_get d_88_64 (C := kR3) (T := kT3) (N := 15) rfl kjn3 (by decide +kernel) rfl kf_0_83) (And.intro (s_cv d_88_67 kl_0_191 k_im_91 k_se_91 kok_91 rfl (by decide +kernel) rfl rfl) (And.intro (s_ret d_88_70 rfl) (And.intro (s_aload_n d_88_71 rfl) (And.intro (s_get d_88_72 (C := kR0) (T := kT0) (N := 8) rfl kjn0 (by decide +kernel) rfl kf_0_10) (And.intro (s_get d_88_75 (C := kR1) (T := kT1) (N := 8) rfl kjn1 (by decide +kernel) rfl kf_0_65) (And.intro (s_cv d_88_78 kl_0_191 k_im_91 k_se_91 kok_91 rfl (by decide +kernel) rfl rfl) (And.intro (s_ret d_88_81 rfl) (And.intro (s_iconst d_88_82 (by decide +kernel)) (And.intro (s_ret d_88_83 rfl) (True.intro))))))))))))))))))))))))))
theorem d_89_0 : decode (kby 89) 0 = .ok (.aload_n 0, 1) := by decide +kernel
theorem d_89_1 : decode (kby 89) 1 = .ok (.getfield 65, 3) := by decide +kernel
theorem d_89_4 : decode (kby 89) 4 = .ok (.ireturn, 1) := by decide +kernel
set_option maxRecDepth 100000 in
theorem ka_89 : kall 89 0 kc_89 := And.intro (s_aload_n d_89_0 rfl) (And.intro (s_get d_89_1 (C := kR3) (T := kT3) (N := 15) rfl kjn3 (by decide +kernel) rfl kf_3_65) (And.intro (s_ret d_89_4 rfl) (True.intro)))
theorem d_90_0 : decode (kby 90) 0 = .ok (.aload_n 0, 1) := by decide +kernel
theorem d_90_1 : decode (kby 90) 1 = .ok (.getfield 45, 3) := by decide +kernel
theorem d_90_4 : decode (kby 90) 4 = .ok (.ireturn, 1) := by decide +kernel
set_option maxRecDepth 100000 in
theorem ka_90 : kall 90 0 kc_90 := And.intro (s_aload_n d_90_0 rfl) (And.intro (s_get d_90_1 (C := kR1) (T := kT1) (N := 8) rfl kjn1 (by decide +kernel) rfl kf_1_45) (And.intro (s_ret d_90_4 rfl) (True.intro)))
theorem d_91_0 : decode (kby 91) 0 = .ok (.aload_n 0, 1) := by decide +kernel
theorem d_91_1 : decode (kby 91) 1 = .ok (.getfield 24, 3) := by decide +kernel
theorem d_91_4 : decode (kby 91) 4 = .ok (.ireturn, 1) := by decide +kernel
set_option maxRecDepth 100000 in
theorem ka_91 : kall 91 0 kc_91 := And.intro (s_aload_n d_91_0 rfl) (And.intro (s_get d_91_1 (C := kR2) (T := kT2) (N := 3) rfl kjn2 (by decide +kernel) rfl kf_2_24) (And.intro (s_ret d_91_4 rfl) (True.intro)))
theorem d_92_0 : decode (kby 92) 0 = .ok (.iload_n 1, 1) := by decide +kernel
theorem d_92_1 : decode (kby 92) 1 = .ok (.ifCond .lt 8, 3) := by decide +kernel
theorem d_92_4 : decode (kby 92) 4 = .ok (.iload_n 1, 1) := by decide +kernel
theorem d_92_5 : decode (kby 92) 5 = .ok (.iconst 3, 1) := by decide +kernel
theorem d_92_6 : decode (kby 92) 6 = .ok (.if_icmp .le 5, 3) := by decide +kernel
theorem d_92_9 : decode (kby 92) 9 = .ok (.iconst (-1), 1) := by decide +kernel
theorem d_92_10 : decode (kby 92) 10 = .ok (.ireturn, 1) := by decide +kernel
theorem d_92_11 : decode (kby 92) 11 = .ok (.aload_n 0, 1) := by decide +kernel
theorem d_92_12 : decode (kby 92) 12 = .ok (.invokevirtual 154, 3) := by decide +kernel
theorem d_92_15 : decode (kby 92) 15 = .ok (.aload_n 0, 1) := by decide +kernel
theorem d_92_16 : decode (kby 92) 16 = .ok (.iconst 2, 1) := by decide +kernel
theorem d_92_17 : decode (kby 92) 17 = .ok (.iload_n 1, 1) := by decide +kernel
theorem d_92_18 : decode (kby 92) 18 = .ok (.iconst 0, 1) := by decide +kernel
theorem d_92_19 : decode (kby 92) 19 = .ok (.invokevirtual 103, 3) := by decide +kernel
theorem d_92_22 : decode (kby 92) 22 = .ok (.istore_n 2, 1) := by decide +kernel
theorem d_92_23 : decode (kby 92) 23 = .ok (.aload_n 0, 1) := by decide +kernel
theorem d_92_24 : decode (kby 92) 24 = .ok (.iload_n 2, 1) := by decide +kernel
theorem d_92_25 : decode (kby 92) 25 = .ok (.invokevirtual 157, 3) := by decide +kernel
theorem d_92_28 : decode (kby 92) 28 = .ok (.ireturn, 1) := by decide +kernel
set_option maxRecDepth 100000 in
theorem ka_92 : kall 92 0 kc_92 := And.intro (s_iload_n d_92_0 rfl) (And.intro (s_if_lt d_92_1 (by decide +kernel)) (And.intro (s_iload_n d_92_4 rfl) (And.intro (s_iconst d_92_5 (by decide +kernel)) (And.intro (s_icmp_le d_92_6 (by decide +kernel)) (And.intro (s_iconst d_92_9 (by decide +kernel)) (And.intro (s_ret d_92_10 rfl) (And.intro (s_aload_n d_92_11 rfl) (And.intro (s_cw d_92_12 kl_8_154 k_im_93 k_se_93 kok_93 rfl (by decide +kernel) rfl rfl) (And.intro (s_aload_n d_92_15 rfl) (And.intro (s_iconst d_92_16 (by decide +kernel)) (And.intro (s_iload_n d_92_17 rfl) (And.intro (s_iconst d_92_18 (by decide +kernel)) (And.intro (s_cv d_92_19 kl_8_103 k_im_94 k_se_94 kok_94 rfl (by decide +kernel) rfl rfl) (And.intro (s_istore_n d_92_22 rfl (by decide +kernel)) (And.intro (s_aload_n d_92_23 rfl) (And.intro (s_iload_n d_92_24 rfl) (And.intro (s_cv d_92_25 kl_8_157 k_im_95 k_se_95 kok_95 rfl (by decide +kernel) rfl rfl) (And.intro (s_ret d_92_28 rfl) (True.intro)))))))))))))))))))
theorem d_93_0 : decode (kby 93) 0 = .ok (.aload_n 0, 1) := by decide +kernel
theorem d_93_1 : decode (kby 93) 1 = .ok (.iconst 0, 1) := by decide +kernel
theorem d_93_2 : decode (kby 93) 2 = .ok (.putfield 93, 3) := by decide +kernel
theorem d_93_5 : decode (kby 93) 5 = .ok (.aload_n 0, 1) := by decide +kernel
theorem d_93_6 : decode (kby 93) 6 = .ok (.aload_n 0, 1) := by decide +kernel
theorem d_93_7 : decode (kby 93) 7 = .ok (.getfield 86, 3) := by decide +kernel
theorem d_93_10 : decode (kby 93) 10 = .ok (.putfield 132, 3) := by decide +kernel
theorem d_93_13 : decode (kby 93) 13 = .ok (.aload_n 0, 1) := by decide +kernel
theorem d_93_14 : decode (kby 93) 14 = .ok (.aload_n 0, 1) := by decide +kernel
theorem d_93_15 : decode (kby 93) 15 = .ok (.getfield 97, 3) := by decide +kernel
theorem d_93_18 : decode (kby 93) 18 = .ok (.putfield 135, 3) := by decide +kernel
theorem d_93_21 : decode (kby 93) 21 = .ok (.aload_n 0, 1) := by decide +kernel
theorem d_93_22 : decode (kby 93) 22 = .ok (.aload_n 0, 1) := by decide +kernel
theorem d_93_23 : decode (kby 93) 23 = .ok (.getfield 138, 3) := by decide +kernel
theorem d_93_26 : decode (kby 93) 26 = .ok (.putfield 141, 3) := by decide +kernel
theorem d_93_29 : decode (kby 93) 29 = .ok (.return_, 1) := by decide +kernel
set_option maxRecDepth 100000 in
theorem ka_93 : kall 93 0 kc_93 := And.intro (s_aload_n d_93_0 rfl) (And.intro (s_iconst d_93_1 (by decide +kernel)) (And.intro (s_putz d_93_2 (C := kR8) (T := kT8) (N := 38) rfl kjn8 (by decide +kernel) rfl kf_8_93 kt8 kty8 knm8 rfl (by decide +kernel)) (And.intro (s_aload_n d_93_5 rfl) (And.intro (s_aload_n d_93_6 rfl) (And.intro (s_get d_93_7 (C := kR8) (T := kT8) (N := 38) rfl kjn8 (by decide +kernel) rfl kf_8_86) (And.intro (s_put d_93_10 (C := kR8) (T := kT8) (N := 38) rfl kjn8 (by decide +kernel) rfl kf_8_132 kt8 kty8 knm8 rfl (by decide +kernel)) (And.intro (s_aload_n d_93_13 rfl) (And.intro (s_aload_n d_93_14 rfl) (And.intro (s_get d_93_15 (C := kR8) (T := kT8) (N := 38) rfl kjn8 (by decide +kernel) rfl kf_8_97) (And.intro (s_put d_93_18 (C := kR8) (T := kT8) (N := 38) rfl kjn8 (by decide +kernel) rfl kf_8_135 kt8 kty8 knm8 rfl (by decide +kernel)) (And.intro (s_aload_n d_93_21 rfl) (And.intro (s_aload_n d_93_22 rfl) (And.intro (s_get d_93_23 (C := kR8) (T := kT8) (N := 38) rfl kjn8 (by decide +kernel) rfl kf_8_138) (And.intro (s_put d_93_26 (C := kR8) (T := kT8) (N := 38) rfl kjn8 (by decide +kernel) rfl kf_8_141 kt8 kty8 knm8 rfl (by decide +kernel)) (And.intro (s_rv d_93_29 rfl) (True.intro))))))))))))))))
theorem d_94_0 : decode (kby 94) 0 = .ok (.iconst 0, 1) := by decide +kernel
theorem d_94_1 : decode (kby 94) 1 = .ok (.istore 4, 2) := by decide +kernel
theorem d_94_3 : decode (kby 94) 3 = .ok (.iload 4, 2) := by decide +kernel
theorem d_94_5 : decode (kby 94) 5 = .ok (.aload_n 0, 1) := by decide +kernel
theorem d_94_6 : decode (kby 94) 6 = .ok (.getfield 86, 3) := by decide +kernel
theorem d_94_9 : decode (kby 94) 9 = .ok (.if_icmp .ge 45, 3) := by decide +kernel
theorem d_94_12 : decode (kby 94) 12 = .ok (.aload_n 0, 1) := by decide +kernel
theorem d_94_13 : decode (kby 94) 13 = .ok (.getfield 7, 3) := by decide +kernel
theorem d_94_16 : decode (kby 94) 16 = .ok (.iload 4, 2) := by decide +kernel
theorem d_94_18 : decode (kby 94) 18 = .ok (.iaload, 1) := by decide +kernel
theorem d_94_19 : decode (kby 94) 19 = .ok (.iload_n 1, 1) := by decide +kernel
theorem d_94_20 : decode (kby 94) 20 = .ok (.if_icmp .ne 28, 3) := by decide +kernel
theorem d_94_23 : decode (kby 94) 23 = .ok (.aload_n 0, 1) := by decide +kernel
theorem d_94_24 : decode (kby 94) 24 = .ok (.getfield 13, 3) := by decide +kernel
theorem d_94_27 : decode (kby 94) 27 = .ok (.iload 4, 2) := by decide +kernel
theorem d_94_29 : decode (kby 94) 29 = .ok (.iaload, 1) := by decide +kernel
theorem d_94_30 : decode (kby 94) 30 = .ok (.iload_n 2, 1) := by decide +kernel
theorem d_94_31 : decode (kby 94) 31 = .ok (.if_icmp .ne 17, 3) := by decide +kernel
theorem d_94_34 : decode (kby 94) 34 = .ok (.aload_n 0, 1) := by decide +kernel
theorem d_94_35 : decode (kby 94) 35 = .ok (.getfield 16, 3) := by decide +kernel
theorem d_94_38 : decode (kby 94) 38 = .ok (.iload 4, 2) := by decide +kernel
theorem d_94_40 : decode (kby 94) 40 = .ok (.iaload, 1) := by decide +kernel
theorem d_94_41 : decode (kby 94) 41 = .ok (.iload_n 3, 1) := by decide +kernel
theorem d_94_42 : decode (kby 94) 42 = .ok (.if_icmp .ne 6, 3) := by decide +kernel
theorem d_94_45 : decode (kby 94) 45 = .ok (.iload 4, 2) := by decide +kernel
theorem d_94_47 : decode (kby 94) 47 = .ok (.ireturn, 1) := by decide +kernel
theorem d_94_48 : decode (kby 94) 48 = .ok (.iinc 4 1, 3) := by decide +kernel
theorem d_94_51 : decode (kby 94) 51 = .ok (.goto (-48), 3) := by decide +kernel
theorem d_94_54 : decode (kby 94) 54 = .ok (.iload_n 1, 1) := by decide +kernel
theorem d_94_55 : decode (kby 94) 55 = .ok (.iconst 4, 1) := by decide +kernel
theorem d_94_56 : decode (kby 94) 56 = .ok (.if_icmp .ne 38, 3) := by decide +kernel
theorem d_94_59 : decode (kby 94) 59 = .ok (.iconst 1, 1) := by decide +kernel
theorem d_94_60 : decode (kby 94) 60 = .ok (.aload_n 0, 1) := by decide +kernel
theorem d_94_61 : decode (kby 94) 61 = .ok (.getfield 19, 3) := by decide +kernel
theorem d_94_64 : decode (kby 94) 64 = .ok (.iload_n 2, 1) := by decide +kernel
theorem d_94_65 : decode (kby 94) 65 = .ok (.iaload, 1) := by decide +kernel
theorem d_94_66 : decode (kby 94) 66 = .ok (.aload_n 0, 1) := by decide +kernel
theorem d_94_67 : decode (kby 94) 67 = .ok (.getfield 19, 3) := by decide +kernel
theorem d_94_70 : decode (kby 94) 70 = .ok (.iload_n 3, 1) := by decide +kernel
theorem d_94_71 : decode (kby 94) 71 = .ok (.iaload, 1) := by decide +kernel
theorem d_94_72 : decode (kby 94) 72 = .ok (.if_icmp .le 12, 3) := by decide +kernel
theorem d_94_75 : decode (kby 94) 75 = .ok (.aload_n 0, 1) := by decide +kernel
theorem d_94_76 : decode (kby 94) 76 = .ok (.getfield 19, 3) := by decide +kernel
theorem d_94_79 : decode (kby 94) 79 = .ok (.iload_n 2, 1) := by decide +kernel
theorem d_94_80 : decode (kby 94) 80 = .ok (.iaload, 1) := by decide +kernel
theorem d_94_81 : decode (kby 94) 81 = .ok (.goto 9, 3) := by decide +kernel
theorem d_94_84 : decode (kby 94) 84 = .ok (.aload_n 0, 1) := by decide +kernel
theorem d_94_85 : decode (kby 94) 85 = .ok (.getfield 19, 3) := by decide +kernel
theorem d_94_88 : decode (kby 94) 88 = .ok (.iload_n 3, 1) := by decide +kernel
theorem d_94_89 : decode (kby 94) 89 = .ok (.iaload, 1) := by decide +kernel
theorem d_94_90 : decode (kby 94) 90 = .ok (.iadd, 1) := by decide +kernel
theorem d_94_91 : decode (kby 94) 91 = .ok (.goto 4, 3) := by decide +kernel
theorem d_94_94 : decode (kby 94) 94 = .ok (.iconst 1, 1) := by decide +kernel
theorem d_94_95 : decode (kby 94) 95 = .ok (.istore 4, 2) := by decide +kernel
theorem d_94_97 : decode (kby 94) 97 = .ok (.aload_n 0, 1) := by decide +kernel
theorem d_94_98 : decode (kby 94) 98 = .ok (.getfield 93, 3) := by decide +kernel
theorem d_94_101 : decode (kby 94) 101 = .ok (.ifCond .ne 19, 3) := by decide +kernel
theorem d_94_104 : decode (kby 94) 104 = .ok (.iload 4, 2) := by decide +kernel
theorem d_94_106 : decode (kby 94) 106 = .ok (.bipush 10, 2) := by decide +kernel
theorem d_94_108 : decode (kby 94) 108 = .ok (.if_icmp .gt 12, 3) := by decide +kernel
theorem d_94_111 : decode (kby 94) 111 = .ok (.aload_n 0, 1) := by decide +kernel
theorem d_94_112 : decode (kby 94) 112 = .ok (.getfield 86, 3) := by decide +kernel
theorem d_94_115 : decode (kby 94) 115 = .ok (.bipush 50, 2) := by decide +kernel
theorem d_94_117 : decode (kby 94) 117 = .ok (.if_icmp .ne 10, 3) := by decide +kernel
theorem d_94_120 : decode (kby 94) 120 = .ok (.aload_n 0, 1) := by decide +kernel
theorem d_94_121 : decode (kby 94) 121 = .ok (.iconst 1, 1) := by decide +kernel
theorem d_94_122 : decode (kby 94) 122 = .ok (.putfield 93, 3) := by decide +kernel
theorem d_94_125 : decode (kby 94) 125 = .ok (.iconst 0, 1) := by decide +kernel
theorem d_94_126 : decode (kby 94) 126 = .ok (.ireturn, 1) := by decide +kernel
theorem d_94_127 : decode (kby 94) 127 = .ok (.aload_n 0, 1) := by decide +kernel
theorem d_94_128 : decode (kby 94) 128 = .ok (.getfield 7, 3) := by decide +kernel
theorem d_94_131 : decode (kby 94) 131 = .ok (.aload_n 0, 1) := by decide +kernel
theorem d_94_132 : decode (kby 94) 132 = .ok (.getfield 86, 3) := by decide +kernel
theorem d_94_135 : decode (kby 94) 135 = .ok (.iload_n 1, 1) := by decide +kernel
theorem d_94_136 : decode (kby 94) 136 = .ok (.iastore, 1) := by decide +kernel
theorem d_94_137 : decode (kby 94) 137 = .ok (.aload_n 0, 1) := by decide +kernel
theorem d_94_138 : decode (kby 94) 138 = .ok (.getfield 13, 3) := by decide +kernel
theorem d_94_141 : decode (kby 94) 141 = .ok (.aload_n 0, 1) := by decide +kernel
theorem d_94_142 : decode (kby 94) 142 = .ok (.getfield 86, 3) := by decide +kernel
theorem d_94_145 : decode (kby 94) 145 = .ok (.iload_n 2, 1) := by decide +kernel
theorem d_94_146 : decode (kby 94) 146 = .ok (.iastore, 1) := by decide +kernel
theorem d_94_147 : decode (kby 94) 147 = .ok (.aload_n 0, 1) := by decide +kernel
theorem d_94_148 : decode (kby 94) 148 = .ok (.getfield 16, 3) := by decide +kernel
theorem d_94_151 : decode (kby 94) 151 = .ok (.aload_n 0, 1) := by decide +kernel
theorem d_94_152 : decode (kby 94) 152 = .ok (.getfield 86, 3) := by decide +kernel
theorem d_94_155 : decode (kby 94) 155 = .ok (.iload_n 3, 1) := by decide +kernel
theorem d_94_156 : decode (kby 94) 156 = .ok (.iastore, 1) := by decide +kernel
theorem d_94_157 : decode (kby 94) 157 = .ok (.aload_n 0, 1) := by decide +kernel
theorem d_94_158 : decode (kby 94) 158 = .ok (.getfield 19, 3) := by decide +kernel
theorem d_94_161 : decode (kby 94) 161 = .ok (.aload_n 0, 1) := by decide +kernel
theorem d_94_162 : decode (kby 94) 162 = .ok (.getfield 86, 3) := by decide +kernel
theorem d_94_165 : decode (kby 94) 165 = .ok (.iload 4, 2) := by decide +kernel
theorem d_94_167 : decode (kby 94) 167 = .ok (.iastore, 1) := by decide +kernel
theorem d_94_168 : decode (kby 94) 168 = .ok (.aload_n 0, 1) := by decide +kernel
theorem d_94_169 : decode (kby 94) 169 = .ok (.getfield 22, 3) := by decide +kernel
theorem d_94_172 : decode (kby 94) 172 = .ok (.aload_n 0, 1) := by decide +kernel
theorem d_94_173 : decode (kby 94) 173 = .ok (.getfield 86, 3) := by decide +kernel
theorem d_94_176 : decode (kby 94) 176 = .ok (.iload_n 1, 1) := by decide +kernel
theorem d_94_177 : decode (kby 94) 177 = .ok (.iconst 2, 1) := by decide +kernel
theorem d_94_178 : decode (kby 94) 178 = .ok (.if_icmp .eq 26, 3) := by decide +kernel
theorem d_94_181 : decode (kby 94) 181 = .ok (.iload_n 1, 1) := by decide +kernel
theorem d_94_182 : decode (kby 94) 182 = .ok (.iconst 4, 1) := by decide +kernel
theorem d_94_183 : decode (kby 94) 183 = .ok (.if_icmp .ne 25, 3) := by decide +kernel
theorem d_94_186 : decode (kby 94) 186 = .ok (.aload_n 0, 1) := by decide +kernel
theorem d_94_187 : decode (kby 94) 187 = .ok (.getfield 22, 3) := by decide +kernel
theorem d_94_190 : decode (kby 94) 190 = .ok (.iload_n 2, 1) := by decide +kernel
theorem d_94_191 : decode (kby 94) 191 = .ok (.baload, 1) := by decide +kernel
theorem d_94_192 : decode (kby 94) 192 = .ok (.ifCond .ne 12, 3) := by decide +kernel
theorem d_94_195 : decode (kby 94) 195 = .ok (.aload_n 0, 1) := by decide +kernel
theorem d_94_196 : decode (kby 94) 196 = .ok (.getfield 22, 3) := by decide +kernel
theorem d_94_199 : decode (kby 94) 199 = .ok (.iload_n 3, 1) := by decide +kernel
theorem d_94_200 : decode (kby 94) 200 = .ok (.baload, 1) := by decide +kernel
theorem d_94_201 : decode (kby 94) 201 = .ok (.ifCond .eq 7, 3) := by decide +kernel
theorem d_94_204 : decode (kby 94) 204 = .ok (.iconst 1, 1) := by decide +kernel
theorem d_94_205 : decode (kby 94) 205 = .ok (.goto 4, 3) := by decide +kernel
theorem d_94_208 : decode (kby 94) 208 = .ok (.iconst 0, 1) := by decide +kernel
theorem d_94_209 : decode (kby 94) 209 = .ok (.bastore, 1) := by decide +kernel
theorem d_94_210 : decode (kby 94) 210 = .ok (.aload_n 0, 1) := by decide +kernel
theorem d_94_211 : decode (kby 94) 211 = .ok (.getfield 26, 3) := by decide +kernel
theorem d_94_214 : decode (kby 94) 214 = .ok (.aload_n 0, 1) := by decide +kernel
theorem d_94_215 : decode (kby 94) 215 = .ok (.getfield 86, 3) := by decide +kernel
theorem d_94_218 : decode (kby 94) 218 = .ok (.iconst (-1), 1) := by decide +kernel
theorem d_94_219 : decode (kby 94) 219 = .ok (.iastore, 1) := by decide +kernel
theorem d_94_220 : decode (kby 94) 220 = .ok (.aload_n 0, 1) := by decide +kernel
theorem d_94_221 : decode (kby 94) 221 = .ok (.dup, 1) := by decide +kernel
theorem d_94_222 : decode (kby 94) 222 = .ok (.getfield 86, 3) := by decide +kernel
theorem d_94_225 : decode (kby 94) 225 = .ok (.iconst 1, 1) := by decide +kernel
theorem d_94_226 : decode (kby 94) 226 = .ok (.iadd, 1) := by decide +kernel
theorem d_94_227 : decode (kby 94) 227 = .ok (.putfield 86, 3) := by decide +kernel
theorem d_94_230 : decode (kby 94) 230 = .ok (.aload_n 0, 1) := by decide +kernel
theorem d_94_231 : decode (kby 94) 231 = .ok (.getfield 86, 3) := by decide +kernel
theorem d_94_234 : decode (kby 94) 234 = .ok (.iconst 1, 1) := by decide +kernel
theorem d_94_235 : decode (kby 94) 235 = .ok (.isub, 1) := by decide +kernel
theorem d_94_236 : decode (kby 94) 236 = .ok (.ireturn, 1) := by decide +kernel
set_option maxRecDepth 100000 in
theorem ka_94 : kall 94 0 kc_94 := And.intro (s_iconst d_94_0 (by decide +kernel)) (And.intro (s_istore d_94_1 (by decide +kernel)) (And.intro (s_iload d_94_3) (And.intro (s_aload_n d_94_5 rfl) (And.intro (s_get d_94_6 (C := kR8) (T := kT8) (N := 38) rfl kjn8 (by decide +kernel) rfl kf_8_86) (And.intro (s_icmp_ge d_94_9 (by decide +kernel)) (And.intro (s_aload_n d_94_12 rfl) (And.intro (s_get d_94_13 (C := kR8) (T := kT8) (N := 38) rfl kjn8 (by decide +kernel) rfl kf_8_7) (And.intro (s_iload d_94_16) (And.intro (s_iaload d_94_18) (And.intro (s_iload_n d_94_19 rfl) (And.intro (s_icmp_ne d_94_20 (by decide +kernel)) (And.intro (s_aload_n d_94_23 rfl) (And.intro (s_get d_94_24 (C := kR8) (T := kT8) (N := 38) rfl kjn8 (by decide +kernel) rfl kf_8_13) (And.intro (s_iload d_94_27) (And.intro (s_iaload d_94_29) (And.intro (s_iload_n d_94_30 rfl) (And.intro (s_icmp_ne d_94_31 (by decide +kernel)) (And.intro (s_aload_n d_94_34 rfl) (And.intro (s_get d_94_35 (C := kR8) (T := kT8) (N := 38) rfl kjn8 (by decide +kernel) rfl kf_8_16) (And.intro (s_iload d_94_38) (And.intro (s_iaload d_94_40) (And.intro (s_iload_n d_94_41 rfl) (And.intro (s_icmp_ne d_94_42 (by decide +kernel)) (And.intro (s_iload d_94_45) (And.intro (s_ret d_94_47 rfl) (And.intro (s_iinc d_94_48 (by decide +kernel) (by decide +kernel)) (And.intro (s_goto d_94_51 (by decide +kernel)) (And.intro (s_iload_n d_94_54 rfl) (And.intro (s_iconst d_94_55 (by decide +kernel)) (And.intro (s_icmp_ne d_94_56 (by decide +kernel)) (And.intro (s_iconst d_94_59 (by decide +kernel)) (And.intro (s_aload_n d_94_60 rfl) (And.intro (s_get d_94_61 (C := kR8) (T := kT8) (N := 38) rfl kjn8 (by decide +kernel) rfl kf_8_19) (And.intro (s_iload_n d_94_64 rfl) (And.intro (s_iaload d_94_65) (And.intro (s_aload_n d_94_66 rfl) (And.intro (s_get d_94_67 (C := kR8) (T := kT8) (N := 38) rfl kjn8 (by decide +kernel) rfl kf_8_19) (And.intro (s_iload_n d_94_70 rfl) (And.intro (s_iaload d_94_71) (And.intro (s_icmp_le d_94_72 (by decide +kernel)) (And.intro (s_aload_n d_94_75 rfl) (And.intro (s_get d_94_76 (C := kR8) (T := kT8) (N := 38) rfl kjn8 (by decide +kernel) rfl kf_8_19) (And.intro (s_iload_n d_94_79 rfl) (And.intro (s_iaload d_94_80) (And.intro (s_goto d_94_81 (by decide +kernel)) (And.intro (s_aload_n d_94_84 rfl) (And.intro (s_get d_94_85 (C := kR8) (T := kT8) (N := 38) rfl kjn8 (by decide +kernel) rfl kf_8_19) (And.intro (s_iload_n d_94_88 rfl) (And.intro (s_iaload d_94_89) (And.intro (s_iadd d_94_90) (And.intro (s_goto d_94_91 (by decide +kernel)) (And.intro (s_iconst d_94_94 (by decide +kernel)) (And.intro (s_istore d_94_95 (by decide +kernel)) (And.intro (s_aload_n d_94_97 rfl) (And.intro (s_get d_94_98 (C := kR8) (T := kT8) (N := 38) rfl kjn8 (by decide +kernel) rfl kf_8_93) (And.intro (s_if_ne d_94_101 (by decide +kernel)) (And.intro (s_iload d_94_104) (And.intro (s_bipush d_94_106 (by decide +kernel)) (And.intro (s_icmp_gt d_94_108 (by decide +kernel)) (And.intro (s_aload_n d_94_111 rfl) (And.intro (s_get d_94_112 (C := kR8) (T := kT8) (N := 38) rfl kjn8 (by decide +kernel) rfl kf_8_86) (And.intro (s_bipush d_94_115 (by decide +kernel)) (And.intro (s_icmp_ne d_94_117 (by decide +kernel)) (And.intro (s_aload_n d_94_120 rfl) (And.intro (s_iconst d_94_121 (by decide +kernel)) (And.intro (s_putz d_94_122 (C := kR8) (T := kT8) (N := 38) rfl kjn8 (by decide +kernel) rfl kf_8_93 kt8 kty8 knm8 rfl (by decide +kernel)) (And.intro (s_iconst d_94_125 (by decide +kernel)) (And.intro (s_ret d_94_126 rfl) (And.intro (s_aload_n d_94_127 rfl) (And.intro (s_get d_94_128 (C := kR8) (T := kT8) (N := 38) rfl kjn8 (by decide +kernel) rfl kf_8_7) (And.intro (s_aload_n d_94_131 rfl) (And.intro (s_get d_94_132 (C := kR8) (T := kT8) (N := 38) rfl kjn8 (by decide +kernel) rfl kf_8_86) (And.intro (s_iload_n d_94_135 rfl) (And.intro (s_iastore d_94_136) (And.intro (s_aload_n d_94_137 rfl) (And.intro (s_get d_94_138 (C := kR8) (T := kT8) (N := 38) rfl kjn8 (by decide +kernel) rfl kf_8_13) (And.intro (s_aload_n d_94_141 rfl) (And.intro (s_get d_94_142 (C := kR8) (T := kT8) (N := 38) rfl kjn8 (by decide +kernel) rfl kf_8_86) (And.intro (s_iload_n d_94_145 rfl) (And.intro (s_iastore d_94_146) (And.intro (s_aload_n d_94_147 rfl) (And.intro (s_get d_94_148 (C := kR8) (T := kT8) (N := 38) rfl kjn8 (by decide +kernel) rfl kf_8_16) (And.intro (s_aload_n d_94_151 rfl) (And.intro (s_get d_94_152 (C := kR8) (T := kT8) (N := 38) rfl kjn8 (by decide +kernel) rfl kf_8_86) (And.intro (s_iload_n d_94_155 rfl) (And.intro (s_iastore d_94_156) (And.intro (s_aload_n d_94_157 rfl) (And.intro (s_get d_94_158 (C := kR8) (T := kT8) (N := 38) rfl kjn8 (by decide +kernel) rfl kf_8_19) (And.intro (s_aload_n d_94_161 rfl) (And.intro (s_get d_94_162 (C := kR8) (T := kT8) (N := 38) rfl kjn8 (by decide +kernel) rfl kf_8_86) (And.intro (s_iload d_94_165) (And.intro (s_iastore d_94_167) (And.intro (s_aload_n d_94_168 rfl) (And.intro (s_get d_94_169 (C := kR8) (T := kT8) (N := 38) rfl kjn8 (by decide +kernel) rfl kf_8_22) (And.intro (s_aload_n d_94_172 rfl) (And.intro (s_get d_94_173 (C := kR8) (T := kT8) (N := 38) rfl kjn8 (by decide +kernel) rfl kf_8_86) (And.intro (s_iload_n d_94_176 rfl) (And.intro (s_iconst d_94_177 (by decide +kernel)) (And.intro (s_icmp_eq d_94_178 (by decide +kernel)) (And.intro (s_iload_n d_94_181 rfl) (And.intro (s_iconst d_94_182 (by decide +kernel)) (And.intro (s_icmp_ne d_94_183 (by decide +kernel)) (And.intro (s_aload_n d_94_186 rfl) (And.intro (s_get d_94_187 (C := kR8) (T := kT8) (N := 38) rfl kjn8 (by decide +kernel) rfl kf_8_22) (And.intro (s_iload_n d_94_190 rfl) (And.intro (s_baload d_94_191) (And.intro (s_if_ne d_94_192 (by decide +kernel)) (And.intro (s_aload_n d_94_195 rfl) (And.intro (s_get d_94_196 (C := kR8) (T := kT8) (N := 38) rfl kjn8 (by decide +kernel) rfl kf_8_22) (And.intro (s_iload_n d_94_199 rfl) (And.intro (s_baload d_94_200) (And.intro (s_if_eq d_94_201 (by decide +kernel)) (And.intro (s_iconst d_94_204 (by decide +kernel)) (And.intro (s_goto d_94_205 (by decide +kernel)) (And.intro (s_iconst d_94_208 (by decide +kernel)) (And.intro (s_bastore d_94_209) (And.intro (s_aload_n d_94_210 rfl) (And.intro (s_get d_94_211 (C := kR8) (T := kT8) (N := 38) rfl kjn8 (by decide +kernel) rfl kf_8_26) (And.intro (s_aload_n d_94_214 rfl) (And.intro (s_get d_94_215 (C := kR8) (T := kT8) (N := 38) rfl kjn8 (by decide +kernel) rfl kf_8_86) (And.intro (s_iconst d_94_218 (by decide +kernel)) (And.intro (s_iastore d_94_219) (And.intro (s_aload_n d_94_220 rfl) (And.intro (s_dup d_94_221) (And.intro (s_get d_94_222 (C := kR8) (T := kT8) (N := 38) rfl kjn8 (by decide +kernel) rfl kf_8_86) (And.intro (s_iconst d_94_225 (by decide +kernel)) (And.intro (s_iadd d_94_226) (And.intro (s_put d_94_227 (C := kR8) (T := kT8) (N := 38) rfl kjn8 (by decide +kernel) rfl kf_8_86 kt8 kty8 knm8 rfl (by decide +kernel)) (And.intro (s_aload_n d_94_230 rfl) (And.intro (s_get d_94_231 (C := kR8) (T := kT8) (N := 38) rfl kjn8 (by decide +kernel) rfl kf_8_86) (And.intro (s_iconst d_94_234 (by decide +kernel)) (And.intro (s_isub d_94_235) (And.intro (s_ret d_94_236 rfl) (True.intro))))))))))))))))))))))))))))))))))))))))))))))))))))))))))))))))))))))))))))))))))))))))))))))))))))))))))))))))))))))))))))))))))))))
theorem d_95_0 : decode (kby 95) 0 = .ok (.aload_n 0, 1) := by decide +kernel
theorem d_95_1 : decode (kby 95) 1 = .ok (.invokevirtual 144, 3) := by decide +kernel
theorem d_95_4 : decode (kby 95) 4 = .ok (.ifCond .eq 11, 3) := by decide +kernel
theorem d_95_7 : decode (kby 95) 7 = .ok (.aload_n 0, 1) := by decide +kernel
theorem d_95_8 : decode (kby 95) 8 = .ok (.iload_n 1, 1) := by decide +kernel
theorem d_95_9 : decode (kby 95) 9 = .ok (.invokevirtual 148, 3) := by decide +kernel
theorem d_95_12 : decode (kby 95) 12 = .ok (.goto 4, 3) := by decide +kernel
theorem d_95_15 : decode (kby 95) 15 = .ok (.iconst (-1), 1) := by decide +kernel
theorem d_95_16 : decode (kby 95) 16 = .ok (.ireturn, 1) := by decide +kernel
set_option maxRecDepth 100000 in
theorem ka_95 : kall 95 0 kc_95 := And.intro (s_aload_n d_95_0 rfl) (And.intro (s_cv d_95_1 kl_8_144 k_im_96 k_se_96 kok_96 rfl (by decide +kernel) rfl rfl) (And.intro (s_if_eq d_95_4 (by decide +kernel)) (And.intro (s_aload_n d_95_7 rfl) (And.intro (s_iload_n d_95_8 rfl) (And.intro (s_cv d_95_9 kl_8_148 k_im_97 k_se_97 kok_97 rfl (by decide +kernel) rfl rfl) (And.intro (s_goto d_95_12 (by decide +kernel)) (And.intro (s_iconst d_95_15 (by decide +kernel)) (And.intro (s_ret d_95_16 rfl) (True.intro)))))))))
theorem d_96_0 : decode (kby 96) 0 = .ok (.aload_n 0, 1) := by decide +kernel
theorem d_96_1 : decode (kby 96) 1 = .ok (.getfield 93, 3) := by decide +kernel
theorem d_96_4 : decode (kby 96) 4 = .ok (.ifCond .ne 5, 3) := by decide +kernel
theorem d_96_7 : decode (kby 96) 7 = .ok (.iconst 1, 1) := by decide +kernel
theorem d_96_8 : decode (kby 96) 8 = .ok (.ireturn, 1) := by decide +kernel
theorem d_96_9 : decode (kby 96) 9 = .ok (.aload_n 0, 1) := by decide +kernel
theorem d_96_10 : decode (kby 96) 10 = .ok (.aload_n 0, 1) := by decide +kernel
theorem d_96_11 : decode (kby 96) 11 = .ok (.getfield 132, 3) := by decide +kernel
theorem d_96_14 : decode (kby 96) 14 = .ok (.putfield 86, 3) := by decide +kernel
theorem d_96_17 : decode (kby 96) 17 = .ok (.aload_n 0, 1) := by decide +kernel
theorem d_96_18 : decode (kby 96) 18 = .ok (.aload_n 0, 1) := by decide +kernel
theorem d_96_19 : decode (kby 96) 19 = .ok (.getfield 135, 3) := by decide +kernel
theorem d_96_22 : decode (kby 96) 22 = .ok (.putfield 97, 3) := by decide +kernel
theorem d_96_25 : decode (kby 96) 25 = .ok (.aload_n 0, 1) := by decide +kernel
theorem d_96_26 : decode (kby 96) 26 = .ok (.aload_n 0, 1) := by decide +kernel
theorem d_96_27 : decode (kby 96) 27 = .ok (.getfield 141, 3) := by decide +kernel
theorem d_96_30 : decode (kby 96) 30 = .ok (.putfield 138, 3) := by decide +kernel
theorem d_96_33 : decode (kby 96) 33 = .ok (.iconst 0, 1) := by decide +kernel
theorem d_96_34 : decode (kby 96) 34 = .ok (.ireturn, 1) := by decide +kernel
set_option maxRecDepth 100000 in
theorem ka_96 : kall 96 0 kc_96 := And.intro (s_aload_n d_96_0 rfl) (And.intro (s_get d_96_1 (C := kR8) (T := kT8) (N := 38) rfl kjn8 (by decide +kernel) rfl kf_8_93) (And.intro (s_if_ne d_96_4 (by decide +kernel)) (And.intro (s_iconst d_96_7 (by decide +kernel)) (And.intro (s_retz d_96_8 rfl) (And.intro (s_aload_n d_96_9 rfl) (And.intro (s_aload_n d_96_10 rfl) (And.intro (s_get d_96_11 (C := kR8) (T := kT8) (N := 38) rfl kjn8 (by decide +kernel) rfl kf_8_132) (And.intro (s_put d_96_14 (C := kR8) (T := kT8) (N := 38) rfl kjn8 (by decide +kernel) rfl kf_8_86 kt8 kty8 knm8 rfl (by decide +kernel)) (And.intro (s_aload_n d_96_17 rfl) (And.intro (s_aload_n d_96_18 rfl) (And.intro (s_get d_96_19 (C := kR8) (T := kT8) (N := 38) rfl kjn8 (by decide +kernel) rfl kf_8_135) (And.intro (s_put d_96_22 (C := kR8) (T := kT8) (N := 38) rfl kjn8 (by decide +kernel) rfl kf_8_97 kt8 kty8 knm8 rfl (by decide +kernel)) (And.intro (s_aload_n d_96_25 rfl) (And.intro (s_aload_n d_96_26 rfl) (And.intro (s_get d_96_27 (C := kR8) (T := kT8) (N := 38) rfl kjn8 (by decide +kernel) rfl kf_8_141) (And.intro (s_put d_96_30 (C := kR8) (T := kT8) (N := 38) rfl kjn8 (by decide +kernel) rfl kf_8_138 kt8 kty8 knm8 rfl (by decide +kernel)) (And.intro (s_iconst d_96_33 (by decide +kernel)) (And.intro (s_retz d_96_34 rfl) (True.intro)))))))))))))))))))
theorem d_97_0 : decode (kby 97) 0 = .ok (.aload_n 0, 1) := by decide +kernel
theorem d_97_1 : decode (kby 97) 1 = .ok (.getfield 26, 3) := by decide +kernel
theorem d_97_4 : decode (kby 97) 4 = .ok (.iload_n 1, 1) := by decide +kernel
theorem d_97_5 : decode (kby 97) 5 = .ok (.iaload, 1) := by decide +kernel
theorem d_97_6 : decode (kby 97) 6 = .ok (.ifCond .ge 33, 3) := by decide +kernel
theorem d_97_9 : decode (kby 97) 9 = .ok (.aload_n 0, 1) := by decide +kernel
theorem d_97_10 : decode (kby 97) 10 = .ok (.getfield 26, 3) := by decide +kernel
theorem d_97_13 : decode (kby 97) 13 = .ok (.iload_n 1, 1) := by decide +kernel
theorem d_97_14 : decode (kby 97) 14 = .ok (.aload_n 0, 1) := by decide +kernel
theorem d_97_15 : decode (kby 97) 15 = .ok (.getfield 90, 3) := by decide +kernel
theorem d_97_18 : decode (kby 97) 18 = .ok (.iastore, 1) := by decide +kernel
theorem d_97_19 : decode (kby 97) 19 = .ok (.aload_n 0, 1) := by decide +kernel
theorem d_97_20 : decode (kby 97) 20 = .ok (.getfield 29, 3) := by decide +kernel
theorem d_97_23 : decode (kby 97) 23 = .ok (.aload_n 0, 1) := by decide +kernel
theorem d_97_24 : decode (kby 97) 24 = .ok (.getfield 90, 3) := by decide +kernel
theorem d_97_27 : decode (kby 97) 27 = .ok (.iload_n 1, 1) := by decide +kernel
theorem d_97_28 : decode (kby 97) 28 = .ok (.iastore, 1) := by decide +kernel
theorem d_97_29 : decode (kby 97) 29 = .ok (.aload_n 0, 1) := by decide +kernel
theorem d_97_30 : decode (kby 97) 30 = .ok (.dup, 1) := by decide +kernel
theorem d_97_31 : decode (kby 97) 31 = .ok (.getfield 90, 3) := by decide +kernel
theorem d_97_34 : decode (kby 97) 34 = .ok (.iconst 1, 1) := by decide +kernel
theorem d_97_35 : decode (kby 97) 35 = .ok (.iadd, 1) := by decide +kernel
theorem d_97_36 : decode (kby 97) 36 = .ok (.putfield 90, 3) := by decide +kernel
theorem d_97_39 : decode (kby 97) 39 = .ok (.aload_n 0, 1) := by decide +kernel
theorem d_97_40 : decode (kby 97) 40 = .ok (.getfield 26, 3) := by decide +kernel
theorem d_97_43 : decode (kby 97) 43 = .ok (.iload_n 1, 1) := by decide +kernel
theorem d_97_44 : decode (kby 97) 44 = .ok (.iaload, 1) := by decide +kernel
theorem d_97_45 : decode (kby 97) 45 = .ok (.ireturn, 1) := by decide +kernel
set_option maxRecDepth 100000 in
theorem ka_97 : kall 97 0 kc_97 := And.intro (s_aload_n d_97_0 rfl) (And.intro (s_get d_97_1 (C := kR8) (T := kT8) (N := 38) rfl kjn8 (by decide +kernel) rfl kf_8_26) (And.intro (s_iload_n d_97_4 rfl) (And.intro (s_iaload d_97_5) (And.intro (s_if_ge d_97_6 (by decide +kernel)) (And.intro (s_aload_n d_97_9 rfl) (And.intro (s_get d_97_10 (C := kR8) (T := kT8) (N := 38) rfl kjn8 (by decide +kernel) rfl kf_8_26) (And.intro (s_iload_n d_97_13 rfl) (And.intro (s_aload_n d_97_14 rfl) (And.intro (s_get d_97_15 (C := kR8) (T := kT8) (N := 38) rfl kjn8 (by decide +kernel) rfl kf_8_90) (And.intro (s_iastore d_97_18) (And.intro (s_aload_n d_97_19 rfl) (And.intro (s_get d_97_20 (C := kR8) (T := kT8) (N := 38) rfl kjn8 (by decide +kernel) rfl kf_8_29) (And.intro (s_aload_n d_97_23 rfl) (And.intro (s_get d_97_24 (C := kR8) (T := kT8) (N := 38) rfl kjn8 (by decide +kernel) rfl kf_8_90) (And.intro (s_iload_n d_97_27 rfl) (And.intro (s_iastore d_97_28) (And.intro (s_aload_n d_97_29 rfl) (And.intro (s_dup d_97_30) (And.intro (s_get d_97_31 (C := kR8) (T := kT8) (N := 38) rfl kjn8 (by decide +kernel) rfl kf_8_90) (And.intro (s_iconst d_97_34 (by decide +kernel)) (And.intro (s_iadd d_97_35) (And.intro (s_put d_97_36 (C := kR8) (T := kT8) (N := 38) rfl kjn8 (by decide +kernel) rfl kf_8_90 kt8 kty8 knm8 rfl (by decide +kernel)) (And.intro (s_aload_n d_97_39 rfl) (And.intro (s_get d_97_40 (C := kR8) (T := kT8) (N := 38) rfl kjn8 (by decide +kernel) rfl kf_8_26) (And.intro (s_iload_n d_97_43 rfl) (And.intro (s_iaload d_97_44) (And.intro (s_ret d_97_45 rfl) (True.intro))))))))))))))))))))))))))))
theorem d_98_0 : decode (kby 98) 0 = .ok (.aload_n 0, 1) := by decide +kernel
theorem d_98_1 : decode (kby 98) 1 = .ok (.iload_n 1, 1) := by decide +kernel
theorem d_98_2 : decode (kby 98) 2 = .ok (.invokevirtual 160, 3) := by decide +kernel
theorem d_98_5 : decode (kby 98) 5 = .ok (.ifCond .eq 11, 3) := by decide +kernel
theorem d_98_8 : decode (kby 98) 8 = .ok (.aload_n 0, 1) := by decide +kernel
theorem d_98_9 : decode (kby 98) 9 = .ok (.iload_n 2, 1) := by decide +kernel
theorem d_98_10 : decode (kby 98) 10 = .ok (.invokevirtual 160, 3) := by decide +kernel
theorem d_98_13 : decode (kby 98) 13 = .ok (.ifCond .ne 5, 3) := by decide +kernel
theorem d_98_16 : decode (kby 98) 16 = .ok (.iconst (-1), 1) := by decide +kernel
theorem d_98_17 : decode (kby 98) 17 = .ok (.ireturn, 1) := by decide +kernel
theorem d_98_18 : decode (kby 98) 18 = .ok (.aload_n 0, 1) := by decide +kernel
theorem d_98_19 : decode (kby 98) 19 = .ok (.invokevirtual 154, 3) := by decide +kernel
theorem d_98_22 : decode (kby 98) 22 = .ok (.aload_n 0, 1) := by decide +kernel
theorem d_98_23 : decode (kby 98) 23 = .ok (.iconst 4, 1) := by decide +kernel
theorem d_98_24 : decode (kby 98) 24 = .ok (.aload_n 0, 1) := by decide +kernel
theorem d_98_25 : decode (kby 98) 25 = .ok (.getfield 29, 3) := by decide +kernel
theorem d_98_28 : decode (kby 98) 28 = .ok (.iload_n 1, 1) := by decide +kernel
theorem d_98_29 : decode (kby 98) 29 = .ok (.iaload, 1) := by decide +kernel
theorem d_98_30 : decode (kby 98) 30 = .ok (.aload_n 0, 1) := by decide +kernel
theorem d_98_31 : decode (kby 98) 31 = .ok (.getfield 29, 3) := by decide +kernel
theorem d_98_34 : decode (kby 98) 34 = .ok (.iload_n 2, 1) := by decide +kernel
theorem d_98_35 : decode (kby 98) 35 = .ok (.iaload, 1) := by decide +kernel
theorem d_98_36 : decode (kby 98) 36 = .ok (.invokevirtual 103, 3) := by decide +kernel
theorem d_98_39 : decode (kby 98) 39 = .ok (.istore_n 3, 1) := by decide +kernel
theorem d_98_40 : decode (kby 98) 40 = .ok (.aload_n 0, 1) := by decide +kernel
theorem d_98_41 : decode (kby 98) 41 = .ok (.iload_n 3, 1) := by decide +kernel
theorem d_98_42 : decode (kby 98) 42 = .ok (.invokevirtual 157, 3) := by decide +kernel
theorem d_98_45 : decode (kby 98) 45 = .ok (.ireturn, 1) := by decide +kernel
set_option maxRecDepth 100000 in
theorem ka_98 : kall 98 0 kc_98 := And.intro (s_aload_n d_98_0 rfl) (And.intro (s_iload_n d_98_1 rfl) (And.intro (s_cv d_98_2 kl_8_160 k_im_99 k_se_99 kok_99 rfl (by decide +kernel) rfl rfl) (And.intro (s_if_eq d_98_5 (by decide +kernel)) (And.intro (s_aload_n d_98_8 rfl) (And.intro (s_iload_n d_98_9 rfl) (And.intro (s_cv d_98_10 kl_8_160 k_im_99 k_se_99 kok_99 rfl (by decide +kernel) rfl rfl) (And.intro (s_if_ne d_98_13 (by decide +kernel)) (And.intro (s_iconst d_98_16 (by decide +kernel)) (And.intro (s_ret d_98_17 rfl) (And.intro (s_aload_n d_98_18 rfl) (And.intro (s_cw d_98_19 kl_8_154 k_im_93 k_se_93 kok_93 rfl (by decide +kernel) rfl rfl) (And.intro (s_aload_n d_98_22 rfl) (And.intro (s_iconst d_98_23 (by decide +kernel)) (And.intro (s_aload_n d_98_24 rfl) (And.intro (s_get d_98_25 (C := kR8) (T := kT8) (N := 38) rfl kjn8 (by decide +kernel) rfl kf_8_29) (And.intro (s_iload_n d_98_28 rfl) (And.intro (s_iaload d_98_29) (And.intro (s_aload_n d_98_30 rfl) (And.intro (s_get d_98_31 (C := kR8) (T := kT8) (N := 38) rfl kjn8 (by decide +kernel) rfl kf_8_29) (And.intro (s_iload_n d_98_34 rfl) (And.intro (s_iaload d_98_35) (And.intro (s_cv d_98_36 kl_8_103 k_im_94 k_se_94 kok_94 rfl (by decide +kernel) rfl rfl) (And.intro (s_istore_n d_98_39 rfl (by decide +kernel)) (And.intro (s_aload_n d_98_40 rfl) (And.intro (s_iload_n d_98_41 rfl) (And.intro (s_cv d_98_42 kl_8_157 k_im_95 k_se_95 kok_95 rfl (by decide +kernel) rfl rfl) (And.intro (s_ret d_98_45 rfl) (True.intro))))))))))))))))))))))))))))
theorem d_99_0 : decode (kby 99) 0 = .ok (.iload_n 1, 1) := by decide +kernel
theorem d_99_1 : decode (kby 99) 1 = .ok (.ifCond .lt 15, 3) := by decide +kernel
theorem d_99_4 : decode (kby 99) 4 = .ok (.iload_n 1, 1) := by decide +kernel
theorem d_99_5 : decode (kby 99) 5 = .ok (.aload_n 0, 1) := by decide +kernel
theorem d_99_6 : decode (kby 99) 6 = .ok (.getfield 90, 3) := by decide +kernel
theorem d_99_9 : decode (kby 99) 9 = .ok (.if_icmp .ge 7, 3) := by decide +kernel
theorem d_99_12 : decode (kby 99) 12 = .ok (.iconst 1, 1) := by decide +kernel
theorem d_99_13 : decode (kby 99) 13 = .ok (.goto 4, 3) := by decide +kernel
theorem d_99_16 : decode (kby 99) 16 = .ok (.iconst 0, 1) := by decide +kernel
theorem d_99_17 : decode (kby 99) 17 = .ok (.ireturn, 1) := by decide +kernel
set_option maxRecDepth 100000 in
theorem ka_99 : kall 99 0 kc_99 := And.intro (s_iload_n d_99_0 rfl) (And.intro (s_if_lt d_99_1 (by decide +kernel)) (And.intro (s_iload_n d_99_4 rfl) (And.intro (s_aload_n d_99_5 rfl) (And.intro (s_get d_99_6 (C := kR8) (T := kT8) (N := 38) rfl kjn8 (by decide +kernel) rfl kf_8_90) (And.intro (s_icmp_ge d_99_9 (by decide +kernel)) (And.intro (s_iconst d_99_12 (by decide +kernel)) (And.intro (s_goto d_99_13 (by decide +kernel)) (And.intro (s_iconst d_99_16 (by decide +kernel)) (And.intro (s_retz d_99_17 rfl) (True.intro))))))))))
theorem d_100_0 : decode (kby 100) 0 = .ok (.iload_n 1, 1) := by decide +kernel
theorem d_100_1 : decode (kby 100) 1 = .ok (.ifCond .lt 17, 3) := by decide +kernel
theorem d_100_4 : decode (kby 100) 4 = .ok (.iload_n 1, 1) := by decide +kernel
theorem d_100_5 : decode (kby 100) 5 = .ok (.bipush 7, 2) := by decide +kernel
theorem d_100_7 : decode (kby 100) 7 = .ok (.if_icmp .gt 11, 3) := by decide +kernel
theorem d_100_10 : decode (kby 100) 10 = .ok (.aload_n 0, 1) := by decide +kernel
theorem d_100_11 : decode (kby 100) 11 = .ok (.iload_n 2, 1) := by decide +kernel
theorem d_100_12 : decode (kby 100) 12 = .ok (.invokevirtual 160, 3) := by decide +kernel
theorem d_100_15 : decode (kby 100) 15 = .ok (.ifCond .ne 5, 3) := by decide +kernel
theorem d_100_18 : decode (kby 100) 18 = .ok (.iconst (-1), 1) := by decide +kernel
theorem d_100_19 : decode (kby 100) 19 = .ok (.ireturn, 1) := by decide +kernel
theorem d_100_20 : decode (kby 100) 20 = .ok (.aload_n 0, 1) := by decide +kernel
theorem d_100_21 : decode (kby 100) 21 = .ok (.invokevirtual 154, 3) := by decide +kernel
theorem d_100_24 : decode (kby 100) 24 = .ok (.aload_n 0, 1) := by decide +kernel
theorem d_100_25 : decode (kby 100) 25 = .ok (.iconst 0, 1) := by decide +kernel
theorem d_100_26 : decode (kby 100) 26 = .ok (.iload_n 1, 1) := by decide +kernel
theorem d_100_27 : decode (kby 100) 27 = .ok (.iconst 0, 1) := by decide +kernel
theorem d_100_28 : decode (kby 100) 28 = .ok (.aload_n 0, 1) := by decide +kernel
theorem d_100_29 : decode (kby 100) 29 = .ok (.getfield 29, 3) := by decide +kernel
theorem d_100_32 : decode (kby 100) 32 = .ok (.iload_n 2, 1) := by decide +kernel
theorem d_100_33 : decode (kby 100) 33 = .ok (.iaload, 1) := by decide +kernel
theorem d_100_34 : decode (kby 100) 34 = .ok (.invokevirtual 106, 3) := by decide +kernel
theorem d_100_37 : decode (kby 100) 37 = .ok (.istore_n 3, 1) := by decide +kernel
theorem d_100_38 : decode (kby 100) 38 = .ok (.aload_n 0, 1) := by decide +kernel
theorem d_100_39 : decode (kby 100) 39 = .ok (.iload_n 3, 1) := by decide +kernel
theorem d_100_40 : decode (kby 100) 40 = .ok (.invokevirtual 164, 3) := by decide +kernel
theorem d_100_43 : decode (kby 100) 43 = .ok (.ireturn, 1) := by decide +kernel
set_option maxRecDepth 100000 in
theorem ka_100 : kall 100 0 kc_100 := And.intro (s_iload_n d_100_0 rfl) (And.intro (s_if_lt d_100_1 (by decide +kernel)) (And.intro (s_iload_n d_100_4 rfl) (And.intro (s_bipush d_100_5 (by decide +kernel)) (And.intro (s_icmp_gt d_100_7 (by decide +kernel)) (And.intro (s_aload_n d_100_10 rfl) (And.intro (s_iload_n d_100_11 rfl) (And.intro (s_cv d_100_12 kl_8_160 k_im_99 k_se_99 kok_99 rfl (by decide +kernel) rfl rfl) (And.intro (s_if_ne d_100_15 (by decide +kernel)) (And.intro (s_iconst d_100_18 (by decide +kernel)) (And.intro (s_ret d_100_19 rfl) (And.intro (s_aload_n d_100_20 rfl) (And.intro (s_cw d_100_21 kl_8_154 k_im_93 k_se_93 kok_93 rfl (by decide +kernel) rfl rfl) (And.intro (s_aload_n d_100_24 rfl) (And.intro (s_iconst d_100_25 (by decide +kernel)) (And.intro (s_iload_n d_100_26 rfl) (And.intro (s_iconst d_100_27 (by decide +kernel)) (And.intro (s_aload_n d_100_28 rfl) (And.intro (s_get d_100_29 (C := kR8) (T := kT8) (N := 38) rfl kjn8 (by decide +kernel) rfl kf_8_29) (And.intro (s_iload_n d_100_32 rfl) (And.intro (s_iaload d_100_33) (And.intro (s_cv d_100_34 kl_8_106 k_im_101 k_se_101 kok_101 rfl (by decide +kernel) rfl rfl) (And.intro (s_istore_n d_100_37 rfl (by decide +kernel)) (And.intro (s_aload_n d_100_38 rfl) (And.intro (s_iload_n d_100_39 rfl) (And.intro (s_cv d_100_40 kl_8_164 k_im_102 k_se_102 kok_102 rfl (by decide +kernel) rfl rfl) (And.intro (s_ret d_100_43 rfl) (True.intro)))))))))))))))))))))))))))
theorem d_101_0 : decode (kby 101) 0 = .ok (.iconst 0, 1) := by decide +kernel
theorem d_101_1 : decode (kby 101) 1 = .ok (.istore 5, 2) := by decide +kernel
theorem d_101_3 : decode (kby 101) 3 = .ok (.iload 5, 2) := by decide +kernel
theorem d_101_5 : decode (kby 101) 5 = .ok (.aload_n 0, 1) := by decide +kernel
theorem d_101_6 : decode (kby 101) 6 = .ok (.getfield 97, 3) := by decide +kernel
theorem d_101_9 : decode (kby 101) 9 = .ok (.if_icmp .ge 57, 3) := by decide +kernel
theorem d_101_12 : decode (kby 101) 12 = .ok (.aload_n 0, 1) := by decide +kernel
theorem d_101_13 : decode (kby 101) 13 = .ok (.getfield 32, 3) := by decide +kernel
theorem d_101_16 : decode (kby 101) 16 = .ok (.iload 5, 2) := by decide +kernel
theorem d_101_18 : decode (kby 101) 18 = .ok (.iaload, 1) := by decide +kernel
theorem d_101_19 : decode (kby 101) 19 = .ok (.iload_n 1, 1) := by decide +kernel
theorem d_101_20 : decode (kby 101) 20 = .ok (.if_icmp .ne 40, 3) := by decide +kernel
theorem d_101_23 : decode (kby 101) 23 = .ok (.aload_n 0, 1) := by decide +kernel
theorem d_101_24 : decode (kby 101) 24 = .ok (.getfield 35, 3) := by decide +kernel
theorem d_101_27 : decode (kby 101) 27 = .ok (.iload 5, 2) := by decide +kernel
theorem d_101_29 : decode (kby 101) 29 = .ok (.iaload, 1) := by decide +kernel
theorem d_101_30 : decode (kby 101) 30 = .ok (.iload_n 2, 1) := by decide +kernel
theorem d_101_31 : decode (kby 101) 31 = .ok (.if_icmp .ne 29, 3) := by decide +kernel
theorem d_101_34 : decode (kby 101) 34 = .ok (.aload_n 0, 1) := by decide +kernel
theorem d_101_35 : decode (kby 101) 35 = .ok (.getfield 38, 3) := by decide +kernel
theorem d_101_38 : decode (kby 101) 38 = .ok (.iload 5, 2) := by decide +kernel
theorem d_101_40 : decode (kby 101) 40 = .ok (.iaload, 1) := by decide +kernel
theorem d_101_41 : decode (kby 101) 41 = .ok (.iload_n 3, 1) := by decide +kernel
theorem d_101_42 : decode (kby 101) 42 = .ok (.if_icmp .ne 18, 3) := by decide +kernel
theorem d_101_45 : decode (kby 101) 45 = .ok (.aload_n 0, 1) := by decide +kernel
theorem d_101_46 : decode (kby 101) 46 = .ok (.getfield 41, 3) := by decide +kernel
theorem d_101_49 : decode (kby 101) 49 = .ok (.iload 5, 2) := by decide +kernel
theorem d_101_51 : decode (kby 101) 51 = .ok (.iaload, 1) := by decide +kernel
theorem d_101_52 : decode (kby 101) 52 = .ok (.iload 4, 2) := by decide +kernel
theorem d_101_54 : decode (kby 101) 54 = .ok (.if_icmp .ne 6, 3) := by decide +kernel
theorem d_101_57 : decode (kby 101) 57 = .ok (.iload 5, 2) := by decide +kernel
theorem d_101_59 : decode (kby 101) 59 = .ok (.ireturn, 1) := by decide +kernel
theorem d_101_60 : decode (kby 101) 60 = .ok (.iinc 5 1, 3) := by decide +kernel
theorem d_101_63 : decode (kby 101) 63 = .ok (.goto (-60), 3) := by decide +kernel
theorem d_101_66 : decode (kby 101) 66 = .ok (.iconst 1, 1) := by decide +kernel
theorem d_101_67 : decode (kby 101) 67 = .ok (.istore 5, 2) := by decide +kernel
theorem d_101_69 : decode (kby 101) 69 = .ok (.iload_n 1, 1) := by decide +kernel
theorem d_101_70 : decode (kby 101) 70 = .ok (.iconst 3, 1) := by decide +kernel
theorem d_101_71 : decode (kby 101) 71 = .ok (.if_icmp .ne 37, 3) := by decide +kernel
theorem d_101_74 : decode (kby 101) 74 = .ok (.iconst 1, 1) := by decide +kernel
theorem d_101_75 : decode (kby 101) 75 = .ok (.aload_n 0, 1) := by decide +kernel
theorem d_101_76 : decode (kby 101) 76 = .ok (.getfield 44, 3) := by decide +kernel
theorem d_101_79 : decode (kby 101) 79 = .ok (.iload_n 2, 1) := by decide +kernel
theorem d_101_80 : decode (kby 101) 80 = .ok (.iaload, 1) := by decide +kernel
theorem d_101_81 : decode (kby 101) 81 = .ok (.aload_n 0, 1) := by decide +kernel
theorem d_101_82 : decode (kby 101) 82 = .ok (.getfield 44, 3) := by decide +kernel
theorem d_101_85 : decode (kby 101) 85 = .ok (.iload_n 3, 1) := by decide +kernel
theorem d_101_86 : decode (kby 101) 86 = .ok (.iaload, 1) := by decide +kernel
theorem d_101_87 : decode (kby 101) 87 = .ok (.if_icmp .le 12, 3) := by decide +kernel
theorem d_101_90 : decode (kby 101) 90 = .ok (.aload_n 0, 1) := by decide +kernel
theorem d_101_91 : decode (kby 101) 91 = .ok (.getfield 44, 3) := by decide +kernel
theorem d_101_94 : decode (kby 101) 94 = .ok (.iload_n 2, 1) := by decide +kernel
theorem d_101_95 : decode (kby 101) 95 = .ok (.iaload, 1) := by decide +kernel
theorem d_101_96 : decode (kby 101) 96 = .ok (.goto 9, 3) := by decide +kernel
theorem d_101_99 : decode (kby 101) 99 = .ok (.aload_n 0, 1) := by decide +kernel
theorem d_101_100 : decode (kby 101) 100 = .ok (.getfield 44, 3) := by decide +kernel
theorem d_101_103 : decode (kby 101) 103 = .ok (.iload_n 3, 1) := by decide +kernel
theorem d_101_104 : decode (kby 101) 104 = .ok (.iaload, 1) := by decide +kernel
theorem d_101_105 : decode (kby 101) 105 = .ok (.iadd, 1) := by decide +kernel
theorem d_101_106 : decode (kby 101) 106 = .ok (.istore 5, 2) := by decide +kernel
theorem d_101_108 : decode (kby 101) 108 = .ok (.iload_n 1, 1) := by decide +kernel
theorem d_101_109 : decode (kby 101) 109 = .ok (.iconst 4, 1) := by decide +kernel
theorem d_101_110 : decode (kby 101) 110 = .ok (.if_icmp .ne 13, 3) := by decide +kernel
theorem d_101_113 : decode (kby 101) 113 = .ok (.iconst 1, 1) := by decide +kernel
theorem d_101_114 : decode (kby 101) 114 = .ok (.aload_n 0, 1) := by decide +kernel
theorem d_101_115 : decode (kby 101) 115 = .ok (.getfield 44, 3) := by decide +kernel
theorem d_101_118 : decode (kby 101) 118 = .ok (.iload_n 3, 1) := by decide +kernel
theorem d_101_119 : decode (kby 101) 119 = .ok (.iaload, 1) := by decide +kernel
theorem d_101_120 : decode (kby 101) 120 = .ok (.iadd, 1) := by decide +kernel
theorem d_101_121 : decode (kby 101) 121 = .ok (.istore 5, 2) := by decide +kernel
theorem d_101_123 : decode (kby 101) 123 = .ok (.aload_n 0, 1) := by decide +kernel
theorem d_101_124 : decode (kby 101) 124 = .ok (.getfield 93, 3) := by decide +kernel
theorem d_101_127 : decode (kby 101) 127 = .ok (.ifCond .ne 20, 3) := by decide +kernel
theorem d_101_130 : decode (kby 101) 130 = .ok (.iload 5, 2) := by decide +kernel
theorem d_101_132 : decode (kby 101) 132 = .ok (.bipush 20, 2) := by decide +kernel
theorem d_101_134 : decode (kby 101) 134 = .ok (.if_icmp .gt 13, 3) := by decide +kernel
theorem d_101_137 : decode (kby 101) 137 = .ok (.aload_n 0, 1) := by decide +kernel
theorem d_101_138 : decode (kby 101) 138 = .ok (.getfield 97, 3) := by decide +kernel
theorem d_101_141 : decode (kby 101) 141 = .ok (.sipush 250, 3) := by decide +kernel
theorem d_101_144 : decode (kby 101) 144 = .ok (.if_icmp .ne 10, 3) := by decide +kernel
theorem d_101_147 : decode (kby 101) 147 = .ok (.aload_n 0, 1) := by decide +kernel
theorem d_101_148 : decode (kby 101) 148 = .ok (.iconst 1, 1) := by decide +kernel
theorem d_101_149 : decode (kby 101) 149 = .ok (.putfield 93, 3) := by decide +kernel
theorem d_101_152 : decode (kby 101) 152 = .ok (.iconst 0, 1) := by decide +kernel
theorem d_101_153 : decode (kby 101) 153 = .ok (.ireturn, 1) := by decide +kernel
theorem d_101_154 : decode (kby 101) 154 = .ok (.aload_n 0, 1) := by decide +kernel
theorem d_101_155 : decode (kby 101) 155 = .ok (.getfield 32, 3) := by decide +kernel
theorem d_101_158 : decode (kby 101) 158 = .ok (.aload_n 0, 1) := by decide +kernel
theorem d_101_159 : decode (kby 101) 159 = .ok (.getfield 97, 3) := by decide +kernel
theorem d_101_162 : decode (kby 101) 162 = .ok (.iload_n 1, 1) := by decide +kernel
theorem d_101_163 : decode (kby 101) 163 = .ok (.iastore, 1) := by decide +kernel
theorem d_101_164 : decode (kby 101) 164 = .ok (.aload_n 0, 1) := by decide +kernel
theorem d_101_165 : decode (kby 101) 165 = .ok (.getfield 35, 3) := by decide +kernel
theorem d_101_168 : decode (kby 101) 168 = .ok (.aload_n 0, 1) := by decide +kernel
theorem d_101_169 : decode (kby 101) 169 = .ok (.getfield 97, 3) := by decide +kernel
theorem d_101_172 : decode (kby 101) 172 = .ok (.iload_n 2, 1) := by decide +kernel
theorem d_101_173 : decode (kby 101) 173 = .ok (.iastore, 1) := by decide +kernel
theorem d_101_174 : decode (kby 101) 174 = .ok (.aload_n 0, 1) := by decide +kernel
theorem d_101_175 : decode (kby 101) 175 = .ok (.getfield 38, 3) := by decide +kernel
theorem d_101_178 : decode (kby 101) 178 = .ok (.aload_n 0, 1) := by decide +kernel
theorem d_101_179 : decode (kby 101) 179 = .ok (.getfield 97, 3) := by decide +kernel
theorem d_101_182 : decode (kby 101) 182 = .ok (.iload_n 3, 1) := by decide +kernel
theorem d_101_183 : decode (kby 101) 183 = .ok (.iastore, 1) := by decide +kernel
theorem d_101_184 : decode (kby 101) 184 = .ok (.aload_n 0, 1) := by decide +kernel
theorem d_101_185 : decode (kby 101) 185 = .ok (.getfield 41, 3) := by decide +kernel
theorem d_101_188 : decode (kby 101) 188 = .ok (.aload_n 0, 1) := by decide +kernel
theorem d_101_189 : decode (kby 101) 189 = .ok (.getfield 97, 3) := by decide +kernel
theorem d_101_192 : decode (kby 101) 192 = .ok (.iload 4, 2) := by decide +kernel
theorem d_101_194 : decode (kby 101) 194 = .ok (.iastore, 1) := by decide +kernel
theorem d_101_195 : decode (kby 101) 195 = .ok (.aload_n 0, 1) := by decide +kernel
theorem d_101_196 : decode (kby 101) 196 = .ok (.getfield 44, 3) := by decide +kernel
theorem d_101_199 : decode (kby 101) 199 = .ok (.aload_n 0, 1) := by decide +kernel
theorem d_101_200 : decode (kby 101) 200 = .ok (.getfield 97, 3) := by decide +kernel
theorem d_101_203 : decode (kby 101) 203 = .ok (.iload 5, 2) := by decide +kernel
theorem d_101_205 : decode (kby 101) 205 = .ok (.iastore, 1) := by decide +kernel
theorem d_101_206 : decode (kby 101) 206 = .ok (.aload_n 0, 1) := by decide +kernel
theorem d_101_207 : decode (kby 101) 207 = .ok (.getfield 47, 3) := by decide +kernel
theorem d_101_210 : decode (kby 101) 210 = .ok (.aload_n 0, 1) := by decide +kernel
theorem d_101_211 : decode (kby 101) 211 = .ok (.getfield 97, 3) := by decide +kernel
theorem d_101_214 : decode (kby 101) 214 = .ok (.iconst (-1), 1) := by decide +kernel
theorem d_101_215 : decode (kby 101) 215 = .ok (.iastore, 1) := by decide +kernel
theorem d_101_216 : decode (kby 101) 216 = .ok (.aload_n 0, 1) := by decide +kernel
theorem d_101_217 : decode (kby 101) 217 = .ok (.dup, 1) := by decide +kernel
theorem d_101_218 : decode (kby 101) 218 = .ok (.getfield 97, 3) := by decide +kernel
theorem d_101_221 : decode (kby 101) 221 = .ok (.iconst 1, 1) := by decide +kernel
theorem d_101_222 : decode (kby 101) 222 = .ok (.iadd, 1) := by decide +kernel
theorem d_101_223 : decode (kby 101) 223 = .ok (.putfield 97, 3) := by decide +kernel
theorem d_101_226 : decode (kby 101) 226 = .ok (.aload_n 0, 1) := by decide +kernel
theorem d_101_227 : decode (kby 101) 227 = .ok (.getfield 97, 3) := by decide +kernel
theorem d_101_230 : decode (kby 101) 230 = .ok (.iconst 1, 1) := by decide +kernel
theorem d_101_231 : decode (kby 101) 231 = .ok (.isub, 1) := by decide +kernel
theorem d_101_232 : decode (kby 101) 232 = .ok (.ireturn, 1) := by decide +kernel
set_option maxRecDepth 100000 in
theorem ka_101 : kall 101 0 kc_101 := And.intro (s_iconst d_101_0 (by decide +kernel)) (And.intro (s_istore d_101_1 (by decide +kernel)) (And.intro (s_iload d_101_3) (And.intro (s_aload_n d_101_5 rfl) (And.intro (s_get d_101_6 (C := kR8) (T := kT8) (N := 38) rfl kjn8 (by decide +kernel) rfl kf_8_97) (And.intro (s_icmp_ge d_101_9 (by decide +kernel)) (And.intro (s_aload_n d_101_12 rfl) (And.intro (s_get d_101_13 (C := kR8) (T := kT8) (N := 38) rfl kjn8 (by decide +kernel) rfl kf_8_32) (And.intro (s_iload d_101_16) (And.intro (s_iaload d_101_18) (And.intro (s_iload_n d_101_19 rfl) (And.intro (s_icmp_ne d_101_20 (by decide +kernel)) (And.intro (s_aload_n d_101_23 rfl) (And.intro (s_get d_101_24 (C := kR8) (T := kT8) (N := 38) rfl kjn8 (by decide +kernel) rfl kf_8_35) (And.intro (s_iload d_101_27) (And.intro (s_iaload d_101_29) (And.intro (s_iload_n d_101_30 rfl) (And.intro (s_icmp_ne d_101_31 (by decide +kernel)) (And.intro (s_aload_n d_101_34 rfl) (And.intro (s_get d_101_35 (C := kR8) (T := kT8) (N := 38) rfl kjn8 (by decide +kernel) rfl kf_8_38) (And.intro (s_iload d_101_38) (And.intro (s_iaload d_101_40) (And.intro (s_iload_n d_101_41 rfl) (And.intro (s_icmp_ne d_101_42 (by decide +kernel)) (And.intro (s_aload_n d_101_45 rfl) (And.intro (s_get d_101_46 (C := kR8) (T := kT8) (N := 38) rfl kjn8 (by decide +kernel) rfl kf_8_41) (And.intro (s_iload d_101_49) (And.intro (s_iaload d_101_51) (And.intro (s_iload d_101_52) (And.intro (s_icmp_ne d_101_54 (by decide +kernel)) (And.intro (s_iload d_101_57) (And.intro (s_ret d_101_59 rfl) (And.intro (s_iinc d_101_60 (by decide +kernel) (by decide +kernel)) (And.intro (s_goto d_101_63 (by decide +kernel)) (And.intro (s_iconst d_101_66 (by decide +kernel)) (And.intro (s_istore d_101_67 (by decide +kernel)) (And.intro (s_iload_n d_101_69 rfl) (And.intro (s_iconst d_101_70 (by decide +kernel)) (And.intro (s_icmp_ne d_101_71 (by decide +kernel)) (And.intro (s_iconst d_101_74 (by decide +kernel)) (And.intro (s_aload_n d_101_75 rfl) (And.intro (s_get d_101_76 (C := kR8) (T := kT8) (N := 38) rfl kjn8 (by decide +kernel) rfl kf_8_44) (And.intro (s_iload_n d_101_79 rfl) (And.intro (s_iaload d_101_80) (And.intro (s_aload_n d_101_81 rfl) (And.intro (s_get d_101_82 (C := kR8) (T := kT8) (N := 38) rfl kjn8 (by decide +kernel) rfl kf_8_44) (And.intro (s_iload_n d_101_85 rfl) (And.intro (s_iaload d_101_86) (And.intro (s_icmp_le d_101_87 (by decide +kernel)) (And.intro (s_aload_n d_101_90 rfl) (And.intro (s_get d_101_91 (C := kR8) (T := kT8) (N := 38) rfl kjn8 (by decide +kernel) rfl kf_8_44) (And.intro (s_iload_n d_101_94 rfl) (And.intro (s_iaload d_101_95) (And.intro (s_goto d_101_96 (by decide +kernel)) (And.intro (s_aload_n d_101_99 rfl) (And.intro (s_get d_101_100 (C := kR8) (T := kT8) (N := 38) rfl kjn8 (by decide +kernel) rfl kf_8_44) (And.intro (s_iload_n d_101_103 rfl) (And.intro (s_iaload d_101_104) (And.intro (s_iadd d_101_105) (And.intro (s_istore d_101_106 (by decide +kernel)) (And.intro (s_iload_n d_101_108 rfl) (And.intro (s_iconst d_101_109 (by decide +kernel)) (And.intro (s_icmp_ne d_101_110 (by decide +kernel)) (And.intro (s_iconst d_101_113 (by decide +kernel)) (And.intro (s_aload_n d_101_114 rfl) (And.intro (s_get d_101_115 (C := kR8) (T := kT8) (N := 38) rfl kjn8 (by decide +kernel) rfl kf_8_44) (And.intro (s_iload_n d_101_118 rfl) (And.intro (s_iaload d_101_119) (And.intro (s_iadd d_101_120) (And.intro (s_istore d_101_121 (by decide +kernel)) (And.intro (s_aload_n d_101_123 rfl) (And.intro (s_get d_101_124 (C := kR8) (T := kT8) (N := 38) rfl kjn8 (by decide +kernel) rfl kf_8_93) (And.intro (s_if_ne d_101_127 (by decide +kernel)) (And.intro (s_iload d_101_130) (And.intro (s_bipush d_101_132 (by decide +kernel)) (And.intro (s_icmp_gt d_101_134 (by decide +kernel)) (And.intro (s_aload_n d_101_137 rfl) (And.intro (s_get d_101_138 (C := kR8) (T := kT8) (N := 38) rfl kjn8 (by decide +kernel) rfl kf_8_97) (And.intro (s_sipush d_101_141 (by decide +kernel)) (And.intro (s_icmp_ne d_101_144 (by decide +kernel)) (And.intro (s_aload_n d_101_147 rfl) (And.intro (s_iconst d_101_148 (by decide +kernel)) (And.intro (s_putz d_101_149 (C := kR8) (T := kT8) (N := 38) rfl kjn8 (by decide +kernel) rfl kf_8_93 kt8 kty8 knm8 rfl (by decide +kernel)) (And.intro (s_iconst d_101_152 (by decide +kernel)) (And.intro (s_ret d_101_153 rfl) (And.intro (s_aload_n d_101_154 rfl) (And.intro (s_get d_101_155 (C := kR8) (T := kT8) (N := 38) rfl kjn8 (by decide +kernel) rfl kf_8_32) (And.intro (s_aload_n d_101_158 rfl) (And.intro (s_get d_101_159 (C := kR8) (T := kT8) (N := 38) rfl kjn8 (by decide +kernel) rfl kf_8_97) (And.intro (s_iload_n d_101_162 rfl) (And.intro (s_iastore d_101_163) (And.intro (s_aload_n d_101_164 rfl) (And.intro (s_get d_101_165 (C := kR8) (T := kT8) (N := 38) rfl kjn8 (by decide +kernel) rfl kf_8_35) (And.intro (s_aload_n d_101_168 rfl) (And.intro (s_get d_101_169 (C := kR8) (T := kT8) (N := 38) rfl kjn8 (by decide +kernel) rfl kf_8_97) (And.intro (s_iload_n d_101_172 rfl) (And.intro (s_iastore d_101_173) (And.intro (s_aload_n d_101_174 rfl) (And.intro (s_get d_101_175 (C := kR8) (T := kT8) (N := 38) rfl kjn8 (by decide +kernel) rfl kf_8_38) (And.intro (s_aload_n d_101_178 rfl) (And.intro (s_get d_101_179 (C := kR8) (T := kT8) (N := 38) rfl kjn8 (by decide +kernel) rfl kf_8_97) (And.intro (s_iload_n d_101_182 rfl) (And.intro (s_iastore d_101_183) (And.intro (s_aload_n d_101_184 rfl) (And.intro (s_get d_101_185 (C := kR8) (T := kT8) (N := 38) rfl kjn8 (by decide +kernel) rfl kf_8_41) (And.intro (s_aload_n d_101_188 rfl) (And.intro (s_get d_101_189 (C := kR8) (T := kT8) (N := 38) rfl kjn8 (by decide +kernel) rfl kf_8_97) (And.intro (s_iload d_101_192) (And.intro (s_iastore d_101_194) (And.intro (s_aload_n d_101_195 rfl) (And.intro (s_get d_101_196 (C := kR8) (T := kT8) (N := 38) rfl kjn8 (by decide +kernel) rfl kf_8_44) (And.intro (s_aload_n d_101_199 rfl) (And.intro (s_get d_101_200 (C := kR8) (T := kT8) (N := 38) rfl kjn8 (by decide +kernel) rfl kf_8_97) (And.intro (s_iload d_101_203) (And.intro (s_iastore d_101_205) (And.intro (s_aload_n d_101_206 rfl) (And.intro (s_get d_101_207 (C := kR8) (T := kT8) (N := 38) rfl kjn8 (by decide +kernel) rfl kf_8_47) (And.intro (s_aload_n d_101_210 rfl) (And.intro (s_get d_101_211 (C := kR8) (T := kT8) (N := 38) rfl kjn8 (by decide +kernel) rfl kf_8_97) (And.intro (s_iconst d_101_214 (by decide +kernel)) (And.intro (s_iastore d_101_215) (And.intro (s_aload_n d_101_216 rfl) (And.intro (s_dup d_101_217) (And.intro (s_get d_101_218 (C := kR8) (T := kT8) (N := 38) rfl kjn8 (by decide +kernel) rfl kf_8_97) (And.intro (s_iconst d_101_221 (by decide +kernel)) (And.intro (s_iadd d_101_222) (And.intro (s_put d_101_223 (C := kR8) (T := kT8) (N := 38) rfl kjn8 (by decide +kernel) rfl kf_8_97 kt8 kty8 knm8 rfl (by decide +kernel)) (And.intro (s_aload_n d_101_226 rfl) (And.intro (s_get d_101_227 (C := kR8) (T := kT8) (N := 38) rfl kjn8 (by decide +kernel) rfl kf_8_97) (And.intro (s_iconst d_101_230 (by decide +kernel)) (And.intro (s_isub d_101_231) (And.intro (s_ret d_101_232 rfl) (True.intro))))))))))))))))))))))))))))))))))))))))))))))))))))))))))))))))))))))))))))))))))))))))))))))))))))))))))))))))))))))))))))))))))))
