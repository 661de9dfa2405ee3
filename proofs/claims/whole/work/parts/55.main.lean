/-! ===== ALL METHODS SOUND ===== -/
def kalls : Nat → List (List (Option kI)) → Prop
  | _, [] => True
  | μ, l :: r => kall μ 0 l ∧ kalls (μ + 1) r
theorem kalls_at : ∀ (r : List (List (Option kI))) (μ j : Nat), kalls μ r → kall (μ + j) 0 (kix [] r j)
  | [], _, _, _ => True.intro
  | l :: r, μ, 0, h => h.1
  | l :: r, μ, j + 1, h => by
    have := kalls_at r (μ + 1) j h.2
    rw [show μ + (j + 1) = μ + 1 + j by omega]
    exact this
set_option maxRecDepth 20000 in
theorem kall_all : kalls 0 kct := ⟨ka_0, ⟨ka_1, ⟨ka_2, ⟨ka_3, ⟨ka_4, ⟨ka_5, ⟨ka_6, ⟨ka_7, ⟨ka_8, ⟨ka_9, ⟨ka_10, ⟨ka_11, ⟨ka_12, ⟨ka_13, ⟨ka_14, ⟨ka_15, ⟨ka_16, ⟨ka_17, ⟨ka_18, ⟨ka_19, ⟨ka_20, ⟨ka_21, ⟨ka_22, ⟨ka_23, ⟨ka_24, ⟨ka_25, ⟨ka_26, ⟨ka_27, ⟨ka_28, ⟨ka_29, ⟨ka_30, ⟨ka_31, ⟨ka_32, ⟨ka_33, ⟨ka_34, ⟨ka_35, ⟨ka_36, ⟨ka_37, ⟨ka_38, ⟨ka_39, ⟨ka_40, ⟨ka_41, ⟨ka_42, ⟨ka_43, ⟨ka_44, ⟨ka_45, ⟨ka_46, ⟨ka_47, ⟨ka_48, ⟨ka_49, ⟨ka_50, ⟨ka_51, ⟨ka_52, ⟨ka_53, ⟨ka_54, ⟨ka_55, ⟨ka_56, ⟨ka_57, ⟨ka_58, ⟨ka_59, ⟨ka_60, ⟨ka_61, ⟨ka_62, ⟨ka_63, ⟨ka_64, ⟨ka_65, ⟨ka_66, ⟨ka_67, ⟨ka_68, ⟨ka_69, ⟨ka_70, ⟨ka_71, ⟨ka_72, ⟨ka_73, ⟨ka_74, ⟨ka_75, ⟨ka_76, ⟨ka_77, ⟨ka_78, ⟨ka_79, ⟨ka_80, ⟨ka_81, ⟨ka_82, ⟨ka_83, ⟨ka_84, ⟨ka_85, ⟨ka_86, ⟨ka_87, ⟨ka_88, ⟨ka_89, ⟨ka_90, ⟨ka_91, ⟨ka_92, ⟨ka_93, ⟨ka_94, ⟨ka_95, ⟨ka_96, ⟨ka_97, ⟨ka_98, ⟨ka_99, ⟨ka_100, ⟨ka_101, ⟨ka_102, ⟨ka_103, ⟨ka_104, ⟨ka_105, ⟨ka_106, ⟨ka_107, ⟨ka_108, ⟨ka_109, ⟨ka_110, ⟨ka_111, ⟨ka_112, ⟨ka_113, ⟨ka_114, ⟨ka_115, ⟨ka_116, ⟨ka_117, ⟨ka_118, ⟨ka_119, ⟨ka_120, ⟨ka_121, ⟨ka_122, ⟨ka_123, ⟨ka_124, ⟨ka_125, ⟨ka_126, ⟨ka_127, ⟨ka_128, ⟨ka_129, ⟨ka_130, ⟨ka_131, ⟨ka_132, ⟨ka_133, ⟨ka_134, ⟨ka_135, ⟨ka_136, ⟨ka_137, ⟨ka_138, ⟨ka_139, ⟨ka_140, ⟨ka_141, ⟨ka_142, ⟨ka_143, ⟨ka_144, ⟨ka_145, ⟨ka_146, True.intro⟩⟩⟩⟩⟩⟩⟩⟩⟩⟩⟩⟩⟩⟩⟩⟩⟩⟩⟩⟩⟩⟩⟩⟩⟩⟩⟩⟩⟩⟩⟩⟩⟩⟩⟩⟩⟩⟩⟩⟩⟩⟩⟩⟩⟩⟩⟩⟩⟩⟩⟩⟩⟩⟩⟩⟩⟩⟩⟩⟩⟩⟩⟩⟩⟩⟩⟩⟩⟩⟩⟩⟩⟩⟩⟩⟩⟩⟩⟩⟩⟩⟩⟩⟩⟩⟩⟩⟩⟩⟩⟩⟩⟩⟩⟩⟩⟩⟩⟩⟩⟩⟩⟩⟩⟩⟩⟩⟩⟩⟩⟩⟩⟩⟩⟩⟩⟩⟩⟩⟩⟩⟩⟩⟩⟩⟩⟩⟩⟩⟩⟩⟩⟩⟩⟩⟩⟩⟩⟩⟩⟩⟩⟩⟩⟩⟩⟩
theorem kT_all (μ pc : Nat) (i : kI) (h : kC μ pc = some i) : kSnd μ pc i := by
  have h1 := kalls_at kct 0 μ kall_all
  rw [Nat.zero_add] at h1
  have h2 := kall_at (i := i) _ 0 pc h1 h
  rw [Nat.zero_add] at h2
  exact h2
theorem kok_len : ∀ μ, μ < 147 → plainName (ky μ).cls = true ∧ kar μ ≤ kmx μ := by decide +kernel
theorem kct_none : ∀ (r : List (List (Option kI))) (μ pc : Nat) (i : kI), kix none (kix [] r μ) pc = some i → μ < r.length
  | [], _, _, _, h => by cases h
  | _ :: r, 0, _, _, _ => by rw [List.length_cons]; omega
  | _ :: r, μ + 1, pc, i, h => by
    have := kct_none r μ pc i h
    rw [List.length_cons]
    omega
theorem kok_all (μ pc : Nat) (i : kI) (h : kC μ pc = some i) : plainName (ky μ).cls = true ∧ kar μ ≤ kmx μ := kok_len μ (kct_none kct μ pc i h)
/-- what the pure machine says, the machine meets -/
theorem k_met {l : Launch} {D : va_G} {cI cZ : ClassId} {ad : Nat → Nat} (hinj : kInj ad) {d μ : Nat} {as : List kV} {S : kS} {Q : kP} (h : kK d μ as S Q) : kMet l D cI cZ ad d μ as S Q := kmain kT_all kok_all hinj d μ as S Q h
