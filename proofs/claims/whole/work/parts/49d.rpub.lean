/-! ===== THE REFERENCE: its calls (types, terms, a rule, lines) ===== -/
theorem rr_J_0 {S : kS} {M : kO} {LT LM : List kF} {g : kU} (h : rr_Q S M LT LM) (h33 : S 39 33 = 0) : rr_J S LT LM (sm_nT M) (sm_nM M) g S LT LM false := ⟨h.1, h33, List.prefix_refl _, List.prefix_refl _, rr_FC_rf, fun _ => fo_mn_rf, fun e => by cases e⟩
section JPUB
variable {d : Nat} {S : kS} {M : kO} {F : Int32 → kS → Prop}
theorem j_typeVariable {a : Int32} (h : rr_R S M) (k : ∀ S', rr_R S' (sp_typeVariable M a).2 → rr_Fx S S' → F (sp_typeVariable M a).1 S') : kK (d + 3) m_Mo_typeVariable [.inr 39, .inl a] S (kq F) := by
  obtain ⟨LT, LM, hQ⟩ := h
  unfold sp_typeVariable at k
  refine g_Mo_typeVariable ⟨fun e => ?_, fun e => ?_⟩
  · rw [if_pos e] at k
    exact k S ⟨LT, LM, hQ⟩ rr_Fx_rf
  · obtain ⟨n, hn, rfl⟩ := (kn_of a).resolve_left e
    refine ⟨fun e2 => ?_, fun e2 => ?_⟩
    · have hn4 := (kn_le (m := 3) hn (by decide)).mp e2
      rw [if_neg e, if_pos (show kn n < 4 from (kn_lt (m := 4) hn (by decide)).mpr (by omega)), kn_tn hn] at k
      refine rm_begin hQ (fun S1 q1 z1 o1 f1 => ?_)
      refine rm_type (t := fo_tb (2 + n)) (s := 2) (a := n) (c := 0) (g := sp_gT (fo_tb (2 + n))) (rr_J_0 q1 z1) (by decide) (by omega) (by decide) (fun _ => ⟨Or.inl ⟨2 + n, by omega, rfl, ?_, ?_, rfl⟩, fo_tw_tb (by omega)⟩) (fun U V hc hg => hg) (fun r S2 LT2 b2 J2 p2 f2 q2 i2 v2 => rm_ansT q1 o1 J2 v2 (fun S3 r3 f3 => k S3 r3 (rr_Fx_tr (fun o i ho => f1 o i (by omega)) f3)))
      · unfold rr_b
        rw [if_neg (by omega), if_pos (by omega)]
      · unfold rr_b
        rw [if_neg (by omega), if_pos (by omega)]
        show n = 2 + n - 2
        omega
    · have : ¬ kn n < 4 := fun z => e2 ((kn_le (m := 3) hn (by decide)).mpr (by have := (kn_lt (m := 4) hn (by decide)).mp z; omega))
      rw [if_neg e, if_neg this] at k
      exact k S ⟨LT, LM, hQ⟩ rr_Fx_rf
theorem j_arrow {a b : Int32} (h : rr_R S M) (k : ∀ S', rr_R S' (sp_arrow M a b).2 → rr_Fx S S' → F (sp_arrow M a b).1 S') : kK (d + 3) m_Mo_arrow [.inr 39, .inl a, .inl b] S (kq F) := by
  obtain ⟨LT, LM, hQ⟩ := h
  have hl := hQ.1.1.2.2.2.2.2.1
  unfold sp_arrow at k
  refine g_Mo_arrow (rm_isType hQ.1 hQ.2.2.1 (fun n x ea hn hat => ⟨fun e => absurd e (by decide), fun _ => rm_isType hQ.1 hQ.2.2.1 (fun m y eb hm hbt => ⟨fun _ => ?_, fun e => absurd (by decide) e⟩) (fun e => ⟨fun z => absurd rfl z, fun _ => ?_⟩)⟩) (fun e => ⟨fun _ => ?_, fun z => absurd rfl z⟩))
  · rw [hat, hbt] at k
    subst ea; subst eb
    refine rm_begin hQ (fun S1 q1 z1 o1 f1 => ?_)
    obtain ⟨ln, i, li, hi, ei⟩ := rr_nT q1.1 hn
    obtain ⟨lm, j, lj, hj, ej⟩ := rr_nT q1.1 hm
    rw [kn_tn (by omega), kn_tn (by omega), ei, ej]
    exact ⟨kn_in ln (by decide), kn_in lm (by decide), rm_arrow (g := sp_gT (fo_ar x y)) (rr_J_0 q1 z1) (rr_v_of hi hl) (rr_v_of hj hl) (fun U V hc hg => hg) (fun r S2 LT2 b2 J2 p2 f2 q2 i2 v2 => rm_ansT q1 o1 J2 v2 (fun S3 r3 f3 => k S3 r3 (rr_Fx_tr (fun o i ho => f1 o i (by omega)) f3)))⟩
  · rw [hat, e] at k
    exact k S ⟨LT, LM, hQ⟩ rr_Fx_rf
  · rw [e] at k
    exact k S ⟨LT, LM, hQ⟩ rr_Fx_rf
theorem j_variable {a b : Int32} (h : rr_R S M) (k : ∀ S', rr_R S' (sp_variable M a b).2 → rr_Fx S S' → F (sp_variable M a b).1 S') : kK (d + 3) m_Mo_variable [.inr 39, .inl a, .inl b] S (kq F) := by
  obtain ⟨LT, LM, hQ⟩ := h
  unfold sp_variable at k
  refine g_Mo_variable ⟨fun e => ?_, fun e => ?_⟩
  · rw [if_pos e] at k
    exact k S ⟨LT, LM, hQ⟩ rr_Fx_rf
  · obtain ⟨n, hn, rfl⟩ := (kn_of a).resolve_left e
    refine ⟨fun e2 => ?_, fun e2 => ?_⟩
    · have e2 := (kn_lt (n := 7) (by decide) hn).mp e2
      have : ¬ kn n < 8 := fun z => by have := (kn_lt (m := 8) hn (by decide)).mp z; omega
      rw [if_neg e, if_neg this] at k
      exact k S ⟨LT, LM, hQ⟩ rr_Fx_rf
    · have hn8 : n < 8 := by
        have : ¬ 7 < n := fun z => e2 ((kn_lt (n := 7) (by decide) hn).mpr z)
        omega
      rw [if_neg e, if_pos (show kn n < 8 from (kn_lt (m := 8) hn (by decide)).mpr hn8), kn_tn hn] at k
      refine rm_isType hQ.1 hQ.2.2.1 (fun m y eb hm hbt => ⟨fun _ => ?_, fun e => absurd (by decide) e⟩) (fun e => ⟨fun z => absurd rfl z, fun _ => ?_⟩)
      · rw [hbt] at k
        subst eb
        refine rm_begin hQ (fun S1 q1 z1 o1 f1 => ?_)
        obtain ⟨lm, j, lj, hj, ej⟩ := rr_nT q1.1 hm
        rw [kn_tn (by omega), ej]
        refine ⟨kn_in lm (by decide), rm_term (t := fo_lf 0 n y) (s := 0) (a := n) (c := 0) (g := sp_gM (fo_lf 0 n y)) (rr_J_0 q1 z1) (by decide) (by omega) (by decide) (fun _ => ⟨j, rfl, ⟨hj, Or.inl ⟨y, rfl, rfl, by omega, by omega⟩⟩, [], fo_wf_lf ⟨(hQ.1.1.2.2.2.1 y (rp_mem hj)).1, Or.inl ⟨rfl, hn8⟩⟩⟩) (fun U V hc hg => hg) (fun r S2 LM2 b2 J2 p2 f2 q2 i2 v2 => rm_ansM q1 o1 J2 v2 (fun S3 r3 f3 => k S3 r3 (rr_Fx_tr (fun o i ho => f1 o i (by omega)) f3)))⟩
      · rw [e] at k
        exact k S ⟨LT, LM, hQ⟩ rr_Fx_rf
theorem j_equality {a : Int32} (h : rr_R S M) (k : ∀ S', rr_R S' (sp_equality M a).2 → rr_Fx S S' → F (sp_equality M a).1 S') : kK (d + 3) m_Mo_equality [.inr 39, .inl a] S (kq F) := by
  obtain ⟨LT, LM, hQ⟩ := h
  have hl := hQ.1.1.2.2.2.2.2.1
  unfold sp_equality at k
  refine g_Mo_equality (rm_isType hQ.1 hQ.2.2.1 (fun m y eb hm hbt => ⟨fun _ => ?_, fun e => absurd (by decide) e⟩) (fun e => ⟨fun z => absurd rfl z, fun _ => ?_⟩))
  · rw [hbt] at k
    subst eb
    refine rm_begin hQ (fun S1 q1 z1 o1 f1 => ?_)
    obtain ⟨lm, j, lj, hj, ej⟩ := rr_nT q1.1 hm
    rw [kn_tn (by omega), ej]
    exact ⟨kn_in lm (by decide), rm_same (g := sp_gM (fo_lf 1 0 (fo_ar y (fo_ar y (fo_tb 0))))) (rr_J_0 q1 z1) (rr_v_of hj hl) (fun U V hc hg => hg) (fun r S2 LT2 LM2 b2 J2 p2 p2' f2 q2 i2 v2 => rm_ansM q1 o1 J2 v2 (fun S3 r3 f3 => k S3 r3 (rr_Fx_tr (fun o i ho => f1 o i (by omega)) f3)))⟩
  · rw [e] at k
    exact k S ⟨LT, LM, hQ⟩ rr_Fx_rf
theorem j_apply {a b : Int32} (h : rr_R S M) (hok : sp_ok (sm_nM M) (sm_F M)) (k : ∀ S', rr_R S' (sp_apply M a b).2 → rr_Fx S S' → F (sp_apply M a b).1 S') : kK (d + 3) m_Mo_apply [.inr 39, .inl a, .inl b] S (kq F) := by
  obtain ⟨LT, LM, hQ⟩ := h
  have hl := hQ.1.1.2.2.2.2.2.2.1
  unfold sp_apply at k
  refine g_Mo_apply (rm_isTerm hQ.1 hQ.2.2.2.1 (fun n x ea hn hat => ⟨fun e => absurd e (by decide), fun _ => rm_isTerm hQ.1 hQ.2.2.2.1 (fun m y eb hm hbt => ⟨fun e => absurd e (by decide), fun _ => ?_⟩) (fun e => ⟨fun _ => ?_, fun z => absurd rfl z⟩)⟩) (fun e => ⟨fun _ => ?_, fun z => absurd rfl z⟩))
  · rw [hat, hbt] at k
    simp only [sp_b1] at k
    subst ea; subst eb
    obtain ⟨ln, i, li, hi, ei⟩ := rr_nM hQ.1 hn
    obtain ⟨lm, j, lj, hj, ej⟩ := rr_nM hQ.1 hm
    rw [kn_tn (by omega), kn_tn (by omega), ei, ej]
    refine ⟨kn_in ln (by decide), kn_in lm (by decide), rm_fits hQ.1 hi hj (fun B hB => ⟨fun _ => ?_, fun e => absurd (by decide) e⟩) (fun hn => ⟨fun z => absurd rfl z, fun _ => ?_⟩)⟩
    · rw [sp_ite_pos ⟨B, hB⟩] at k
      refine rm_begin hQ (fun S1 q1 z1 o1 f1 => ?_)
      rw [f1 _ _ (by omega), f1 _ _ (by omega), ei, ej]
      exact ⟨kn_in ln (by decide), kn_in lm (by decide), rm_app (g := sp_gM (fo_ap x y)) (rr_J_0 q1 z1) (rr_v_of hi hl) (rr_v_of hj hl) (fun _ => ⟨[], fo_wf_ap (hok.1 x (rp_mem hn)) (hok.1 y (rp_mem hm)) hB⟩) (fun U V hc hg => hg) (fun r S2 LM2 b2 J2 p2 f2 q2 i2 v2 => rm_ansM q1 o1 J2 v2 (fun S3 r3 f3 => k S3 r3 (rr_Fx_tr (fun o i ho => f1 o i (by omega)) f3)))⟩
    · rw [sp_ite_neg (fun ⟨B, hB⟩ => hn B hB)] at k
      exact k S ⟨LT, LM, hQ⟩ rr_Fx_rf
  · rw [hat, e] at k
    exact k S ⟨LT, LM, hQ⟩ rr_Fx_rf
  · rw [e] at k
    exact k S ⟨LT, LM, hQ⟩ rr_Fx_rf
theorem j_lambda {a b : Int32} (h : rr_R S M) (hok : sp_ok (sm_nM M) (sm_F M)) (k : ∀ S', rr_R S' (sp_lambda M a b).2 → rr_Fx S S' → F (sp_lambda M a b).1 S') : kK (d + 6) m_Mo_lambda [.inr 39, .inl a, .inl b] S (kq F) := by
  obtain ⟨LT, LM, hQ⟩ := h
  have hl := hQ.1.1.2.2.2.2.2.2.1
  unfold sp_lambda at k
  refine g_Mo_lambda (rm_isTerm hQ.1 hQ.2.2.2.1 (fun n x ea hn hat => ⟨fun e => absurd e (by decide), fun _ => rm_isTerm hQ.1 hQ.2.2.2.1 (fun m y eb hm hbt => ⟨fun e => absurd e (by decide), fun _ => ?_⟩) (fun e => ⟨fun _ => ?_, fun z => absurd rfl z⟩)⟩) (fun e => ⟨fun _ => ?_, fun z => absurd rfl z⟩))
  · rw [hat, hbt] at k
    simp only [sp_b1] at k
    subst ea; subst eb
    obtain ⟨ln, i, li, hi, ei⟩ := rr_nM hQ.1 hn
    obtain ⟨lm, j, lj, hj, ej⟩ := rr_nM hQ.1 hm
    rw [kn_tn (by omega), kn_tn (by omega), ei, kn_tn (by omega), (rr_so hQ.1 hi).1]
    have h6 := (rr_so hQ.1 hi).2.1
    have wx := hok.1 x (rp_mem hn)
    refine ⟨kn_in ln (by decide), kn_in li (by decide), fun e => ?_, fun e => ?_⟩
    · have e0 := kn_inj (m := 0) (by omega) (by decide) e
      obtain ⟨nn, A, e1, _⟩ := fo_so_l wx (by omega) (by omega)
      rw [e0] at e1
      subst e1
      rw [sp_ite_pos ⟨nn, A, rfl⟩] at k
      refine rm_begin hQ (fun S1 q1 z1 o1 f1 => ?_)
      rw [f1 _ _ (by omega), f1 _ _ (by omega), ei, ej]
      exact ⟨kn_in ln (by decide), kn_in lm (by decide), rm_closedOver (g := sp_gM (sp_iA (fo_lf 0 nn A) y)) (rr_J_0 q1 z1) hi hj (hok.1 y (rp_mem hm)) (fun U V hc hg => hg) (fun r S2 LT2 LM2 b2 J2 p2 p2' f2 i2 v2 => rm_ansM q1 o1 J2 v2 (fun S3 r3 f3 => k S3 r3 (rr_Fx_tr (fun o i ho => f1 o i (by omega)) f3)))⟩
    · rw [sp_ite_neg (fun ⟨nn, A, z⟩ => e (by rw [z]; rfl))] at k
      exact k S ⟨LT, LM, hQ⟩ rr_Fx_rf
  · rw [hat, e] at k
    exact k S ⟨LT, LM, hQ⟩ rr_Fx_rf
  · rw [e] at k
    exact k S ⟨LT, LM, hQ⟩ rr_Fx_rf
theorem j_clear (h : rr_R S M) (k : ∀ S', rr_R S' (sp_clear M).2 → rr_Fx S S' → F (sp_clear M).1 S') : kK (d + 1) m_Mo_clear [.inr 39] S (kq F) := by
  obtain ⟨LT, LM, hS, hA, h8, h17, hT, hM, x1, x2, x3, x4, x5, x6, x7⟩ := h
  refine g_Mo_clear ?_
  rw [x5]
  have fr : ∀ o i, ¬ (o = 39 ∧ i = 26) → ku S 39 26 0 o i = S o i := fun o i ho => ku_ne ho
  refine k _ ⟨LT, LM, rr_S_fr hS (fun o i ho => fr o i (by omega)), rr_A_fr hA (fun o i ho => fr o i (by omega)), (fr _ _ (by omega)).trans h8, (fr _ _ (by omega)).trans h17, hT, hM, (fr _ _ (by omega)).trans x1, (fr _ _ (by omega)).trans x2, x3, x4, ku_self, Nat.zero_le _, fun i o a b c e => ?_⟩ (fun o i ho => fr o i (by omega))
  have e : ([] : kTL)[i]? = some (o, a, b, c) := e
  simp at e
theorem kn_3 {a : Nat} : 3 * kn a = kn (3 * a) := by rw [show (3 : Int32) = kn 3 from rfl, kn_mul]
theorem j_line {op a b c : Int32} (h : rr_R S M) (k : ∀ S', rr_R S' (sp_line M op a b c).2 → rr_Fx S S' → F (sp_line M op a b c).1 S') : kK (d + 1) m_Mo_line [.inr 39, .inl op, .inl a, .inl b, .inl c] S (kq F) := by
  have hR := h
  obtain ⟨LT, LM, hS, hA, h8, h17, hT, hM, x1, x2, x3, x4, x5, x6, x7⟩ := h
  unfold sp_line at k
  refine g_Mo_line ⟨fun e => ?_, fun e => ⟨fun e2 => ?_, fun e2 => ?_⟩⟩
  · rw [if_pos e] at k; exact k S hR rr_Fx_rf
  · rw [if_neg e, if_pos e2] at k; exact k S hR rr_Fx_rf
  · rw [if_neg e, if_neg e2] at k
    rw [x5, kn_pm, kn_3, kn_tn (by omega), kn_tn (by omega), show (1 : Int32) = kn 1 from rfl, show (2 : Int32) = kn 2 from rfl, kn_add, kn_add, kn_add, kn_tn (by omega), kn_tn (by omega)]
    generalize hn : (sm_L M).length = n at *
    refine ⟨fun e3 => ?_, fun e3 => ?_⟩
    · have hlt : n < 12 := by
        have : n ≠ 12 := fun z => e3 (by rw [z]; rfl)
        omega
      rw [if_pos hlt] at k
      refine ⟨kn_in hlt (by decide), kn_in (by omega) (by decide), kn_in (by omega) (by decide), kn_in (by omega) (by decide), ?_⟩
      have fr : ∀ o i, ¬ ((o = 39 ∧ i = 26) ∨ (o = 58 ∧ i = n) ∨ (o = 59 ∧ 3 * n ≤ i)) → ku (ku (ku (ku (ku S 58 n op) 59 (3 * n) a) 59 (3 * n + 1) b) 59 (3 * n + 2) c) 39 26 (kn (n + 1)) o i = S o i := fun o i ho => by
        rw [ku_ne (by omega), ku_ne (by omega), ku_ne (by omega), ku_ne (by omega), ku_ne (by omega)]
      refine k _ ⟨LT, LM, rr_S_fr hS (fun o i ho => fr o i (by omega)), rr_A_fr hA (fun o i ho => fr o i (by omega)), (fr _ _ (by omega)).trans h8, (fr _ _ (by omega)).trans h17, hT, hM, (fr _ _ (by omega)).trans x1, (fr _ _ (by omega)).trans x2, x3, x4, ?_, ?_, fun i o' a' b' c' we => ?_⟩ (fun o i ho => fr o i (by omega))
      · rw [ku_self]
        show _ = kn (sm_L M ++ [(op, a, b, c)]).length
        rw [List.length_append, List.length_singleton, hn]
      · show (sm_L M ++ [(op, a, b, c)]).length ≤ 12
        rw [List.length_append, List.length_singleton, hn]; omega
      · have w : (sm_L M ++ [(op, a, b, c)])[i]? = some (o', a', b', c') := we
        clear we
        by_cases hi : i < n
        · rw [List.getElem?_append_left (by omega)] at w
          rw [fr _ _ (by omega), fr _ _ (by omega), fr _ _ (by omega), fr _ _ (by omega)]
          exact x7 i o' a' b' c' w
        · have hl := (List.getElem?_eq_some_iff.mp w).1
          rw [List.length_append, List.length_singleton, hn] at hl
          have : i = n := by omega
          subst this
          rw [List.getElem?_append_right (by omega), hn, Nat.sub_self] at w
          injection w with w
          injection w with w1 w
          injection w with w2 w
          injection w with w3 w4
          rw [← w1, ← w2, ← w3, ← w4]
          refine ⟨?_, ?_, ?_, ?_⟩
          · rw [ku_ne (by omega), ku_ne (by omega), ku_ne (by omega), ku_ne (by omega), ku_self]
          · rw [ku_ne (by omega), ku_ne (by omega), ku_ne (by omega), ku_self]
          · rw [ku_ne (by omega), ku_ne (by omega), ku_self]
          · rw [ku_ne (by omega), ku_self]
    · have : ¬ n < 12 := fun z => by
        have := kn_inj (m := 12) (by omega) (by decide) (Classical.not_not.mp e3)
        omega
      rw [if_neg this] at k
      exact k S hR rr_Fx_rf
end JPUB
