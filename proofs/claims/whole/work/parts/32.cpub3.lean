/-! ===== THE CLASS: replay, looks ===== -/
theorem ru_step {S2 S3 : kS} {LT1 LM1 : List kF} {M : kO} {τ1 : Nat} {o : Option kQ} {r : Int32} (hT : ∀ x, x ∈ LT1 ↔ sm_T M x) (hM : ∀ x, x ∈ LM1 ↔ sm_M M x) (hp : ru_po S2 LT1 LM1 (sm_F M) (sm_nT M) (sm_nM M) τ1 o r S3) :
    ∃ LT3 LM3 τ3, LT1 <+: LT3 ∧ LM1 <+: LM3 ∧ rc_FR S2 S3 ∧ ch_Z S3 τ3 ∧ τ3 ≤ τ1 + 2 ∧
      ((∃ M', sp_ru M o = some M' ∧ r = kn (sm_F M).length ∧ (sm_F M).length < 60 ∧ rc_W S3 LT3 LM3 (sm_F M') (sm_nT M') (sm_nM M') ∧ (∀ x, x ∈ LT3 ↔ sm_T M' x) ∧ (∀ x, x ∈ LM3 ↔ sm_M M' x) ∧ sm_F M <+: sm_F M') ∨ (sp_ru M o = none ∧ r = -1 ∧ rc_W S3 LT3 LM3 (sm_F M) (sm_nT M) (sm_nM M))) := by
  obtain ⟨LT3, LM3, FS3, τ3, w3, p1, p2, f3, z3, ht3, en⟩ := hp
  refine ⟨LT3, LM3, τ3, p1, p2, f3, z3, ht3, ?_⟩
  rcases en with ⟨c, raw, hs, ho, hds, hlt, rfl, rfl, hc, hraw, m⟩ | ⟨rfl, rfl, hn⟩
  · obtain ⟨hfit, hcT, hcM⟩ := sp_yes (g := sp_g c raw) hT hM w3.1.1 (fun x hx => rp_sub p1 hx) (fun x hx => rp_sub p2 hx) ⟨hc, hraw⟩ m
    refine Or.inl ⟨sp_rm M c raw, ?_, rfl, hlt, ?_, hcT, hcM, ⟨_, rfl⟩⟩
    · rw [ho]
      exact sp_if_pos ⟨by rw [hds], hlt, hfit⟩
    · show rc_W S3 LT3 LM3 (sm_F M ++ [(c, (sp_ds [] false raw).1)]) (sm_nT M) (sm_nM M)
      rw [hds]; exact w3
  · refine Or.inr ⟨?_, rfl, w3⟩
    rcases hn with rfl | ⟨c, raw, rfl, hn⟩
    · rfl
    · refine sp_if_neg (fun ⟨h1, h2, h3⟩ => ?_)
      rcases hn with hn | hn | hn
      · rw [h1] at hn; cases hn
      · omega
      · exact sp_no (g := sp_g c raw) hT hM hn h3
section KPUB3
variable {d : Nat} {S : kS} {M : kO} {τ : Nat} {F : Int32 → kS → Prop}
set_option maxHeartbeats 1000000 in
theorem k_replay (h : rc_R S M τ) (hok : sp_kM M) (hτ : τ + 24 < 8388608) (k : ∀ S' τ', rc_R S' (sp_replay M).2 τ' → τ' ≤ τ + 24 → rc_Fx S S' → F (sp_replay M).1 S') : kK (d + 71) m_K_replay [.inr 0] S (kq F) := by
  obtain ⟨LT, LM, hQ⟩ := h
  obtain ⟨hW, hK, hZ, hT, hM, hX⟩ := hQ
  have hQ : rc_Q S M τ LT LM := ⟨hW, hK, hZ, hT, hM, hX⟩
  obtain ⟨h34, h12, hL⟩ := hX.2.2.2.2
  have h60 := hW.2.1.2.1
  refine g_K_replay (fun G h => g_Fa_size ?_)
  rw [hW.2.1.1]
  have loop : ∀ m i, i + m = (sm_L M).length → ∀ (S1 : kS) (M1 : kO) (LT1 LM1 : List kF) (τ1 : Nat), rc_W S1 LT1 LM1 (sm_F M1) (sm_nT M1) (sm_nM M1) → (∀ x, x ∈ LT1 ↔ sm_T M1 x) → (∀ x, x ∈ LM1 ↔ sm_M M1 x) → LT <+: LT1 → LM <+: LM1 → sm_F M <+: sm_F M1 → rc_Fk S S1 → ch_Z S1 τ1 → τ1 ≤ τ + 2 * i → sp_kM M1 → sm_nT M1 = sm_nT M → sm_nM M1 = sm_nM M → sm_c M1 = sm_c M → sm_d M1 = sm_d M → sm_L M1 = sm_L M →
      sp_rep (sm_F M).length (sm_L M) 0 M = sp_rep (sm_F M).length ((sm_L M).drop i) i M1 → G 10 [some (.inr 0), some (.inl (kn (sm_F M).length)), some (.inl (kn i))] [] S1 := by
    intro m
    induction m with
    | zero =>
      intro i hi S1 M1 LT1 LM1 τ1 w1 t1 m1 p1 p2 p3 f1 z1 ht1 ok1 q1 q2 q3 q4 q5 er
      have e34 : S1 34 4 = kn (sm_L M).length := (f1 _ _ (by omega)).trans h34
      refine f_K_replay_10 kspec_Mo h (g_Tr_size ⟨fun _ => g_Tr_size ?_, fun e => absurd (by rw [e34]; exact (kn_le (by omega) (by omega)).mpr (by omega)) e⟩)
      rw [e34]
      rw [q1, q2] at w1
      refine k_keep hQ w1 f1 z1 (kn_nn (by omega)) (fun S2 w2 k2 z2 x2 fx2 => ?_)
      rw [List.drop_of_length_le (by omega)] at er
      unfold sp_replay at k
      rw [er] at k
      refine k S2 τ1 ⟨LT1, LM1, ?_, k2, z2, t1, m1, ?_⟩ (by omega) fx2
      · show rc_W S2 LT1 LM1 (sm_F M1) (sm_nT M1) (sm_nM M1)
        rw [q1, q2]; exact w2
      · show rc_X S2 M1
        unfold rc_X
        rw [q3, q4, q5]; exact x2
    | succ m ih =>
      intro i hi S1 M1 LT1 LM1 τ1 w1 t1 m1 p1 p2 p3 f1 z1 ht1 ok1 q1 q2 q3 q4 q5 er
      have hil : i < (sm_L M).length := by omega
      have e34 : S1 34 4 = kn (sm_L M).length := (f1 _ _ (by omega)).trans h34
      have hin : vp_in (kn i) 12 := kn_in (by omega) (by decide)
      obtain ⟨op, a, b, c, hline⟩ : ∃ op a b c, (sm_L M)[i]? = some (op, a, b, c) := ⟨_, _, _, _, List.getElem?_eq_getElem hil⟩
      obtain ⟨g1, g2, g3, g4⟩ := hL i op a b c hline
      have hdrop : (sm_L M).drop i = (op, a, b, c) :: (sm_L M).drop (i + 1) := by
        rw [List.drop_eq_getElem_cons hil]
        congr 1
        have := List.getElem?_eq_getElem hil
        rw [hline] at this
        injection this with this
        exact this.symm
      refine f_K_replay_10 kspec_Mo h (g_Tr_size ⟨fun e => absurd ((kn_le (by omega) (by omega)).mp (e34 ▸ e)) (by omega), fun _ => g_Ru_refer ⟨hin, hin, hin, hin, ?_⟩⟩)
      have fr : ∀ o j, o ≠ 33 → ku (ku S1 33 4 (kn (sm_F M).length)) 33 5 (kn i) o j = S1 o j := fun o j ho => by rw [ku_ne (by omega), ku_ne (by omega)]
      rw [kn_tn (by omega), fr 35 i (by decide), fr 36 i (by decide), fr 37 i (by decide), fr 38 i (by decide), f1 35 i (by omega), f1 36 i (by omega), f1 37 i (by omega), f1 38 i (by omega), g1, g2, g3, g4]
      have w2 := rc_W_fr (S' := ku (ku S1 33 4 (kn (sm_F M).length)) 33 5 (kn i)) w1 (fun o j ho => fr o j (by omega))
      have z2 : ch_Z (ku (ku S1 33 4 (kn (sm_F M).length)) 33 5 (kn i)) τ1 := ch_Z_fr z1 (fr _ _ (by decide)) (fun _ => fr _ _ (by decide)) (fun _ => fr _ _ (by decide))
      have f2 : rc_Fk S (ku (ku S1 33 4 (kn (sm_F M).length)) 33 5 (kn i)) := fun o j ho => (fr o j (by omega)).trans (f1 o j ho)
      refine c_Ru_make w2 z2 (by omega) ok1.1 (fun r S3 hp => ?_)
      have e4 : ku (ku S1 33 4 (kn (sm_F M).length)) 33 5 (kn i) 33 4 = kn (sm_F M).length := by rw [ku_ne (by omega), ku_self]
      have e5 : ku (ku S1 33 4 (kn (sm_F M).length)) 33 5 (kn i) 33 5 = kn i := ku_self
      rw [e4, e5] at hp
      obtain ⟨LT3, LM3, τ3, p4, p5, f3, z3, ht3, res⟩ := ru_step t1 m1 hp
      have f4 : rc_Fk S S3 := fun o j ho => (rc_Fk_r f3 o j ho).trans (f2 o j ho)
      rcases res with ⟨M3, e3, rfl, h60', w3, t3, m3, p6⟩ | ⟨e3, rfl, w3⟩
      · refine ⟨fun _ => ?_, fun e => absurd (kn_ge (by omega)) e⟩
        rw [kn_suc]
        obtain ⟨o1, o2, o3, o4, o5, o6⟩ := sp_ru_ok ok1 e3
        refine ih (i + 1) (by omega) S3 M3 LT3 LM3 τ3 w3 t3 m3 (p1.trans p4) (p2.trans p5) (p3.trans p6) f4 z3 (by omega) o1 (o2.trans q1) (o3.trans q2) (o4.trans q3) (o5.trans q4) (o6.trans q5) ?_
        rw [er, hdrop]
        show (match sp_ru M1 (sp_ro (sp_fx (kn (sm_F M).length) (kn i)) M1 op a b c) with
          | some M' => sp_rep (sm_F M).length ((sm_L M).drop (i + 1)) (i + 1) M'
          | none => .inr i) = _
        rw [e3]
      · refine ⟨fun e => absurd e (by decide), fun _ => ?_⟩
        rw [q1, q2] at w3
        refine k_back hQ w3 (p1.trans p4) (p2.trans p5) p3 f4 z3 kn_m1lt (fun S4 h4 fx4 => ?_)
        have er2 : sp_rep (sm_F M).length (sm_L M) 0 M = .inr i := by
          rw [er, hdrop]
          show (match sp_ru M1 (sp_ro (sp_fx (kn (sm_F M).length) (kn i)) M1 op a b c) with
            | some M' => sp_rep (sm_F M).length ((sm_L M).drop (i + 1)) (i + 1) M'
            | none => .inr i) = _
          rw [e3]
        unfold sp_replay at k
        rw [er2] at k
        exact k S4 τ3 ⟨LT, LM, h4⟩ (by omega) fx4
  exact loop (sm_L M).length 0 (by omega) S M LT LM τ hW hT hM (List.prefix_refl _) (List.prefix_refl _) (List.prefix_refl _) (fun _ _ _ => rfl) hZ (by omega) hok rfl rfl rfl rfl rfl rfl
theorem rc_R_nT {S S' : kS} {M : kO} {τ : Nat} {LT LM : List kF} {v : kF} (h : rc_Q S M τ LT LM) (f : ∀ o j, ¬ (o = 3 ∨ o = 4 ∨ (o = 2 ∧ j = 2)) → S' o j = S o j) (n : rc_N S' 3 4 2 LT (sp_nm (sm_nT M) v).2 50) : rc_R S' (sp_numT M v).2 τ :=
  ⟨LT, LM, rc_W_n2 h.1 f n, rc_K_fr h.2.1 (f _ _ (by omega)) (f _ _ (by omega)) (f _ _ (by omega)), ch_Z_fr h.2.2.1 (f _ _ (by omega)) (fun _ => f _ _ (by omega)) (fun _ => f _ _ (by omega)), h.2.2.2.1, h.2.2.2.2.1, rc_X_fr (M := M) h.2.2.2.2.2 (fun o j ho => f _ _ (by omega))⟩
theorem rc_R_nM {S S' : kS} {M : kO} {τ : Nat} {LT LM : List kF} {v : kF} (h : rc_Q S M τ LT LM) (f : ∀ o j, ¬ (o = 12 ∨ o = 13 ∨ (o = 11 ∧ j = 2)) → S' o j = S o j) (n : rc_N S' 12 13 11 LM (sp_nm (sm_nM M) v).2 250) : rc_R S' (sp_numM M v).2 τ :=
  ⟨LT, LM, rc_W_n11 h.1 f n, rc_K_fr h.2.1 (f _ _ (by omega)) (f _ _ (by omega)) (f _ _ (by omega)), ch_Z_fr h.2.2.1 (f _ _ (by omega)) (fun _ => f _ _ (by omega)) (fun _ => f _ _ (by omega)), h.2.2.2.1, h.2.2.2.2.1, rc_X_fr (M := M) h.2.2.2.2.2 (fun o j ho => f _ _ (by omega))⟩
theorem k_numM {LT LM : List kF} {i : Nat} {v : kF} (h : rc_Q S M τ LT LM) (hi : LM[i]? = some v) (k : ∀ S', rc_R S' (sp_numM M v).2 τ → rc_Fx S S' → F (sp_numM M v).1 S') : kK (d + 1) m_Nu_numberOf [.inr 11, .inl (kn i)] S (kq F) :=
  c_Nu_numberOf_11 h.1.2.2.2 h.1.1.1.2.1 h.1.1.1.2.2.2.2.2.2.1 hi (fun S' f n => k S' (rc_R_nM h f n) (fun o j ho => f _ _ (by omega)))
theorem k_typeOf {a : Int32} (h : rc_R S M τ) (k : ∀ S', rc_R S' (sp_typeOf M a).2 τ → rc_Fx S S' → F (sp_typeOf M a).1 S') : kK (d + 2) m_K_typeOf [.inr 0, .inl a] S (kq F) := by
  obtain ⟨LT, LM, hQ⟩ := h
  unfold sp_typeOf at k
  refine g_K_typeOf (c_Nu_placeOf_11 hQ.1.2.2.2 hQ.1.1.1.2.2.2.2.2.2.1 (fun i t et hi => ?_) (fun et => ?_))
  · rw [et] at k
    exact c_Te_typeAt hQ.1.1 hi (fun y hy => c_Nu_numberOf_2 hQ.1.2.2.1 hQ.1.1.1.1 hQ.1.1.1.2.2.2.2.2.1 hy (fun S' f n => k S' (rc_R_nT hQ f n) (fun o j ho => f _ _ (by omega))))
  · rw [et] at k
    exact c_Te_typeAt_no kn_m1lt (c_Nu_numberOf_2n kn_m1lt (k S ⟨LT, LM, hQ⟩ rc_Fx_rf))
theorem k_kind {a : Int32} (h : rc_R S M τ) (k : rc_R S (sp_kind M a).2 τ → F (sp_kind M a).1 S) : kK (d + 2) m_K_kind [.inr 0, .inl a] S (kq F) := by
  have h0 := h
  obtain ⟨LT, LM, hQ⟩ := h
  unfold sp_kind at k
  refine g_K_kind (c_Nu_placeOf_11 hQ.1.2.2.2 hQ.1.1.1.2.2.2.2.2.2.1 (fun i t et hi => ?_) (fun et => ?_))
  · rw [et] at k
    exact c_Te_sortAt hQ.1.1 hi (k h0)
  · rw [et] at k
    exact c_Te_sortAt_no kn_m1lt (k h0)
theorem k_part {a b : Int32} (h : rc_R S M τ) (k : ∀ S', rc_R S' (sp_part M a b).2 τ → rc_Fx S S' → F (sp_part M a b).1 S') : kK (d + 2) m_K_part [.inr 0, .inl a, .inl b] S (kq F) := by
  have h0 := h
  obtain ⟨LT, LM, hQ⟩ := h
  unfold sp_part at k
  refine g_K_part (c_Nu_placeOf_11 hQ.1.2.2.2 hQ.1.1.1.2.2.2.2.2.2.1 (fun i t et hi => ?_) (fun et => ?_))
  · rw [et] at k
    simp only [sp_b1] at k
    obtain ⟨es, h6, li⟩ := rc_so hQ.1.1 hi
    obtain ⟨Γ, hw⟩ := rc_wf hQ.1.1 hi
    have hin : vp_in (kn i) 250 := kn_in li (by decide)
    have inj : ∀ n, n < 6 → kn (fo_so t) = kn n → fo_so t = n := fun n hn e => kn_inj (by omega) (by omega) e
    have leaf : fo_so t = 0 ∨ fo_so t = 2 → (¬ b = 0 → F (-1) S) ∧ (¬ (¬ b = 0) → vp_in (kn i) 250 ∧ F (S 15 i) S) := by
      intro h02
      rw [if_pos h02] at k
      obtain ⟨n, A, e1, _⟩ := fo_so_l hw (by omega) (by omega)
      have e15 := ((hQ.1.1.2.2.2.2.1 i t hi).2.2.2.2.1 _ n A e1).2.1
      refine ⟨fun e => ?_, fun e => ⟨hin, ?_⟩⟩
      · rw [if_neg e] at k; exact k S h0 rc_Fx_rf
      · rw [if_pos (Classical.not_not.mp e)] at k
        rw [e15]
        have : sp_wh t = kn n := by rw [e1]; rfl
        rw [this] at k
        exact k S h0 rc_Fx_rf
    have noap : fo_so t ≠ 3 → ¬ (fo_so t = 0 ∨ fo_so t = 2) → F (-1) S := by
      intro h3 h02
      rw [if_neg h02] at k
      have : sp_fa t = none := by
        rcases fo_wf_cases hw with ⟨s, n, A, rfl, _⟩ | ⟨g, x, _, rfl, _⟩ | ⟨A, b, rfl, _⟩
        · rfl
        · exact absurd rfl h3
        · rfl
      rw [this] at k
      exact k S h0 rc_Fx_rf
    refine c_Te_sortAt hQ.1.1 hi ?_
    rw [kn_tn (by omega)]
    refine ⟨fun e => leaf (Or.inl (inj 0 (by decide) e)), fun e => ?_, fun e => leaf (Or.inr (inj 2 (by decide) e)), fun e => ?_, fun e => ?_⟩
    · have := inj 1 (by decide) e
      exact noap (by omega) (by omega)
    · have h3 := inj 3 (by decide) e
      obtain ⟨f, x, rfl⟩ := fo_so_3 hw h3
      rw [if_neg (by omega)] at k
      have ef : sp_fa (fo_ap f x) = some (f, x) := rfl
      rw [ef] at k
      obtain ⟨_, i1, i2, _, _, hi1, hi2, e15, e16⟩ := (hQ.1.1.2.2.2.2.1 i _ hi).2.2.2.2.2.1 f x rfl
      rw [e15, e16]
      refine ⟨fun e1 => ⟨fun e2 => ?_, fun e2 => ⟨hin, ?_⟩⟩, fun e1 => ⟨hin, ?_⟩⟩
      · simp only [if_neg e1, if_neg e2] at k
        exact k S h0 rc_Fx_rf
      · simp only [if_neg e1, if_pos (Classical.not_not.mp e2)] at k
        exact k_numM hQ hi2 k
      · simp only [if_pos (Classical.not_not.mp e1)] at k
        exact k_numM hQ hi1 k
    · refine noap (fun q => ?_) (fun q => ?_)
      · rw [q] at e; exact absurd e (by decide)
      · rcases q with q | q
        · rw [q] at e; exact absurd e (by decide)
        · rw [q] at e; exact absurd e (by decide)
  · rw [et] at k
    exact c_Te_sortAt_no kn_m1lt ⟨fun e => absurd e (by decide), fun e => absurd e (by decide), fun e => absurd e (by decide), fun e => absurd e (by decide), fun _ => k S h0 rc_Fx_rf⟩
theorem rc_R_19 {S S' : kS} {M : kO} {τ : Nat} (h : rc_R S M τ) (f : ∀ o j, o ≠ 19 → S' o j = S o j) : rc_R S' M τ := by
  obtain ⟨LT, LM, hW, hK, hZ, hT, hM, hX⟩ := h
  refine ⟨LT, LM, ?_, rc_K_fr hK (f _ _ (by decide)) (f _ _ (by decide)) (f _ _ (by decide)), ch_Z_fr hZ (f _ _ (by decide)) (fun _ => f _ _ (by decide)) (fun _ => f _ _ (by decide)), hT, hM, rc_X_fr hX (fun o i ho => f _ _ (by omega))⟩
  exact ⟨rc_S_19 hW.1 f, ⟨(f _ _ (by decide)).trans hW.2.1.1, hW.2.1.2.1, rp_F_grow hW.2.1.2.2 (List.prefix_refl _) (funext fun _ => f _ _ (by decide)) (funext fun _ => f _ _ (by decide)) (funext fun _ => f _ _ (by decide))⟩, rc_N_gr hW.2.2.1 (List.prefix_refl _) hW.1.1.1 hW.1.1.2.2.2.2.2.1 (fun _ => f _ _ (by decide)) (fun _ => f _ _ (by decide)) (f _ _ (by decide)), rc_N_gr hW.2.2.2 (List.prefix_refl _) hW.1.1.2.1 hW.1.1.2.2.2.2.2.2.1 (fun _ => f _ _ (by decide)) (fun _ => f _ _ (by decide)) (f _ _ (by decide))⟩
theorem k_free {a b : Int32} (h : rc_R S M τ) (k : ∀ S', rc_R S' M τ → rc_Fx S S' → F (sp_free M a b) S') : kK (d + 3) m_K_free [.inr 0, .inl a, .inl b] S (kq F) := by
  have h0 := h
  obtain ⟨LT, LM, hQ⟩ := h
  unfold sp_free at k
  have hl := hQ.1.1.1.2.2.2.2.2.2.1
  refine g_K_free (c_Nu_placeOf_11 hQ.1.2.2.2 hl (fun i x ex hx => ?_) (fun ex => ?_))
  · rw [ex] at k
    obtain ⟨Γ, hw⟩ := rc_wf hQ.1.1 hx
    have h6 := fo_so_le hw
    refine c_Nu_placeOf_11 hQ.1.2.2.2 hl (fun j t et ht => ?_) (fun et => ?_)
    · rw [et] at k
      have lj := rc_lM hQ.1.1 ht
      refine c_Te_sortAt hQ.1.1 hx ⟨fun e => ?_, fun e => ⟨fun _ => ?_, fun e => absurd (kn_ge (by omega)) e⟩⟩
      · have : ¬ ((∃ n A, x = fo_lf 0 n A) ∧ fo_oc x t) := fun ⟨⟨n, A, z⟩, _⟩ => e (by rw [z]; rfl)
        simp only [sp_ite_neg this] at k
        exact k S h0 rc_Fx_rf
      · obtain ⟨n, A, e1⟩ := fo_so_0 hw (kn_inj (m := 0) (by omega) (by decide) (Classical.not_not.mp e))
        refine c_Te_mark hQ.1.1 hx (fun S1 f1 g1 => ?_)
        rw [kn_tn (by omega)]
        refine ⟨kn_in lj (by decide), ?_⟩
        rcases g1 j t ht with ⟨v, w⟩ | ⟨v, w⟩
        · rw [v]
          simp only [sp_ite_pos (show (∃ n A, x = fo_lf 0 n A) ∧ fo_oc x t from ⟨⟨n, A, e1⟩, w⟩)] at k
          exact ⟨Or.inr rfl, k S1 (rc_R_19 h0 f1) (fun o i ho => f1 _ _ (by omega))⟩
        · rw [v]
          simp only [sp_ite_neg (show ¬ ((∃ n A, x = fo_lf 0 n A) ∧ fo_oc x t) from fun z => w z.2)] at k
          exact ⟨Or.inl rfl, k S1 (rc_R_19 h0 f1) (fun o i ho => f1 _ _ (by omega))⟩
    · rw [et] at k
      exact c_Te_sortAt hQ.1.1 hx ⟨fun _ => k S h0 rc_Fx_rf, fun _ => ⟨fun e => absurd e (by decide), fun _ => k S h0 rc_Fx_rf⟩⟩
  · rw [ex] at k
    have fin : ∀ r4 : Int32, kK (d + 2) m_Te_sortAt [.inr 10, .inl (-1)] S (kq fun r6 S5 => (¬ r6 = 0 → F 0 S5) ∧ (¬ (¬ r6 = 0) → (0 ≤ r4 → kK (d + 2) m_Te_mark [.inr 10, .inl (-1)] S5 (kv fun S7 => vp_in r4 250 ∧ kz (S7 19 (r4.toNatClampNeg)) ∧ F (S7 19 (r4.toNatClampNeg)) S7)) ∧ (¬ (0 ≤ r4) → F 0 S5))) := fun r4 => c_Te_sortAt_no kn_m1lt ⟨fun _ => k S h0 rc_Fx_rf, fun e => absurd (by decide) e⟩
    exact c_Nu_placeOf_11 hQ.1.2.2.2 hl (fun _ _ _ _ => fin _) (fun _ => fin _)
theorem k_conclusion {a : Int32} (h : rc_R S M τ) (k : ∀ S', rc_R S' (sp_conclusion M a).2 τ → rc_Fx S S' → F (sp_conclusion M a).1 S') : kK (d + 3) m_K_conclusion [.inr 0, .inl a] S (kq F) := by
  have h0 := h
  obtain ⟨LT, LM, hQ⟩ := h
  unfold sp_conclusion at k
  refine g_K_conclusion (c_Fa_conclusionOf hQ.1.2.1 (fun q i hq hi => ?_) (fun e => ?_))
  · rw [hq] at k
    exact k_numM hQ hi k
  · rw [e] at k
    exact c_Nu_numberOf_11n kn_m1lt (k S h0 rc_Fx_rf)
theorem k_hypotheses {a : Int32} (h : rc_R S M τ) (k : F (sp_hypotheses M a) S) : kK (d + 3) m_K_hypotheses [.inr 0, .inl a] S (kq F) := by
  obtain ⟨LT, LM, hQ⟩ := h
  unfold sp_hypotheses at k
  refine g_K_hypotheses (c_Fa_sizeOf hQ.1.2.1 (fun q hq _ => ?_) (fun e => ?_))
  · rw [hq] at k; exact k
  · rw [e] at k; exact k
theorem k_assumes {a b : Int32} (h : rc_R S M τ) (k : F (sp_assumes M a b) S) : kK (d + 4) m_K_assumes [.inr 0, .inl a, .inl b] S (kq F) := by
  obtain ⟨LT, LM, hQ⟩ := h
  unfold sp_assumes at k
  have hA := hQ.1.2.1
  have hS := hQ.1.1
  have none1 : ∀ y : Int32, sp_at (sm_F M) a = none → kz 0 ∧ F 0 S → kK (d + 3) m_Fa_has [.inr 25, .inl a, .inl y] S (kq fun r4 S3 => kz r4 ∧ F r4 S3) := fun y e kk => g_Fa_has (fun G h => f_Fa_has_2 kspec_Mo h (c_Fa_sizeOf hA (fun q hq _ => by rw [e] at hq; cases hq) (fun _ => ⟨fun _ => kk, fun e => absurd (by decide) e⟩)))
  have loop : ∀ (y : Int32) (q : kQ) (P : Prop), sp_at (sm_F M) a = some q → (∀ i z, LM[i]? = some z → z ∈ q.2 → (kn i = y ↔ P ∧ ∃ t, sp_at (sm_nM M) b = some t ∧ z = t)) → ((∃ t, P ∧ sp_at (sm_nM M) b = some t ∧ t ∈ q.2) → F 1 S) → ((¬ ∃ t, P ∧ sp_at (sm_nM M) b = some t ∧ t ∈ q.2) → F 0 S) → kK (d + 3) m_Fa_has [.inr 25, .inl a, .inl y] S (kq fun r4 S3 => kz r4 ∧ F r4 S3) := by
    intro y q P hq hP k1 k0
    refine g_Fa_has (fun G h => ?_)
    have lp : ∀ m j, j + m = q.2.length → (∀ n z, n < j → q.2[n]? = some z → ¬ (P ∧ ∃ t, sp_at (sm_nM M) b = some t ∧ z = t)) → G 2 [some (.inr 25), some (.inl a), some (.inl y), some (.inl (kn j))] [] S := by
      intro m
      induction m with
      | zero =>
        intro j hj hno
        refine f_Fa_has_2 kspec_Mo h (c_Fa_sizeOf hA (fun q' hq' h12 => ?_) (fun e => by rw [hq] at e; cases e))
        rw [hq] at hq'
        injection hq' with hq'
        subst hq'
        refine ⟨fun _ => ⟨Or.inl rfl, k0 (fun ⟨t, t1, t2, t3⟩ => ?_)⟩, fun e => absurd ((kn_le (by omega) (by omega)).mpr (by omega)) e⟩
        obtain ⟨n, hn⟩ := rp_at t3
        exact hno n t (by have := rp_lt hn; omega) hn ⟨t1, t, t2, rfl⟩
      | succ m ih =>
        intro j hj hno
        have hjl : j < q.2.length := by omega
        have hu : q.2[j]? = some q.2[j] := List.getElem?_eq_getElem hjl
        refine f_Fa_has_2 kspec_Mo h (c_Fa_sizeOf hA (fun q' hq' h12 => ?_) (fun e => by rw [hq] at e; cases e))
        rw [hq] at hq'
        injection hq' with hq'
        subst hq'
        refine ⟨fun e => absurd ((kn_le (by omega) (by omega)).mp e) (by omega), fun _ => c_Fa_hypothesis hA hq hu (fun i hi => ?_)⟩
        rw [kn_suc]
        refine ⟨fun e => ih (j + 1) (by omega) (fun n z hn hz => ?_), fun e => ⟨Or.inr rfl, k1 ?_⟩⟩
        · by_cases hnj : n = j
          · subst hnj
            rw [hu] at hz
            injection hz with hz
            subst hz
            exact fun w => e ((hP i _ hi (rp_mem hu)).mpr w)
          · exact hno n z (by omega) hz
        · obtain ⟨w, t, w2, w3⟩ := (hP i _ hi (rp_mem hu)).mp (Classical.not_not.mp e)
          exact ⟨t, w, w2, by rw [← w3]; exact rp_mem hu⟩
    exact lp q.2.length 0 (by omega) (fun n z hn _ => absurd hn (by omega))
  refine g_K_assumes (c_Nu_placeOf_11 hQ.1.2.2.2 hS.1.2.2.2.2.2.2.1 (fun i t et hi => ?_) (fun et => ?_))
  · cases hq : sp_at (sm_F M) a with
    | none =>
      rw [hq] at k
      exact none1 _ hq ⟨Or.inl rfl, k⟩
    | some q =>
      rw [hq, et] at k
      refine loop (kn i) q True hq (fun n z hn _ => ⟨fun e => ⟨trivial, t, et, ?_⟩, fun ⟨_, t', et', e⟩ => ?_⟩) (fun ⟨t', _, et', ht'⟩ => ?_) (fun hn => ?_)
      · have := kn_inj (by have := rc_lM hS hn; omega) (by have := rc_lM hS hi; omega) e
        subst this
        rw [hn] at hi
        injection hi
      · rw [et] at et'
        injection et' with et'
        subst et'
        subst e
        rw [fo_ix hS.1.2.1 hn hi]
      · rw [et] at et'
        injection et' with et'
        subst et'
        simp only [sp_ite_pos ht'] at k
        exact k
      · simp only [sp_ite_neg (fun z => hn ⟨t, trivial, et, z⟩)] at k
        exact k
  · cases hq : sp_at (sm_F M) a with
    | none =>
      rw [hq] at k
      exact none1 _ hq ⟨Or.inl rfl, k⟩
    | some q =>
      rw [hq, et] at k
      refine loop (-1) q False hq (fun n z hn _ => ⟨fun e => absurd e (kn_m1 (by have := rc_lM hS hn; omega)), fun e => e.1.elim⟩) (fun ⟨_, z, _⟩ => z.elim) (fun _ => k)
theorem k_count {a : Int32} (h : rc_R S M τ) (k : F (sp_count M a) S) : kK (d + 2) m_K_count [.inr 0, .inl a] S (kq F) := by
  obtain ⟨LT, LM, hW, hK, hZ, hT, hM, hX⟩ := h
  unfold sp_count at k
  have c1 := sp_card_eq hW.1.1.1 hT
  have c2 := sp_card_eq hW.1.1.2.1 hM
  refine g_K_count ⟨fun e => ?_, fun e => ?_, fun e => ?_, fun e => ?_, fun e => ?_, fun e => ?_⟩
  · subst e
    refine g_Te_size ?_
    rw [hW.1.2.2.1, ← c2]
    exact k
  · subst e
    refine g_Ty_size ?_
    rw [hW.1.2.1, ← c1]
    exact k
  · subst e
    refine g_Fa_size ?_
    rw [hW.2.1.1]
    exact k
  · subst e
    refine g_Nu_size_11 ?_
    rw [hW.2.2.2.2.1]
    exact k
  · subst e
    refine g_Nu_size_2 ?_
    rw [hW.2.2.1.2.1]
    exact k
  · rw [if_neg (fun z => by subst z; exact absurd e (by decide)), if_neg (fun z => by subst z; exact absurd e (by decide)), if_neg (fun z => by subst z; exact absurd e (by decide)), if_neg (fun z => by subst z; exact absurd e (by decide)), if_neg (fun z => by subst z; exact absurd e (by decide))] at k
    exact k
end KPUB3
