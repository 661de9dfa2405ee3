/-! ===== THE CLASS: its calls (types, terms, looks) ===== -/
theorem rc_ncr {o i : Nat} (h : o = 0 ∨ o = 2 ∨ o = 3 ∨ o = 4 ∨ (o = 1 ∧ i = 7) ∨ (o = 10 ∧ i = 14) ∨ (11 ≤ o ∧ o ≤ 13) ∨ (o = 25 ∧ i = 7) ∨ 33 ≤ o) : ¬ rc_cr o i := by
  unfold rc_cr rc_cc rc_cm rc_ct; omega
def rc_Fk (S S' : kS) : Prop := ∀ o i, (o = 0 ∨ (o = 1 ∧ i = 7) ∨ (o = 10 ∧ i = 14) ∨ (o = 25 ∧ i = 7) ∨ 34 ≤ o) → S' o i = S o i
theorem rc_Fk_r {S S' : kS} (h : rc_FR S S') : rc_Fk S S' := fun o i q => h o i (rc_ncr (by omega))
theorem k_back {d : Nat} {S S1 : kS} {M : kO} {τ τ1 : Nat} {LT LM LT1 LM1 : List kF} {FS1 : List kQ} {r : Int32} {F : Int32 → kS → Prop} (hQ : rc_Q S M τ LT LM) (hW : rc_W S1 LT1 LM1 FS1 (sm_nT M) (sm_nM M)) (p1 : LT <+: LT1) (p2 : LM <+: LM1) (p3 : sm_F M <+: FS1) (f : rc_Fk S S1) (z : ch_Z S1 τ1) (hr : r < 0) (k : ∀ S', rc_Q S' M τ1 LT LM → rc_Fx S S' → F r S') : kK (d + 2) m_K_settled [.inr 0, .inl r] S1 (kq F) := by
  obtain ⟨hW0, hK, hZ, hT, hM, hX⟩ := hQ
  refine c_K_settled_no hr hW ⟨(f _ _ (by omega)).trans hK.1, (f _ _ (by omega)).trans hK.2.1, (f _ _ (by omega)).trans hK.2.2⟩ p1 p2 p3 hW0.1.1 (rp_N_sub hW0.2.2.1.1) (rp_N_sub hW0.2.2.2.1) (rc_A_mem hW0.2.1) (fun S2 f2 w2 k2 => ?_)
  refine k S2 ⟨w2, k2, ch_Z_fr z (f2 _ _ (by omega)) (fun _ => f2 _ _ (by omega)) (fun _ => f2 _ _ (by omega)), hT, hM, rc_X_fr hX (fun o i ho => (f2 _ _ (by omega)).trans (f _ _ (by omega)))⟩ (fun o i ho => (f2 _ _ (by omega)).trans (f _ _ (by omega)))
theorem k_keep {d : Nat} {S S1 : kS} {M : kO} {τ τ1 : Nat} {LT LM LT1 LM1 : List kF} {FS1 : List kQ} {r : Int32} {F : Int32 → kS → Prop} (hQ : rc_Q S M τ LT LM) (hW : rc_W S1 LT1 LM1 FS1 (sm_nT M) (sm_nM M)) (f : rc_Fk S S1) (z : ch_Z S1 τ1) (hr : ¬ r < 0) (k : ∀ S', rc_W S' LT1 LM1 FS1 (sm_nT M) (sm_nM M) → rc_K S' LT1 LM1 FS1 → ch_Z S' τ1 → rc_X S' M → rc_Fx S S' → F r S') : kK (d + 2) m_K_settled [.inr 0, .inl r] S1 (kq F) := by
  obtain ⟨hW0, hK, hZ, hT, hM, hX⟩ := hQ
  refine c_K_settled_yes hr ?_
  have fr : ∀ o i, ¬ ((o = 1 ∧ i = 7) ∨ (o = 10 ∧ i = 14) ∨ (o = 25 ∧ i = 7)) → ku (ku (ku S1 1 7 (S1 1 6)) 10 14 (S1 10 13)) 25 7 (S1 25 6) o i = S1 o i := fun o i ho => by
    rw [ku_ne (by omega), ku_ne (by omega), ku_ne (by omega)]
  refine k _ ⟨rc_S_fr hW.1 (fun o i hc => fr o i (by unfold rc_cm rc_ct at hc; omega)), ⟨(fr _ _ (by omega)).trans hW.2.1.1, hW.2.1.2.1, rp_F_grow hW.2.1.2.2 (List.prefix_refl _) (funext fun _ => fr _ _ (by omega)) (funext fun _ => fr _ _ (by omega)) (funext fun _ => fr _ _ (by omega))⟩, rc_N_gr hW.2.2.1 (List.prefix_refl _) hW.1.1.1 hW.1.1.2.2.2.2.2.1 (fun _ => fr _ _ (by omega)) (fun _ => fr _ _ (by omega)) (fr _ _ (by omega)), rc_N_gr hW.2.2.2 (List.prefix_refl _) hW.1.1.2.1 hW.1.1.2.2.2.2.2.2.1 (fun _ => fr _ _ (by omega)) (fun _ => fr _ _ (by omega)) (fr _ _ (by omega))⟩ ⟨?_, ?_, ?_⟩ (ch_Z_fr z (fr _ _ (by omega)) (fun _ => fr _ _ (by omega)) (fun _ => fr _ _ (by omega))) (rc_X_fr hX (fun o i ho => (fr _ _ (by omega)).trans (f _ _ (by omega)))) (fun o i ho => (fr _ _ (by omega)).trans (f _ _ (by omega)))
  · rw [ku_ne (by omega), ku_ne (by omega), ku_self]; exact hW.1.2.1
  · rw [ku_ne (by omega), ku_self]; exact hW.1.2.2.1
  · rw [ku_self]; exact hW.2.1.1
/-- new numbers: what they leave -/
theorem rc_W_n2 {S S' : kS} {LT LM : List kF} {FS : List kQ} {NT NM NT' : List kF} (h : rc_W S LT LM FS NT NM) (f : ∀ o j, ¬ (o = 3 ∨ o = 4 ∨ (o = 2 ∧ j = 2)) → S' o j = S o j) (n : rc_N S' 3 4 2 LT NT' 50) : rc_W S' LT LM FS NT' NM :=
  ⟨rc_S_fr h.1 (fun o i hc => f o i (by unfold rc_cm rc_ct at hc; omega)), ⟨(f _ _ (by omega)).trans h.2.1.1, h.2.1.2.1, rp_F_grow h.2.1.2.2 (List.prefix_refl _) (funext fun _ => f _ _ (by omega)) (funext fun _ => f _ _ (by omega)) (funext fun _ => f _ _ (by omega))⟩, n, rc_N_gr h.2.2.2 (List.prefix_refl _) h.1.1.2.1 h.1.1.2.2.2.2.2.2.1 (fun _ => f _ _ (by omega)) (fun _ => f _ _ (by omega)) (f _ _ (by omega))⟩
theorem rc_W_n11 {S S' : kS} {LT LM : List kF} {FS : List kQ} {NT NM NM' : List kF} (h : rc_W S LT LM FS NT NM) (f : ∀ o j, ¬ (o = 12 ∨ o = 13 ∨ (o = 11 ∧ j = 2)) → S' o j = S o j) (n : rc_N S' 12 13 11 LM NM' 250) : rc_W S' LT LM FS NT NM' :=
  ⟨rc_S_fr h.1 (fun o i hc => f o i (by unfold rc_cm rc_ct at hc; omega)), ⟨(f _ _ (by omega)).trans h.2.1.1, h.2.1.2.1, rp_F_grow h.2.1.2.2 (List.prefix_refl _) (funext fun _ => f _ _ (by omega)) (funext fun _ => f _ _ (by omega)) (funext fun _ => f _ _ (by omega))⟩, rc_N_gr h.2.2.1 (List.prefix_refl _) h.1.1.1 h.1.1.2.2.2.2.2.1 (fun _ => f _ _ (by omega)) (fun _ => f _ _ (by omega)) (f _ _ (by omega)), n⟩
theorem rc_K_fr {S S' : kS} {LT LM : List kF} {FS : List kQ} (h : rc_K S LT LM FS) (f1 : S' 1 7 = S 1 7) (f2 : S' 10 14 = S 10 14) (f3 : S' 25 7 = S 25 7) : rc_K S' LT LM FS := ⟨f1.trans h.1, f2.trans h.2.1, f3.trans h.2.2⟩
/-- the end of a call that makes a type -/
theorem k_ansT {d : Nat} {S S1 : kS} {M : kO} {τ τ1 : Nat} {LT LM LT1 LM1 : List kF} {v : kF} {r : Int32} {F : Int32 → kS → Prop} (hQ : rc_Q S M τ LT LM) (s1 : rc_S S1 LT1 LM1) (p1 : LT <+: LT1) (p2 : LM <+: LM1) (f : rc_FB S S1) (z : ch_Z S1 τ1) (en : (∃ i, LT1[i]? = some v ∧ r = kn i ∧ fo_mn LT LM LT1 LM1 (sp_gT v)) ∨ (r < 0 ∧ fo_no LT LM (sp_gT v))) (k : ∀ S', rc_R S' (sp_mkT M v).2 τ1 → rc_Fx S S' → F (sp_mkT M v).1 S') : kK (d + 3) m_K_answeredType [.inr 0, .inl r] S1 (kq F) := by
  have hW1 := rc_W_gb hQ.1 s1 p1 p2 f
  rcases en with ⟨i, hi, rfl, m⟩ | ⟨hr, n⟩
  · have li := rc_lT s1 hi
    obtain ⟨hfit, hcT, hcM⟩ := sp_yes hQ.2.2.2.1 hQ.2.2.2.2.1 s1.1 (fun x hx => rp_sub p1 hx) (fun x hx => rp_sub p2 hx) (rp_mem hi) m
    refine g_K_answeredType (k_keep hQ hW1 (rc_Fk_r (rc_FR_b f)) z (kn_nn (by omega)) (fun S2 w2 k2 z2 x2 fx2 => ?_))
    refine c_Nu_numberOf_2 w2.2.2.1 w2.1.1.1 w2.1.1.2.2.2.2.2.1 hi (fun S3 f3 n3 => ?_)
    unfold sp_mkT at k
    rw [sp_ite_pos hfit] at k
    refine k S3 ⟨LT1, LM1, rc_W_n2 w2 f3 n3, rc_K_fr k2 (f3 _ _ (by omega)) (f3 _ _ (by omega)) (f3 _ _ (by omega)), ch_Z_fr z2 (f3 _ _ (by omega)) (fun _ => f3 _ _ (by omega)) (fun _ => f3 _ _ (by omega)), hcT, hcM, rc_X_fr x2 (fun o j ho => f3 _ _ (by omega))⟩ (fun o j ho => (f3 _ _ (by omega)).trans (fx2 o j ho))
  · refine g_K_answeredType (k_back hQ hW1 p1 p2 (List.prefix_refl _) (rc_Fk_r (rc_FR_b f)) z hr (fun S2 q2 fx2 => c_Nu_numberOf_2n hr ?_))
    have := k S2
    unfold sp_mkT at this
    rw [sp_ite_neg (sp_no hQ.2.2.2.1 hQ.2.2.2.2.1 n)] at this
    exact this ⟨LT, LM, q2⟩ fx2
theorem k_ansM {d : Nat} {S S1 : kS} {M : kO} {τ τ1 : Nat} {LT LM LT1 LM1 : List kF} {v : kF} {r : Int32} {F : Int32 → kS → Prop} (hQ : rc_Q S M τ LT LM) (s1 : rc_S S1 LT1 LM1) (p1 : LT <+: LT1) (p2 : LM <+: LM1) (f : rc_FB S S1) (z : ch_Z S1 τ1) (en : rc_en LT LM LT1 LM1 v r) (k : ∀ S', rc_R S' (sp_mkM M v).2 τ1 → rc_Fx S S' → F (sp_mkM M v).1 S') : kK (d + 3) m_K_answeredTerm [.inr 0, .inl r] S1 (kq F) := by
  have hW1 := rc_W_gb hQ.1 s1 p1 p2 f
  rcases en with ⟨i, hi, rfl, m⟩ | ⟨rfl, n⟩
  · have li := rc_lM s1 hi
    obtain ⟨hfit, hcT, hcM⟩ := sp_yes (g := sp_gM v) hQ.2.2.2.1 hQ.2.2.2.2.1 s1.1 (fun x hx => rp_sub p1 hx) (fun x hx => rp_sub p2 hx) (rp_mem hi) m
    refine g_K_answeredTerm (k_keep hQ hW1 (rc_Fk_r (rc_FR_b f)) z (kn_nn (by omega)) (fun S2 w2 k2 z2 x2 fx2 => ?_))
    refine c_Nu_numberOf_11 w2.2.2.2 w2.1.1.2.1 w2.1.1.2.2.2.2.2.2.1 hi (fun S3 f3 n3 => ?_)
    unfold sp_mkM at k
    rw [sp_ite_pos hfit] at k
    refine k S3 ⟨LT1, LM1, rc_W_n11 w2 f3 n3, rc_K_fr k2 (f3 _ _ (by omega)) (f3 _ _ (by omega)) (f3 _ _ (by omega)), ch_Z_fr z2 (f3 _ _ (by omega)) (fun _ => f3 _ _ (by omega)) (fun _ => f3 _ _ (by omega)), hcT, hcM, rc_X_fr x2 (fun o j ho => f3 _ _ (by omega))⟩ (fun o j ho => (f3 _ _ (by omega)).trans (fx2 o j ho))
  · refine g_K_answeredTerm (k_back hQ hW1 p1 p2 (List.prefix_refl _) (rc_Fk_r (rc_FR_b f)) z kn_m1lt (fun S2 q2 fx2 => c_Nu_numberOf_11n kn_m1lt ?_))
    have := k S2
    unfold sp_mkM at this
    rw [sp_ite_neg (sp_no (g := sp_gM v) hQ.2.2.2.1 hQ.2.2.2.2.1 n)] at this
    exact this ⟨LT, LM, q2⟩ fx2
/-- the end of a call that was refused at once -/
theorem k_refT {d : Nat} {S : kS} {M : kO} {τ : Nat} {LT LM : List kF} {F : Int32 → kS → Prop} (hQ : rc_Q S M τ LT LM) (k : ∀ S', rc_R S' M τ → rc_Fx S S' → F (-1) S') : kK (d + 3) m_K_answeredType [.inr 0, .inl (-1)] S (kq F) :=
  g_K_answeredType (k_back hQ hQ.1 (List.prefix_refl _) (List.prefix_refl _) (List.prefix_refl _) (rc_Fk_r rc_FR_rf) hQ.2.2.1 kn_m1lt (fun S2 q2 fx2 => c_Nu_numberOf_2n kn_m1lt (k S2 ⟨LT, LM, q2⟩ fx2)))
theorem k_refM {d : Nat} {S : kS} {M : kO} {τ : Nat} {LT LM : List kF} {S1 : kS} {LT1 LM1 : List kF} {τ1 : Nat} {F : Int32 → kS → Prop} (hQ : rc_Q S M τ LT LM) (s1 : rc_S S1 LT1 LM1) (p1 : LT <+: LT1) (p2 : LM <+: LM1) (f : rc_FB S S1) (z : ch_Z S1 τ1) (k : ∀ S', rc_R S' M τ1 → rc_Fx S S' → F (-1) S') : kK (d + 3) m_K_answeredTerm [.inr 0, .inl (-1)] S1 (kq F) :=
  g_K_answeredTerm (k_back hQ (rc_W_gb hQ.1 s1 p1 p2 f) p1 p2 (List.prefix_refl _) (rc_Fk_r (rc_FR_b f)) z kn_m1lt (fun S2 q2 fx2 => c_Nu_numberOf_11n kn_m1lt (k S2 ⟨LT, LM, q2⟩ fx2)))
theorem rc_Fx_rf {S : kS} : rc_Fx S S := fun _ _ _ => rfl
section KPUB
variable {d : Nat} {S : kS} {M : kO} {τ : Nat} {F : Int32 → kS → Prop}
theorem k_typeVariable {a : Int32} (h : rc_R S M τ) (k : ∀ S', rc_R S' (sp_typeVariable M a).2 τ → rc_Fx S S' → F (sp_typeVariable M a).1 S') : kK (d + 4) m_K_typeVariable [.inr 0, .inl a] S (kq F) := by
  obtain ⟨LT, LM, hQ⟩ := h
  unfold sp_typeVariable at k
  refine g_K_typeVariable ⟨fun e => ?_, fun e => ⟨fun e2 => ?_, fun e2 => ?_⟩⟩
  · rw [if_pos e] at k
    exact k S ⟨LT, LM, hQ⟩ rc_Fx_rf
  · rw [if_neg e, if_pos e2] at k
    obtain ⟨n, hn, rfl⟩ := (kn_of a).resolve_left e
    have hn4 := (kn_lt (m := 4) hn (by decide)).mp e2
    rw [kn_tn hn] at k
    refine c_Ty_store (t := fo_tb (2 + n)) (s := 1) (a := n) (b := 0) hQ.1.1 (Or.inl ⟨2 + n, by omega, rfl, ?_, ?_, rfl⟩) (fo_tw_tb (by omega)) (fun r S1 LT1 s1 p1 f1 e1 => ?_)
    · unfold rc_b
      rw [if_neg (by omega), if_pos (by omega)]
    · unfold rc_b
      rw [if_neg (by omega), if_pos (by omega)]
      show n = 2 + n - 2
      omega
    · refine k_ansT hQ s1 p1 (List.prefix_refl _) (rc_FB_c (rc_FC_of (rc_FM_of f1))) (ch_Z_fm hQ.2.2.1 (rc_FM_of f1)) ?_ k
      rcases e1 with ⟨i, hi, e, m⟩ | ⟨rfl, n⟩
      · exact Or.inl ⟨i, hi, e, m⟩
      · exact Or.inr ⟨kn_m1lt, n⟩
  · rw [if_neg e, if_neg e2] at k
    exact k S ⟨LT, LM, hQ⟩ rc_Fx_rf
theorem k_arrow {a b : Int32} (h : rc_R S M τ) (k : ∀ S', rc_R S' (sp_arrow M a b).2 τ → rc_Fx S S' → F (sp_arrow M a b).1 S') : kK (d + 4) m_K_arrow [.inr 0, .inl a, .inl b] S (kq F) := by
  obtain ⟨LT, LM, hQ⟩ := h
  unfold sp_arrow at k
  have hl := hQ.1.1.1.2.2.2.2.2.1
  refine g_K_arrow (c_Nu_placeOf_2 hQ.1.2.2.1 hl (fun i x ex hx => ?_) (fun ex => ?_))
  · rw [ex] at k
    refine c_Nu_placeOf_2 hQ.1.2.2.1 hl (fun j y ey hy => ?_) (fun ey => ?_)
    · rw [ey] at k
      refine c_Ty_store (t := fo_ar x y) (s := 3) hQ.1.1 (Or.inr ⟨x, y, rfl, rfl, hx, hy⟩) (fo_tw_ar (hQ.1.1.1.2.2.2.1 x (rp_mem hx)).1 (hQ.1.1.1.2.2.2.1 y (rp_mem hy)).1) (fun r S1 LT1 s1 p1 f1 e1 => ?_)
      refine k_ansT hQ s1 p1 (List.prefix_refl _) (rc_FB_c (rc_FC_of (rc_FM_of f1))) (ch_Z_fm hQ.2.2.1 (rc_FM_of f1)) ?_ k
      rcases e1 with ⟨i, hi, e, m⟩ | ⟨rfl, n⟩
      · exact Or.inl ⟨i, hi, e, m⟩
      · exact Or.inr ⟨kn_m1lt, n⟩
    · rw [ey] at k
      exact c_Ty_store_no (Or.inr kn_m1lt) (k_refT hQ k)
  · rw [ex] at k
    refine c_Nu_placeOf_2 hQ.1.2.2.1 hl (fun j y ey hy => ?_) (fun ey => ?_)
    · exact c_Ty_store_no (Or.inl kn_m1lt) (k_refT hQ k)
    · exact c_Ty_store_no (Or.inl kn_m1lt) (k_refT hQ k)
theorem k_variable {a b : Int32} (h : rc_R S M τ) (k : ∀ S', rc_R S' (sp_variable M a b).2 τ → rc_Fx S S' → F (sp_variable M a b).1 S') : kK (d + 4) m_K_variable [.inr 0, .inl a, .inl b] S (kq F) := by
  obtain ⟨LT, LM, hQ⟩ := h
  unfold sp_variable at k
  have hl := hQ.1.1.1.2.2.2.2.2.1
  refine g_K_variable ⟨fun e => ?_, fun e => ⟨fun e2 => ?_, fun e2 => ?_⟩⟩
  · rw [if_pos e] at k
    exact k S ⟨LT, LM, hQ⟩ rc_Fx_rf
  · rw [if_neg e, if_pos e2] at k
    obtain ⟨n, hn, rfl⟩ := (kn_of a).resolve_left e
    have hn8 := (kn_lt (m := 8) hn (by decide)).mp e2
    rw [kn_tn hn] at k
    refine c_Nu_placeOf_2 hQ.1.2.2.1 hl (fun j y ey hy => ?_) (fun ey => ?_)
    · rw [ey] at k
      refine c_Te_store (t := fo_lf 0 n y) (s := 0) (a := n) (b := 0) hQ.1.1 ⟨hy, Or.inl ⟨y, rfl, rfl, by omega, by omega⟩⟩ ⟨[], fo_wf_lf ⟨(hQ.1.1.1.2.2.2.1 y (rp_mem hy)).1, Or.inl ⟨rfl, hn8⟩⟩⟩ (fun r S1 LM1 s1 p1 f1 e1 => ?_)
      exact k_ansM hQ s1 (List.prefix_refl _) p1 (rc_FB_c (rc_FC_of f1)) (ch_Z_fm hQ.2.2.1 f1) e1 k
    · rw [ey] at k
      exact c_Te_store_no kn_m1lt (k_refM hQ hQ.1.1 (List.prefix_refl _) (List.prefix_refl _) rc_FB_rf hQ.2.2.1 k)
  · rw [if_neg e, if_neg e2] at k
    exact k S ⟨LT, LM, hQ⟩ rc_Fx_rf
theorem k_equality {a : Int32} (h : rc_R S M τ) (k : ∀ S', rc_R S' (sp_equality M a).2 τ → rc_Fx S S' → F (sp_equality M a).1 S') : kK (d + 4) m_K_equality [.inr 0, .inl a] S (kq F) := by
  obtain ⟨LT, LM, hQ⟩ := h
  unfold sp_equality at k
  refine g_K_equality (c_Nu_placeOf_2 hQ.1.2.2.1 hQ.1.1.1.2.2.2.2.2.1 (fun j y ey hy => ?_) (fun ey => ?_))
  · rw [ey] at k
    exact c_Te_equalityOf hQ.1.1 hy (fun r S1 LT1 LM1 g1 e1 => k_ansM hQ g1.1 g1.2.1 g1.2.2.1 (rc_FB_c (rc_FC_of g1.2.2.2)) (ch_Z_fm hQ.2.2.1 g1.2.2.2) e1 k)
  · rw [ey] at k
    exact c_Te_equalityOf_no kn_m1lt (k_refM hQ hQ.1.1 (List.prefix_refl _) (List.prefix_refl _) rc_FB_rf hQ.2.2.1 k)
theorem k_apply {a b : Int32} (h : rc_R S M τ) (hok : sp_ok (sm_nM M) (sm_F M)) (k : ∀ S', rc_R S' (sp_apply M a b).2 τ → rc_Fx S S' → F (sp_apply M a b).1 S') : kK (d + 4) m_K_apply [.inr 0, .inl a, .inl b] S (kq F) := by
  obtain ⟨LT, LM, hQ⟩ := h
  unfold sp_apply at k
  have hl := hQ.1.1.1.2.2.2.2.2.2.1
  have ref : (∀ S', rc_R S' M τ → rc_Fx S S' → F (-1) S') → kK (d + 3) m_K_answeredTerm [.inr 0, .inl (-1)] S (kq F) := fun kk => k_refM hQ hQ.1.1 (List.prefix_refl _) (List.prefix_refl _) rc_FB_rf hQ.2.2.1 kk
  refine g_K_apply (c_Nu_placeOf_11 hQ.1.2.2.2 hl (fun i x ex hx => ?_) (fun ex => ?_))
  · rw [ex] at k
    refine c_Nu_placeOf_11 hQ.1.2.2.2 hl (fun j y ey hy => ?_) (fun ey => ?_)
    · rw [ey] at k
      by_cases hB : ∃ B, fo_ty x = fo_ar (fo_ty y) B
      · have k : ∀ S', rc_R S' (sp_mkM M (fo_ap x y)).2 τ → rc_Fx S S' → F (sp_mkM M (fo_ap x y)).1 S' := by
          have := sp_ite_pos (x := sp_mkM M (fo_ap x y)) (y := (-1, M)) hB
          simp only [sp_b1] at k
          rw [this] at k
          exact k
        obtain ⟨B, hB⟩ := hB
        exact c_Te_application hQ.1.1 hx hy ⟨[], fo_wf_ap (hok.1 x (sp_at_mem ex)) (hok.1 y (sp_at_mem ey)) hB⟩ (fun r S1 LM1 g1 e1 => k_ansM hQ g1.1 g1.2.1 g1.2.2.1 (rc_FB_c (rc_FC_of g1.2.2.2)) (ch_Z_fm hQ.2.2.1 g1.2.2.2) e1 k)
      · simp only [sp_b1] at k
        rw [sp_ite_neg hB] at k
        exact c_Te_application_un hQ.1.1 hx hy (fun B e => hB ⟨B, e⟩) (ref k)
    · rw [ey] at k
      exact c_Te_application_no (Or.inr kn_m1lt) (ref k)
  · rw [ex] at k
    refine c_Nu_placeOf_11 hQ.1.2.2.2 hl (fun j y ey hy => ?_) (fun ey => ?_)
    · exact c_Te_application_no (Or.inl kn_m1lt) (ref k)
    · exact c_Te_application_no (Or.inl kn_m1lt) (ref k)
theorem k_lambda {a b : Int32} (h : rc_R S M τ) (hok : sp_ok (sm_nM M) (sm_F M)) (hτ : τ + 1 < 8388608) (k : ∀ S' τ', rc_R S' (sp_lambda M a b).2 τ' → τ' ≤ τ + 1 → rc_Fx S S' → F (sp_lambda M a b).1 S') : kK (d + 67) m_K_lambda [.inr 0, .inl a, .inl b] S (kq F) := by
  obtain ⟨LT, LM, hQ⟩ := h
  unfold sp_lambda at k
  have hl := hQ.1.1.1.2.2.2.2.2.2.1
  have ref : (∀ S' τ', rc_R S' M τ' → τ' ≤ τ + 1 → rc_Fx S S' → F (-1) S') → kK (d + 66) m_K_answeredTerm [.inr 0, .inl (-1)] S (kq F) := fun kk => k_refM hQ hQ.1.1 (List.prefix_refl _) (List.prefix_refl _) rc_FB_rf hQ.2.2.1 (fun S' r f => kk S' τ r (by omega) f)
  refine g_K_lambda (c_Nu_placeOf_11 hQ.1.2.2.2 hl (fun i x ex hx => ?_) (fun ex => ?_))
  · rw [ex] at k
    refine c_Nu_placeOf_11 hQ.1.2.2.2 hl (fun j y ey hy => ?_) (fun ey => ?_)
    · rw [ey] at k
      simp only [sp_b1] at k
      by_cases hv : ∃ n A, x = fo_lf 0 n A
      · rw [sp_ite_pos hv] at k
        obtain ⟨n, A, rfl⟩ := hv
        exact c_Ch_abstracted hQ.1.1 hQ.2.2.1 hτ hx hy (hok.1 y (sp_at_mem ey)) (fun r S1 LT1 LM1 s1 p1 p2 f1 z1 e1 => k_ansM hQ s1 p1 p2 f1 z1 e1 (fun S' r f => k S' _ r (Nat.le_refl _) f))
      · rw [sp_ite_neg hv] at k
        exact c_Ch_abstracted_nv hQ.1.1 hx hv (ref k)
    · rw [ey] at k
      by_cases hv : ∃ n A, x = fo_lf 0 n A
      · obtain ⟨n, A, rfl⟩ := hv
        exact c_Ch_abstracted_no hQ.1.1 hQ.2.2.1 hτ hx kn_m1lt (fun S1 s1 f1 z1 => k_refM hQ s1 (List.prefix_refl _) (List.prefix_refl _) f1 z1 (fun S' r f => k S' _ r (Nat.le_refl _) f))
      · exact c_Ch_abstracted_nv hQ.1.1 hx hv (ref k)
  · rw [ex] at k
    refine c_Nu_placeOf_11 hQ.1.2.2.2 hl (fun j y ey hy => ?_) (fun ey => ?_)
    · exact c_Ch_abstracted_nx kn_m1lt (ref k)
    · exact c_Ch_abstracted_nx kn_m1lt (ref k)
end KPUB
