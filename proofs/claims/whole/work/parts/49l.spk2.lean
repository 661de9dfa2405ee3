theorem sk_defineType {M : kO} {a : Int32} (h : sp_kM M) : sp_kM (sp_defineType M a).2 := sk_b1 h (fun q hq => sk_b1 h (fun px hpx => sk_ite (fun hc => by
  obtain ⟨haf, hgn, hnil, hd3, hc8, hl, _⟩ := hc
  have wq := h.1.2 q (sp_at_mem hq)
  have wpx := wq.1
  have ebool := wq.2.1
  rw [sk_fa hpx] at wpx ebool
  obtain ⟨wp, wx, ety⟩ := fo_wf_iap wpx
  rw [ebool] at ety
  have hg : fo_gt (fo_ty px.2) = false := by
    have := fo_gn_ty wp hgn
    rw [ety, fo_gt_ar, Bool.or_eq_false_iff] at this
    exact this.1
  have wA : fo_tw (fo_ty px.2) := fo_wf_ty wx
  have wT : fo_tw (fo_tb (6 + sm_d M)) := fo_tw_tb (by omega)
  have gT : fo_gt (fo_tb (6 + sm_d M)) = false := by
    cases e : fo_gt (fo_tb (6 + sm_d M)) with
    | false => rfl
    | true => have := fo_gt_tb_iff.mp e; omega
  refine ⟨⟨h.1.1, fun w hw => ?_⟩, h.2⟩
  have hw : w ∈ sm_F M ++ [(sp_f1 (sm_c M) (fo_ty px.2) (fo_tb (6 + sm_d M)), []), (sp_f2 (sm_c M) (fo_ty px.2) (fo_tb (6 + sm_d M)) px.1, [])] := hw
  generalize fo_tb (6 + sm_d M) = T at wT gT hw
  generalize fo_ty px.2 = A at ety hg wA hw
  have gAT : fo_gt (fo_ar A T) = false := by rw [fo_gt_ar, hg, gT]; rfl
  have gTA : fo_gt (fo_ar T A) = false := by rw [fo_gt_ar, hg, gT]; rfl
  have wup : fo_wf [] (sp_up (sm_c M) A T) := fo_wf_lf ⟨fo_tw_ar wA wT, Or.inr (Or.inr (Or.inl ⟨rfl, by omega, gAT⟩))⟩
  have wdn : fo_wf [] (sp_up (sm_c M + 1) T A) := fo_wf_lf ⟨fo_tw_ar wT wA, Or.inr (Or.inr (Or.inl ⟨rfl, by omega, gTA⟩))⟩
  have wv : fo_wf [] (fo_lf 0 0 T) := fo_wf_lf ⟨wT, Or.inl ⟨rfl, by omega⟩⟩
  have ww : fo_wf [] (fo_lf 0 0 A) := fo_wf_lf ⟨wA, Or.inl ⟨rfl, by omega⟩⟩
  have w16 : fo_wf [] (fo_ap (sp_up (sm_c M + 1) T A) (fo_lf 0 0 T)) := fo_wf_ap wdn wv rfl
  have w18 : fo_wf [] (fo_ap (sp_up (sm_c M) A T) (fo_ap (sp_up (sm_c M + 1) T A) (fo_lf 0 0 T))) := fo_wf_ap wup w16 rfl
  have w22 : fo_wf [] (fo_ap (sp_up (sm_c M) A T) (fo_lf 0 0 A)) := fo_wf_ap wup ww rfl
  have w24 : fo_wf [] (fo_ap (sp_up (sm_c M + 1) T A) (fo_ap (sp_up (sm_c M) A T) (fo_lf 0 0 A))) := fo_wf_ap wdn w22 rfl
  have w26 : fo_wf [] (sp_eq (fo_ap (sp_up (sm_c M + 1) T A) (fo_ap (sp_up (sm_c M) A T) (fo_lf 0 0 A))) (fo_lf 0 0 A)) := (sp_eq_wf w24 ww rfl).2
  have w31 : fo_wf [] (fo_ap px.1 (fo_lf 0 0 A)) := fo_wf_ap wp ww ety
  have t31 : fo_ty (fo_ap px.1 (fo_lf 0 0 A)) = fo_tb 0 := by rw [fo_ty_ap, ety, fo_cod_ar]
  rcases List.mem_append.mp hw with hw | hw
  · exact h.1.2 w hw
  · rcases List.mem_cons.mp hw with hw | hw
    · rw [hw]
      exact ⟨(sp_eq_wf w18 wv rfl).2, rfl, fun z hz => by cases hz⟩
    · rw [List.mem_singleton] at hw
      rw [hw]
      exact ⟨(sp_eq_wf w31 w26 t31).2, rfl, fun z hz => by cases hz⟩) h))
/-- both sides, at rest, at the same M -/
def kBoth (S : kS) (M : kO) (τ : Nat) : Prop := rc_R S M τ ∧ rr_R S M ∧ sp_kM M
theorem rr_R_x {S S' : kS} {M : kO} (h : rr_R S M) (f : rc_Fx S S') : rr_R S' M := by
  obtain ⟨LT, LM, hQ⟩ := h
  exact ⟨LT, LM, rr_Q_fr hQ (fun o i ho => f o i (by omega))⟩
/-- a call of the reference leaves the class at rest -/
theorem rc_R_x {S S' : kS} {M : kO} {τ : Nat} (h : rc_R S M τ) (f : rr_Fx S S') : rc_R S' M τ := by
  obtain ⟨LT, LM, hW, hK, hZ, hT, hM, hX⟩ := h
  exact ⟨LT, LM, rc_W_fr hW (fun o i ho => f o i (by omega)), rc_K_fr hK (f _ _ (by decide)) (f _ _ (by decide)) (f _ _ (by decide)), ch_Z_fr hZ (f _ _ (by decide)) (fun _ => f _ _ (by decide)) (fun _ => f _ _ (by decide)), hT, hM, rc_X_fr hX (fun o i ho => f _ _ (by omega))⟩
