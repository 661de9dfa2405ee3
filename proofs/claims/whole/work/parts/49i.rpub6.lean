/-! ===== THE REFERENCE: defineType ===== -/
section JPUB6
variable {d : Nat} {S : kS} {M : kO} {LT LM : List kF} {F : Int32 → kS → Prop}
theorem rm_dt_end {S1 : kS} {LT1 LM1 : List kF} {b : Bool} {f1 x y : kF} {r0 r12 r13 : Int32} (h : rr_Q S M LT LM) (ho : rr_O S LT LM (sm_F M)) (J : rr_J S LT LM (sm_nT M) (sm_nM M) (sp_g2 f1 (sp_eq x y)) S1 LT1 LM1 b) (v12 : rr_v LM1 250 b f1 r12) (vx : rr_v LM1 250 b x r0) (vy : rr_v LM1 250 b y r13) (wx : fo_wf [] x) (wy : fo_wf [] y) (et : fo_ty x = fo_ty y) (hl : (sm_F M).length + 2 ≤ 60)
    (k1 : ∀ S7 LT2 LM2, rr_S S7 LT2 LM2 (sm_nT M) (sm_nM M) → rr_A S7 LM2 (sm_F M ++ [(f1, [])] ++ [(sp_eq x y, [])]) → LT <+: LT2 → LM <+: LM2 → rr_FR S S7 → fo_mn LT LM LT2 LM2 (sp_g2 f1 (sp_eq x y)) → f1 ∈ LM2 → sp_eq x y ∈ LM2 → F (kn (sm_F M).length) (ku (ku S7 39 19 ((S7 39 19) + 1)) 39 18 ((S7 39 18) + 2)))
    (k2 : ∀ S7, rr_Q S7 M LT LM → rr_Fx S S7 → fo_no LT LM (sp_g2 f1 (sp_eq x y)) → F (-1) S7) :
    kK (d + 3) m_Mo_equation [.inr 39, .inl r0, .inl r13] S1 (kq fun r2 S1 =>
    kK (d + 3) m_Mo_fact [.inr 39, .inl r12] (ku S1 39 24 0) (kq fun r4 S3 =>
      kK (d + 3) m_Mo_fact [.inr 39, .inl r2] S3 (kq fun r6 S5 =>
        kK (d + 3) m_Mo_stays [.inr 39] S5 (kq fun r8 S7 =>
          (r8 = 0 →
            F ((-1)) S7) ∧
          (¬ (r8 = 0) →
            (0 ≤ r6 →
              F r4 (ku (ku S7 39 19 ((S7 39 19) + 1)) 39 18 ((S7 39 18) + 2))) ∧
            (¬ (0 ≤ r6) →
              F ((-1)) S7)))))) := by
  refine rm_eqn J vx vy (fun _ => ⟨[], wx, wy⟩) (fun _ => et) (fun U V hc hg => hg.2) (fun r8 S8 LT8 LM8 b8 J8 p8 p8' f8 q8 i8 v8 => ?_)
  have fr : ∀ o j, ¬ (o = 39 ∧ j = 24) → ku S8 39 24 0 o j = S8 o j := fun o j ho => ku_ne ho
  have A8 := rr_A_fc h.2.1 J8.2.2.2.1 J8.2.2.2.2.1
  have hz : rz S LT LM (sm_nT M) (sm_nM M) (sp_g2 f1 (sp_eq x y)) (sm_F M) (ku S8 39 24 0) LT8 LM8 b8 [] [] := by
    refine ⟨⟨rr_S_fr J8.1 (fun o i ho => fr o i (by omega)), (fr _ _ (by omega)).trans J8.2.1, J8.2.2.1, J8.2.2.2.1, rr_FC_rf, J8.2.2.2.2.2.1, J8.2.2.2.2.2.2⟩, rr_FR_tr (rr_FR_c J8.2.2.2.2.1) (fun o i ho => fr o i (fun e => ho (by unfold rr_cr; omega))), rr_A_fr A8 (fun o i ho => fr o i (by omega)), ⟨0, by omega, ku_self⟩, fun _ => ⟨ku_self, ⟨by simp, List.nodup_nil, fun i h e => by simp at e⟩, fun l => rfl⟩⟩
  refine rm_fact hz (rr_v_gr v12 p8' i8) (fun U V hg => by omega) (fun hb h60 S9 J9 f9 A9 D9 => ?_) (fun S9 n9 J9 f9 A9 => ?_)
  · have hz9 : rz S LT LM (sm_nT M) (sm_nM M) (sp_g2 f1 (sp_eq x y)) (sm_F M ++ [(f1, [])]) S9 LT8 LM8 false [] [] := ⟨J9, f9, A9, ⟨0, by omega, D9.1⟩, fun _ => ⟨D9.1, D9.2, fun l => rfl⟩⟩
    have hl9 : (sm_F M ++ [(f1, [])]).length = (sm_F M).length + 1 := by rw [List.length_append, List.length_singleton]
    subst hb
    refine rm_fact hz9 v8 (fun U V hg => by omega) (fun _ h60 S10 J10 f10 A10 D10 => ?_) (fun S10 n10 J10 f10 A10 => ?_)
    · obtain ⟨i1, hi1, _⟩ := v12.2 (i8 rfl)
      obtain ⟨i2, hi2, _⟩ := v8.2 rfl
      refine rm_stays_yes J10.2.1 ⟨fun e => absurd e (by decide), fun _ => ⟨fun _ => ?_, fun e => absurd (kn_ge (by omega)) e⟩⟩
      exact k1 S10 LT8 LM8 J10.1 A10 J10.2.2.1 J10.2.2.2.1 f10 (J10.2.2.2.2.2.1 rfl) (rp_mem (rp_pre p8' hi1)) (rp_mem hi2)
    · exact rm_stays_no h ho J10.1 J10.2.2.1 J10.2.2.2.1 A10 ⟨_, rfl⟩ (rr_Fk_r f10) (by rw [J10.2.1]; decide) (fun S11 q11 f11 => ⟨fun _ => k2 S11 q11 f11 n10, fun e => absurd rfl e⟩)
  · refine rm_fact_bad (by rw [J9.2.1]; decide) ?_
    have g9 : ∀ o j, ¬ (o = 39 ∧ j = 33) → ku S9 39 33 1 o j = S9 o j := fun o j ho => ku_ne ho
    exact rm_stays_no h ho (rr_S_fr J9.1 (fun o i ho => g9 o i (by omega))) J9.2.2.1 J9.2.2.2.1 (rr_A_fr A9 (fun o i ho => g9 o i (by omega))) (List.prefix_refl _) (fun o i hc => (g9 o i (by unfold rr_ck at hc; omega)).trans (rr_Fk_r f9 o i hc)) (by rw [ku_self]; decide) (fun S11 q11 f11 => ⟨fun _ => k2 S11 q11 f11 n9, fun e => absurd rfl e⟩)
end JPUB6
