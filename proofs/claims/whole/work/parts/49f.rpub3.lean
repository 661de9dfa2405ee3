/-! ===== THE REFERENCE: its calls (part, define) ===== -/
section JPUB3
variable {d : Nat} {S : kS} {M : kO} {F : Int32 → kS → Prop}
theorem j_part {a b : Int32} (h : rr_R S M) (k : ∀ S', rr_R S' (sp_part M a b).2 → rr_Fx S S' → F (sp_part M a b).1 S') : kK (d + 2) m_Mo_part [.inr 39, .inl a, .inl b] S (kq F) := by
  have hR := h
  obtain ⟨LT, LM, hQ⟩ := h
  unfold sp_part at k
  refine g_Mo_part (rm_isTerm hQ.1 hQ.2.2.2.1 (fun n t ea hn hat => ⟨fun e => absurd e (by decide), fun _ => ?_⟩) (fun e => ⟨fun _ => ?_, fun z => absurd rfl z⟩))
  · rw [hat] at k
    simp only [sp_b1] at k
    subst ea
    obtain ⟨ln, i, li, hi, ei⟩ := rr_nM hQ.1 hn
    obtain ⟨e47, h6, _⟩ := rr_so hQ.1 hi
    obtain ⟨Γ, wt⟩ := rr_wf hQ.1 hi
    have hin : vp_in (kn i) 250 := kn_in li (by decide)
    have hin2 : vp_in (kn n) 250 := kn_in ln (by decide)
    have b01 : ¬ b < 0 → b ≤ 1 → b = 0 ∨ b = 1 := by
      intro e1 e2
      obtain ⟨m, hm, rfl⟩ := (kn_of b).resolve_left e1
      have := (kn_le (m := 1) hm (by decide)).mp e2
      have : m = 0 ∨ m = 1 := by omega
      rcases this with rfl | rfl
      · exact Or.inl rfl
      · exact Or.inr rfl
    rw [kn_tn (by omega), ei, kn_tn (by omega), e47]
    rcases fo_wf_cases wt with ⟨s, j, A, rfl, hlo⟩ | ⟨f, x, B, rfl, wf, wx, ety⟩ | ⟨A, y, rfl, _⟩
    · have eso : fo_so (fo_lf s j A) = s := rfl
      rw [eso] at k h6 ⊢
      by_cases hs : s = 0 ∨ s = 2
      · rw [if_pos hs] at k
        have e48 : S 48 i = kn j := ((hQ.1.2.2.2.2.1 i _ hi).2.2.1 s j A rfl (by omega)).2.1
        rw [e48]
        have n3 : ¬ kn s = 3 := fun z => by have := kn_inj (m := 3) (by omega) (by decide) z; omega
        have bad : ¬ b = 0 → F (-1) S := fun e => by
          rw [if_neg e] at k
          exact k S hR rr_Fx_rf
        have good : b = 0 → F (kn j) S := fun e => by
          rw [if_pos e] at k
          exact k S hR rr_Fx_rf
        refine ⟨fun e => bad (fun z => by rw [z] at e; exact absurd e (by decide)), fun e => ⟨fun e2 => ⟨hin2, hin, fun _ => ⟨fun e3 => bad e3, fun e3 => ⟨hin, fun _ => ⟨hin, good (Classical.not_not.mp e3)⟩, fun e4 => ⟨hin, fun e5 => ?_, fun _ => ⟨hin, good (Classical.not_not.mp e3)⟩⟩⟩⟩, fun z => absurd n3 z⟩, fun e2 => bad (fun z => by rw [z] at e2; exact absurd (by decide) e2)⟩⟩
        rcases hs with hs | hs
        · exact absurd (by rw [hs]; rfl) e4
        · exact absurd (by rw [hs]; rfl) e5
      · rw [if_neg hs] at k
        have bad : F (-1) S := k S hR rr_Fx_rf
        have hlo2 := fo_so_le wt
        have n3 : ¬ kn s = 3 := fun z => by
          have := kn_inj (m := 3) (by omega) (by decide) z
          obtain ⟨f, x, w⟩ := fo_so_3 wt this
          exact fo_ap_lf w.symm
        exact ⟨fun _ => bad, fun e => ⟨fun e2 => ⟨hin2, hin, fun _ => ⟨fun _ => bad, fun e3 => ⟨hin, fun e4 => absurd (Or.inl (kn_inj (m := 0) (by omega) (by decide) e4)) hs, fun e4 => ⟨hin, fun _ => bad, fun e5 => absurd (Or.inr (kn_inj (m := 2) (by omega) (by decide) (Classical.not_not.mp e5))) hs⟩⟩⟩, fun z => absurd n3 z⟩, fun _ => bad⟩⟩
    · have eso : fo_so (fo_ap f x) = 3 := rfl
      rw [eso] at k ⊢
      rw [if_neg (by omega)] at k
      have k : ∀ S', rr_R S' (if b = 0 then sp_numM M f else if b = 1 then sp_numM M x else (-1, M)).2 → rr_Fx S S' → F (if b = 0 then sp_numM M f else if b = 1 then sp_numM M x else (-1, M)).1 S' := k
      obtain ⟨_, p, q, _, _, hp, hq, e48, e49⟩ := (hQ.1.2.2.2.2.1 i _ hi).2.2.2.2.1 f x rfl
      rw [e48, e49]
      have bad : ¬ b = 0 → ¬ b = 1 → F (-1) S := fun e e2 => by
        rw [if_neg e, if_neg e2] at k
        exact k S hR rr_Fx_rf
      refine ⟨fun e => bad (fun z => by rw [z] at e; exact absurd e (by decide)) (fun z => by rw [z] at e; exact absurd e (by decide)), fun e => ⟨fun e2 => ⟨hin2, hin, fun z => absurd rfl z, fun _ => ⟨fun e3 => ⟨hin, ?_⟩, fun e3 => ⟨hin, ?_⟩⟩⟩, fun e2 => bad (fun z => by rw [z] at e2; exact absurd (by decide) e2) (fun z => by rw [z] at e2; exact absurd (by decide) e2)⟩⟩
      · rw [if_neg e3, if_pos ((b01 e e2).resolve_left e3)] at k
        exact rm_numM hQ hq (fun S' q f => k S' ⟨LT, LM, q⟩ f)
      · rw [if_pos (Classical.not_not.mp e3)] at k
        exact rm_numM hQ hp (fun S' q f => k S' ⟨LT, LM, q⟩ f)
    · have eso : fo_so (fo_ab A y) = 4 := rfl
      rw [eso] at k ⊢
      rw [if_neg (by omega)] at k
      have bad : F (-1) S := k S hR rr_Fx_rf
      exact ⟨fun _ => bad, fun e => ⟨fun e2 => ⟨hin2, hin, fun _ => ⟨fun _ => bad, fun e3 => ⟨hin, fun e4 => absurd e4 (by decide), fun e4 => ⟨hin, fun _ => bad, fun e5 => absurd (by decide) e5⟩⟩⟩, fun z => absurd (by decide) z⟩, fun _ => bad⟩⟩
  · rw [e] at k
    exact k S hR rr_Fx_rf
theorem rr_Q_c {S S' : kS} {M : kO} {LT LM : List kF} {n : Nat} (h : rr_Q S M LT LM) (f : ∀ o i, ¬ (o = 39 ∧ i = 18) → S' o i = S o i) (e : S' 39 18 = kn n) (hn : n ≤ 8) : rr_Q S' (sm_T M, sm_M M, sm_nT M, sm_nM M, sm_F M, n, sm_d M, sm_L M) LT LM := by
  obtain ⟨hS, hA, h8, h17, hT, hM, x1, x2, x3, x4, x5, x6, x7⟩ := h
  refine ⟨rr_S_fr hS (fun o i ho => f o i (by omega)), rr_A_fr hA (fun o i ho => f o i (by omega)), (f _ _ (by omega)).trans h8, (f _ _ (by omega)).trans h17, hT, hM, e, (f _ _ (by omega)).trans x2, hn, x4, (f _ _ (by omega)).trans x5, x6, fun i o a b c w => ?_⟩
  rw [f _ _ (by omega), f _ _ (by omega), f _ _ (by omega), f _ _ (by omega)]
  exact x7 i o a b c w
theorem j_define {a : Int32} (h : rr_R S M) (hok : sp_kM M) (k : ∀ S', rr_R S' (sp_define M a).2 → rr_Fx S S' → F (sp_define M a).1 S') : kK (d + 4) m_Mo_define [.inr 39, .inl a] S (kq F) := by
  have hR := h
  obtain ⟨LT, LM, hQ⟩ := h
  have h18 := hQ.2.2.2.2.2.2.1
  have h8 := hQ.2.2.2.2.2.2.2.2.1
  have h60 := hQ.2.1.2.1
  unfold sp_define at k
  refine g_Mo_define (rm_isTerm hQ.1 hQ.2.2.2.1 (fun n t ea hn hat => ⟨fun e => absurd e (by decide), fun _ => ?_⟩) (fun e => ⟨fun _ => ?_, fun z => absurd rfl z⟩))
  · rw [hat] at k
    simp only [sp_b1] at k
    subst ea
    have wt := hok.1.1 t (rp_mem hn)
    obtain ⟨ln, i, li, hi, ei⟩ := rr_nM hQ.1 hn
    rw [kn_tn (by omega), h18, hQ.2.1.1, ei]
    refine ⟨fun e => ?_, fun e => ⟨fun e2 => ?_, fun e2 => ⟨kn_in ln (by decide), rm_closed hQ.1 hi (fun haf hgn S3 f3 => ⟨fun _ => ?_, fun z => absurd (by decide) z⟩) (fun hf S3 f3 => ⟨fun z => absurd rfl z, fun _ => ?_⟩)⟩⟩⟩
    · have := kn_inj (m := 8) (by omega) (by decide) e
      rw [sp_ite_neg (fun z => by have := z.2.2; omega)] at k
      exact k S hR rr_Fx_rf
    · have e60 := kn_inj (m := 60) (by omega) (by decide) e2
      by_cases hc : fo_af t = false ∧ fo_gn t = false ∧ sm_c M < 8
      · rw [sp_ite_pos hc] at k
        have : sp_ru M (some (sp_eq (fo_lf 2 (sm_c M) (fo_ty t)) t, [])) = none := sp_if_neg (fun z => by have := z.2.1; omega)
        rw [this] at k
        exact k S hR rr_Fx_rf
      · rw [sp_ite_neg hc] at k
        exact k S hR rr_Fx_rf
    · have hc8 : sm_c M < 8 := by
        have : sm_c M ≠ 8 := fun z => e (by rw [z]; rfl)
        omega
      rw [sp_ite_pos ⟨haf, hgn, hc8⟩] at k
      have hg := fo_gn_ty wt hgn
      have w0 : fo_wf [] (fo_lf 2 (sm_c M) (fo_ty t)) := fo_wf_lf ⟨fo_wf_ty wt, Or.inr (Or.inr (Or.inl ⟨rfl, hc8, hg⟩))⟩
      have hQ3 : rr_Q S3 M LT LM := rr_Q_fr hQ (fun o i ho => f3 o i (by omega))
      refine rm_begin hQ3 (fun S5 q5 z5 o5 f5 => ?_)
      obtain ⟨_, i', _, hi', ei'⟩ := rr_nM q5.1 hn
      have : i' = i := fo_ix q5.1.1.2.1 hi' hi
      subst this
      obtain ⟨_, ⟨y, hy, ey⟩, _⟩ := q5.1.2.2.2.2.1 i' _ hi
      rw [ei', kn_tn (by omega), ey, q5.2.2.2.2.2.2.1]
      have hc : ∀ o : Option kQ, o = some (sp_eq (fo_lf 2 (sm_c M) (fo_ty t)) t, []) → kK (d + 3) m_Mo_term [.inr 39, .inl 2, .inl (kn (sm_c M)), .inl 0, .inl (kn y)] S5 (kq fun r7 S6 =>
                  vp_in (kn n) 250 ∧
                  kK (d + 3) m_Mo_equation [.inr 39, .inl r7, .inl (S6 53 n)] S6 (kq fun r9 S8 =>
                    kK (d + 3) m_Mo_fact [.inr 39, .inl r9] (ku S8 39 24 0) (kq fun r11 S10 =>
                      kK (d + 3) m_Mo_stays [.inr 39] S10 (kq fun r13 S12 =>
                        (¬ r13 = 0 →
                          F r11 (ku S12 39 18 ((S12 39 18) + 1))) ∧
                        (¬ (¬ r13 = 0) →
                          F ((-1)) S12))))) := by
        intro o ho
        refine rm_term (t := fo_lf 2 (sm_c M) (fo_ty t)) (s := 2) (a := sm_c M) (c := 0) (g := rd_g o (sm_F M).length) (rr_J_0 q5 z5) (by decide) (by omega) (by decide) (fun _ => ⟨y, rfl, ⟨hy, Or.inl ⟨_, rfl, rfl, by omega, by omega⟩⟩, [], w0⟩) (fun U V hcl hg => (hcl.2.2.1 _ _ (hcl.2.2.1 _ _ (rd_gi ho hg).1).1).2) (fun r6 S6 LM6 b6 J6 p6 f6 q6 i6 v6 => ⟨kn_in ln (by decide), ?_⟩)
        rw [q6 53 n (by omega), ei']
        refine rm_eqn J6 v6 (rr_v_of (rp_pre p6 hi) J6.1.1.2.2.2.2.2.2.1) (fun _ => ⟨[], w0, wt⟩) (fun _ => rfl) (fun U V hcl hg => (rd_gi ho hg).1) (fun r8 S8 LT8 LM8 b8 J8 p8 p8' f8 q8 i8 v8 => ?_)
        have fr : ∀ o j, ¬ (o = 39 ∧ j = 24) → ku S8 39 24 0 o j = S8 o j := fun o j ho => ku_ne ho
        have A8 := rr_A_fc q5.2.1 J8.2.2.2.1 J8.2.2.2.2.1
        have hz : rz S5 LT LM (sm_nT M) (sm_nM M) (rd_g o (sm_F M).length) (sm_F M) (ku S8 39 24 0) LT8 LM8 b8 [] [] := by
          refine ⟨⟨rr_S_fr J8.1 (fun o i ho => fr o i (by omega)), (fr _ _ (by omega)).trans J8.2.1, J8.2.2.1, J8.2.2.2.1, rr_FC_rf, J8.2.2.2.2.2.1, J8.2.2.2.2.2.2⟩, rr_FR_tr (rr_FR_c J8.2.2.2.2.1) (fun o i ho => fr o i (fun e => ho (by unfold rr_cr; omega))), rr_A_fr A8 (fun o i ho => fr o i (by omega)), ⟨0, by omega, ku_self⟩, fun _ => ⟨ku_self, ⟨by simp, List.nodup_nil, fun i h e => by simp at e⟩, fun l => rfl⟩⟩
        have fin : ∀ r S10, rd_Q S5 LT LM (sm_nT M) (sm_nM M) (sm_F M) o r S10 → kK (d + 3) m_Mo_stays [.inr 39] S10 (kq fun r13 S12 => (¬ r13 = 0 → F r (ku S12 39 18 ((S12 39 18) + 1))) ∧ (¬ (¬ r13 = 0) → F ((-1)) S12)) := by
          intro r S10 hP
          have fx5 : rr_Fx S S5 := fun o i ho => (f5 o i (by omega)).trans (f3 o i (by omega))
          obtain ⟨fr2, ⟨cc, raw, LT2, LM2, e, hr, h33, q2, p1, p2⟩ | ⟨e, hr, h33, LT2, LM2, s2, p1, p2, A2⟩⟩ := rd_step q5 hP
          · rw [ho] at e
            rw [e] at k
            refine rm_stays_yes h33 ⟨fun _ => ?_, fun z => absurd (by decide) z⟩
            have e18 : S10 39 18 = kn (sm_c M) := q2.2.2.2.2.2.2.1
            rw [hr, e18, kn_suc]
            exact k _ ⟨LT2, LM2, rr_Q_c q2 (fun o i ho => ku_ne ho) ku_self (by omega)⟩ (fun o i ho => (ku_ne (by omega)).trans ((rr_Fk_x (rr_Fk_r fr2) o i ho).trans (fx5 o i ho)))
          · rw [ho] at e
            rw [e] at k
            exact rm_stays_no q5 o5 s2 p1 p2 A2 (List.prefix_refl _) (rr_Fk_r fr2) h33 (fun S12 q12 f12 => ⟨fun z => absurd rfl z, fun _ => k S12 ⟨LT, LM, q12⟩ (rr_Fx_tr fx5 f12)⟩)
        refine rm_fact hz v8 (fun U V hg => (rd_gi ho hg).2.2.2) (fun hb h60 S10 J10 f10 A10 D10 => fin _ _ ⟨LT8, LM8, J10.1, J10.2.2.1, J10.2.2.2.1, f10, Or.inl ⟨_, [], [], ho, rfl, h60, rfl, A10, ?_, fun z hz => (by cases hz), ?_, J10.2.1⟩⟩) (fun S10 n10 J10 f10 A10 => fin _ _ ⟨LT8, LM8, J10.1, J10.2.2.1, J10.2.2.2.1, f10, Or.inr ⟨rfl, A10, n10, J10.2.1⟩⟩)
        · obtain ⟨j, hj, _⟩ := v8.2 hb
          exact rp_mem hj
        · exact fo_mn_1 (J10.2.2.2.2.2.1 rfl) (fun U V hc hg => ⟨_, ho, hg, rfl, h60⟩)
      exact ⟨kn_in ln (by decide), kn_in li (by decide), hc _ rfl⟩
    · rw [sp_ite_neg (fun z => hf ⟨z.1, z.2.1⟩)] at k
      exact k S3 ⟨LT, LM, rr_Q_fr hQ (fun o i ho => f3 o i (by omega))⟩ (fun o i ho => f3 o i (by omega))
  · rw [e] at k
    exact k S hR rr_Fx_rf
end JPUB3
