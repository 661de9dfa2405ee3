/-! ===== THE REFERENCE: defineType, as a whole ===== -/
section JPUB7
variable {d : Nat} {S : kS} {M : kO} {F : Int32 → kS → Prop}
set_option maxHeartbeats 2000000 in
theorem j_defineType {a : Int32} (h : rr_R S M) (hok : sp_kM M) (k : ∀ S', rr_R S' (sp_defineType M a).2 → rr_Fx S S' → F (sp_defineType M a).1 S') : kK (d + 5) m_Mo_defineType [.inr 39, .inl a] S (kq F) := by
  have hR := h
  obtain ⟨LT, LM, hQ⟩ := h
  have hX := hQ.2.2.2.2.2.2
  have h60 := hQ.2.1.2.1
  have h8 := hX.2.2.1
  have h3 := hX.2.2.2.1
  unfold sp_defineType at k
  refine g_Mo_defineType (fun G hG => rm_isFact hQ.2.1 (fun n q ea hn hat => ⟨fun e => absurd e (by decide), fun _ => ?_⟩) (fun e => ⟨fun _ => ?_, fun z => absurd rfl z⟩))
  · rw [hat] at k
    simp only [sp_b1] at k
    subst ea
    have wq := hok.1.2 q (List.mem_of_getElem? hn)
    obtain ⟨ln, ⟨i, hi, ei⟩, h12, e55, _⟩ := rr_fact hQ.2.1 hn
    obtain ⟨e47, h6, li⟩ := rr_so hQ.1 hi
    rw [kn_tn (by omega), e55, hX.1, hX.2.1, hQ.2.1.1, ei, kn_tn (by omega)]
    have hin : vp_in (kn i) 250 := kn_in li (by decide)
    have hin2 : vp_in (kn n) 60 := kn_in ln (by decide)
    have fail : (∀ px, sp_fa q.1 = some px → ¬ (fo_af px.1 = false ∧ fo_gn px.1 = false ∧ q.2 = [] ∧ sm_d M < 3 ∧ sm_c M + 2 ≤ 8 ∧ (sm_F M).length + 2 ≤ 60)) → ∀ S', rr_R S' M → rr_Fx S S' → F (-1) S' := by
      intro hno
      cases hfa : sp_fa q.1 with
      | none => rw [hfa] at k; exact k
      | some px =>
        rw [hfa] at k
        simp only at k
        rw [sp_ite_neg (fun z => hno px hfa ⟨z.1, z.2.1, z.2.2.1, z.2.2.2.1, z.2.2.2.2.1, z.2.2.2.2.2.1⟩)] at k
        exact k
    refine ⟨hin2, fun e => fail (fun px _ z => ?_) S hR rr_Fx_rf, fun e => ⟨fun e2 => fail (fun px _ z => ?_) S hR rr_Fx_rf, fun e2 => ⟨fun e3 => fail (fun px _ z => ?_) S hR rr_Fx_rf, fun e3 => ⟨fun e4 => ⟨hin2, hin, fun e5 => fail (fun px hpx _ => ?_) S hR rr_Fx_rf, fun e5 => ⟨hin, ?_⟩⟩, fun e4 => fail (fun px _ z => ?_) S hR rr_Fx_rf⟩⟩⟩⟩
    · rw [z.2.2.1] at e; exact absurd e (by decide)
    · have := kn_inj (m := 3) (by omega) (by decide) e2
      have := z.2.2.2.1
      omega
    · have := (kn_le (n := 7) (by decide) (by omega)).mp e3
      have := z.2.2.2.2.1
      omega
    · rcases fo_wf_cases wq.1 with ⟨s, m, A, z, _⟩ | ⟨f, x, _, z, _⟩ | ⟨A, b, z, _⟩
      · rw [z] at hpx; cases hpx
      · rw [z] at e47; exact e5 e47
      · rw [z] at hpx; cases hpx
    · obtain ⟨p, x, jp, jx, epx, hjp, hjx, e48, e49, _, _⟩ := rr_ap hQ.1 hi (Classical.not_not.mp e5)
      have hfa : sp_fa q.1 = some (p, x) := by rw [epx]; rfl
      rw [hfa] at k
      simp only at k
      have hnil : q.2 = [] := by
        apply List.eq_nil_of_length_eq_zero
        have : ¬ 0 < q.2.length := fun z => e ((kn_lt (n := 0) (by decide) (by omega)).mpr z)
        omega
      have hd3 : sm_d M < 3 := by
        have : sm_d M ≠ 3 := fun z => e2 (by rw [z]; rfl)
        omega
      have hc8 : sm_c M + 2 ≤ 8 := by
        have : ¬ 7 ≤ sm_c M := fun z => e3 ((kn_le (n := 7) (by decide) (by omega)).mpr z)
        omega
      have hl58 : (sm_F M).length + 2 ≤ 60 := by
        have := (kn_lt (m := 59) (by omega) (by decide)).mp e4
        omega
      have wpx := wq.1
      rw [epx] at wpx
      obtain ⟨wp, wx, ety⟩ := fo_wf_iap wpx
      have ebool : fo_ty (fo_ap p x) = fo_tb 0 := by rw [← epx]; exact wq.2.1
      rw [ebool] at ety
      rw [e48]
      refine rm_closed hQ.1 hjp (fun haf hgn S3 f3 => ⟨fun _ => ?_, fun z => absurd (by decide) z⟩) (fun hf S3 f3 => ⟨fun z => absurd rfl z, fun _ => fail (fun px hpx z => ?_) S3 ⟨LT, LM, rr_Q_fr hQ (fun o i ho => f3 o i (by omega))⟩ (fun o i ho => f3 o i (by omega))⟩)
      · have hg : fo_gt (fo_ty x) = false := by
          have := fo_gn_ty wp hgn
          rw [ety, fo_gt_ar, Bool.or_eq_false_iff] at this
          exact this.1
        have hQ3 : rr_Q S3 M LT LM := rr_Q_fr hQ (fun o i ho => f3 o i (by omega))
        refine rm_begin hQ3 (fun S5 q5 z5 o5 f5 => ?_)
        have lx := (rr_so hQ.1 hjx).2.2
        have g48 : S5 48 i = kn jp := (f5 _ _ (by omega)).trans ((f3 _ _ (by omega)).trans e48)
        have g49 : S5 49 i = kn jx := (f5 _ _ (by omega)).trans ((f3 _ _ (by omega)).trans e49)
        obtain ⟨_, ⟨ya, hya, eya⟩, _⟩ := q5.1.2.2.2.2.1 jx _ hjx
        rw [g48, g49, kn_tn (by omega), eya, q5.2.2.2.2.2.2.2.1]
        refine ⟨hin, hin, kn_in lx (by decide), ?_⟩
        generalize hA : fo_ty x = A at *
        have wA : fo_tw A := (q5.1.1.2.2.2.1 A (rp_mem hya)).1
        generalize hTT : fo_tb (6 + sm_d M) = T at k
        have wT : fo_tw T := by rw [← hTT]; exact fo_tw_tb (by omega)
        have gT : fo_gt T = false := by
          rw [← hTT]
          cases e : fo_gt (fo_tb (6 + sm_d M)) with
          | false => rfl
          | true => have := fo_gt_tb_iff.mp e; omega
        have gAT : fo_gt (fo_ar A T) = false := by rw [fo_gt_ar, hg, gT]; rfl
        have gTA : fo_gt (fo_ar T A) = false := by rw [fo_gt_ar, hg, gT]; rfl
        have wup : fo_wf [] (sp_up (sm_c M) A T) := fo_wf_lf ⟨fo_tw_ar wA wT, Or.inr (Or.inr (Or.inl ⟨rfl, by omega, gAT⟩))⟩
        have wdn : fo_wf [] (sp_up (sm_c M + 1) T A) := fo_wf_lf ⟨fo_tw_ar wT wA, Or.inr (Or.inr (Or.inl ⟨rfl, by omega, gTA⟩))⟩
        have wv : fo_wf [] (fo_lf 0 0 T) := fo_wf_lf ⟨wT, Or.inl ⟨rfl, by omega⟩⟩
        have ww : fo_wf [] (fo_lf 0 0 A) := fo_wf_lf ⟨wA, Or.inl ⟨rfl, by omega⟩⟩
        have w16 : fo_wf [] (fo_ap (sp_up (sm_c M + 1) T A) (fo_lf 0 0 T)) := fo_wf_ap wdn wv rfl
        have w18 : fo_wf [] (fo_ap (sp_up (sm_c M) A T) (fo_ap (sp_up (sm_c M + 1) T A) (fo_lf 0 0 T))) := fo_wf_ap wup w16 rfl
        have w22 : fo_wf [] (fo_ap (sp_up (sm_c M) A T) (fo_lf 0 0 A)) := fo_wf_ap wup ww rfl
        have w24 : fo_wf [] (fo_ap (sp_up (sm_c M + 1) T A) (fo_ap (sp_up (sm_c M) A T) (fo_lf 0 0 A))) := fo_wf_ap wdn w22 rfl
        have w26 : fo_wf [] (sp_eq (fo_ap (sp_up (sm_c M + 1) T A) (fo_ap (sp_up (sm_c M) A T) (fo_lf 0 0 A))) (fo_lf 0 0 A)) := (sp_eq_wf w24 ww rfl).2
        have w31 : fo_wf [] (fo_ap p (fo_lf 0 0 A)) := fo_wf_ap wp ww ety
        have t31 : fo_ty (fo_ap p (fo_lf 0 0 A)) = fo_tb 0 := by rw [fo_ty_ap, ety, fo_cod_ar]
        have need : ∀ U V, fo_Cl U V → sp_g2 (sp_f1 (sm_c M) A T) (sp_f2 (sm_c M) A T p) U V → _ := fun U V hcl hh => nt_need (U := U) (V := V) hcl hh
        have c18 : ∀ S' : kS, rr_FC S5 S' → S' 39 18 = kn (sm_c M) := fun S' f => (f _ _ (rr_ncm (by omega))).trans q5.2.2.2.2.2.2.1
        have J0 : rr_J S5 LT LM (sm_nT M) (sm_nM M) (sp_g2 (sp_f1 (sm_c M) A T) (sp_f2 (sm_c M) A T p)) S5 LT LM false := rr_J_0 q5 z5
        have vA : rr_v LT 50 false A (kn ya) := rr_v_of hya q5.1.1.2.2.2.2.2.1
        refine rm_type (t := T) (s := 3) (a := sm_d M) (c := 0) J0 (by decide) (by omega) (by decide) (fun _ => ⟨Or.inl ⟨6 + sm_d M, by omega, hTT.symm, ?_, ?_, rfl⟩, wT⟩) (fun U V a b => (need U V a b).1.2.1) (fun r7 S6 LT6 b6 J6 p6 f6 _ i6 v6 => ?_)
        · unfold rr_b
          rw [if_neg (by omega), if_neg (by omega)]
        · unfold rr_b
          rw [if_neg (by omega), if_neg (by omega)]
          show sm_d M = 6 + sm_d M - 6
          omega
        refine rm_arrow J6 (rr_v_gr vA p6 i6) v6 (fun U V a b => (need U V a b).1.1) (fun r9 S8 LT8 b8 J8 p8 f8' _ i8 v8 => ?_)
        refine rm_arrow J8 (rr_v_gr v6 p8 i8) (rr_v_gr vA (p6.trans p8) (fun e => i6 (i8 e))) (fun U V a b => (need U V a b).1.2.2.2.1) (fun r11 S10 LT10 b10 J10 p10 f10 _ i10 v10 => ?_)
        rw [c18 S10 J10.2.2.2.2.1]
        refine rm_leaf (s := 2) (n := sm_c M) J10 (rr_v_gr v8 p10 i10) (Or.inr rfl) (by omega) (fun _ => gAT) (fo_tw_ar wA wT) (fun U V a b => (need U V a b).1.2.2.1) (fun r13 S12 LM12 b12 J12 p12 f12 i12' v12 => ?_)
        rw [c18 S12 J12.2.2.2.2.1, kn_suc]
        refine rm_leaf (s := 2) (n := sm_c M + 1) J12 (rr_v_gr v10 (List.prefix_refl _) i12') (Or.inr rfl) (by omega) (fun _ => gTA) (fo_tw_ar wT wA) (fun U V a b => (need U V a b).1.2.2.2.2.1) (fun r15 S14 LM14 b14 J14 p14 f14 i14 v14 => ?_)
        refine rm_leaf (s := 0) (n := 0) J14 (rr_v_gr v6 (p8.trans p10) (fun e => i8 (i10 (i12' (i14 e))))) (Or.inl rfl) (by omega) (fun e => absurd e (by decide)) wT (fun U V a b => (need U V a b).1.2.2.2.2.2.1) (fun r17 S16 LM16 b16 J16 p16 f16 i16 v16 => ?_)
        refine rm_leaf (s := 0) (n := 0) J16 (rr_v_gr vA (p6.trans (p8.trans p10)) (fun e => i6 (i8 (i10 (i12' (i14 (i16 e))))))) (Or.inl rfl) (by omega) (fun e => absurd e (by decide)) wA (fun U V a b => (need U V a b).1.2.2.2.2.2.2) (fun r19 S18 LM18 b18 J18 p18 f18 i18 v18 => ?_)
        refine rm_around J18 (rr_v_gr v12 (p14.trans (p16.trans p18)) (fun e => i14 (i16 (i18 e)))) (rr_v_gr v14 (p16.trans p18) (fun e => i16 (i18 e))) (rr_v_gr v16 p18 i18) w16 w18 wv rfl (fun U V a b => (need U V a b).2.1.2.2) (fun r21 S20 LT20 LM20 b20 J20 p20 p20' f20 i20 v20 => ?_)
        refine rm_around J20 (rr_v_gr v14 (p16.trans (p18.trans p20')) (fun e => i16 (i18 (i20 e)))) (rr_v_gr v12 (p14.trans (p16.trans (p18.trans p20'))) (fun e => i14 (i16 (i18 (i20 e))))) (rr_v_gr v18 p20' i20) w22 w24 ww rfl (fun U V a b => (need U V a b).2.2.1.2.2) (fun r23 S22 LT22 LM22 b22 J22 p22 p22' f22 i22 v22 => ?_)
        have fx5 : rr_Fx S S5 := fun o i ho => (f5 o i (by omega)).trans (f3 o i (by omega))
        have fin : ∀ (r25 : Int32) (S24 : kS) (LM24 : List kF) (b24 : Bool), rr_J S5 LT LM (sm_nT M) (sm_nM M) (sp_g2 (sp_f1 (sm_c M) A T) (sp_f2 (sm_c M) A T p)) S24 LT22 LM24 b24 → LM22 <+: LM24 → (b24 = false → b22 = false) → rr_v LM24 250 b24 (fo_ap p (fo_lf 0 0 A)) r25 → G 229 [some (.inr 39), some (.inl (kn n)), some (.inl (kn i)), some (.inl (kn jp)), some (.inl (kn ya)), some (.inl r7), some (.inl r9), some (.inl r11), some (.inl r13), some (.inl r15), some (.inl r17), some (.inl r19), some (.inl r21), some (.inl r23), none, none, none, none] [.inl r25] S24 := by
          intro r25 S24 LM24 b24 J24 p24 i24 v24
          refine f_Mo_defineType_229 kspec_Mo hG (rm_dt_end (f1 := sp_f1 (sm_c M) A T) q5 o5 J24 (rr_v_gr v20 (p22'.trans p24) (fun e => i22 (i24 e))) v24 (rr_v_gr v22 p24 i24) w31 w26 t31 hl58 (fun S7 LT2 LM2 s7 A7 p1 p2 fr7 mn m1 m2 => ?_) (fun S7 q7 fx7 nn => ?_))
          · obtain ⟨hfit, hcT, hcM⟩ := sp_yes (g := sp_g2 (sp_f1 (sm_c M) A T) (sp_f2 (sm_c M) A T p)) q5.2.2.2.2.1 q5.2.2.2.2.2.1 s7.1 (fun z hz => rp_sub p1 hz) (fun z hz => rp_sub p2 hz) ⟨m1, m2⟩ mn
            rw [sp_ite_pos ⟨haf, hgn, hnil, hd3, hc8, hl58, hfit⟩] at k
            have fk := rr_Fk_r fr7
            have e18 : S7 39 18 = kn (sm_c M) := (fk _ _ (by unfold rr_ck; omega)).trans q5.2.2.2.2.2.2.1
            have e19 : S7 39 19 = kn (sm_d M) := (fk _ _ (by unfold rr_ck; omega)).trans q5.2.2.2.2.2.2.2.1
            rw [e18, e19, kn_suc, show (2 : Int32) = kn 2 from rfl, kn_add]
            have fr : ∀ o i, ¬ (o = 39 ∧ (i = 18 ∨ i = 19)) → ku (ku S7 39 19 (kn (sm_d M + 1))) 39 18 (kn (sm_c M + 2)) o i = S7 o i := fun o i ho => by rw [ku_ne (by omega), ku_ne (by omega)]
            have fkk : ∀ o i, rr_ck o i → ¬ (o = 39 ∧ (i = 18 ∨ i = 19)) → ku (ku S7 39 19 (kn (sm_d M + 1))) 39 18 (kn (sm_c M + 2)) o i = S5 o i := fun o i hc ho => (fr o i ho).trans (fk o i hc)
            obtain ⟨_, _, _, _, x5, x6, x7⟩ := q5.2.2.2.2.2.2
            refine k _ ⟨LT2, LM2, rr_S_fr s7 (fun o i ho => fr o i (by omega)), ?_, (fkk _ _ (by unfold rr_ck; omega) (by omega)).trans q5.2.2.1, (fkk _ _ (by unfold rr_ck; omega) (by omega)).trans q5.2.2.2.1, hcT, hcM, ku_self, ?_, hc8, by show sm_d M + 1 ≤ 3; omega, (fkk _ _ (by unfold rr_ck; omega) (by omega)).trans x5, x6, fun i o a b c w => ?_⟩ (fun o i ho => (fkk o i (Or.inl ho) (by omega)).trans (fx5 o i ho))
            · have A7 : rr_A S7 LM2 (sm_F M ++ [(sp_f1 (sm_c M) A T, []), (sp_f2 (sm_c M) A T p, [])]) := by
                rw [List.append_assoc] at A7; exact A7
              exact rr_A_fr A7 (fun o i ho => fr o i (by omega))
            · rw [ku_ne (by omega), ku_self]; rfl
            · rw [fkk 58 i (by unfold rr_ck; omega) (by omega), fkk 59 _ (by unfold rr_ck; omega) (by omega), fkk 59 _ (by unfold rr_ck; omega) (by omega), fkk 59 _ (by unfold rr_ck; omega) (by omega)]
              exact x7 i o a b c w
          · rw [sp_ite_neg (fun z => sp_no q5.2.2.2.2.1 q5.2.2.2.2.2.1 nn z.2.2.2.2.2.2)] at k
            exact k S7 ⟨LT, LM, q7⟩ (rr_Fx_tr fx5 fx7)
        have vp : rr_v LM22 250 b22 p (kn jp) := rr_v_of (rp_pre J22.2.2.2.1 hjp) J22.1.1.2.2.2.2.2.2.1
        refine ⟨fun e33 => rm_app J22 vp (rr_v_gr v18 (p20'.trans p22') (fun e => i20 (i22 e))) (fun _ => ⟨[], w31⟩) (fun U V a b => (need U V a b).2.2.2.1) (fun r25 S24 LM24 b24 J24 p24 f24 _ i24 v24 => fin r25 S24 LM24 b24 J24 p24 i24 v24), fun e33 => ?_⟩
        have hb : b22 = true := kb_nz.mp (by rw [← J22.2.1]; exact e33)
        exact fin 0 S22 LM22 b22 J22 (List.prefix_refl _) id ⟨⟨0, by decide, rfl⟩, fun e => by rw [hb] at e; cases e⟩
      · rw [hfa] at hpx
        injection hpx with hpx
        subst hpx
        exact hf ⟨z.1, z.2.1⟩
    · have : ¬ (sm_F M).length < 59 := fun y => e4 ((kn_lt (m := 59) (by omega) (by decide)).mpr y)
      have := z.2.2.2.2.2
      omega
  · rw [e] at k
    exact k S hR rr_Fx_rf
end JPUB7
