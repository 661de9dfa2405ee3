/-! ===== THE REFERENCE: its calls (a rule, looks) ===== -/
theorem rd_step {S1 S2 : kS} {M : kO} {LT LM : List kF} {o : Option kQ} {r : Int32} (h : rr_Q S1 M LT LM) (hP : rd_Q S1 LT LM (sm_nT M) (sm_nM M) (sm_F M) o r S2) : rr_FR S1 S2 ∧ ((∃ c raw LT2 LM2, sp_ru M o = some (sp_rm M c raw) ∧ r = kn (sm_F M).length ∧ S2 39 33 = 0 ∧ rr_Q S2 (sp_rm M c raw) LT2 LM2 ∧ LT <+: LT2 ∧ LM <+: LM2) ∨ (sp_ru M o = none ∧ r = -1 ∧ ¬ S2 39 33 = 0 ∧ ∃ LT2 LM2, rr_S S2 LT2 LM2 (sm_nT M) (sm_nM M) ∧ LT <+: LT2 ∧ LM <+: LM2 ∧ rr_A S2 LM2 (sm_F M))) := by
  obtain ⟨LT2, LM2, s2, p1, p2, fr, ⟨c, raw, hs, ho, hd, h60, hr, A2, hc, hraw, mn, h33⟩ | ⟨hr, A2, no, h33⟩⟩ := hP
  · refine ⟨fr, Or.inl ⟨c, raw, LT2, LM2, ?_, hr, h33, ?_, p1, p2⟩⟩
    · obtain ⟨fit, _, _⟩ := sp_yes h.2.2.2.2.1 h.2.2.2.2.2.1 s2.1 (fun x hx => rp_sub p1 hx) (fun x hx => rp_sub p2 hx) (g := sp_g c raw) ⟨hc, hraw⟩ mn
      rw [ho]
      show sp_if (sp_rk M c raw) _ = _
      rw [sp_if_pos ⟨by rw [hd], h60, fit⟩]
    · obtain ⟨fit, cT, cM⟩ := sp_yes h.2.2.2.2.1 h.2.2.2.2.2.1 s2.1 (fun x hx => rp_sub p1 hx) (fun x hx => rp_sub p2 hx) (g := sp_g c raw) ⟨hc, hraw⟩ mn
      have fk := rr_Fk_r fr
      refine ⟨s2, ?_, (fk _ _ (by unfold rr_ck; omega)).trans h.2.2.1, (fk _ _ (by unfold rr_ck; omega)).trans h.2.2.2.1, cT, cM, rr_X_fr h.2.2.2.2.2.2 (fun o i ho => fk o i (by unfold rr_ck; omega))⟩
      have : (sp_ds [] false raw).1 = hs := by rw [hd]
      show rr_A S2 LM2 (sm_F M ++ [(c, (sp_ds [] false raw).1)])
      rw [this]; exact A2
  · refine ⟨fr, Or.inr ⟨?_, hr, by rw [h33]; decide, LT2, LM2, s2, p1, p2, A2⟩⟩
    cases o with
    | none => rfl
    | some q =>
      show sp_if (sp_rk M q.1 q.2) _ = _
      refine sp_if_neg ?_
      rintro ⟨hd, h60, U, V, hc, hl, a, b, hg⟩
      exact no U V hc hl (fun x hx => a x ((h.2.2.2.2.1 x).mp hx)) (fun x hx => b x ((h.2.2.2.2.2.1 x).mp hx)) ⟨q, rfl, hg, hd, h60⟩
section JPUB2
variable {d : Nat} {S : kS} {M : kO} {F : Int32 → kS → Prop}
theorem j_rule {op a b c : Int32} (h : rr_R S M) (hok : sp_kM M) (k : ∀ S', rr_R S' (sp_rule M op a b c).2 → rr_Fx S S' → F (sp_rule M op a b c).1 S') : kK (d + 8) m_Mo_rule [.inr 39, .inl op, .inl a, .inl b, .inl c] S (kq F) := by
  obtain ⟨LT, LM, hQ⟩ := h
  unfold sp_rule at k
  refine g_Mo_rule (rm_begin hQ (fun S1 q1 z1 o1 f1 => ?_))
  refine rm_derive (o := sp_ro id M op a b c) q1.1 z1 q1.2.1 q1.2.2.2.1 q1.2.2.1 hok.1 rfl (fun r S2 hP => ?_)
  have fx1 : rr_Fx S S1 := fun o i ho => f1 o i (by omega)
  obtain ⟨fr, ⟨cc, raw, LT2, LM2, e, hr, h33, q2, p1, p2⟩ | ⟨e, hr, h33, LT2, LM2, s2, p1, p2, A2⟩⟩ := rd_step q1 hP
  · rw [e] at k
    refine rm_stays_yes h33 ⟨fun z => absurd z (by decide), fun _ => ?_⟩
    rw [hr]
    exact k S2 ⟨LT2, LM2, q2⟩ (rr_Fx_tr fx1 (rr_Fk_x (rr_Fk_r fr)))
  · rw [e] at k
    exact rm_stays_no q1 o1 s2 p1 p2 A2 (List.prefix_refl _) (rr_Fk_r fr) h33 (fun S3 q3 f3 => ⟨fun _ => k S3 ⟨LT, LM, q3⟩ (rr_Fx_tr fx1 f3), fun z => absurd rfl z⟩)
theorem j_typeOf {a : Int32} (h : rr_R S M) (k : ∀ S', rr_R S' (sp_typeOf M a).2 → rr_Fx S S' → F (sp_typeOf M a).1 S') : kK (d + 2) m_Mo_typeOf [.inr 39, .inl a] S (kq F) := by
  obtain ⟨LT, LM, hQ⟩ := h
  unfold sp_typeOf at k
  refine g_Mo_typeOf (rm_isTerm hQ.1 hQ.2.2.2.1 (fun n x ea hn hat => ⟨fun e => absurd e (by decide), fun _ => ?_⟩) (fun e => ⟨fun _ => ?_, fun z => absurd rfl z⟩))
  · rw [hat] at k
    subst ea
    obtain ⟨ln, i, li, hi, ei⟩ := rr_nM hQ.1 hn
    obtain ⟨_, ⟨y, hy, ey⟩, _⟩ := hQ.1.2.2.2.2.1 i _ hi
    rw [kn_tn (by omega), ei, kn_tn (by omega), ey]
    exact ⟨kn_in ln (by decide), kn_in li (by decide), rm_numT hQ hy (fun S' q f => k S' ⟨LT, LM, q⟩ f)⟩
  · rw [e] at k
    exact k S ⟨LT, LM, hQ⟩ rr_Fx_rf
theorem j_kind {a : Int32} (h : rr_R S M) (k : rr_R S (sp_kind M a).2 → F (sp_kind M a).1 S) : kK (d + 2) m_Mo_kind [.inr 39, .inl a] S (kq F) := by
  have hR := h
  obtain ⟨LT, LM, hQ⟩ := h
  unfold sp_kind at k
  refine g_Mo_kind (rm_isTerm hQ.1 hQ.2.2.2.1 (fun n x ea hn hat => ⟨fun e => absurd e (by decide), fun _ => ?_⟩) (fun e => ⟨fun _ => ?_, fun z => absurd rfl z⟩))
  · rw [hat] at k
    subst ea
    obtain ⟨ln, i, li, hi, ei⟩ := rr_nM hQ.1 hn
    rw [kn_tn (by omega), ei, kn_tn (by omega), (rr_so hQ.1 hi).1]
    exact ⟨kn_in ln (by decide), kn_in li (by decide), k hR⟩
  · rw [e] at k
    exact k hR
theorem j_free {a b : Int32} (h : rr_R S M) (k : ∀ S', rr_R S' M → rr_Fx S S' → F (sp_free M a b) S') : kK (d + 3) m_Mo_free [.inr 39, .inl a, .inl b] S (kq F) := by
  have hR := h
  obtain ⟨LT, LM, hQ⟩ := h
  unfold sp_free at k
  refine g_Mo_free (rm_isTerm hQ.1 hQ.2.2.2.1 (fun n x ea hn hat => ⟨fun e => absurd e (by decide), fun _ => rm_isTerm hQ.1 hQ.2.2.2.1 (fun m y eb hm hbt => ⟨fun e => absurd e (by decide), fun _ => ?_⟩) (fun e => ⟨fun _ => ?_, fun z => absurd rfl z⟩)⟩) (fun e => ⟨fun _ => ?_, fun z => absurd rfl z⟩))
  · rw [hat, hbt] at k
    have k : ∀ S', rr_R S' M → rr_Fx S S' → F (sp_ite ((∃ n A, x = fo_lf 0 n A) ∧ fo_oc x y) 1 0) S' := k
    subst ea; subst eb
    obtain ⟨ln, i, li, hi, ei⟩ := rr_nM hQ.1 hn
    obtain ⟨lm, j, lj, hj, ej⟩ := rr_nM hQ.1 hm
    rw [kn_tn (by omega), kn_tn (by omega), ei, kn_tn (by omega), (rr_so hQ.1 hi).1, ej]
    have h6 := (rr_so hQ.1 hi).2.1
    obtain ⟨Γ, wx⟩ := rr_wf hQ.1 hi
    refine ⟨kn_in ln (by decide), kn_in li (by decide), fun e => ?_, fun e => ⟨kn_in lm (by decide), kn_in ln (by decide), rm_has hQ.1 hj hi (fun oc S3 f3 => ⟨fun z => absurd z (by decide), fun _ => ?_⟩) (fun oc S3 f3 => ⟨fun _ => ?_, fun z => absurd rfl z⟩)⟩⟩
    · rw [sp_ite_neg (fun ⟨⟨nn, A, z⟩, _⟩ => e (by rw [z]; rfl))] at k
      exact k S hR rr_Fx_rf
    · have e0 := kn_inj (m := 0) (by omega) (by decide) (Classical.not_not.mp e)
      obtain ⟨nn, A, e1, _⟩ := fo_so_l wx (by omega) (by omega)
      rw [e0] at e1
      rw [sp_ite_pos ⟨⟨nn, A, e1⟩, oc⟩] at k
      exact k S3 ⟨LT, LM, rr_Q_fr hQ (fun o i ho => f3 o i (by omega))⟩ (fun o i ho => f3 o i (by omega))
    · rw [sp_ite_neg (fun z => oc z.2)] at k
      exact k S3 ⟨LT, LM, rr_Q_fr hQ (fun o i ho => f3 o i (by omega))⟩ (fun o i ho => f3 o i (by omega))
  · rw [hat, e] at k
    exact k S hR rr_Fx_rf
  · rw [e] at k
    exact k S hR rr_Fx_rf
theorem j_conclusion {a : Int32} (h : rr_R S M) (k : ∀ S', rr_R S' (sp_conclusion M a).2 → rr_Fx S S' → F (sp_conclusion M a).1 S') : kK (d + 2) m_Mo_conclusion [.inr 39, .inl a] S (kq F) := by
  obtain ⟨LT, LM, hQ⟩ := h
  unfold sp_conclusion at k
  refine g_Mo_conclusion (rm_isFact hQ.2.1 (fun n q ea hn hat => ⟨fun e => absurd e (by decide), fun _ => ?_⟩) (fun e => ⟨fun _ => ?_, fun z => absurd rfl z⟩))
  · rw [hat] at k
    subst ea
    obtain ⟨ln, ⟨i, hi, ei⟩, _⟩ := rr_fact hQ.2.1 hn
    rw [kn_tn (by omega), ei]
    exact ⟨kn_in ln (by decide), rm_numM hQ hi (fun S' q f => k S' ⟨LT, LM, q⟩ f)⟩
  · rw [e] at k
    exact k S ⟨LT, LM, hQ⟩ rr_Fx_rf
theorem j_hypotheses {a : Int32} (h : rr_R S M) (k : F (sp_hypotheses M a) S) : kK (d + 2) m_Mo_hypotheses [.inr 39, .inl a] S (kq F) := by
  obtain ⟨LT, LM, hQ⟩ := h
  unfold sp_hypotheses at k
  refine g_Mo_hypotheses (rm_isFact hQ.2.1 (fun n q ea hn hat => ⟨fun e => absurd e (by decide), fun _ => ?_⟩) (fun e => ⟨fun _ => ?_, fun z => absurd rfl z⟩))
  · rw [hat] at k
    subst ea
    obtain ⟨ln, _, _, e55, _⟩ := rr_fact hQ.2.1 hn
    rw [kn_tn (by omega), e55]
    exact ⟨kn_in ln (by decide), k⟩
  · rw [e] at k
    exact k
theorem j_assumes {a b : Int32} (h : rr_R S M) (k : F (sp_assumes M a b) S) : kK (d + 2) m_Mo_assumes [.inr 39, .inl a, .inl b] S (kq F) := by
  obtain ⟨LT, LM, hQ⟩ := h
  unfold sp_assumes at k
  refine g_Mo_assumes (fun G hG => rm_isFact hQ.2.1 (fun n q ea hn hat => ⟨fun e => absurd e (by decide), fun _ => rm_isTerm hQ.1 hQ.2.2.2.1 (fun m y eb hm hbt => ⟨fun _ => ?_, fun e => absurd (by decide) e⟩) (fun e => ⟨fun z => absurd rfl z, fun _ => ?_⟩)⟩) (fun e => ⟨fun _ => ?_, fun z => absurd rfl z⟩))
  · rw [hat, hbt] at k
    have k : F (sp_ite (y ∈ q.2) 1 0) S := k
    subst ea; subst eb
    obtain ⟨ln, _, h12, e55, e56⟩ := rr_fact hQ.2.1 hn
    obtain ⟨lm, j, lj, hj, ej⟩ := rr_nM hQ.1 hm
    have loop : ∀ w z, z + w = q.2.length → ∀ v : Int32, (v = 0 ∧ (∀ i, i < z → q.2[i]? ≠ some y) ∨ v = 1 ∧ y ∈ q.2) → G 23 [some (.inr 39), some (.inl (kn n)), some (.inl (kn m)), some (.inl v), some (.inl (kn z))] [] S := by
      intro w
      induction w with
      | zero =>
        intro z hz v hv
        refine f_Mo_assumes_23 kspec_Mo hG ?_
        rw [kn_tn (by omega), e55]
        refine ⟨kn_in ln (by decide), fun _ => ?_, fun e => absurd ((kn_le (by omega) (by omega)).mpr (by omega)) e⟩
        rcases hv with ⟨rfl, hv⟩ | ⟨rfl, hv⟩
        · rw [sp_ite_neg (fun hy => by obtain ⟨i, hi⟩ := rp_at hy; exact hv i (by have := rp_lt hi; omega) hi)] at k
          exact ⟨kb_z false, k⟩
        · rw [sp_ite_pos hv] at k
          exact ⟨kb_z true, k⟩
      | succ w ih =>
        intro z hz v hv
        have hu : q.2[z]? = some q.2[z] := List.getElem?_eq_getElem (by omega)
        obtain ⟨p, hp, ep⟩ := e56 z _ hu
        refine f_Mo_assumes_23 kspec_Mo hG ?_
        rw [kn_tn (by omega), e55, kn_12, kn_tn (n := 12 * n + z) (by omega), ep, kn_tn (by omega), ej, kn_suc z]
        refine ⟨kn_in ln (by decide), fun e => absurd ((kn_le (by omega) (by omega)).mp e) (by omega), fun _ => ⟨fun e => ih (z + 1) (by omega) 1 ?_, fun e => ⟨kn_in (by omega) (by decide), kn_in lm (by decide), fun e2 => ih (z + 1) (by omega) 0 ?_, fun e2 => ih (z + 1) (by omega) 1 ?_⟩⟩⟩
        · rcases hv with ⟨hv, _⟩ | ⟨_, hv⟩
          · exact absurd hv e
          · exact Or.inr ⟨rfl, hv⟩
        · rcases hv with ⟨_, hv⟩ | ⟨hv, _⟩
          · refine Or.inl ⟨rfl, fun i hi => ?_⟩
            by_cases ee : i = z
            · subst ee
              rw [hu]
              intro he
              injection he with he
              rw [he] at hp
              exact e2 (by rw [fo_ix hQ.1.1.2.1 hp hj])
            · exact hv i (by omega)
          · rw [hv] at e; exact absurd (by decide) e
        · refine Or.inr ⟨rfl, ?_⟩
          have e2 := kn_inj (by have := (rr_so hQ.1 hp).2.2; omega) (by omega) (Classical.not_not.mp e2)
          rw [e2, hj] at hp
          injection hp with hp
          rw [hp]; exact rp_mem hu
    exact loop q.2.length 0 (by omega) 0 (Or.inl ⟨rfl, fun i hi => absurd hi (by omega)⟩)
  · rw [hat, e] at k
    exact k
  · rw [e] at k
    exact k
theorem j_count {a : Int32} (h : rr_R S M) (k : F (sp_count M a) S) : kK (d + 1) m_Mo_count [.inr 39, .inl a] S (kq F) := by
  obtain ⟨LT, LM, hQ⟩ := h
  unfold sp_count at k
  rw [sp_card_eq hQ.1.1.2.1 hQ.2.2.2.2.2.1, sp_card_eq hQ.1.1.1 hQ.2.2.2.2.1] at k
  refine g_Mo_count ⟨fun e => ?_, fun e => ?_, fun e => ?_, fun e => ?_, fun e => ?_, fun e => ?_⟩
  · rw [if_pos e] at k
    rw [hQ.1.2.2.1]; exact k
  · subst e
    rw [hQ.1.2.1]; exact k
  · subst e
    rw [hQ.2.1.1]; exact k
  · subst e
    rw [hQ.2.2.2.1]; exact k
  · subst e
    rw [hQ.2.2.1]; exact k
  · have h0 : ¬ a = 0 := by rintro rfl; revert e; decide
    have h1 : ¬ a = 1 := by rintro rfl; revert e; decide
    have h2 : ¬ a = 2 := by rintro rfl; revert e; decide
    have h3 : ¬ a = 3 := by rintro rfl; revert e; decide
    have h4 : ¬ a = 4 := by rintro rfl; revert e; decide
    rw [if_neg h0, if_neg h1, if_neg h2, if_neg h3, if_neg h4] at k
    exact k
end JPUB2
