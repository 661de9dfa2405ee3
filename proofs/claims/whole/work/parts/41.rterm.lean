/-! ===== THE REFERENCE: term, same, application, abstraction, equation ===== -/
set_option maxHeartbeats 2000000 in
theorem rm_term {d : Nat} {S : kS} {LT LM NT NM : List kF} {g : kU} {S1 : kS} {LT1 LM1 : List kF} {b : Bool} {t : kF} {s a c : Nat} {ry : Int32} {F : Int32 → kS → Prop} (h : rr_J S LT LM NT NM g S1 LT1 LM1 b) (hs : s < 9) (ha : a < 250) (hc : c < 250) (hq : b = false → ∃ y, ry = kn y ∧ rr_q LT1 LM1 t s a c y ∧ ∃ Γ, fo_wf Γ t) (need : ∀ U V, fo_Cl U V → g U V → V t)
    (k : ∀ r S2 LM2 b2, rr_J S LT LM NT NM g S2 LT1 LM2 b2 → LM1 <+: LM2 → rr_FC S1 S2 → (∀ o i, 53 ≤ o → S2 o i = S1 o i) → (b2 = false → b = false) → rr_v LM2 250 b2 t r → F r S2) :
    kK (d + 1) m_Mo_term [.inr 39, .inl (kn s), .inl (kn a), .inl (kn c), .inl ry] S1 (kq F) := by
  have hJ := h
  obtain ⟨⟨hL, h0, h9, hT, hM, hB, hN1, hN2⟩, hb, p1, p2, fr, hmn, hno⟩ := h
  have hnT : LT1.length ≤ 50 := hL.2.2.2.2.2.1
  have hn : LM1.length ≤ 250 := hL.2.2.2.2.2.2.1
  have bad : (b = true ∨ (b = false ∧ fo_no LT1 LM1 (fun _ V => V t))) → F 0 (ku S1 39 33 1) := by
    intro e
    have nn : fo_no LT LM g := by
      rcases e with e | ⟨e, n⟩
      · exact hno e
      · exact fo_no_2 (hmn e) n (fun _ _ _ q => q) need
    exact k _ _ LM1 true (rr_J_bad hJ nn) (List.prefix_refl _) (fun o i ho => ku_ne (fun e => ho (by unfold rr_cm; omega))) (fun o i ho => ku_ne (by omega)) (fun e => by cases e) ⟨⟨0, by decide, rfl⟩, fun e => by cases e⟩
  have same : ∀ i, i < 250 → (b = false → LM1[i]? = some t) → F (kn i) S1 := fun i hi e => k _ _ LM1 b hJ (List.prefix_refl _) rr_FC_rf (fun _ _ _ => rfl) id ⟨⟨i, hi, rfl⟩, fun q => ⟨i, e q, rfl⟩⟩
  -- heights
  have hhl : b = false → s ≠ 3 → s ≠ 4 → fo_ht t = 1 := by
    intro hbf h3 h4
    obtain ⟨y, _, ⟨_, hq⟩, _⟩ := hq hbf
    rcases hq with ⟨A, rfl, _⟩ | ⟨x, rfl, _⟩ | ⟨f, x, _, q, _⟩ | ⟨A, e, _, q, _⟩
    · rfl
    · rfl
    · exact absurd q h3
    · exact absurd q h4
  have hh3 : b = false → s = 3 → ∃ f x, LM1[a]? = some f ∧ LM1[c]? = some x ∧ fo_ht t = 1 + max (fo_ht f) (fo_ht x) ∧ fo_ht f ≤ 20 ∧ fo_ht x ≤ 20 := by
    intro hbf h3
    obtain ⟨y, _, ⟨_, hq⟩, _⟩ := hq hbf
    rcases hq with ⟨A, rfl, _, q, _⟩ | ⟨x, rfl, q, _⟩ | ⟨f, x, rfl, _, q1, q2⟩ | ⟨A, e, _, q, _⟩
    · omega
    · omega
    · exact ⟨f, x, q1, q2, rfl, (hL.2.2.2.2.1 f (rp_mem q1)).2.1, (hL.2.2.2.2.1 x (rp_mem q2)).2.1⟩
    · omega
  have hh4 : b = false → s = 4 → ∃ x, LM1[c]? = some x ∧ fo_ht t = 1 + fo_ht x ∧ fo_ht x ≤ 20 := by
    intro hbf h4
    obtain ⟨y, _, ⟨_, hq⟩, _⟩ := hq hbf
    rcases hq with ⟨A, rfl, _, q, _⟩ | ⟨x, rfl, q, _⟩ | ⟨f, x, rfl, q, _⟩ | ⟨A, e, rfl, _, q1, q2⟩
    · omega
    · omega
    · omega
    · exact ⟨e, q2, rfl, (hL.2.2.2.2.1 e (rp_mem q2)).2.1⟩
  have hht : b = false → fo_ht t ≤ 21 := by
    intro hbf
    by_cases h3 : s = 3
    · obtain ⟨f, x, _, _, e, q1, q2⟩ := hh3 hbf h3
      rw [e]; omega
    · by_cases h4 : s = 4
      · obtain ⟨x, _, e, q1⟩ := hh4 hbf h4
        rw [e]; omega
      · rw [hhl hbf h3 h4]; decide
  refine g_Mo_term (fun G hG => ?_)
  have e123 : (b = false → t ∉ LM1) → ∀ w : Int32, (b = false → w = kn (fo_ht t)) → G 123 [some (.inr 39), some (.inl (kn s)), some (.inl (kn a)), some (.inl (kn c)), some (.inl ry), some (.inl w)] [] S1 := by
    intro hnot w hw
    refine f_Mo_term_123 kspec_Mo hG ⟨fun e => bad (Or.inl (by rw [hb] at e; exact kb_nz.mp e)), fun e => ?_⟩
    have hbf : b = false := by rw [hb] at e; exact kb_zero.mp (Classical.not_not.mp e)
    have hnot := hnot hbf
    have hw := hw hbf
    have hht := hht hbf
    obtain ⟨y, ey, hqq, hwf⟩ := hq hbf
    subst hw; subst ey
    refine ⟨fun e2 => bad (Or.inr ⟨hbf, fo_no_M hL.2.1 hnot (Or.inl ((kn_lt (n := 20) (by decide) (by omega)).mp e2))⟩), fun e2 => ?_⟩
    have hh : fo_ht t ≤ 20 := Nat.not_lt.mp (fun q => e2 ((kn_lt (n := 20) (by decide) (by omega)).mpr q))
    rw [h9, kn_tn (by omega), kn_pm, kn_suc]
    refine ⟨fun e3 => ?_, fun e3 => ?_⟩
    · have hlt : LM1.length < 250 := by
        have : LM1.length ≠ 250 := fun q => e3 (by rw [q]; rfl)
        omega
      have hin : vp_in (kn LM1.length) 250 := kn_in hlt (by decide)
      refine ⟨hin, hin, hin, hin, hin, hin, ?_⟩
      have fr2 : ∀ o i, ¬ ((i = LM1.length ∧ (47 ≤ o ∧ o ≤ 52)) ∨ (o = 39 ∧ i = 9)) → ku (ku (ku (ku (ku (ku (ku S1 47 LM1.length (kn s)) 48 LM1.length (kn a)) 49 LM1.length (kn c)) 50 LM1.length (kn y)) 51 LM1.length (kn (fo_ht t))) 52 LM1.length (-1)) 39 9 (kn (LM1.length + 1)) o i = S1 o i := by
        intro o i ho
        rw [ku_ne (by omega), ku_ne (by omega), ku_ne (by omega), ku_ne (by omega), ku_ne (by omega), ku_ne (by omega), ku_ne (by omega)]
      have ly : y < 50 := by have := rp_lt hqq.1; omega
      have hok : fo_ok t := by
        refine ⟨hwf, hh, fun s' j A e => ?_⟩
        rcases hqq.2 with ⟨A', rfl, _, _, q⟩ | ⟨x, rfl, _⟩ | ⟨f, x, rfl, _⟩ | ⟨A', e', rfl, _⟩
        · rw [← (fo_lf_inj e).2.1]; exact q
        · rw [← (fo_lf_inj e).2.1]; decide
        · exact absurd e fo_ap_lf
        · exact absurd e fo_ab_lf
      have hLn : fo_SL LT1 (LM1 ++ [t]) := by
        refine fo_SL_M hL hnot hok (rp_mem hqq.1) ?_ ?_ hlt
        · intro f x e
          rcases hqq.2 with ⟨A', rfl, _⟩ | ⟨x, rfl, _⟩ | ⟨f', x', rfl, _, q1, q2⟩ | ⟨A', e', rfl, _⟩
          · exact absurd e.symm fo_ap_lf
          · exact absurd e.symm fo_ap_lf
          · obtain ⟨rfl, rfl⟩ := fo_ap_inj e
            exact ⟨rp_mem q1, rp_mem q2⟩
          · exact absurd e.symm fo_ap_ab
        · intro A x e
          rcases hqq.2 with ⟨A', rfl, _⟩ | ⟨x, rfl, _⟩ | ⟨f', x', rfl, _⟩ | ⟨A', e', rfl, _, q1, q2⟩
          · exact absurd e.symm fo_ab_lf
          · exact absurd e.symm fo_ab_lf
          · exact absurd e fo_ap_ab
          · obtain ⟨rfl, rfl⟩ := fo_ab_inj e
            exact rp_mem q2
      refine k _ _ (LM1 ++ [t]) false ⟨⟨hLn, ?_, ?_, ?_, ?_, ?_, ?_, ?_⟩, ?_, p1, p2.trans ⟨[t], rfl⟩, ?_, fun _ => fo_mn_tr (hmn hbf) fo_mn_M (fun _ _ _ q => q) need, fun e => by cases e⟩ ⟨[t], rfl⟩ (fun o i ho => fr2 o i (fun e => ho (by unfold rr_cm; omega))) (fun o i ho => fr2 o i (by omega)) (fun _ => hbf) ⟨⟨LM1.length, hlt, rfl⟩, fun _ => ⟨LM1.length, by simp, rfl⟩⟩
      · rw [fr2 _ _ (by omega)]; exact h0
      · rw [ku_self, List.length_append, List.length_singleton]
      · exact rp_T_congr hT (fun o ho => funext fun i => fr2 o i (by omega))
      · refine rr_add hM hqq (fun o i q1 q2 hi => fr2 o i (by omega)) ?_ ?_ ?_ ?_ ?_
        · rw [ku_ne (by omega), ku_ne (by omega), ku_ne (by omega), ku_ne (by omega), ku_ne (by omega), ku_ne (by omega), ku_self]
        · rw [ku_ne (by omega), ku_ne (by omega), ku_ne (by omega), ku_ne (by omega), ku_ne (by omega), ku_self]
        · rw [ku_ne (by omega), ku_ne (by omega), ku_ne (by omega), ku_ne (by omega), ku_self]
        · rw [ku_ne (by omega), ku_ne (by omega), ku_ne (by omega), ku_self]
        · rw [ku_ne (by omega), ku_ne (by omega), ku_self]
      · intro i hi
        by_cases e : i = LM1.length
        · refine ⟨y, ly, ?_⟩
          rw [e, ku_ne (by omega), ku_ne (by omega), ku_ne (by omega), ku_self]
        · rw [fr2 _ _ (by omega)]; exact hB i hi
      · exact rp_N_congr hN1 (fun _ => fr2 _ _ (by omega)) (fun _ => fr2 _ _ (by omega))
      · refine rp_N_grow hN2 ⟨[t], rfl⟩ hLn.2.1 (fun j _ => fr2 _ _ (by omega)) (fun j hj => fr2 _ _ (by omega)) (fun j q1 q2 => ?_)
        rw [List.length_append, List.length_singleton] at q2
        have : j = LM1.length := by omega
        subst this
        rw [ku_ne (by omega), ku_self]
      · rw [fr2 _ _ (by omega), hb, hbf]
      · exact rr_FC_tr fr (fun o i ho => fr2 o i (fun e => ho (by unfold rr_cm; omega)))
    · refine bad (Or.inr ⟨hbf, fo_no_M hL.2.1 hnot (Or.inr ?_)⟩)
      have := kn_inj (m := 250) (by omega) (by decide) (Classical.not_not.mp e3)
      omega
  have loop : ∀ m j, j + m = LM1.length → (b = false → ∀ i, i < j → LM1[i]? ≠ some t) → G 3 [some (.inr 39), some (.inl (kn s)), some (.inl (kn a)), some (.inl (kn c)), some (.inl ry), some (.inl (kn j))] [] S1 := by
    intro m
    induction m with
    | zero =>
      intro j hj hnn
      have hnot : b = false → t ∉ LM1 := fun hbf hx => by
        obtain ⟨i, hi⟩ := rp_at hx
        exact hnn hbf i (by have := rp_lt hi; omega) hi
      have i2 : vp_in (kn a) 250 := kn_in ha (by decide)
      have i3 : vp_in (kn c) 250 := kn_in hc (by decide)
      have c34 : ∀ {P : Prop}, s = 3 → ¬ (¬ kn s = 4) → P := fun h3 e => by
        have := kn_inj (m := 4) (by omega) (by decide) (Classical.not_not.mp e)
        omega
      refine f_Mo_term_3 kspec_Mo hG ⟨fun _ => ⟨fun e => ⟨fun e2 => e123 hnot _ (fun hbf => ?_), fun e2 => ⟨i3, e123 hnot _ (fun hbf => ?_)⟩⟩, fun e => ⟨i2, i3, ?_⟩⟩, fun e => absurd (by rw [h9]; exact (kn_le (by omega) (by omega)).mpr (by omega)) e⟩
      · rw [hhl hbf (fun q => e (by rw [q]; rfl)) (fun q => e2 (by rw [q]; rfl))]; rfl
      · obtain ⟨x, g1, g2, g3⟩ := hh4 hbf (kn_inj (m := 4) (by omega) (by decide) (Classical.not_not.mp e2))
        rw [kn_tn (by omega), (hM c x g1).1, show (1 : Int32) = kn 1 from rfl, kn_add, ← g2]
      · have h3 : s = 3 := kn_inj (m := 3) (by omega) (by decide) (Classical.not_not.mp e)
        rw [kn_tn (by omega), kn_tn (by omega)]
        refine ⟨fun e2 => ⟨i3, fun _ => e123 hnot _ (fun hbf => ?_), fun e3 => c34 h3 e3⟩, fun e2 => ⟨i2, fun _ => e123 hnot _ (fun hbf => ?_), fun e3 => c34 h3 e3⟩⟩
        · obtain ⟨f, x, g1, g2, g3, g4, g5⟩ := hh3 hbf h3
          rw [(hM a f g1).1, (hM c x g2).1] at e2
          have := (kn_le (by omega) (by omega)).mp e2
          rw [(hM c x g2).1, show (1 : Int32) = kn 1 from rfl, kn_add, g3, Nat.max_eq_right (by omega)]
        · obtain ⟨f, x, g1, g2, g3, g4, g5⟩ := hh3 hbf h3
          rw [(hM a f g1).1, (hM c x g2).1] at e2
          have : ¬ fo_ht f ≤ fo_ht x := fun q => e2 ((kn_le (by omega) (by omega)).mpr q)
          rw [(hM a f g1).1, show (1 : Int32) = kn 1 from rfl, kn_add, g3, Nat.max_eq_left (by omega)]
    | succ m ih =>
      intro j hj hnn
      have hjl : j < LM1.length := by omega
      have hu : LM1[j]? = some LM1[j] := List.getElem?_eq_getElem hjl
      have hin : vp_in (kn j) 250 := kn_in (by omega) (by decide)
      have next : (b = false → LM1[j]? ≠ some t) → G 3 [some (.inr 39), some (.inl (kn s)), some (.inl (kn a)), some (.inl (kn c)), some (.inl ry), some (.inl (kn j + 1))] [] S1 := by
        intro hne
        rw [kn_suc]
        refine ih (j + 1) (by omega) (fun hbf i hi => ?_)
        by_cases he : i = j
        · rw [he]; exact hne hbf
        · exact hnn hbf i (by omega)
      have hit : b = false → LM1[j]? = some t → S1 47 j = kn s ∧ S1 48 j = kn a ∧ S1 49 j = kn c ∧ S1 50 j = ry := by
        intro hbf hk
        obtain ⟨y, ey, hqq, _⟩ := hq hbf
        subst ey
        exact rr_hit hL.1 hL.2.1 hM hk hqq
      refine f_Mo_term_3 kspec_Mo hG ⟨fun e => absurd ((kn_le (by omega) (by omega)).mp (h9 ▸ e)) (by omega), fun _ => ?_⟩
      rw [kn_tn (show j < 2147483648 by omega)]
      refine ⟨hin, fun e => next fun hbf hk => e (hit hbf hk).1, fun e1 => ⟨hin, fun e => next fun hbf hk => e (hit hbf hk).2.1, fun e2 => ⟨hin, fun e => next fun hbf hk => e (hit hbf hk).2.2.1, fun e3 => ⟨hin, fun e => next fun hbf hk => e (hit hbf hk).2.2.2, fun e4 => same j (by omega) (fun hbf => ?_)⟩⟩⟩⟩
      obtain ⟨y, ey, hqq, _⟩ := hq hbf
      subst ey
      have e := rr_found hnT hn hM hu (hL.2.2.2.2.1 _ (rp_mem hu)) hqq (Classical.not_not.mp e1) (Classical.not_not.mp e2) (Classical.not_not.mp e3) (Classical.not_not.mp e4)
      rw [hu, e]
  exact loop LM1.length 0 (by omega) (fun _ i hi => absurd hi (by omega))
section RM
variable {d : Nat} {S : kS} {LT LM NT NM : List kF} {g : kU} {S1 : kS} {LT1 LM1 : List kF} {b : Bool} {F : Int32 → kS → Prop}
theorem rm_arrow {a c : kF} {r1 r2 : Int32} (h : rr_J S LT LM NT NM g S1 LT1 LM1 b) (h1 : rr_v LT1 50 b a r1) (h2 : rr_v LT1 50 b c r2) (need : ∀ U V, fo_Cl U V → g U V → U (fo_ar a c))
    (k : ∀ r S2 LT2 b2, rr_J S LT LM NT NM g S2 LT2 LM1 b2 → LT1 <+: LT2 → rr_FC S1 S2 → (∀ o i, 46 ≤ o → S2 o i = S1 o i) → (b2 = false → b = false) → rr_v LT2 50 b2 (fo_ar a c) r → F r S2) : kK (d + 1) m_Mo_type [.inr 39, .inl 4, .inl r1, .inl r2] S1 (kq F) := by
  obtain ⟨⟨i, hi, rfl⟩, g1⟩ := h1
  obtain ⟨⟨j, hj, rfl⟩, g2⟩ := h2
  refine rm_type (t := fo_ar a c) (s := 4) (a := i) (c := j) h (by decide) hi hj (fun hb => ?_) need k
  obtain ⟨i', e1, e1'⟩ := g1 hb
  obtain ⟨j', e2, e2'⟩ := g2 hb
  have l1 := rp_lt e1
  have l2 := rp_lt e2
  have hl := h.1.1.2.2.2.2.2.1
  have := kn_inj (by omega) (by omega) e1'
  subst this
  have := kn_inj (by omega) (by omega) e2'
  subst this
  exact ⟨Or.inr ⟨a, c, rfl, rfl, e1, e2⟩, fo_tw_ar (h.1.1.2.2.2.1 a (rp_mem e1)).1 (h.1.1.2.2.2.1 c (rp_mem e2)).1⟩
theorem rm_same {a : kF} {r1 : Int32} (h : rr_J S LT LM NT NM g S1 LT1 LM1 b) (h1 : rr_v LT1 50 b a r1) (need : ∀ U V, fo_Cl U V → g U V → V (fo_lf 1 0 (fo_ar a (fo_ar a (fo_tb 0)))))
    (k : ∀ r S2 LT2 LM2 b2, rr_J S LT LM NT NM g S2 LT2 LM2 b2 → LT1 <+: LT2 → LM1 <+: LM2 → rr_FC S1 S2 → (∀ o i, 53 ≤ o → S2 o i = S1 o i) → (b2 = false → b = false) → rr_v LM2 250 b2 (fo_lf 1 0 (fo_ar a (fo_ar a (fo_tb 0)))) r → F r S2) : kK (d + 2) m_Mo_same [.inr 39, .inl r1] S1 (kq F) := by
  have hb0 : rr_v LT1 50 b (fo_tb 0) 0 := rr_v_of h.1.1.2.2.2.2.2.2.2 h.1.1.2.2.2.2.2.1
  refine g_Mo_same (rm_arrow h h1 hb0 (fun U V hc hg => (fo_eq_sub hc (need U V hc hg)).2) (fun r2 S2 LT2 b2 J2 p2 f2 q2 i2 v2 => ?_))
  refine rm_arrow J2 (rr_v_gr h1 p2 i2) v2 (fun U V hc hg => (fo_eq_sub hc (need U V hc hg)).1) (fun r3 S3 LT3 b3 J3 p3 f3 q3 i3 v3 => ?_)
  obtain ⟨⟨i, hi, rfl⟩, g1⟩ := rr_v_gr h1 (p2.trans p3) (fun e => i2 (i3 e))
  refine rm_term (t := fo_lf 1 0 (fo_ar a (fo_ar a (fo_tb 0)))) (s := 1) (a := i) (c := 0) J3 (by decide) (by omega) (by decide) (fun hb => ?_) need (fun r4 S4 LM4 b4 J4 p4 f4 q4 i4 v4 => k r4 S4 LT3 LM4 b4 J4 (p2.trans p3) p4 (rr_FC_tr f2 (rr_FC_tr f3 f4)) (fun o j ho => (q4 o j ho).trans ((q3 o j (by omega)).trans (q2 o j (by omega)))) (fun e => i2 (i3 (i4 e))) v4)
  obtain ⟨i', e1, e1'⟩ := g1 hb
  have hl := J3.1.1.2.2.2.2.2.1
  have l1 := rp_lt e1
  have := kn_inj (by omega) (by omega) e1'
  subst this
  obtain ⟨y, ey, ey'⟩ := v3.2 hb
  have wa := (J3.1.1.2.2.2.1 a (rp_mem e1)).1
  exact ⟨y, ey', ⟨ey, Or.inr (Or.inl ⟨a, rfl, rfl, e1, rfl⟩)⟩, [], fo_wf_lf ⟨fo_tw_ar wa (fo_tw_ar wa (fo_tw_tb (by decide))), Or.inr (Or.inl ⟨rfl, rfl, a, rfl⟩)⟩⟩
theorem rm_app {f x : kF} {r1 r2 : Int32} (h : rr_J S LT LM NT NM g S1 LT1 LM1 b) (h1 : rr_v LM1 250 b f r1) (h2 : rr_v LM1 250 b x r2) (hw : b = false → ∃ Γ, fo_wf Γ (fo_ap f x)) (need : ∀ U V, fo_Cl U V → g U V → V (fo_ap f x))
    (k : ∀ r S2 LM2 b2, rr_J S LT LM NT NM g S2 LT1 LM2 b2 → LM1 <+: LM2 → rr_FC S1 S2 → (∀ o i, 53 ≤ o → S2 o i = S1 o i) → (b2 = false → b = false) → rr_v LM2 250 b2 (fo_ap f x) r → F r S2) : kK (d + 2) m_Mo_application [.inr 39, .inl r1, .inl r2] S1 (kq F) := by
  obtain ⟨⟨i, hi, rfl⟩, g1⟩ := h1
  obtain ⟨⟨j, hj, rfl⟩, g2⟩ := h2
  obtain ⟨y, hy, ey⟩ := h.1.2.2.2.2.2.1 i hi
  refine g_Mo_application ?_
  rw [kn_tn (by omega), ey, kn_tn (by omega)]
  refine ⟨kn_in hi (by decide), kn_in hy (by decide), rm_term (t := fo_ap f x) (s := 3) (a := i) (c := j) h (by decide) hi hj (fun hb => ?_) need k⟩
  obtain ⟨i', e1, e1'⟩ := g1 hb
  obtain ⟨j', e2, e2'⟩ := g2 hb
  have hl := h.1.1.2.2.2.2.2.2.1
  have l1 := rp_lt e1
  have l2 := rp_lt e2
  have := kn_inj (by omega) (by omega) e1'
  subst this
  have := kn_inj (by omega) (by omega) e2'
  subst this
  obtain ⟨Γ, hw⟩ := hw hb
  obtain ⟨_, ⟨z, hz, ez⟩, _⟩ := h.1.2.2.2.2.1 i f e1
  have lz := rp_lt hz
  have hlT := h.1.1.2.2.2.2.2.1
  have := kn_inj (by omega) (by omega) (ey.symm.trans ez)
  subst this
  have hty := (fo_wf_iap hw).2.2
  rw [hty] at hz
  obtain ⟨_, a1, a2, _, _, _, ha2, _, ea2⟩ := (h.1.2.2.2.1 y _ hz).2.2.2 _ _ rfl
  exact ⟨a2, ea2, ⟨ha2, Or.inr (Or.inr (Or.inl ⟨f, x, rfl, rfl, e1, e2⟩))⟩, Γ, hw⟩
theorem rm_abs {A x : kF} {r1 r2 : Int32} (h : rr_J S LT LM NT NM g S1 LT1 LM1 b) (h1 : rr_v LT1 50 b A r1) (h2 : rr_v LM1 250 b x r2) (hw : b = false → ∃ Γ, fo_wf Γ (fo_ab A x)) (need : ∀ U V, fo_Cl U V → g U V → V (fo_ab A x))
    (k : ∀ r S2 LT2 LM2 b2, rr_J S LT LM NT NM g S2 LT2 LM2 b2 → LT1 <+: LT2 → LM1 <+: LM2 → rr_FC S1 S2 → (∀ o i, 53 ≤ o → S2 o i = S1 o i) → (b2 = false → b = false) → rr_v LM2 250 b2 (fo_ab A x) r → F r S2) : kK (d + 2) m_Mo_abstraction [.inr 39, .inl r1, .inl r2] S1 (kq F) := by
  obtain ⟨⟨j, hj, rfl⟩, g2⟩ := h2
  obtain ⟨y, hy, ey⟩ := h.1.2.2.2.2.2.1 j hj
  refine g_Mo_abstraction ?_
  rw [kn_tn (by omega), ey]
  have h3 : rr_v LT1 50 b (fo_ty x) (kn y) := by
    refine ⟨⟨y, hy, rfl⟩, fun hb => ?_⟩
    obtain ⟨j', e2, e2'⟩ := g2 hb
    have hl := h.1.1.2.2.2.2.2.2.1
    have l2 := rp_lt e2
    have := kn_inj (by omega) (by omega) e2'
    subst this
    obtain ⟨_, ⟨z, hz, ez⟩, _⟩ := h.1.2.2.2.2.1 j x e2
    exact ⟨z, hz, ey.symm.trans ez⟩
  refine ⟨kn_in hj (by decide), rm_arrow h h1 h3 (fun U V hc hg => hc.2.1 _ (need U V hc hg)) (fun r2 S2 LT2 b2 J2 p2 f2 q2 i2 v2 => ?_)⟩
  obtain ⟨⟨i, hi, rfl⟩, g1⟩ := rr_v_gr h1 p2 i2
  refine rm_term (t := fo_ab A x) (s := 4) (a := i) (c := j) J2 (by decide) (by omega) hj (fun hb => ?_) need (fun r4 S4 LM4 b4 J4 p4 f4 q4 i4 v4 => k r4 S4 LT2 LM4 b4 J4 p2 p4 (rr_FC_tr f2 f4) (fun o j ho => (q4 o j ho).trans (q2 o j (by omega))) (fun e => i2 (i4 e)) v4)
  obtain ⟨i', e1, e1'⟩ := g1 hb
  obtain ⟨j', e2, e2'⟩ := g2 (i2 hb)
  have hl := h.1.1.2.2.2.2.2.2.1
  have hlT := J2.1.1.2.2.2.2.2.1
  have l1 := rp_lt e1
  have l2 := rp_lt e2
  have := kn_inj (by omega) (by omega) e1'
  subst this
  have := kn_inj (by omega) (by omega) e2'
  subst this
  obtain ⟨z, ez, ez'⟩ := v2.2 hb
  exact ⟨z, ez', ⟨ez, Or.inr (Or.inr (Or.inr ⟨A, x, rfl, rfl, e1, e2⟩))⟩, hw (i2 hb)⟩
theorem rm_eqn {x y : kF} {r1 r2 : Int32} (h : rr_J S LT LM NT NM g S1 LT1 LM1 b) (h1 : rr_v LM1 250 b x r1) (h2 : rr_v LM1 250 b y r2) (hw : b = false → ∃ Γ, fo_wf Γ x ∧ fo_wf Γ y) (he : b = false → fo_ty x = fo_ty y) (need : ∀ U V, fo_Cl U V → g U V → V (sp_eq x y))
    (k : ∀ r S2 LT2 LM2 b2, rr_J S LT LM NT NM g S2 LT2 LM2 b2 → LT1 <+: LT2 → LM1 <+: LM2 → rr_FC S1 S2 → (∀ o i, 53 ≤ o → S2 o i = S1 o i) → (b2 = false → b = false) → rr_v LM2 250 b2 (sp_eq x y) r → F r S2) : kK (d + 3) m_Mo_equation [.inr 39, .inl r1, .inl r2] S1 (kq F) := by
  have h1' := h1
  obtain ⟨⟨j, hj, rfl⟩, g2⟩ := h1
  obtain ⟨z, hz, ez⟩ := h.1.2.2.2.2.2.1 j hj
  refine g_Mo_equation ?_
  rw [kn_tn (by omega), ez]
  have h3 : rr_v LT1 50 b (fo_ty x) (kn z) := by
    refine ⟨⟨z, hz, rfl⟩, fun hb => ?_⟩
    obtain ⟨j', e2, e2'⟩ := g2 hb
    have hl := h.1.1.2.2.2.2.2.2.1
    have l2 := rp_lt e2
    have := kn_inj (by omega) (by omega) e2'
    subst this
    obtain ⟨_, ⟨w, hw, ew⟩, _⟩ := h.1.2.2.2.2.1 j x e2
    exact ⟨w, hw, ez.symm.trans ew⟩
  have s1 : ∀ U V : kF → Prop, fo_Cl U V → g U V → V (fo_ap (fo_lf 1 0 (fo_ar (fo_ty x) (fo_ar (fo_ty x) (fo_tb 0)))) x) := fun U V hc hg => (hc.2.2.1 _ _ (need U V hc hg)).1
  refine ⟨kn_in hj (by decide), rm_same h h3 (fun U V hc hg => (hc.2.2.1 _ _ (s1 U V hc hg)).1) (fun r2 S2 LT2 LM2 b2 J2 p2 p2' f2 q2 i2 v2 => ?_)⟩
  refine rm_app J2 v2 (rr_v_gr h1' p2' i2) (fun hb => ?_) s1 (fun r3 S3 LM3 b3 J3 p3 f3 q3 i3 v3 => ?_)
  · obtain ⟨Γ, wx, wy⟩ := hw (i2 hb)
    exact ⟨Γ, (sp_eq_wf wx wy (he (i2 hb))).1⟩
  · refine rm_app J3 v3 (rr_v_gr h2 (p2'.trans p3) (fun e => i2 (i3 e))) (fun hb => ?_) need (fun r4 S4 LM4 b4 J4 p4 f4 q4 i4 v4 => k r4 S4 LT2 LM4 b4 J4 p2 (p2'.trans (p3.trans p4)) (rr_FC_tr f2 (rr_FC_tr f3 f4)) (fun o i ho => (q4 o i ho).trans ((q3 o i ho).trans (q2 o i ho))) (fun e => i2 (i3 (i4 e))) v4)
    obtain ⟨Γ, wx, wy⟩ := hw (i2 (i3 hb))
    exact ⟨Γ, (sp_eq_wf wx wy (he (i2 (i3 hb)))).2⟩
end RM
