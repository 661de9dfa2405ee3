/-! ===== THE CLASS: terms ===== -/
set_option maxHeartbeats 2000000 in
/-- store: the term t with record s, a, b, y -/
theorem c_Te_store {d : Nat} {S : kS} {LT LM : List kF} {t : kF} {s a b y : Nat} {F : Int32 → kS → Prop} (hS : rc_S S LT LM) (hq : rc_q LT LM t s a b y) (hw : ∃ Γ, fo_wf Γ t)
    (k : ∀ r S' LM', rc_S S' LT LM' → LM <+: LM' → rc_FM S S' → ((∃ i, LM'[i]? = some t ∧ r = kn i ∧ fo_mn LT LM LT LM' (fun _ V => V t)) ∨ (r = -1 ∧ fo_no LT LM (fun _ V => V t))) → F r S') :
    kK (d + 1) m_Te_store [.inr 10, .inl (kn s), .inl (kn a), .inl (kn b), .inl (kn y)] S (kq F) := by
  obtain ⟨hL, hc, hcm, hT, hM, hH⟩ := hS
  have hnT : LT.length ≤ 50 := hL.2.2.2.2.2.1
  have hn : LM.length ≤ 250 := hL.2.2.2.2.2.2.1
  have hyl : y < 50 := by have := rp_lt hq.1; omega
  have hsm : s < 9 ∧ a < 250 ∧ b < 250 := by
    rcases hq.2 with ⟨A, _, rfl, h1, h2⟩ | ⟨f, x, _, rfl, h1, h2⟩ | ⟨A, c, _, rfl, h1, rfl⟩
    · omega
    · have := rp_lt h1
      have := rp_lt h2
      omega
    · have := rp_lt h1
      omega
  obtain ⟨hs9, ha, hb⟩ := hsm
  have hleaf : s ≠ 3 → s ≠ 4 → fo_ht t = 1 ∧ fo_af t = (s == 0) ∧ fo_gn t = fo_gt (fo_ty t) := by
    intro h3 h4
    rcases hq.2 with ⟨A, rfl, _⟩ | ⟨f, x, _, h, _⟩ | ⟨A, c, _, h, _⟩
    · exact ⟨rfl, fo_af_lf _ _ _, rfl⟩
    · exact absurd h h3
    · exact absurd h h4
  have hpart : s = 3 ∨ s = 4 → s ≠ 0 ∧ ∃ f x, LM[a]? = some f ∧ LM[b]? = some x ∧ fo_ht t = 1 + max (fo_ht f) (fo_ht x) ∧ fo_af t = (fo_af f || fo_af x) ∧ fo_gn t = (fo_gt (fo_ty t) || (fo_gn f || fo_gn x)) := by
    intro h34
    rcases hq.2 with ⟨A, rfl, _, h, _⟩ | ⟨f, x, rfl, h, h1, h2⟩ | ⟨A, c, rfl, h, h1, rfl⟩
    · omega
    · exact ⟨by omega, f, x, h1, h2, rfl, rfl, rfl⟩
    · refine ⟨by omega, c, c, h1, h1, ?_, ?_, ?_⟩
      · rw [fo_ht_ab, Nat.max_self]
      · rw [fo_af_ab, Bool.or_self]
      · rw [fo_gn_ab, Bool.or_self]
  have hgy : S 8 y = kb (fo_gt (fo_ty t)) := (hT y _ hq.1).2.1
  have hht : fo_ht t ≤ 21 := by
    by_cases h34 : s = 3 ∨ s = 4
    · obtain ⟨_, f, x, h1, h2, h3, _⟩ := hpart h34
      have := (hL.2.2.2.2.1 f (rp_mem h1)).2.1
      have := (hL.2.2.2.2.1 x (rp_mem h2)).2.1
      omega
    · rw [(hleaf (by omega) (by omega)).1]; decide
  obtain ⟨h0, hh0, eh⟩ := kn_hash (((kn s + 5 * kn a) + 23 * kn b) + 11 * kn y)
  have same : ∀ q, LM[q]? = some t → S 24 q = kn h0 := by
    intro q hq1
    obtain ⟨e1, e2, e3, e4⟩ := rc_hit hL.1 hL.2.1 hM hq1 hq
    rw [hH.2.1 q (rp_lt hq1), e1, e2, e3, e4]
    exact eh
  have no : t ∉ LM → (20 < fo_ht t ∨ 250 ≤ LM.length) → F (-1) S := fun hnot h => k _ _ LM ⟨hL, hc, hcm, hT, hM, hH⟩ (List.prefix_refl _) rc_FM_rf (Or.inr ⟨rfl, fo_no_M hL.2.1 hnot h⟩)
  -- a new place
  have fin : t ∉ LM → fo_ht t ≤ 20 → LM.length < 250 → ∀ S2 : kS, (∀ o i, ¬ (i = LM.length ∧ ((14 ≤ o ∧ o ≤ 17) ∨ o = 20 ∨ o = 21)) → S2 o i = S o i) → S2 14 LM.length = kn s → S2 15 LM.length = kn a → S2 16 LM.length = kn b → S2 17 LM.length = kn y → S2 21 LM.length = kn (fo_ht t) → S2 20 LM.length = kb (fo_af t) →
      F (kn LM.length) (ku (ku (ku (ku (ku S2 18 LM.length (kb (fo_gn t))) 24 LM.length (kn h0)) 23 LM.length (S 22 h0)) 22 h0 (kn LM.length)) 10 13 (kn LM.length + 1)) := by
    intro hnot hh hlt S2 hs e14 e15 e16 e17 e21 e20
    refine k _ _ (LM ++ [t]) ⟨fo_SL_M hL hnot ⟨hw, hh, ?_⟩ (rp_mem hq.1) ?_ ?_ hlt, ?_, ?_, ?_, ?_, ?_⟩ ⟨[t], rfl⟩ ?_ (Or.inl ⟨LM.length, by simp, rfl, fo_mn_M⟩)
    · intro s' j A e
      rcases hq.2 with ⟨A', rfl, _, _, h⟩ | ⟨f, x, rfl, _⟩ | ⟨A', c, rfl, _⟩
      · rw [← (fo_lf_inj e).2.1]; exact h
      · exact absurd e fo_ap_lf
      · exact absurd e fo_ab_lf
    · intro f x e
      rcases hq.2 with ⟨A', rfl, _⟩ | ⟨f', x', rfl, _, h1, h2⟩ | ⟨A', c, rfl, _⟩
      · exact absurd e.symm fo_ap_lf
      · obtain ⟨rfl, rfl⟩ := fo_ap_inj e
        exact ⟨rp_mem h1, rp_mem h2⟩
      · exact absurd e.symm fo_ap_ab
    · intro A c e
      rcases hq.2 with ⟨A', rfl, _⟩ | ⟨f', x', rfl, _⟩ | ⟨A', c', rfl, _, h1, _⟩
      · exact absurd e.symm fo_ab_lf
      · exact absurd e fo_ap_ab
      · obtain ⟨rfl, rfl⟩ := fo_ab_inj e
        exact rp_mem h1
    · rw [ku_ne (by omega), ku_ne (by omega), ku_ne (by omega), ku_ne (by omega), ku_ne (by omega), hs _ _ (by omega)]
      exact hc
    · rw [ku_self, kn_suc, List.length_append, List.length_singleton]
    · refine rp_T_congr hT ?_
      intro o ho
      funext i
      rw [ku_ne (by omega), ku_ne (by omega), ku_ne (by omega), ku_ne (by omega), ku_ne (by omega), hs _ _ (by omega)]
    · refine rc_add hM hq ?_ ?_ ?_ ?_ ?_ ?_ ?_ ?_
      · intro o i h1 h2 h3 hi
        rw [ku_ne (by omega), ku_ne (by omega), ku_ne (by omega), ku_ne (by omega), ku_ne (by omega), hs _ _ (by omega)]
      · rw [ku_ne (by omega), ku_ne (by omega), ku_ne (by omega), ku_ne (by omega), ku_ne (by omega)]; exact e14
      · rw [ku_ne (by omega), ku_ne (by omega), ku_ne (by omega), ku_ne (by omega), ku_ne (by omega)]; exact e15
      · rw [ku_ne (by omega), ku_ne (by omega), ku_ne (by omega), ku_ne (by omega), ku_ne (by omega)]; exact e16
      · rw [ku_ne (by omega), ku_ne (by omega), ku_ne (by omega), ku_ne (by omega), ku_ne (by omega)]; exact e17
      · rw [ku_ne (by omega), ku_ne (by omega), ku_ne (by omega), ku_ne (by omega), ku_ne (by omega)]; exact e21
      · rw [ku_ne (by omega), ku_ne (by omega), ku_ne (by omega), ku_ne (by omega), ku_self]
      · rw [ku_ne (by omega), ku_ne (by omega), ku_ne (by omega), ku_ne (by omega), ku_ne (by omega)]; exact e20
    · rw [List.length_append, List.length_singleton]
      have b14 : ∀ i, ku (ku (ku (ku (ku S2 18 LM.length (kb (fo_gn t))) 24 LM.length (kn h0)) 23 LM.length (S 22 h0)) 22 h0 (kn LM.length)) 10 13 (kn LM.length + 1) 14 i = S2 14 i := fun i => by rw [ku_ne (by omega), ku_ne (by omega), ku_ne (by omega), ku_ne (by omega), ku_ne (by omega)]
      have b15 : ∀ i, ku (ku (ku (ku (ku S2 18 LM.length (kb (fo_gn t))) 24 LM.length (kn h0)) 23 LM.length (S 22 h0)) 22 h0 (kn LM.length)) 10 13 (kn LM.length + 1) 15 i = S2 15 i := fun i => by rw [ku_ne (by omega), ku_ne (by omega), ku_ne (by omega), ku_ne (by omega), ku_ne (by omega)]
      have b16 : ∀ i, ku (ku (ku (ku (ku S2 18 LM.length (kb (fo_gn t))) 24 LM.length (kn h0)) 23 LM.length (S 22 h0)) 22 h0 (kn LM.length)) 10 13 (kn LM.length + 1) 16 i = S2 16 i := fun i => by rw [ku_ne (by omega), ku_ne (by omega), ku_ne (by omega), ku_ne (by omega), ku_ne (by omega)]
      have b17 : ∀ i, ku (ku (ku (ku (ku S2 18 LM.length (kb (fo_gn t))) 24 LM.length (kn h0)) 23 LM.length (S 22 h0)) 22 h0 (kn LM.length)) 10 13 (kn LM.length + 1) 17 i = S2 17 i := fun i => by rw [ku_ne (by omega), ku_ne (by omega), ku_ne (by omega), ku_ne (by omega), ku_ne (by omega)]
      have b24 : ku (ku (ku (ku (ku S2 18 LM.length (kb (fo_gn t))) 24 LM.length (kn h0)) 23 LM.length (S 22 h0)) 22 h0 (kn LM.length)) 10 13 (kn LM.length + 1) 24 LM.length = kn h0 := by rw [ku_ne (by omega), ku_ne (by omega), ku_ne (by omega), ku_self]
      refine rc_H_add hH hlt hh0 ?_ b24 ?_ ?_ ?_ ?_
      · intro o i ho hi
        rw [ku_ne (by omega), ku_ne (by omega), ku_ne (by omega), ku_ne (by omega), ku_ne (by omega), hs _ _ (by omega)]
      · rw [b24, b14, b15, b16, b17, e14, e15, e16, e17]
        exact eh.symm
      · rw [ku_ne (by omega), ku_ne (by omega), ku_self]
      · rw [ku_ne (by omega), ku_self]
      · intro i hi
        rw [ku_ne (by omega), ku_ne (by omega), ku_ne (by omega), ku_ne (by omega), ku_ne (by omega), hs _ _ (by omega)]
    · intro o i hoi
      unfold rc_cm rc_ct at hoi
      rw [ku_ne (by omega), ku_ne (by omega), ku_ne (by omega), ku_ne (by omega), ku_ne (by omega), hs _ _ (by omega)]
  refine g_Te_store (fun G h => ⟨fun _ => ⟨?_, ?_⟩, fun e => absurd (kn_ge (by omega)) e⟩)
  · rw [eh]; exact kn_in hh0 (by decide)
  rw [eh, kn_tn (show h0 < 2147483648 by omega)]
  -- the last stretch
  have e322 : t ∉ LM → fo_ht t ≤ 20 → LM.length < 250 → ∀ S1 : kS, (∀ o i, ¬ (i = LM.length ∧ ((14 ≤ o ∧ o ≤ 17) ∨ o = 21)) → S1 o i = S o i) → S1 14 LM.length = kn s → S1 15 LM.length = kn a → S1 16 LM.length = kn b → S1 17 LM.length = kn y → S1 21 LM.length = kn (fo_ht t) →
      ∀ v6 v7 v8 w : Int32, w = kb (fo_gn t) → G 322 [some (.inr 10), some (.inl (kn s)), some (.inl (kn a)), some (.inl (kn b)), some (.inl (kn y)), some (.inl (kn h0)), some (.inl v6), some (.inl v7), some (.inl v8)] [.inl w, .inl (kn LM.length), .inr 18] (ku S1 20 LM.length (kb (fo_af t))) := by
    intro hnot hh hlt S1 hs e14 e15 e16 e17 e21 v6 v7 v8 w ew
    subst ew
    have hin : vp_in (kn LM.length) 250 := kn_in hlt (by decide)
    have hin2 : vp_in (kn h0) 64 := kn_in hh0 (by decide)
    have c1 : ku S1 20 LM.length (kb (fo_af t)) 10 13 = kn LM.length := by rw [ku_ne (by omega), hs _ _ (by omega)]; exact hcm
    have c2 : ku S1 20 LM.length (kb (fo_af t)) 22 h0 = S 22 h0 := by rw [ku_ne (by omega), hs _ _ (by omega)]
    refine f_Te_store_322 kspec_Mo h ?_
    rw [c1, kn_tn (show LM.length < 2147483648 by omega), kn_tn (show h0 < 2147483648 by omega), c2, kb_nar]
    refine ⟨hin, hin, hin2, hin, hin2, fin hnot hh hlt _ ?_ ?_ ?_ ?_ ?_ ?_ ?_⟩
    · intro o i ho
      rw [ku_ne (by omega), hs _ _ (by omega)]
    · rw [ku_ne (by omega)]; exact e14
    · rw [ku_ne (by omega)]; exact e15
    · rw [ku_ne (by omega)]; exact e16
    · rw [ku_ne (by omega)]; exact e17
    · rw [ku_ne (by omega)]; exact e21
    · rw [ku_self]
  have e272 : t ∉ LM → fo_ht t ≤ 20 → LM.length < 250 → ∀ S1 : kS, (∀ o i, ¬ (i = LM.length ∧ ((14 ≤ o ∧ o ≤ 17) ∨ o = 21)) → S1 o i = S o i) → S1 14 LM.length = kn s → S1 15 LM.length = kn a → S1 16 LM.length = kn b → S1 17 LM.length = kn y → S1 21 LM.length = kn (fo_ht t) →
      ∀ v6 v7 v8 w : Int32, (v7 = 0 ∧ s ≠ 3 ∧ s ≠ 4 ∨ v7 = 1 ∧ (s = 3 ∨ s = 4)) → w = kb (fo_af t) → G 272 [some (.inr 10), some (.inl (kn s)), some (.inl (kn a)), some (.inl (kn b)), some (.inl (kn y)), some (.inl (kn h0)), some (.inl v6), some (.inl v7), some (.inl v8)] [.inl w, .inl (kn LM.length), .inr 20] S1 := by
    intro hnot hh hlt S1 hs e14 e15 e16 e17 e21 v6 v7 v8 w hv7 ew
    subst ew
    have hin : vp_in (kn LM.length) 250 := kn_in hlt (by decide)
    have c1 : S1 10 13 = kn LM.length := by rw [hs _ _ (by omega)]; exact hcm
    have c2 : S1 8 y = kb (fo_gt (fo_ty t)) := by rw [hs _ _ (by omega)]; exact hgy
    have goal := e322 hnot hh hlt S1 hs e14 e15 e16 e17 e21 v6 v7 v8
    refine f_Te_store_272 kspec_Mo h ?_
    rw [c1, kn_tn (show LM.length < 2147483648 by omega), kn_tn (show y < 2147483648 by omega), kn_tn (show a < 2147483648 by omega), kn_tn (show b < 2147483648 by omega), c2, kb_nar]
    refine ⟨hin, kn_in hyl (by decide), fun e => goal _ ?_, fun e => ⟨fun e2 => goal _ ?_, fun e2 => ⟨kn_in ha (by decide), ?_⟩⟩⟩
    · rw [kb_nz] at e
      by_cases h34 : s = 3 ∨ s = 4
      · obtain ⟨_, f, x, _, _, _, _, h6⟩ := hpart h34
        rw [h6, e]; rfl
      · rw [(hleaf (by omega) (by omega)).2.2, e]; rfl
    · have e : fo_gt (fo_ty t) = false := kb_zero.mp (Classical.not_not.mp e)
      have h34 : s ≠ 3 ∧ s ≠ 4 := by
        rcases hv7 with q | q
        · exact q.2
        · rw [q.1] at e2; exact absurd e2 (by decide)
      rw [(hleaf h34.1 h34.2).2.2, e]; rfl
    · have e : fo_gt (fo_ty t) = false := kb_zero.mp (Classical.not_not.mp e)
      have h34 : s = 3 ∨ s = 4 := by
        rcases hv7 with q | q
        · exact absurd q.1 e2
        · exact q.2
      obtain ⟨_, f, x, h1, h2, _, _, h6⟩ := hpart h34
      have c3 : S1 18 a = kb (fo_gn f) := by rw [hs _ _ (by omega)]; exact (hM a f h1).2.1
      have c4 : S1 18 b = kb (fo_gn x) := by rw [hs _ _ (by omega)]; exact (hM b x h2).2.1
      rw [c3, c4]
      refine ⟨fun e3 => goal _ ?_, fun e3 => ⟨kn_in hb (by decide), fun e4 => goal _ ?_, fun e4 => goal _ ?_⟩⟩
      · rw [kb_nz] at e3
        rw [h6, e, e3]; rfl
      · have e3 : fo_gn f = false := kb_zero.mp (Classical.not_not.mp e3)
        rw [kb_zero] at e4
        rw [h6, e, e3, e4]; rfl
      · have e3 : fo_gn f = false := kb_zero.mp (Classical.not_not.mp e3)
        rw [kb_nz] at e4
        rw [h6, e, e3, e4]; rfl
  have e159 : t ∉ LM → ∀ v6 v7 : Int32, (v7 = 0 ∧ s ≠ 3 ∧ s ≠ 4 ∨ v7 = 1 ∧ (s = 3 ∨ s = 4)) → G 159 [some (.inr 10), some (.inl (kn s)), some (.inl (kn a)), some (.inl (kn b)), some (.inl (kn y)), some (.inl (kn h0)), some (.inl v6), some (.inl v7), none] [.inl (kn (fo_ht t))] S := by
    intro hnot v6 v7 hv7
    refine f_Te_store_159 kspec_Mo h ⟨fun e => ?_, fun e => ⟨fun e2 => ?_, fun e2 => ?_⟩⟩
    · exact no hnot (Or.inl ((kn_lt (n := 20) (by decide) (by omega)).mp e))
    · have hh : fo_ht t ≤ 20 := Nat.not_lt.mp (fun q => e ((kn_lt (n := 20) (by decide) (by omega)).mpr q))
      rw [hcm] at e2
      have hlt : LM.length < 250 := (kn_lt (m := 250) (by omega) (by decide)).mp e2
      have hin : vp_in (kn LM.length) 250 := kn_in hlt (by decide)
      simp only [hcm, kn_tn (show LM.length < 2147483648 by omega), kn_tn (show a < 2147483648 by omega), kn_tn (show b < 2147483648 by omega)]
      have goal := e272 hnot hh hlt (ku (ku (ku (ku (ku S 14 LM.length (kn s)) 15 LM.length (kn a)) 16 LM.length (kn b)) 17 LM.length (kn y)) 21 LM.length (kn (fo_ht t))) (by
          intro o i ho
          rw [ku_ne (by omega), ku_ne (by omega), ku_ne (by omega), ku_ne (by omega), ku_ne (by omega)]) (by rw [ku_ne (by omega), ku_ne (by omega), ku_ne (by omega), ku_ne (by omega), ku_self]) (by rw [ku_ne (by omega), ku_ne (by omega), ku_ne (by omega), ku_self]) (by rw [ku_ne (by omega), ku_ne (by omega), ku_self]) (by rw [ku_ne (by omega), ku_self]) (by rw [ku_self]) v6 v7 (kn (fo_ht t))
      refine ⟨hin, hin, hin, hin, hin, fun e3 => goal _ hv7 ?_, fun e3 => ⟨fun e4 => goal _ hv7 ?_, fun e4 => ⟨kn_in ha (by decide), ?_⟩⟩⟩
      · have hs0 : s = 0 := kn_inj (m := 0) (by omega) (by decide) e3
        rw [(hleaf (by omega) (by omega)).2.1, hs0]; rfl
      · have hs0 : s ≠ 0 := fun q => e3 (by rw [q]; rfl)
        have h34 : s ≠ 3 ∧ s ≠ 4 := by
          rcases hv7 with q | q
          · exact q.2
          · rw [q.1] at e4; exact absurd e4 (by decide)
        rw [(hleaf h34.1 h34.2).2.1, show (s == 0) = false by simpa using hs0]; rfl
      · have h34 : s = 3 ∨ s = 4 := by
          rcases hv7 with q | q
          · exact absurd q.1 e4
          · exact q.2
        obtain ⟨_, f, x, h1, h2, _, h5, _⟩ := hpart h34
        rw [(hM a f h1).2.2.1, (hM b x h2).2.2.1]
        refine ⟨fun e5 => goal _ hv7 ?_, fun e5 => ⟨kn_in hb (by decide), fun e6 => goal _ hv7 ?_, fun e6 => goal _ hv7 ?_⟩⟩
        · rw [kb_nz] at e5
          rw [h5, e5]; rfl
        · have e5 : fo_af f = false := kb_zero.mp (Classical.not_not.mp e5)
          rw [kb_zero] at e6
          rw [h5, e5, e6]; rfl
        · rw [kb_nz] at e6
          rw [h5, e6, Bool.or_true]; rfl
    · rw [hcm] at e2
      exact no hnot (Or.inr (Nat.not_lt.mp (fun q => e2 ((kn_lt (m := 250) (by omega) (by decide)).mpr q))))
  have e116 : t ∉ LM → ∀ v6 v7 : Int32, G 116 [some (.inr 10), some (.inl (kn s)), some (.inl (kn a)), some (.inl (kn b)), some (.inl (kn y)), some (.inl (kn h0)), some (.inl v6), some (.inl v7), none] [] S := by
    intro hnot v6 v7
    have p1 : s = 3 ∨ s = 4 → G 131 [some (.inr 10), some (.inl (kn s)), some (.inl (kn a)), some (.inl (kn b)), some (.inl (kn y)), some (.inl (kn h0)), some (.inl v6), some (.inl v7), none] [.inl 1] S := by
      intro h34
      refine f_Te_store_131 kspec_Mo h ⟨fun e => absurd e (by decide), fun _ => ⟨kn_in ha (by decide), kn_in hb (by decide), ?_⟩⟩
      obtain ⟨_, f, x, h1, h2, h3, _⟩ := hpart h34
      have := (hL.2.2.2.2.1 f (rp_mem h1)).2.1
      have := (hL.2.2.2.2.1 x (rp_mem h2)).2.1
      rw [kn_tn (show a < 2147483648 by omega), kn_tn (show b < 2147483648 by omega), (hM a f h1).1, (hM b x h2).1, kn_max (by omega) (by omega), show (1 : Int32) = kn 1 from rfl, kn_add, ← h3]
      exact e159 hnot v6 _ (Or.inr ⟨rfl, h34⟩)
    refine f_Te_store_116 kspec_Mo h ⟨fun e => p1 (Or.inl (kn_inj (m := 3) (by omega) (by decide) e)), fun e => ⟨fun e2 => ?_, fun e2 => p1 (Or.inr (kn_inj (m := 4) (by omega) (by decide) (Classical.not_not.mp e2)))⟩⟩
    have h3 : s ≠ 3 := fun q => e (by rw [q]; rfl)
    have h4 : s ≠ 4 := fun q => e2 (by rw [q]; rfl)
    refine f_Te_store_131 kspec_Mo h ⟨fun _ => ?_, fun e => absurd rfl e⟩
    have := e159 hnot v6 0 (Or.inl ⟨rfl, h3, h4⟩)
    rw [(hleaf h3 h4).1] at this
    exact this
  have lnil : (∀ q, q < LM.length → S 24 q = kn h0 → LM[q]? ≠ some t) → ∀ v7 : Int32, G 40 [some (.inr 10), some (.inl (kn s)), some (.inl (kn a)), some (.inl (kn b)), some (.inl (kn y)), some (.inl (kn h0)), some (.inl (-1)), some (.inl v7), none] [] S := by
    intro hno v7
    refine f_Te_store_40 kspec_Mo h ⟨fun _ => e116 ?_ _ _, fun e => absurd kn_m1lt e⟩
    intro hx
    obtain ⟨q, hq1⟩ := rp_at hx
    exact hno q (rp_lt hq1) (same q hq1) hq1
  have loop : ∀ m p, p ≤ m → p < LM.length → S 24 p = kn h0 → (∀ q, p < q → q < LM.length → S 24 q = kn h0 → LM[q]? ≠ some t) → ∀ j, j + p < 250 → G 40 [some (.inr 10), some (.inl (kn s)), some (.inl (kn a)), some (.inl (kn b)), some (.inl (kn y)), some (.inl (kn h0)), some (.inl (kn p)), some (.inl (kn j)), none] [] S := by
    intro m
    induction m with
    | zero =>
      intro p hpm hp h24 hno j hj
      have hp0 : p = 0 := by omega
      subst hp0
      have hin : vp_in (kn 0) 250 := kn_in (by omega) (by decide)
      have hu : LM[0]? = some LM[0] := List.getElem?_eq_getElem hp
      have next : LM[0]? ≠ some t → ∀ v, G 40 [some (.inr 10), some (.inl (kn s)), some (.inl (kn a)), some (.inl (kn b)), some (.inl (kn y)), some (.inl (kn h0)), some (.inl (S 23 0)), some (.inl v), none] [] S := by
        intro hne v
        rcases hH.2.2.2 0 hp with ⟨f1, f2⟩ | ⟨r, hr, _⟩
        · rw [f1]
          refine lnil (fun q hq1 hq2 => ?_) v
          by_cases hq0 : q = 0
          · rw [hq0]; exact hne
          · exact hno q (by omega) hq1 hq2
        · exact absurd hr (by omega)
      refine f_Te_store_40 kspec_Mo h ⟨fun e => absurd e (kn_nn (by omega)), fun _ => ⟨fun e => absurd ((kn_le (n := 250) (by decide) (by omega)).mp e) (by omega), fun _ => ?_⟩⟩
      rw [kn_tn (show 0 < 2147483648 by omega)]
      refine ⟨hin, fun e => ⟨hin, next (fun hk => e (rc_hit hL.1 hL.2.1 hM hk hq).1) _⟩, fun e1 => ⟨hin, fun e => ⟨hin, next (fun hk => e (rc_hit hL.1 hL.2.1 hM hk hq).2.1) _⟩, fun e2 => ⟨hin, fun e => ⟨hin, next (fun hk => e (rc_hit hL.1 hL.2.1 hM hk hq).2.2.1) _⟩, fun e3 => ⟨hin, fun e => ⟨hin, next (fun hk => e (rc_hit hL.1 hL.2.1 hM hk hq).2.2.2) _⟩, fun e4 => ?_⟩⟩⟩⟩
      have e := rc_found hnT hn hM hu (hL.2.2.2.2.1 _ (rp_mem hu)) hq (Classical.not_not.mp e1) (Classical.not_not.mp e2) (Classical.not_not.mp e3) (Classical.not_not.mp e4)
      exact k _ _ LM ⟨hL, hc, hcm, hT, hM, hH⟩ (List.prefix_refl _) rc_FM_rf (Or.inl ⟨0, by rw [hu, e], rfl, fo_mn_rf⟩)
    | succ m ih =>
      intro p hpm hp h24 hno j hj
      have hin : vp_in (kn p) 250 := kn_in (by omega) (by decide)
      have hu : LM[p]? = some LM[p] := List.getElem?_eq_getElem hp
      have next : LM[p]? ≠ some t → G 40 [some (.inr 10), some (.inl (kn s)), some (.inl (kn a)), some (.inl (kn b)), some (.inl (kn y)), some (.inl (kn h0)), some (.inl (S 23 p)), some (.inl (kn j + 1)), none] [] S := by
        intro hne
        rcases hH.2.2.2 p hp with ⟨f1, f2⟩ | ⟨r, hr, f1, f2, f3⟩
        · rw [f1]
          refine lnil (fun q hq1 hq2 => ?_) _
          by_cases hqp : q = p
          · rw [hqp]; exact hne
          · by_cases hlt : q < p
            · exact absurd (hq2.trans h24.symm) (f2 q hlt)
            · exact hno q (by omega) hq1 hq2
        · rw [f1, kn_suc]
          refine ih r (by omega) (by omega) (f2.trans h24) (fun q h1 h2 h3 => ?_) (j + 1) (by omega)
          by_cases hqp : q = p
          · rw [hqp]; exact hne
          · by_cases hlt : q < p
            · exact absurd (h3.trans h24.symm) (f3 q h1 hlt)
            · exact hno q (by omega) h2 h3
      refine f_Te_store_40 kspec_Mo h ⟨fun e => absurd e (kn_nn (by omega)), fun _ => ⟨fun e => absurd ((kn_le (n := 250) (by decide) (by omega)).mp e) (by omega), fun _ => ?_⟩⟩
      rw [kn_tn (show p < 2147483648 by omega)]
      refine ⟨hin, fun e => ⟨hin, next (fun hk => e (rc_hit hL.1 hL.2.1 hM hk hq).1)⟩, fun e1 => ⟨hin, fun e => ⟨hin, next (fun hk => e (rc_hit hL.1 hL.2.1 hM hk hq).2.1)⟩, fun e2 => ⟨hin, fun e => ⟨hin, next (fun hk => e (rc_hit hL.1 hL.2.1 hM hk hq).2.2.1)⟩, fun e3 => ⟨hin, fun e => ⟨hin, next (fun hk => e (rc_hit hL.1 hL.2.1 hM hk hq).2.2.2)⟩, fun e4 => ?_⟩⟩⟩⟩
      have e := rc_found hnT hn hM hu (hL.2.2.2.2.1 _ (rp_mem hu)) hq (Classical.not_not.mp e1) (Classical.not_not.mp e2) (Classical.not_not.mp e3) (Classical.not_not.mp e4)
      exact k _ _ LM ⟨hL, hc, hcm, hT, hM, hH⟩ (List.prefix_refl _) rc_FM_rf (Or.inl ⟨p, by rw [hu, e], rfl, fo_mn_rf⟩)
  rcases hH.2.2.1 h0 hh0 with ⟨f1, f2⟩ | ⟨p, hp, f1, f2, f3⟩
  · rw [f1]
    exact lnil (fun q h1 h2 => absurd h2 (f2 q h1)) _
  · rw [f1]
    exact loop p p (Nat.le_refl _) hp f2 (fun q h1 h2 h3 => absurd h3 (f3 q h1 h2)) 0 (by omega)
theorem c_Te_store_no {d : Nat} {S : kS} {s x y z : Int32} {F : Int32 → kS → Prop} (h : z < 0) (k : F (-1) S) : kK (d + 1) m_Te_store [.inr 10, .inl s, .inl x, .inl y, .inl z] S (kq F) := by
  refine g_Te_store (fun G _ => ⟨fun e => absurd h (Int32.not_lt.mpr e), fun _ => k⟩)
