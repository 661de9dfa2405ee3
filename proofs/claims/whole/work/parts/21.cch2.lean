/-! ===== THE CLASS: a term with the change ===== -/
theorem c_Ch_stands {d : Nat} {S : kS} {LT LM : List kF} {st : kF → Nat → Option kF} {rt : kF → kF} {i u : Nat} {t : kF} {F : Int32 → kS → Prop} (hC : rc_C S LT LM st rt) (hi : LM[i]? = some t) (hu : u < 20) (k1 : st t u ≠ none → F 1 S) (k0 : st t u = none → F 0 S) : kK (d + 1) m_Ch_stands [.inr 30, .inl (kn i), .inl (kn u)] S (kq F) := by
  have li := rc_lM hC.1 hi
  have wne : ∀ {a b : Nat}, S 30 5 = kn a → a < 4 → b < 4 → a ≠ b → ¬ S 30 5 = kn b := fun w h1 h2 h3 e => h3 (kn_inj (by omega) (by omega) (w.symm.trans e))
  have wout : ∀ {a : Nat}, S 30 5 = kn a → a < 4 → ¬ (S 30 5 < 0 ∨ 4 ≤ S 30 5) := by
    intro a w ha q
    rw [w] at q
    rcases q with q | q
    · exact kn_nn (by omega) q
    · have := (kn_le (n := 4) (by decide) (by omega)).mp q
      omega
  rcases hC.2.1 with ⟨o, p, a, b, w, h1, _, h3, _, rfl, _⟩ | ⟨v, c, a, b, w, _, _, _, _, _, rfl, _⟩ | ⟨x, a, w, h1, h3, rfl, _⟩ | ⟨p, b, w, _, _, rfl, _⟩
  · have la := rc_lM hC.1 h1
    have both : (¬ kn i = S 30 6 → F 0 S) ∧ (¬ (¬ kn i = S 30 6) → F 1 S) := by
      rw [h3]
      refine ⟨fun e => k0 ?_, fun e => k1 ?_⟩
      · rcases fo_sR_eq (old := o) (put := p) (t := t) (d := u) with ⟨_, q⟩ | ⟨q, _⟩
        · subst q
          exact absurd (by rw [fo_ix hC.1.1.2.1 hi h1]) e
        · exact q
      · have e := kn_inj (by omega) (by omega) (Classical.not_not.mp e)
        subst e
        rw [h1] at hi
        injection hi with hi
        subst hi
        rcases fo_sR_eq (old := o) (put := p) (t := o) (d := u) with ⟨q, _⟩ | ⟨_, q⟩
        · rw [q]; exact fun e => by cases e
        · exact absurd rfl q
    exact g_Ch_stands ⟨fun _ => both, fun e => absurd e (wne (b := 1) w (by decide) (by decide) (by decide)), fun e => absurd e (wne (b := 2) w (by decide) (by decide) (by decide)), fun e => absurd e (wne (b := 3) w (by decide) (by decide) (by decide)), fun e => absurd e (wout w (by decide))⟩
  · exact g_Ch_stands ⟨fun e => absurd e (wne (b := 0) w (by decide) (by decide) (by decide)), fun _ => k0 rfl, fun e => absurd e (wne (b := 2) w (by decide) (by decide) (by decide)), fun e => absurd e (wne (b := 3) w (by decide) (by decide) (by decide)), fun e => absurd e (wout w (by decide))⟩
  · have la := rc_lM hC.1 h1
    have both : (¬ kn i = S 30 6 → F 0 S) ∧ (¬ (¬ kn i = S 30 6) → F 1 S) := by
      rw [h3]
      refine ⟨fun e => k0 ?_, fun e => k1 ?_⟩
      · rcases fo_sA_eq (x := x) (t := t) (d := u) with ⟨_, q⟩ | ⟨q, _⟩
        · subst q
          exact absurd (by rw [fo_ix hC.1.1.2.1 hi h1]) e
        · exact q
      · have e := kn_inj (by omega) (by omega) (Classical.not_not.mp e)
        subst e
        rw [h1] at hi
        injection hi with hi
        subst hi
        rcases fo_sA_eq (x := x) (t := x) (d := u) with ⟨q, _⟩ | ⟨_, q⟩
        · rw [q]; exact fun e => by cases e
        · exact absurd rfl q
    exact g_Ch_stands ⟨fun e => absurd e (wne (b := 0) w (by decide) (by decide) (by decide)), fun e => absurd e (wne (b := 1) w (by decide) (by decide) (by decide)), fun _ => both, fun e => absurd e (wne (b := 3) w (by decide) (by decide) (by decide)), fun e => absurd e (wout w (by decide))⟩
  · refine g_Ch_stands ⟨fun e => absurd e (wne (b := 0) w (by decide) (by decide) (by decide)), fun e => absurd e (wne (b := 1) w (by decide) (by decide) (by decide)), fun e => absurd e (wne (b := 2) w (by decide) (by decide) (by decide)), fun _ => ?_, fun e => absurd e (wout w (by decide))⟩
    obtain ⟨es, h6, _⟩ := rc_so hC.1 hi
    obtain ⟨Γ, hw⟩ := rc_wf hC.1 hi
    rw [kn_tn (by omega), es]
    refine ⟨kn_in li (by decide), fun e => k0 ?_, fun e => ⟨kn_in li (by decide), ?_⟩⟩
    · rcases fo_sO_eq (put := p) (t := t) (d := u) with ⟨_, A, q⟩ | ⟨q, _⟩
      · subst q
        exact absurd rfl e
      · exact q
    · have e5 := kn_inj (m := 5) (by omega) (by decide) (Classical.not_not.mp e)
      obtain ⟨n, A, et, ho⟩ := fo_so_l hw (by omega) (by omega)
      rw [e5] at et
      have hn := (hC.1.1.2.2.2.2.1 t (rp_mem hi)).2.2 5 n A et
      have e15 := ((hC.1.2.2.2.2.1 i t hi).2.2.2.2.1 5 n A et).2.1
      rw [e15]
      refine ⟨fun e => k0 ?_, fun e => k1 ?_⟩
      · rcases fo_sO_eq (put := p) (t := t) (d := u) with ⟨_, A', q⟩ | ⟨q, _⟩
        · rw [et] at q
          exact absurd (by rw [(fo_lf_inj q).2.1]) e
        · exact q
      · have e := kn_inj (by omega) (by omega) (Classical.not_not.mp e)
        subst e
        rcases fo_sO_eq (put := p) (t := t) (d := n) with ⟨q, _⟩ | ⟨_, q⟩
        · rw [q]; exact fun e => by cases e
        · exact absurd ⟨A, et⟩ q
/-- what a term with the change may be: of the form that the store takes -/
def ch_E (st : kF → Nat → Option kF) (rt : kF → kF) (E : List kF → Nat → Prop) : Prop := (∀ Γ u A, E Γ u → E (A :: Γ) (u + 1)) ∧ (∀ Γ t u, fo_wf Γ t → E Γ u → ∃ Γ', fo_wf Γ' (fo_im st rt t u))
theorem fo_im_st {st : kF → Nat → Option kF} {rt : kF → kF} {Γ : List kF} {t : kF} (h : fo_wf Γ t) {u : Nat} {v : kF} (e : st t u = some v) : fo_im st rt t u = v := by
  rcases fo_wf_cases h with ⟨s, k, A, rfl, _⟩ | ⟨f, x, _, rfl, _⟩ | ⟨A, b, rfl, _⟩
  · rw [fo_im_lf, e]; rfl
  · rw [fo_im_ap, e]; rfl
  · rw [fo_im_ab, e]; rfl
/-- what is to be done where nothing is put in -/
def ch_B (d : Nat) (S : kS) (i u l : Nat) (F : Int32 → kS → Prop) : Prop :=
  vp_in (kn i) 250 ∧
  (¬ S 14 i = 3 →
    vp_in (kn i) 250 ∧
    (¬ S 14 i = 4 →
      vp_in (kn i) 250 ∧ vp_in (kn i) 250 ∧ vp_in (kn i) 250 ∧ vp_in (kn i) 250 ∧
      kK d m_Ch_retyped [.inr 30, .inl (S 17 i), .inl 0] S (kq fun r4 S3 =>
        kK d m_Te_store [.inr 10, .inl (S 14 i), .inl (S 15 i), .inl (S 16 i), .inl r4] S3 (kq fun r6 S5 => F r6 S5))) ∧
    (¬ (¬ S 14 i = 4) →
      vp_in (kn i) 250 ∧ vp_in (S 17 i) 50 ∧
      kK d m_Ch_retyped [.inr 30, .inl (S 6 ((S 17 i).toNatClampNeg)), .inl 0] S (kq fun r8 S7 =>
        (0 ≤ r8 →
          vp_in (kn i) 250 ∧
          kK d m_Ch_changed [.inr 30, .inl (S7 15 i), .inl (kn u + 1), .inl (kn l + 1)] S7 (kq fun r10 S9 =>
            kK d m_Te_abstraction [.inr 10, .inl r8, .inl r10] S9 (kq fun r12 S11 => F r12 S11))) ∧
        (¬ (0 ≤ r8) → F (-1) S7)))) ∧
  (¬ (¬ S 14 i = 3) →
    vp_in (kn i) 250 ∧
    kK d m_Ch_changed [.inr 30, .inl (S 15 i), .inl (kn u), .inl (kn l + 1)] S (kq fun r14 S13 =>
      (0 ≤ r14 →
        vp_in (kn i) 250 ∧
        kK d m_Ch_changed [.inr 30, .inl (S13 16 i), .inl (kn u), .inl (kn l + 1)] S13 (kq fun r16 S15 =>
          kK d m_Te_application [.inr 10, .inl r14, .inl r16] S15 (kq fun r18 S17 => F r18 S17))) ∧
      (¬ (0 ≤ r14) → F (-1) S13)))
set_option maxHeartbeats 2000000 in
theorem c_Ch_node {d : Nat} {S : kS} {LT LM : List kF} {st : kF → Nat → Option kF} {rt : kF → kF} {i u l : Nat} {t : kF} {F : Int32 → kS → Prop} (hC : rc_C S LT LM st rt) (hi : LM[i]? = some t) (hul : u ≤ l) (hl : l < 20) (hwi : ∃ Γ', fo_wf Γ' (fo_im st rt t u))
    (k : ∀ r S' LT' LM', rc_C S' LT' LM' st rt → LT <+: LT' → LM <+: LM' → rc_FC S S' → rc_en LT LM LT' LM' (fo_im st rt t u) r → F r S')
    (body : st t u = none → ∀ F' : Int32 → kS → Prop, (∀ r S' LT' LM', rc_C S' LT' LM' st rt → LT <+: LT' → LM <+: LM' → rc_FC S S' → rc_en LT LM LT' LM' (fo_im st rt t u) r → F' r S') → ch_B (d + 1) S i u l F') :
    kK (d + 3) m_Ch_changed [.inr 30, .inl (kn i), .inl (kn u), .inl (kn l)] S (kq F) := by
  have li := rc_lM hC.1 hi
  obtain ⟨Γ, hw⟩ := rc_wf hC.1 hi
  have hkey : kn u * 250 + kn i = kn (u * 250 + i) := by rw [show (250 : Int32) = kn 250 from rfl, kn_mul, kn_add]
  have hin5 : vp_in (kn (u * 250 + i)) 5000 := kn_in (by omega) (by decide)
  refine g_Ch_changed ⟨fun e => absurd e (kn_nn (by omega)), fun _ => ⟨fun e => absurd ((kn_lt (by omega) (by omega)).mp e) (by omega), fun _ => ⟨fun _ => ?_, fun e => absurd ((kn_lt (n := l) (m := 20) (by omega) (by decide)).mpr hl) e⟩⟩⟩
  rw [hkey, kn_tn (show u * 250 + i < 2147483648 by omega)]
  refine ⟨hin5, fun e => ?_, fun e => ⟨hin5, ?_⟩⟩
  · have k' : ∀ r S' LT' LM', rc_C S' LT' LM' st rt → LT <+: LT' → LM <+: LM' → rc_FC S S' → rc_en LT LM LT' LM' (fo_im st rt t u) r → (fun r2 S1 => (r2 < 0 → F r2 S1) ∧ (¬ (r2 < 0) → vp_in (kn (u * 250 + i)) 5000 ∧ F r2 (ku S1 31 (u * 250 + i) (((S1 30 4) <<< ((8 : Int32) &&& 31)) ||| r2)))) r S' := by
      intro r S' LT' LM' c p1 p2 f en
      rcases en with ⟨j, hj, rfl, m⟩ | ⟨rfl, n⟩
      · refine ⟨fun e => absurd e (kn_nn (by have := rc_lM c.1 hj; omega)), fun _ => ⟨hin5, ?_⟩⟩
        exact k _ _ LT' LM' (rc_C_mM c (by omega) (rp_pre p2 hi) hj) p1 p2 (rc_FC_tr f rc_FC_31) (Or.inl ⟨j, hj, rfl, m⟩)
      · exact ⟨fun _ => k _ _ LT' LM' c p1 p2 f (Or.inr ⟨rfl, n⟩), fun e => absurd kn_m1lt e⟩
    refine g_Ch_madeAnew (fun G h => ?_)
    have g22 : G 22 [some (.inr 30), some (.inl (kn i)), some (.inl (kn u)), some (.inl (kn l)), none] [] S := by
      refine f_Ch_madeAnew_22 kspec_Mo h (c_Ch_stands hC hi (by omega) (fun hs => ⟨fun e => absurd e (by decide), fun _ => ⟨fun e => ?_, fun e => ⟨kn_in li (by decide), ?_⟩⟩⟩) (fun hs => ⟨fun _ => ?_, fun e => absurd rfl e⟩))
      · rcases hC.2.1 with ⟨o, p, a, b, w, h1, h2, h3, h4, rfl, rfl⟩ | ⟨v, c, a, b, w, _, _, _, _, _, rfl, _⟩ | ⟨x, a, w, h1, h3, rfl, rfl⟩ | ⟨p, b, w, h2, h4, rfl, rfl⟩
        · rw [h4]
          refine k' _ _ LT LM hC (List.prefix_refl _) (List.prefix_refl _) rc_FC_rf (Or.inl ⟨b, ?_, rfl, fo_mn_rf⟩)
          rcases fo_sR_eq (old := o) (put := p) (t := t) (d := u) with ⟨q, _⟩ | ⟨q, _⟩
          · rw [fo_im_st hw q]; exact h2
          · exact absurd q hs
        · exact absurd rfl hs
        · exact absurd (by rw [w]; rfl) e
        · rw [h4]
          refine k' _ _ LT LM hC (List.prefix_refl _) (List.prefix_refl _) rc_FC_rf (Or.inl ⟨b, ?_, rfl, fo_mn_rf⟩)
          rcases fo_sO_eq (put := p) (t := t) (d := u) with ⟨q, _⟩ | ⟨q, _⟩
          · rw [fo_im_st hw q]; exact h2
          · exact absurd q hs
      · rcases hC.2.1 with ⟨o, p, a, b, w, h1, h2, h3, h4, rfl, rfl⟩ | ⟨v, c, a, b, w, _, _, _, _, _, rfl, _⟩ | ⟨x, a, w, h1, h3, rfl, rfl⟩ | ⟨p, b, w, h2, h4, rfl, rfl⟩
        · rw [w] at e; exact absurd (Classical.not_not.mp e) (by decide)
        · rw [w] at e; exact absurd (Classical.not_not.mp e) (by decide)
        · rcases fo_sA_eq (x := x) (t := t) (d := u) with ⟨q, ex⟩ | ⟨q, _⟩
          · have eim := fo_im_st (rt := id) hw q
            rw [eim] at hwi k'
            rw [kn_tn (by omega)]
            obtain ⟨_, _, _, ⟨y, hy, ey⟩, _⟩ := hC.1.2.2.2.2.1 i t hi
            rw [ey]
            refine c_Te_store (t := fo_lf 5 u (fo_ty x)) (s := 5) (a := u) (b := 0) hC.1 ⟨by rw [ex] at hy; exact hy, Or.inl ⟨_, rfl, rfl, by omega, by omega⟩⟩ hwi ?_
            intro r S' LM' s1 p1 f1 e1
            exact k' r S' LT LM' (rc_C_gr hC ⟨s1, List.prefix_refl _, p1, f1⟩) (List.prefix_refl _) p1 (rc_FC_of f1) e1
          · exact absurd q hs
        · rw [w] at e; exact absurd (Classical.not_not.mp e) (by decide)
      · rw [kn_tn (show i < 2147483648 by omega)]
        exact body hs _ k'
    refine ⟨fun _ => g22, fun e1 => ⟨kn_in li (by decide), fun _ => g22, fun e2 => ?_⟩⟩
    rw [kn_tn (by omega), (hC.1.2.2.2.2.1 i t hi).2.1] at e2
    have hg : fo_gn t = false := kb_zero.mp (Classical.not_not.mp e2)
    rcases hC.2.1 with ⟨o, p, a, b, w, h1, h2, h3, h4, rfl, rfl⟩ | ⟨v, c, a, b, w, hv, _, _, _, _, rfl, rfl⟩ | ⟨x, a, w, h1, h3, rfl, rfl⟩ | ⟨p, b, w, h2, h4, rfl, rfl⟩
    · rw [w] at e1; exact absurd (Classical.not_not.mp e1) (by decide)
    · refine k' _ _ LT LM hC (List.prefix_refl _) (List.prefix_refl _) rc_FC_rf (Or.inl ⟨i, ?_, rfl, fo_mn_rf⟩)
      rw [fo_im_gn hv hw hg]
      exact hi
    · rw [w] at e1; exact absurd (Classical.not_not.mp e1) (by decide)
    · rw [w] at e1; exact absurd (Classical.not_not.mp e1) (by decide)
  · obtain ⟨τ, a1, a2, a3, _⟩ := hC.2.2
    obtain ⟨m, p, b1, b2, b3, b4⟩ := a3 u i (by omega) li
    have sh := ch_sh (m := m) (p := p) (by omega) b2
    rw [b3, sh.1, a1] at e
    have em := kn_inj (by omega) (by omega) (Classical.not_not.mp e)
    obtain ⟨t', c1, c2⟩ := b4 em
    rw [hi] at c1
    injection c1 with c1
    subst c1
    rw [b3, sh.2]
    exact k _ _ LT LM hC (List.prefix_refl _) (List.prefix_refl _) rc_FC_rf (Or.inl ⟨p, c2, rfl, fo_mn_rf⟩)
set_option maxHeartbeats 2000000 in
theorem c_Ch_changed {st : kF → Nat → Option kF} {rt : kF → kF} {E : List kF → Nat → Prop} (hE : ch_E st rt E) {Γ : List kF} {t : kF} (hw : fo_wf Γ t) : ∀ (D : Nat), 2 * fo_ht t + 25 ≤ D → ∀ (S : kS) (LT LM : List kF) (i u l : Nat) (F : Int32 → kS → Prop), E Γ u → rc_C S LT LM st rt → LM[i]? = some t → u ≤ l → l + fo_ht t ≤ 20 →
    (∀ r S' LT' LM', rc_C S' LT' LM' st rt → LT <+: LT' → LM <+: LM' → rc_FC S S' → rc_en LT LM LT' LM' (fo_im st rt t u) r → F r S') →
    kK D m_Ch_changed [.inr 30, .inl (kn i), .inl (kn u), .inl (kn l)] S (kq F) := by
  refine fo_wf_ind (P := fun Γ t => ∀ (D : Nat), 2 * fo_ht t + 25 ≤ D → ∀ (S : kS) (LT LM : List kF) (i u l : Nat) (F : Int32 → kS → Prop), E Γ u → rc_C S LT LM st rt → LM[i]? = some t → u ≤ l → l + fo_ht t ≤ 20 →
    (∀ r S' LT' LM', rc_C S' LT' LM' st rt → LT <+: LT' → LM <+: LM' → rc_FC S S' → rc_en LT LM LT' LM' (fo_im st rt t u) r → F r S') →
    kK D m_Ch_changed [.inr 30, .inl (kn i), .inl (kn u), .inl (kn l)] S (kq F)) ?_ ?_ ?_ hw
  · intro Γ s n A ho D hD S LT LM i u l F he hC hi hul hl k
    rw [fo_ht_lf] at hD hl
    obtain ⟨d, rfl⟩ : ∃ d, D = d + 3 := ⟨D - 3, by omega⟩
    have hwi := hE.2 Γ _ u (fo_wf_lf ho) he
    refine c_Ch_node hC hi hul (by omega) hwi k (fun hs F' k' => ?_)
    have li := rc_lM hC.1 hi
    have hin : vp_in (kn i) 250 := kn_in li (by decide)
    have so := fo_lo_s ho
    have hn := (hC.1.1.2.2.2.2.1 _ (rp_mem hi)).2.2 s n A rfl
    obtain ⟨_, _, _, ⟨y, hy, ey⟩, hlf, _⟩ := hC.1.2.2.2.2.1 i _ hi
    obtain ⟨e14, e15, e16⟩ := hlf s n A rfl
    have eim : fo_im st rt (fo_lf s n A) u = fo_lf s n (rt A) := by rw [fo_im_lf, hs]; rfl
    rw [eim] at k' hwi
    unfold ch_B
    rw [e14, e15, e16, ey]
    refine ⟨hin, fun _ => ⟨hin, fun _ => ⟨hin, hin, hin, hin, ?_⟩, fun e => ?_⟩, fun e => ?_⟩
    · have hth : fo_th A ≤ 10 := (hC.1.1.2.2.2.1 A (rp_mem hy)).2
      refine c_Ch_retyped (A := A) ho.1 _ (by omega) S LT y 0 _ hC hy (by omega) ?_
      intro r S1 LT1 c1 p1 f1 m1
      rcases m1 with ⟨j, hj, rfl, m1⟩ | ⟨rfl, n1⟩
      · refine c_Te_store (t := fo_lf s n (rt A)) c1.1 ⟨hj, Or.inl ⟨_, rfl, rfl, by omega, hn⟩⟩ hwi ?_
        intro r S2 LM2 s2 p2 f2 e2
        have mm : fo_mn LT LM LT1 LM (fun _ V => V (fo_lf s n (rt A))) := fo_mn_tr m1 fo_mn_rf (g2 := fun _ _ => True) (fun U V hc hg => hc.2.1 _ hg) (fun _ _ _ _ => trivial)
        refine k' r S2 LT1 LM2 (rc_C_gr c1 ⟨s2, List.prefix_refl _, p2, f2⟩) p1 p2 (rc_FC_tr f1 (rc_FC_of f2)) ?_
        rcases e2 with ⟨q, hq, rfl, m2⟩ | ⟨rfl, n2⟩
        · exact Or.inl ⟨q, hq, rfl, fo_mn_tr mm m2 (fun _ _ _ hg => hg) (fun _ _ _ hg => hg)⟩
        · exact Or.inr ⟨rfl, fo_no_2 mm n2 (fun _ _ _ hg => hg) (fun _ _ _ hg => hg)⟩
      · exact c_Te_store_no kn_m1lt (k' _ _ LT1 LM c1 p1 (List.prefix_refl _) f1 (Or.inr ⟨rfl, fo_no_1 n1 (fun U V hc hg => hc.2.1 _ hg)⟩))
    · have := kn_inj (m := 4) (by omega) (by decide) (Classical.not_not.mp e)
      omega
    · have := kn_inj (m := 3) (by omega) (by decide) (Classical.not_not.mp e)
      omega
  · intro Γ f x b wf wx ihf ihx ety D hD S LT LM i u l F he hC hi hul hl k
    rw [fo_ht_ap] at hD hl
    obtain ⟨d, rfl⟩ : ∃ d, D = d + 3 := ⟨D - 3, by omega⟩
    have hwi := hE.2 Γ _ u (fo_wf_ap wf wx ety) he
    refine c_Ch_node hC hi hul (by omega) hwi k (fun hs F' k' => ?_)
    have li := rc_lM hC.1 hi
    have hin : vp_in (kn i) 250 := kn_in li (by decide)
    obtain ⟨e14, i1, i2, _, _, hi1, hi2, e15, e16⟩ := (hC.1.2.2.2.2.1 i _ hi).2.2.2.2.2.1 f x rfl
    have eim : fo_im st rt (fo_ap f x) u = fo_ap (fo_im st rt f u) (fo_im st rt x u) := by rw [fo_im_ap, hs]; rfl
    rw [eim] at k' hwi
    unfold ch_B
    rw [e14, e15, kn_suc l]
    refine ⟨hin, fun e => absurd rfl e, fun _ => ⟨hin, ?_⟩⟩
    have hl2 : 1 ≤ fo_ht f ∧ 1 ≤ fo_ht x := ⟨fo_ht_pos f, fo_ht_pos x⟩
    refine ihf (d + 1) (by omega) S LT LM i1 u (l + 1) _ he hC hi1 (by omega) (by omega) ?_
    intro r S1 LT1 LM1 c1 p1 p1' f1 en1
    rcases en1 with ⟨j1, hj1, rfl, m1⟩ | ⟨rfl, n1⟩
    · refine ⟨fun _ => ⟨hin, ?_⟩, fun e => absurd (kn_ge (by have := rc_lM c1.1 hj1; omega)) e⟩
      obtain ⟨_, i1', i2', _, _, _, hi2', _, e16'⟩ := (c1.1.2.2.2.2.1 i _ (rp_pre p1' hi)).2.2.2.2.2.1 f x rfl
      rw [e16']
      refine ihx (d + 1) (by omega) S1 LT1 LM1 i2' u (l + 1) _ he c1 hi2' (by omega) (by omega) ?_
      intro r S2 LT2 LM2 c2 p2 p2' f2 en2
      rcases en2 with ⟨j2, hj2, rfl, m2⟩ | ⟨rfl, n2⟩
      · obtain ⟨d', rfl⟩ : ∃ d', d = d' + 1 := ⟨d - 1, by omega⟩
        refine c_Te_application c2.1 (rp_pre p2' hj1) hj2 hwi ?_
        intro r S3 LM3 g3 e3
        have mm : fo_mn LT LM LT2 LM2 (fun _ V => V (fo_ap (fo_im st rt f u) (fo_im st rt x u))) := fo_mn_tr m1 m2 (fun U V hc hg => (hc.2.2.1 _ _ hg).1) (fun U V hc hg => (hc.2.2.1 _ _ hg).2)
        refine k' r S3 LT2 LM3 (rc_C_gr c2 g3) (p1.trans p2) (p1'.trans (p2'.trans g3.2.2.1)) (rc_FC_tr f1 (rc_FC_tr f2 (rc_FC_of g3.2.2.2))) ?_
        rcases e3 with ⟨q, hq, rfl, m3⟩ | ⟨rfl, n3⟩
        · exact Or.inl ⟨q, hq, rfl, fo_mn_tr mm m3 (fun _ _ _ hg => hg) (fun _ _ _ hg => hg)⟩
        · exact Or.inr ⟨rfl, fo_no_2 mm n3 (fun _ _ _ hg => hg) (fun _ _ _ hg => hg)⟩
      · exact c_Te_application_no (Or.inr kn_m1lt) (k' _ _ LT2 LM2 c2 (p1.trans p2) (p1'.trans p2') (rc_FC_tr f1 f2) (Or.inr ⟨rfl, fo_no_2 m1 n2 (fun U V hc hg => (hc.2.2.1 _ _ hg).1) (fun U V hc hg => (hc.2.2.1 _ _ hg).2)⟩))
    · refine ⟨fun e => absurd e (by decide), fun _ => k' _ _ LT1 LM1 c1 p1 p1' f1 (Or.inr ⟨rfl, fo_no_1 n1 (fun U V hc hg => (hc.2.2.1 _ _ hg).1)⟩)⟩
  · intro Γ A b hA wb ihb D hD S LT LM i u l F he hC hi hul hl k
    rw [fo_ht_ab] at hD hl
    obtain ⟨d, rfl⟩ : ∃ d, D = d + 3 := ⟨D - 3, by omega⟩
    have hwi := hE.2 Γ _ u (fo_wf_ab hA wb) he
    refine c_Ch_node hC hi hul (by omega) hwi k (fun hs F' k' => ?_)
    have li := rc_lM hC.1 hi
    have hin : vp_in (kn i) 250 := kn_in li (by decide)
    obtain ⟨e14, i1, _, hi1, e15, _⟩ := (hC.1.2.2.2.2.1 i _ hi).2.2.2.2.2.2 A b rfl
    obtain ⟨_, _, _, ⟨y, hy, ey⟩, _⟩ := hC.1.2.2.2.2.1 i _ hi
    have ly := rc_lT hC.1 hy
    obtain ⟨_, ya, _, _, _, hya, _, e6, _⟩ := (hC.1.2.2.2.1 y _ hy).2.2.2 A (fo_ty b) rfl
    have hth : fo_th A ≤ 10 := (hC.1.1.2.2.2.1 A (rp_mem hya)).2
    have eim : fo_im st rt (fo_ab A b) u = fo_ab (rt A) (fo_im st rt b (u + 1)) := by rw [fo_im_ab, hs]; rfl
    rw [eim] at k' hwi
    unfold ch_B
    rw [e14, ey, kn_suc, kn_suc, kn_tn (show y < 2147483648 by omega), e6]
    have hl2 : 1 ≤ fo_ht b := fo_ht_pos b
    refine ⟨hin, fun _ => ⟨hin, fun e => absurd rfl e, fun _ => ⟨hin, kn_in ly (by decide), ?_⟩⟩, fun e => absurd (Classical.not_not.mp e) (by decide)⟩
    refine c_Ch_retyped (A := A) hA _ (by omega) S LT ya 0 _ hC hya (by omega) ?_
    intro r S1 LT1 c1 p1 f1 m1
    rcases m1 with ⟨j1, hj1, rfl, m1⟩ | ⟨rfl, n1⟩
    · refine ⟨fun _ => ⟨hin, ?_⟩, fun e => absurd (kn_ge (by have := rc_lT c1.1 hj1; omega)) e⟩
      obtain ⟨_, i1', _, hi1', e15', _⟩ := (c1.1.2.2.2.2.1 i _ hi).2.2.2.2.2.2 A b rfl
      rw [e15']
      refine ihb (d + 1) (by omega) S1 LT1 LM i1' (u + 1) (l + 1) _ (hE.1 Γ u A he) c1 hi1' (by omega) (by omega) ?_
      intro r S2 LT2 LM2 c2 p2 p2' f2 en2
      have subA : ∀ U V : kF → Prop, fo_Cl U V → V (fo_ab (rt A) (fo_im st rt b (u + 1))) → U (rt A) := fun U V hc hg => (hc.1 _ _ (hc.2.1 _ hg)).1
      rcases en2 with ⟨j2, hj2, rfl, m2⟩ | ⟨rfl, n2⟩
      · obtain ⟨d', rfl⟩ : ∃ d', d = d' + 1 := ⟨d - 1, by omega⟩
        refine c_Te_abstraction c2.1 (rp_pre p2 hj1) hj2 hwi ?_
        intro r S3 LT3 LM3 g3 e3
        have mm : fo_mn LT LM LT2 LM2 (fun _ V => V (fo_ab (rt A) (fo_im st rt b (u + 1)))) := fo_mn_tr m1 m2 subA (fun U V hc hg => hc.2.2.2 _ _ hg)
        refine k' r S3 LT3 LM3 (rc_C_gr c2 g3) (p1.trans (p2.trans g3.2.1)) (p2'.trans g3.2.2.1) (rc_FC_tr f1 (rc_FC_tr f2 (rc_FC_of g3.2.2.2))) ?_
        rcases e3 with ⟨q, hq, rfl, m3⟩ | ⟨rfl, n3⟩
        · exact Or.inl ⟨q, hq, rfl, fo_mn_tr mm m3 (fun _ _ _ hg => hg) (fun _ _ _ hg => hg)⟩
        · exact Or.inr ⟨rfl, fo_no_2 mm n3 (fun _ _ _ hg => hg) (fun _ _ _ hg => hg)⟩
      · exact c_Te_abstraction_no kn_m1lt (k' _ _ LT2 LM2 c2 (p1.trans p2) p2' (rc_FC_tr f1 f2) (Or.inr ⟨rfl, fo_no_2 m1 n2 subA (fun U V hc hg => hc.2.2.2 _ _ hg)⟩))
    · refine ⟨fun e => absurd e (by decide), fun _ => k' _ _ LT1 LM c1 p1 (List.prefix_refl _) f1 (Or.inr ⟨rfl, fo_no_1 n1 (fun U V hc hg => (hc.1 _ _ (hc.2.1 _ hg)).1)⟩)⟩
theorem c_Ch_changed_no {d : Nat} {S : kS} {x y z : Int32} {F : Int32 → kS → Prop} (h : x < 0) (k : F (-1) S) : kK (d + 1) m_Ch_changed [.inr 30, .inl x, .inl y, .inl z] S (kq F) :=
  g_Ch_changed ⟨fun _ => k, fun e => absurd h e⟩
