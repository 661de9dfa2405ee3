/-! ===== THE CLASS: the rules with changes; make ===== -/
theorem ru_at_19 {S : kS} {LT LM : List kF} {FS : List kQ} {NT NM : List kF} {τ : Nat} {S1 S2 : kS} {LT1 LM1 D : List kF} {b : Bool} {τ1 : Nat} (h : ru_at S LT LM FS NT NM τ S1 LT1 LM1 D b τ1) (f : ∀ o j, o ≠ 19 → S2 o j = S1 o j) : ru_at S LT LM FS NT NM τ S2 LT1 LM1 D b τ1 := by
  have fb : rc_FB S1 S2 → True := fun _ => trivial
  have s2 := rc_S_19 h.1.1 f
  refine ⟨⟨s2, ⟨(f _ _ (by decide)).trans h.1.2.1.1, h.1.2.1.2.1, rp_F_grow h.1.2.1.2.2 (List.prefix_refl _) (funext fun _ => f _ _ (by decide)) (funext fun _ => f _ _ (by decide)) (funext fun _ => f _ _ (by decide))⟩, rc_N_gr h.1.2.2.1 (List.prefix_refl _) h.1.1.1.1 h.1.1.1.2.2.2.2.2.1 (fun _ => f _ _ (by decide)) (fun _ => f _ _ (by decide)) (f _ _ (by decide)), rc_N_gr h.1.2.2.2 (List.prefix_refl _) h.1.1.1.2.1 h.1.1.1.2.2.2.2.2.2.1 (fun _ => f _ _ (by decide)) (fun _ => f _ _ (by decide)) (f _ _ (by decide))⟩, ⟨(f _ _ (by decide)).trans h.2.1.1, (f _ _ (by decide)).trans h.2.1.2.1, rp_D_grow h.2.1.2.2 (List.prefix_refl _) (funext fun _ => f _ _ (by decide))⟩, h.2.2.1, h.2.2.2.1, fun o i q => (f o i (fun e => q (by unfold rc_cr; omega))).trans (h.2.2.2.2.1 o i q), ch_Z_fr h.2.2.2.2.2.1 (f _ _ (by decide)) (fun _ => f _ _ (by decide)) (fun _ => f _ _ (by decide)), h.2.2.2.2.2.2⟩
theorem c_Ru_isAssumedOf {d : Nat} {S : kS} {LT LM : List kF} {FS : List kQ} {i : Nat} {x : kF} {y : Int32} {q : kQ} {F : Int32 → kS → Prop} (hS : rc_S S LT LM) (hA : rc_A S LM FS) (hx : LM[i]? = some x) (hq : sp_at FS y = some q) (k1 : (∃ z, z ∈ q.2 ∧ fo_oc x z) → ∀ S', (∀ o j, o ≠ 19 → S' o j = S o j) → F 1 S') (k0 : (∀ z, z ∈ q.2 → ¬ fo_oc x z) → ∀ S', (∀ o j, o ≠ 19 → S' o j = S o j) → F 0 S') : kK (d + 3) m_Ru_isAssumedOf [.inr 33, .inl (kn i), .inl y] S (kq F) := by
  refine g_Ru_isAssumedOf (fun G h => c_Te_mark hS hx (fun S1 f1 g1 => ?_))
  have s1 := rc_S_19 hS f1
  have a1 : rc_A S1 LM FS := ⟨(f1 _ _ (by decide)).trans hA.1, hA.2.1, rp_F_grow hA.2.2 (List.prefix_refl _) (funext fun _ => f1 _ _ (by decide)) (funext fun _ => f1 _ _ (by decide)) (funext fun _ => f1 _ _ (by decide))⟩
  have loop : ∀ m j, j + m = q.2.length → (∀ n z, n < j → q.2[n]? = some z → ¬ fo_oc x z) → G 10 [some (.inr 33), some (.inl (kn i)), some (.inl y), some (.inl (kn j))] [] S1 := by
    intro m
    induction m with
    | zero =>
      intro j hj hno
      refine f_Ru_isAssumedOf_10 kspec_Mo h (c_Fa_sizeOf a1 (fun q' hq' h12 => ?_) (fun e => by rw [hq] at e; cases e))
      rw [hq] at hq'
      injection hq' with hq'
      subst hq'
      refine ⟨fun _ => k0 (fun z hz => ?_) S1 f1, fun e => absurd ((kn_le (by omega) (by omega)).mpr (by omega)) e⟩
      obtain ⟨n, hn⟩ := rp_at hz
      exact hno n z (by have := rp_lt hn; omega) hn
    | succ m ih =>
      intro j hj hno
      have hjl : j < q.2.length := by omega
      have hu : q.2[j]? = some q.2[j] := List.getElem?_eq_getElem hjl
      refine f_Ru_isAssumedOf_10 kspec_Mo h (c_Fa_sizeOf a1 (fun q' hq' h12 => ?_) (fun e => by rw [hq] at e; cases e))
      rw [hq] at hq'
      injection hq' with hq'
      subst hq'
      refine ⟨fun e => absurd ((kn_le (by omega) (by omega)).mp e) (by omega), fun _ => c_Fa_hypothesis a1 hq hu (fun p hp => ?_)⟩
      have lp := rc_lM s1 hp
      rw [kn_tn (by omega), kn_suc]
      refine ⟨kn_in lp (by decide), fun e => ih (j + 1) (by omega) (fun n z hn hz => ?_), fun e => k1 ?_ S1 f1⟩
      · by_cases hnj : n = j
        · subst hnj
          rw [hu] at hz
          injection hz with hz
          subst hz
          rcases g1 p _ hp with ⟨w, _⟩ | ⟨_, w⟩
          · rw [w] at e; exact absurd e (by decide)
          · exact w
        · exact hno n z (by omega) hz
      · rcases g1 p _ hp with ⟨_, w⟩ | ⟨w, _⟩
        · exact ⟨_, rp_mem hu, w⟩
        · exact absurd w e
  exact loop q.2.length 0 (by omega) (fun n z hn _ => absurd hn (by omega))
theorem sp_iA_wf {n : Nat} {A t : kF} (hA : fo_tw A) (wt : fo_wf [] t) : fo_wf [] (sp_iA (fo_lf 0 n A) t) ∧ fo_ty (sp_iA (fo_lf 0 n A) t) = fo_ar A (fo_ty t) := by
  have := fo_wf_A (k := n) hA wt
  refine ⟨fo_wf_ab hA this.1, ?_⟩
  show fo_ar A (fo_ty (fo_im (fo_sA (fo_lf 0 n A)) id t 0)) = _
  have h2 : fo_ty (fo_im (fo_sA (fo_lf 0 n A)) id t 0) = fo_ty t := this.2
  rw [h2]
section RULES2
variable {d : Nat} {S : kS} {LT LM : List kF} {FS : List kQ} {NT NM : List kF} {τ : Nat} {S1 : kS} {F : Int32 → kS → Prop}
theorem sp_r3_n {x : Option kF} {q : Option kQ} (h : x = none ∨ q.bind (fun q => sp_sd q.1) = none ∨ ∃ z, x = some z ∧ ¬ ∃ k A, z = fo_lf 0 k A) : sp_r3 x q = none := by
  cases x with
  | none => rfl
  | some x =>
    cases q with
    | none => rfl
    | some q =>
      rcases h with h | h | ⟨z, h, hn⟩
      · cases h
      · have h : sp_sd q.1 = none := h
        simp [sp_r3, h]
      · injection h with h
        subst h
        have : ∀ m : kF × kF, sp_if ((∃ k A, x = fo_lf 0 k A) ∧ ∀ h, h ∈ q.2 → ¬ fo_oc x h) (some (sp_eq (sp_iA x m.1) (sp_iA x m.2), q.2)) = none := fun m => sp_if_neg (fun z => hn z.1)
        show (sp_sd q.1).bind _ = none
        cases sp_sd q.1 with
        | none => rfl
        | some m => exact this m
set_option maxHeartbeats 1000000 in
theorem ru_3 {i : Nat} {x : kF} {y : Int32} (h : ru_at S LT LM FS NT NM τ S1 LT LM [] false τ) (hok : sp_ok NM FS) (hτ : τ + 2 < 8388608) (hx : LM[i]? = some x) (k : ∀ r S', ru_po S LT LM FS NT NM τ (sp_r3 (some x) (sp_at FS y)) r S' → F r S') : kK (d + 67) m_Ru_underAbstraction [.inr 33, .inl (kn i), .inl y] S1 (kq F) := by
  have hS := h.1.1
  have hA := h.1.2.1
  have li := rc_lM hS hx
  obtain ⟨Γ0, w0⟩ := rc_wf hS hx
  have h6 := fo_so_le w0
  refine g_Ru_underAbstraction (c_Ru_leftOf hS hA (fun q l r j hq hl hj => ⟨fun e => absurd e (kn_nn (by have := rc_lM hS hj; omega)), fun _ => ?_⟩) (fun e => ⟨fun _ => k _ _ (ru_fail h (Or.inl (sp_r3_n (Or.inr (Or.inl e))))), fun e => absurd kn_m1lt e⟩))
  refine c_Te_sortAt hS hx ⟨fun e => k _ _ (ru_fail h (Or.inl (sp_r3_n (Or.inr (Or.inr ⟨x, rfl, fun ⟨n, A, z⟩ => e (by rw [z]; rfl)⟩))))), fun e => ?_⟩
  have e0 := kn_inj (m := 0) (by omega) (by decide) (Classical.not_not.mp e)
  obtain ⟨n, A, e1, ho⟩ := fo_so_l w0 (by omega) (by omega)
  rw [e0] at e1
  subst e1
  have hA' : fo_tw A := ho.1
  have wq := hok.2 q (sp_at_mem hq)
  obtain ⟨wl, wr, elr⟩ := sp_sd_wf hl wq.1
  refine c_Ru_isAssumedOf hS hA hx hq (fun hz S2 f2 => ⟨fun e => absurd e (by decide), fun _ => k _ _ (ru_fail (ru_at_19 h f2) (Or.inl ?_))⟩) (fun hz S2 f2 => ⟨fun _ => ?_, fun e => absurd rfl e⟩)
  · rw [hq]
    obtain ⟨z, z1, z2⟩ := hz
    have : ¬ ((∃ k B, fo_lf 0 n A = fo_lf 0 k B) ∧ ∀ h, h ∈ q.2 → ¬ fo_oc (fo_lf 0 n A) h) := fun w => w.2 z z1 z2
    simp [sp_r3, hl, sp_if_neg this]
  · have h2 := ru_at_19 h f2
    have ho3 : sp_r3 (some (fo_lf 0 n A)) (sp_at FS y) = some (sp_eq (sp_iA (fo_lf 0 n A) l) (sp_iA (fo_lf 0 n A) r), q.2) := by
      rw [hq]
      have : (∃ k B, fo_lf 0 n A = fo_lf 0 k B) ∧ ∀ h, h ∈ q.2 → ¬ fo_oc (fo_lf 0 n A) h := ⟨⟨n, A, rfl⟩, hz⟩
      simp [sp_r3, hl, sp_if_pos this]
    have hPn : ∀ i t, LM[i]? = some t → (kn i = -1 ↔ (fun _ : kF => False) t) := fun i t hi => ⟨fun e => kn_m1 (by have := rc_lM hS hi; omega) e, fun e => e.elim⟩
    obtain ⟨wA, tA⟩ := sp_iA_wf (n := n) hA' wl
    obtain ⟨wB, tB⟩ := sp_iA_wf (n := n) hA' wr
    have s1 : ∀ U V : kF → Prop, fo_Cl U V → V (sp_eq (sp_iA (fo_lf 0 n A) l) (sp_iA (fo_lf 0 n A) r)) → V (sp_iA (fo_lf 0 n A) l) := fun U V hc hg => (hc.2.2.1 _ _ (hc.2.2.1 _ _ hg).1).2
    have s2 : ∀ U V : kF → Prop, fo_Cl U V → V (sp_eq (sp_iA (fo_lf 0 n A) l) (sp_iA (fo_lf 0 n A) r)) → V (sp_iA (fo_lf 0 n A) r) := fun U V hc hg => (hc.2.2.1 _ _ hg).2
    refine c_Fa_assumeAllBut h2.1.1 h2.1.2.1 h2.2.1 hq hPn (fun S3 D3 b3 f3 d3 e3 => ?_)
    have h3 := ru_at_fd h2 f3 d3
    have hds : sp_ds [] false q.2 = (D3, b3) := by
      have := e3 []
      rw [sp_bp_none (fun _ e => e), List.append_nil] at this
      exact this
    refine c_Ch_abstracted h3.1.1 h3.2.2.2.2.2.1 (by omega) hx hj wl (fun r4 S4 LT4 LM4 s4 p4 p4' f4 z4 en4 => ?_)
    have h4 := ru_at_gb h3 s4 p4 p4' f4 z4 (by omega)
    refine c_Ru_rightOf h4.1.1 h4.1.2.1 hq hl (fun jr hjr => ?_)
    refine c_Ch_abstracted h4.1.1 z4 (by omega) (rp_pre p4' hx) hjr wr (fun r5 S5 LT5 LM5 s5 p5 p5' f5 z5 en5 => ?_)
    have h5 := ru_at_gb h4 s5 p5 p5' f5 z5 (by omega)
    have hraw5 : ∀ z, z ∈ q.2 → z ∈ LM5 := fun z hz => rp_sub (p4'.trans p5') (rc_A_hyp hA (sp_at_mem hq) z hz)
    rcases en4 with ⟨a4, ha4, rfl, m4⟩ | ⟨rfl, n4⟩
    · rcases en5 with ⟨a5, ha5, rfl, m5⟩ | ⟨rfl, n5⟩
      · refine c_Te_equation h5.1.1 (rp_pre p5' ha4) ha5 ⟨[], wA, wB⟩ (by rw [tA, tB, elr]) (fun r6 S6 LT6 LM6 g6 e6 => ?_)
        have mm : fo_mn LT LM LT5 LM5 (fun _ V => V (sp_eq (sp_iA (fo_lf 0 n A) l) (sp_iA (fo_lf 0 n A) r))) := fo_mn_tr m4 m5 s1 s2
        refine ru_close (ru_at_gr h5 g6) ho3 hds (fun z hz => rp_sub g6.2.2.1 (hraw5 z hz)) ?_ k
        rcases e6 with ⟨i6, hi6, rfl, m6⟩ | ⟨rfl, n6⟩
        · exact Or.inl ⟨i6, hi6, rfl, fo_mn_1 (fo_mn_tr mm m6 (fun _ _ _ hg => hg) (fun _ _ _ hg => hg)) (fun _ _ _ hg => hg.1)⟩
        · exact Or.inr ⟨kn_m1lt, fo_no_1 (fo_no_2 mm n6 (fun _ _ _ hg => hg) (fun _ _ _ hg => hg)) (fun _ _ _ hg => hg.1)⟩
      · refine c_Te_equation_nr h5.1.1 (rp_pre p5' ha4) kn_m1lt (fun S6 LT6 LM6 g6 => ?_)
        exact ru_close (ru_at_gr h5 g6) ho3 hds (fun z hz => rp_sub g6.2.2.1 (hraw5 z hz)) (Or.inr ⟨kn_m1lt, fo_no_1 (fo_no_2 m4 n5 s1 s2) (fun _ _ _ hg => hg.1)⟩) k
    · exact c_Te_equation_no kn_m1lt (ru_close h5 ho3 hds hraw5 (Or.inr ⟨kn_m1lt, fo_no_1 (fo_no_1 n4 s1) (fun _ _ _ hg => hg.1)⟩) k)
theorem ru_3n {x y : Int32} (h : ru_at S LT LM FS NT NM τ S1 LT LM [] false τ) (hx : x < 0) (k : ∀ r S', ru_po S LT LM FS NT NM τ none r S' → F r S') : kK (d + 67) m_Ru_underAbstraction [.inr 33, .inl x, .inl y] S1 (kq F) := by
  have hS := h.1.1
  have hA := h.1.2.1
  refine g_Ru_underAbstraction (c_Ru_leftOf hS hA (fun q l r j hq hl hj => ⟨fun e => absurd e (kn_nn (by have := rc_lM hS hj; omega)), fun _ => c_Te_sortAt_no hx ⟨fun _ => k _ _ (ru_fail h (Or.inl rfl)), fun e => absurd (by decide) e⟩⟩) (fun e => ⟨fun _ => k _ _ (ru_fail h (Or.inl rfl)), fun e => absurd kn_m1lt e⟩))
theorem ru_4 {i : Nat} {t : kF} (h : ru_at S LT LM FS NT NM τ S1 LT LM [] false τ) (hτ : τ + 2 < 8388608) (hi : LM[i]? = some t) (wt : fo_wf [] t) (k : ∀ r S', ru_po S LT LM FS NT NM τ (sp_r4 (some t)) r S' → F r S') : kK (d + 67) m_Ru_opening [.inr 33, .inl (kn i)] S1 (kq F) := by
  have hS := h.1.1
  refine g_Ru_opening (c_Te_functionOf hS hi (fun f u j e hj => ?_) (fun e => ?_))
  · subst e
    obtain ⟨wf, wu, ety⟩ := fo_wf_iap wt
    have h6 := fo_so_le wf
    refine c_Te_sortAt hS hj ⟨fun e => ?_, fun e => k _ _ (ru_fail h (Or.inl ?_))⟩
    · obtain ⟨A, b, rfl⟩ := fo_so_4 wf (kn_inj (m := 4) (by omega) (by decide) e)
      obtain ⟨hA, wb⟩ := fo_wf_iab wf
      rw [fo_ty_ab] at ety
      have eA := (fo_ar_inj ety).1
      have eB := (fo_ar_inj ety).2
      subst eA
      have wO := fo_wf_O (Γ := []) wu wb
      refine c_Te_argumentOf hS hi (fun f' u' ju e2 hju => ?_) (fun e2 => absurd rfl (e2 _ _))
      obtain ⟨rfl, rfl⟩ := fo_ap_inj e2
      refine c_Ch_opened hS h.2.2.2.2.2.1 (by omega) hj hju wu wb (fun r2 S2 LT2 LM2 s2 p2 p2' f2 z2 en2 => ?_)
      have h2 := ru_at_gb h s2 p2 p2' f2 z2 (by omega)
      have ho : sp_r4 (some (fo_ap (fo_ab (fo_ty u) b) u)) = some (sp_eq (fo_ap (fo_ab (fo_ty u) b) u) (sp_iO u b), []) := rfl
      have wO1 : fo_wf [] (sp_iO u b) := wO.1
      have wO2 : fo_ty (sp_iO u b) = fo_ty b := wO.2
      have sb : ∀ U V : kF → Prop, fo_Cl U V → V (sp_eq (fo_ap (fo_ab (fo_ty u) b) u) (sp_iO u b)) → V (sp_iO u b) := fun U V hc hg => (hc.2.2.1 _ _ hg).2
      rcases en2 with ⟨a2, ha2, rfl, m2⟩ | ⟨rfl, n2⟩
      · refine c_Te_equation h2.1.1 (rp_pre p2' hi) ha2 ⟨[], wt, wO1⟩ (by rw [wO2, eB]) (fun r3 S3 LT3 LM3 g3 e3 => ?_)
        refine ru_close (raw := []) (ru_at_gr h2 g3) ho rfl (fun _ e => by cases e) ?_ k
        rcases e3 with ⟨i3, hi3, rfl, m3⟩ | ⟨rfl, n3⟩
        · exact Or.inl ⟨i3, hi3, rfl, fo_mn_1 (fo_mn_tr m2 m3 sb (fun _ _ _ hg => hg)) (fun _ _ _ hg => hg.1)⟩
        · exact Or.inr ⟨kn_m1lt, fo_no_1 (fo_no_2 m2 n3 sb (fun _ _ _ hg => hg)) (fun _ _ _ hg => hg.1)⟩
      · refine c_Te_equation_nr h2.1.1 (rp_pre p2' hi) kn_m1lt (fun S3 LT3 LM3 g3 => ?_)
        exact ru_close (raw := []) (ru_at_gr h2 g3) ho rfl (fun _ e => by cases e) (Or.inr ⟨kn_m1lt, fo_no_1 (fo_no_1 n2 sb) (fun _ _ _ hg => hg.1)⟩) k
    · have : sp_bd f = none := by
        rcases fo_wf_cases wf with ⟨s, n, A, rfl, _⟩ | ⟨g, x, _, rfl, _⟩ | ⟨A, b, rfl, _⟩
        · rfl
        · rfl
        · exact absurd rfl e
      show (sp_bd f).bind _ = none
      rw [this]; rfl
  · refine c_Te_sortAt_no kn_m1lt ⟨fun e2 => absurd e2 (by decide), fun _ => k _ _ (ru_fail h (Or.inl ?_))⟩
    have : sp_fa t = none := by
      rcases fo_wf_cases wt with ⟨s, n, A, rfl, _⟩ | ⟨g, x, _, rfl, _⟩ | ⟨A, b, rfl, _⟩
      · rfl
      · exact absurd rfl (e _ _)
      · rfl
    show (sp_fa t).bind _ = none
    rw [this]; rfl
theorem ru_4n {x : Int32} (h : ru_at S LT LM FS NT NM τ S1 LT LM [] false τ) (hx : x < 0) (k : ∀ r S', ru_po S LT LM FS NT NM τ none r S' → F r S') : kK (d + 67) m_Ru_opening [.inr 33, .inl x] S1 (kq F) :=
  g_Ru_opening (c_Te_functionOf_no hx (c_Te_sortAt_no kn_m1lt ⟨fun e2 => absurd e2 (by decide), fun _ => k _ _ (ru_fail h (Or.inl rfl))⟩))
theorem ru_10 {x y : Int32} (h : ru_at S LT LM FS NT NM τ S1 LT LM [] false τ) (hok : sp_ok NM FS) (hτ : τ + 2 < 8388608) (k : ∀ r S', ru_po S LT LM FS NT NM τ (sp_r10 (sp_at FS x) (sp_at FS y)) r S' → F r S') : kK (d + 67) m_Ru_rewriting [.inr 33, .inl x, .inl y] S1 (kq F) := by
  have hS := h.1.1
  have hA := h.1.2.1
  refine g_Ru_rewriting (c_Ru_leftOf hS hA (fun p l r j hp hl hj => ⟨fun _ => ?_, fun e => absurd (kn_ge (by have := rc_lM hS hj; omega)) e⟩) (fun e => ⟨fun e2 => absurd e2 (by decide), fun _ => k _ _ (ru_fail h (Or.inl ?_))⟩))
  · have wp := hok.2 p (sp_at_mem hp)
    obtain ⟨wl, wr, elr⟩ := sp_sd_wf hl wp.1
    refine c_Ru_rightOf hS hA hp hl (fun jr hjr => c_Ch_begin hS h.2.2.2.2.2.1 (by omega) (fun S2 fr e4 e5 e6 e7 hM s2 f2 => ?_))
    have hC : rc_C S2 LT LM (fo_sR l r) id := ⟨s2, Or.inl ⟨l, r, j, jr, e5, hj, hjr, e6, e7, rfl, rfl⟩, hM _ _⟩
    have z2 : ch_Z S2 (τ + 1) := ch_Z_of (hM fo_sN id) e4 (by omega)
    have h2 := ru_at_gb h s2 (List.prefix_refl _) (List.prefix_refl _) f2 z2 (by omega)
    refine c_Fa_conclusionOf h2.1.2.1 (fun q i hq hi => ?_) (fun e => ?_)
    · have wq := hok.2 q (sp_at_mem hq)
      refine c_Ch_of hC (ch_E_R wr elr.symm) trivial hi wq.1 (fun r3 S3 LT3 LM3 c3 p3 p3' f3 en3 => ?_)
      have h3 := ru_at_gb h2 c3.1 p3 p3' (rc_FB_c f3) (ch_Z_C c3 e4 f3 (by omega)) (by omega)
      refine ru_both (c := sp_iR l r q.1) h3 hp hq ?_ (fun z hz => rp_sub p3' ?_) (ru_of_en en3) k
      · rw [hp, hq]
        simp [sp_r10, hl]
      · rcases List.mem_append.mp hz with hz | hz
        · exact rc_A_hyp hA (sp_at_mem hp) z hz
        · exact rc_A_hyp hA (sp_at_mem hq) z hz
    · have hn : sp_r10 (sp_at FS x) (sp_at FS y) = none := by rw [hp, e]; rfl
      have hPn : ∀ i t, LM[i]? = some t → (kn i = -1 ↔ (fun _ : kF => False) t) := fun i t hi => ⟨fun e => kn_m1 (by have := rc_lM hS hi; omega) e, fun e => e.elim⟩
      refine c_Ch_of_no kn_m1lt (g_Ru_closeWithBoth (c_Fa_assumeAllBut h2.1.1 h2.1.2.1 h2.2.1 hp hPn (fun S3 D3 b3 f3 d3 e3 => ?_)))
      have h3 := ru_at_fd h2 f3 d3
      exact c_Fa_assumeAllBut_no h3.1.2.1 e (c_Fa_close_no kn_m1lt (k _ _ (ru_fail h3 (Or.inl hn))))
  · cases hp : sp_at FS x with
    | none => rfl
    | some p =>
      rw [hp] at e
      have e : sp_sd p.1 = none := e
      cases hq : sp_at FS y with
      | none => rfl
      | some q => simp [sp_r10, e]
/-- the images of a fact's hypotheses and conclusion -/
theorem ru_inst {st : kF → Nat → Option kF} {rt : kF → kF} {E : List kF → Nat → Prop} {x v : Int32} {q : kQ} {o : Option kQ} (h : ru_at S LT LM FS NT NM τ S1 LT LM [] false (τ + 1)) (hC : rc_C S1 LT LM st rt) (e4 : S1 30 4 = kn (τ + 1)) (hτ : τ + 2 < 8388608) (hE : ch_E st rt E) (he : E [] 0) (hok : sp_ok NM FS) (hq : sp_at FS x = some q) (hv : ¬ v = 0) (ho : o = some (fo_im st rt q.1 0, q.2.map (fun z => fo_im st rt z 0))) (k : ∀ r S', ru_po S LT LM FS NT NM τ o r S' → F r S') : kK (d + 67) m_Ru_instance [.inr 33, .inl x, .inl v] S1 (kq F) := by
  have wq := hok.2 q (sp_at_mem hq)
  refine g_Ru_instance (fun G hG => ⟨fun _ => ?_, fun e => absurd hv e⟩)
  have loop : ∀ m j, j + m = q.2.length → ∀ S2 LT2 LM2 D2 b2, ru_at S LT LM FS NT NM τ S2 LT2 LM2 D2 b2 (τ + 1) → rc_C S2 LT2 LM2 st rt → S2 30 4 = kn (τ + 1) →
      ((sp_ds [] false ((q.2.take j).map (fun z => fo_im st rt z 0)) = (D2, b2) ∧ fo_mn LT LM LT2 LM2 (fun _ V => ∀ z, z ∈ (q.2.take j).map (fun z => fo_im st rt z 0) → V z) ∧ ∀ z, z ∈ (q.2.take j).map (fun z => fo_im st rt z 0) → z ∈ LM2) ∨ (b2 = true ∧ fo_no LT LM (fun _ V => ∀ z, z ∈ q.2.map (fun z => fo_im st rt z 0) → V z))) →
      G 8 [some (.inr 33), some (.inl x), some (.inl v), some (.inl (kn j))] [] S2 := by
    intro m
    induction m with
    | zero =>
      intro j hj S2 LT2 LM2 D2 b2 h2 c2 e2 inv
      refine f_Ru_instance_8 kspec_Mo hG (c_Fa_sizeOf h2.1.2.1 (fun q' hq' h12 => ?_) (fun e => by rw [hq] at e; cases e))
      rw [hq] at hq'
      injection hq' with hq'
      subst hq'
      refine ⟨fun _ => c_Fa_conclusionOf h2.1.2.1 (fun q' i hq' hi => ?_) (fun e => by rw [hq] at e; cases e), fun e => absurd ((kn_le (by omega) (by omega)).mpr (by omega)) e⟩
      rw [hq] at hq'
      injection hq' with hq'
      subst hq'
      have htake : q.2.take j = q.2 := List.take_of_length_le (by omega)
      refine c_Ch_of c2 hE he hi wq.1 (fun r3 S3 LT3 LM3 c3 p3 p3' f3 en3 => ?_)
      have h3 := ru_at_gb h2 c3.1 p3 p3' (rc_FB_c f3) (ch_Z_C c3 e2 f3 (by omega)) (by omega)
      rcases inv with ⟨i1, i2, i3⟩ | ⟨i1, i2⟩
      · rw [htake] at i1 i2 i3
        refine ru_close h3 ho i1 (fun z hz => rp_sub p3' (i3 z hz)) ?_ k
        rcases en3 with ⟨a3, ha3, rfl, m3⟩ | ⟨rfl, n3⟩
        · exact Or.inl ⟨a3, ha3, rfl, fo_mn_tr i2 m3 (fun _ _ _ hg => hg.2) (fun _ _ _ hg => hg.1)⟩
        · exact Or.inr ⟨kn_m1lt, fo_no_2 i2 n3 (fun _ _ _ hg => hg.2) (fun _ _ _ hg => hg.1)⟩
      · have bad : F (-1) S3 := k _ _ (ru_fail h3 (Or.inr ⟨_, _, ho, Or.inr (Or.inr (fo_no_1 i2 (fun _ _ _ hg => hg.2)))⟩))
        rcases en3 with ⟨a3, ha3, rfl, m3⟩ | ⟨rfl, n3⟩
        · exact c_Fa_close h3.1 h3.2.1 ha3 (fun hb => absurd (i1.symm.trans hb) (by decide)) (fun _ => bad)
        · exact c_Fa_close_no kn_m1lt bad
    | succ m ih =>
      intro j hj S2 LT2 LM2 D2 b2 h2 c2 e2 inv
      have hjl : j < q.2.length := by omega
      have hu : q.2[j]? = some q.2[j] := List.getElem?_eq_getElem hjl
      have htake : (q.2.take (j + 1)).map (fun z => fo_im st rt z 0) = (q.2.take j).map (fun z => fo_im st rt z 0) ++ [fo_im st rt q.2[j] 0] := by
        rw [List.take_add_one, hu, List.map_append]; rfl
      have hmem : fo_im st rt q.2[j] 0 ∈ q.2.map (fun z => fo_im st rt z 0) := List.mem_map.mpr ⟨_, rp_mem hu, rfl⟩
      refine f_Ru_instance_8 kspec_Mo hG (c_Fa_sizeOf h2.1.2.1 (fun q' hq' h12 => ?_) (fun e => by rw [hq] at e; cases e))
      rw [hq] at hq'
      injection hq' with hq'
      subst hq'
      refine ⟨fun e => absurd ((kn_le (by omega) (by omega)).mp e) (by omega), fun _ => c_Fa_hypothesis h2.1.2.1 hq hu (fun i hi => ?_)⟩
      refine c_Ch_of c2 hE he hi (wq.2.2 _ (rp_mem hu)) (fun r3 S3 LT3 LM3 c3 p3 p3' f3 en3 => ?_)
      have h3 := ru_at_gb h2 c3.1 p3 p3' (rc_FB_c f3) (ch_Z_C c3 e2 f3 (by omega)) (by omega)
      have e3 : S3 30 4 = kn (τ + 1) := (f3 _ _ (rc_ncc (by omega))).trans e2
      rw [kn_suc]
      rcases en3 with ⟨a3, ha3, rfl, m3⟩ | ⟨rfl, n3⟩
      · refine c_Fa_assume h3.1.1 h3.2.1 ha3 (fun S5 D5 b5 f5 d5 e5 => ?_)
        have h5 := ru_at_fd h3 f5 d5
        have c5 : rc_C S5 LT3 LM3 st rt := ⟨h5.1.1, ch_W_gr c3.2.1 (List.prefix_refl _) (List.prefix_refl _) (f5 _ _ (by unfold rc_cd; omega)) (f5 _ _ (by unfold rc_cd; omega)) (f5 _ _ (by unfold rc_cd; omega)), ch_M_gr c3.2.2 (List.prefix_refl _) (List.prefix_refl _) (f5 _ _ (by unfold rc_cd; omega)) (fun _ => f5 _ _ (by unfold rc_cd; omega)) (fun _ => f5 _ _ (by unfold rc_cd; omega))⟩
        refine ih (j + 1) (by omega) S5 LT3 LM3 D5 b5 h5 c5 ((f5 _ _ (by unfold rc_cd; omega)).trans e3) ?_
        rcases inv with ⟨i1, i2, i3⟩ | ⟨i1, i2⟩
        · refine Or.inl ⟨?_, ?_, ?_⟩
          · rw [htake, sp_ds_app, i1]
            exact e5 []
          · rw [htake]
            exact fo_mn_tr i2 m3 (fun _ _ _ hg z hz => hg z (List.mem_append_left _ hz)) (fun _ _ _ hg => hg _ (List.mem_append_right _ (List.mem_singleton.mpr rfl)))
          · intro z hz
            rw [htake] at hz
            rcases List.mem_append.mp hz with hz | hz
            · exact rp_sub p3' (i3 z hz)
            · rw [List.mem_singleton] at hz
              rw [hz]; exact rp_mem ha3
        · refine Or.inr ⟨?_, i2⟩
          have z1 := e5 []
          have z2 := sp_ds_bad [fo_im st rt q.2[j] 0] D2
          rw [i1] at z1
          rw [z1] at z2
          exact z2
      · refine c_Fa_assume_no h3.1.1 h3.2.1 kn_m1lt (fun S5 f5 d5 => ?_)
        have h5 := ru_at_fd h3 f5 d5
        have c5 : rc_C S5 LT3 LM3 st rt := ⟨h5.1.1, ch_W_gr c3.2.1 (List.prefix_refl _) (List.prefix_refl _) (f5 _ _ (by unfold rc_cd; omega)) (f5 _ _ (by unfold rc_cd; omega)) (f5 _ _ (by unfold rc_cd; omega)), ch_M_gr c3.2.2 (List.prefix_refl _) (List.prefix_refl _) (f5 _ _ (by unfold rc_cd; omega)) (fun _ => f5 _ _ (by unfold rc_cd; omega)) (fun _ => f5 _ _ (by unfold rc_cd; omega))⟩
        refine ih (j + 1) (by omega) S5 LT3 LM3 D2 true h5 c5 ((f5 _ _ (by unfold rc_cd; omega)).trans e3) (Or.inr ⟨rfl, ?_⟩)
        rcases inv with ⟨i1, i2, i3⟩ | ⟨i1, i2⟩
        · refine fo_no_2 i2 n3 (fun _ _ _ hg z hz => hg z ?_) (fun _ _ _ hg => hg _ hmem)
          obtain ⟨w, hw, rfl⟩ := List.mem_map.mp hz
          exact List.mem_map.mpr ⟨w, List.mem_of_mem_take hw, rfl⟩
        · exact i2
  refine loop q.2.length 0 (by omega) S1 LT LM [] false h hC e4 (Or.inl ⟨rfl, fo_mn_rf, fun z hz => ?_⟩)
  simp at hz
theorem ru_inst_n {x v : Int32} {o : Option kQ} {τ1 : Nat} (h : ru_at S LT LM FS NT NM τ S1 LT LM [] false τ1) (hq : sp_at FS x = none ∨ v = 0) (ho : o = none) (k : ∀ r S', ru_po S LT LM FS NT NM τ o r S' → F r S') : kK (d + 67) m_Ru_instance [.inr 33, .inl x, .inl v] S1 (kq F) := by
  have fail : F (-1) S1 := k _ _ (ru_fail h (Or.inl ho))
  refine g_Ru_instance (fun G hG => ⟨fun e => ?_, fun _ => fail⟩)
  rcases hq with hq | hq
  · refine f_Ru_instance_8 kspec_Mo hG (c_Fa_sizeOf h.1.2.1 (fun q' hq' _ => by rw [hq] at hq'; cases hq') (fun _ => ⟨fun _ => c_Fa_conclusionOf h.1.2.1 (fun q' _ hq' _ => by rw [hq] at hq'; cases hq') (fun _ => c_Ch_of_no kn_m1lt (c_Fa_close_no kn_m1lt fail)), fun e => absurd (by decide) e⟩))
  · exact absurd hq e
end RULES2
