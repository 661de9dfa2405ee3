/-! ===== THE CLASS: the rules ===== -/
def sp_ok (NM : List kF) (FS : List kQ) : Prop := (∀ t, t ∈ NM → fo_wf [] t) ∧ (∀ q, q ∈ FS → fo_wf [] q.1 ∧ fo_ty q.1 = fo_tb 0 ∧ ∀ h, h ∈ q.2 → fo_wf [] h)
theorem sp_at_mem {α : Type} {L : List α} {x : Int32} {t : α} (h : sp_at L x = some t) : t ∈ L := by
  unfold sp_at at h
  split at h
  · cases h
  · exact List.mem_of_getElem? h
theorem rc_A_hyp {S : kS} {LM : List kF} {FS : List kQ} (hA : rc_A S LM FS) {q : kQ} (hq : q ∈ FS) : ∀ h, h ∈ q.2 → h ∈ LM := by
  intro h hh
  obtain ⟨n, hn⟩ := List.getElem?_of_mem hq
  obtain ⟨i, hi⟩ := rp_at hh
  obtain ⟨p, hp, _⟩ := (hA.2.2 n q.1 q.2 hn).2.2.2 i h hi
  exact rp_mem hp
theorem sp_sd_wf {t l r : kF} {Γ : List kF} (h : sp_sd t = some (l, r)) (hw : fo_wf Γ t) : fo_wf Γ l ∧ fo_wf Γ r ∧ fo_ty l = fo_ty r := by
  obtain ⟨A, rfl⟩ := sp_sd_inv h
  obtain ⟨w1, wr, e1⟩ := fo_wf_iap hw
  obtain ⟨w2, wl, e2⟩ := fo_wf_iap w1
  refine ⟨wl, wr, ?_⟩
  rcases (fo_wf_ilf w2).2 with q | ⟨_, _, a, rfl⟩ | q | q
  · exact absurd q.1 (by decide)
  · rw [fo_ty_lf] at e2
    obtain ⟨h1, h2⟩ := fo_ar_inj e2
    rw [← h2] at e1
    obtain ⟨h3, _⟩ := fo_ar_inj e1
    rw [← h1, ← h3]
  · exact absurd q.1 (by decide)
  · exact absurd q.1 (by decide)
theorem fo_mn_1 {LT LM LT' LM' : List kF} {g g1 : kU} (h : fo_mn LT LM LT' LM' g1) (k : ∀ U V, fo_Cl U V → g U V → g1 U V) : fo_mn LT LM LT' LM' g := fun U V hc a b hg => h U V hc a b (k U V hc hg)
theorem ru_of_en {LT LM LT' LM' : List kF} {c : kF} {raw : List kF} {r : Int32} (h : rc_en LT LM LT' LM' c r) : (∃ i, LM'[i]? = some c ∧ r = kn i ∧ fo_mn LT LM LT' LM' (sp_g c raw)) ∨ (r < 0 ∧ fo_no LT LM (sp_g c raw)) := by
  rcases h with ⟨i, hi, e, m⟩ | ⟨rfl, n⟩
  · exact Or.inl ⟨i, hi, e, fo_mn_1 m (fun _ _ _ hg => hg.1)⟩
  · exact Or.inr ⟨kn_m1lt, fo_no_1 n (fun _ _ _ hg => hg.1)⟩
theorem rp_sub {L L' : List kF} (h : L <+: L') {x : kF} (e : x ∈ L) : x ∈ L' := h.subset e
section RULES
variable {d : Nat} {S : kS} {LT LM : List kF} {FS : List kQ} {NT NM : List kF} {τ : Nat} {S1 : kS} {F : Int32 → kS → Prop}
theorem ru_0 {i : Nat} {t : kF} (h : ru_at S LT LM FS NT NM τ S1 LT LM [] false τ) (hi : LM[i]? = some t) (wt : fo_wf [] t) (k : ∀ r S', ru_po S LT LM FS NT NM τ (sp_r0 (some t)) r S' → F r S') : kK (d + 4) m_Ru_reflexivity [.inr 33, .inl (kn i)] S1 (kq F) :=
  g_Ru_reflexivity (c_Te_equation h.1.1 hi hi ⟨[], wt, wt⟩ rfl (fun _ _ _ _ g en => ru_close (ru_at_gr h g) (raw := []) rfl rfl (fun _ e => by cases e) (ru_of_en en) k))
theorem ru_0n {x : Int32} (h : ru_at S LT LM FS NT NM τ S1 LT LM [] false τ) (hx : x < 0) (k : ∀ r S', ru_po S LT LM FS NT NM τ none r S' → F r S') : kK (d + 4) m_Ru_reflexivity [.inr 33, .inl x] S1 (kq F) :=
  g_Ru_reflexivity (c_Te_equation_no hx (c_Fa_close_no kn_m1lt (k _ _ (ru_fail h (Or.inl rfl)))))
theorem sp_r1_n {p q : Option kQ} (h : p.bind (fun q => sp_sd q.1) = none ∨ q.bind (fun q => sp_sd q.1) = none) : sp_r1 p q = none := by
  cases p with
  | none => rfl
  | some p =>
    cases q with
    | none => rfl
    | some q =>
      rcases h with h | h
      · have h : sp_sd p.1 = none := h
        simp [sp_r1, h]
      · have h : sp_sd q.1 = none := h
        simp [sp_r1, h]
theorem ru_1 {x y : Int32} (h : ru_at S LT LM FS NT NM τ S1 LT LM [] false τ) (hok : sp_ok NM FS) (k : ∀ r S', ru_po S LT LM FS NT NM τ (sp_r1 (sp_at FS x) (sp_at FS y)) r S' → F r S') : kK (d + 5) m_Ru_transitivity [.inr 33, .inl x, .inl y] S1 (kq F) := by
  have hS := h.1.1
  have hA := h.1.2.1
  refine g_Ru_transitivity (c_Ru_leftOf hS hA (fun p l r j hp hl hj => ⟨fun e => absurd e (kn_nn (by have := rc_lM hS hj; omega)), fun _ => ?_⟩) (fun e => ⟨fun _ => k _ _ (ru_fail h (Or.inl (sp_r1_n (Or.inl e)))), fun e => absurd kn_m1lt e⟩))
  have wp := (hok.2 p (sp_at_mem hp)).1
  obtain ⟨wl, wr, elr⟩ := sp_sd_wf hl wp
  refine c_Ru_leftOf hS hA (fun q l' r' j' hq hl' hj' => ?_) (fun e => ?_)
  · have wq := (hok.2 q (sp_at_mem hq)).1
    obtain ⟨wl', wr', elr'⟩ := sp_sd_wf hl' wq
    refine c_Ru_rightOf hS hA hp hl (fun jr hjr => ⟨fun e => ?_, fun e => k _ _ (ru_fail h (Or.inl ?_))⟩)
    · have e := kn_inj (by have := rc_lM hS hj'; omega) (by have := rc_lM hS hjr; omega) e
      subst e
      rw [hj'] at hjr
      injection hjr with hjr
      subst hjr
      refine c_Ru_rightOf hS hA hq hl' (fun jr' hjr' => c_Te_equation hS hj hjr' ⟨[], wl, wr'⟩ (elr.trans elr') (fun r2 S2 LT2 LM2 g en => ?_))
      refine ru_both (c := sp_eq l r') (ru_at_gr h g) hp hq ?_ (fun z hz => rp_sub g.2.2.1 ?_) (ru_of_en en) k
      · rw [hp, hq]
        simp [sp_r1, hl, hl', sp_if_pos]
      · rcases List.mem_append.mp hz with hz | hz
        · exact rc_A_hyp hA (sp_at_mem hp) z hz
        · exact rc_A_hyp hA (sp_at_mem hq) z hz
    · rw [hp, hq]
      have hne : ¬ r = l' := fun z => e (by rw [z] at hjr; rw [fo_ix hS.1.2.1 hj' hjr])
      simp [sp_r1, hl, hl', sp_if_neg hne]
  · refine c_Ru_rightOf hS hA hp hl (fun jr hjr => ⟨fun e2 => absurd e2.symm (kn_m1 (by have := rc_lM hS hjr; omega)), fun _ => k _ _ (ru_fail h (Or.inl (sp_r1_n (Or.inr e))))⟩)
theorem sp_r2_n {p q : Option kQ} (h : p.bind (fun q => sp_sd q.1) = none ∨ q.bind (fun q => sp_sd q.1) = none) : sp_r2 p q = none := by
  cases p with
  | none => rfl
  | some p =>
    cases q with
    | none => rfl
    | some q =>
      rcases h with h | h
      · have h : sp_sd p.1 = none := h
        simp [sp_r2, h]
      · have h : sp_sd q.1 = none := h
        simp [sp_r2, h]
theorem ru_2 {x y : Int32} (h : ru_at S LT LM FS NT NM τ S1 LT LM [] false τ) (hok : sp_ok NM FS) (k : ∀ r S', ru_po S LT LM FS NT NM τ (sp_r2 (sp_at FS x) (sp_at FS y)) r S' → F r S') : kK (d + 5) m_Ru_congruence [.inr 33, .inl x, .inl y] S1 (kq F) := by
  have hS := h.1.1
  have hA := h.1.2.1
  refine g_Ru_congruence (c_Ru_leftOf hS hA (fun p l r j hp hl hj => ?_) (fun e => ?_))
  · refine c_Ru_leftOf hS hA (fun q l' r' j' hq hl' hj' => ⟨fun e => absurd e (kn_nn (by have := rc_lM hS hj; omega)), fun _ => ⟨fun _ => ?_, fun e => absurd (kn_ge (by have := rc_lM hS hj'; omega)) e⟩⟩) (fun e => ⟨fun e2 => absurd e2 (kn_nn (by have := rc_lM hS hj; omega)), fun _ => ⟨fun e2 => absurd e2 (by decide), fun _ => k _ _ (ru_fail h (Or.inl (sp_r2_n (Or.inr e))))⟩⟩)
    have wp := (hok.2 p (sp_at_mem hp)).1
    obtain ⟨wl, wr, elr⟩ := sp_sd_wf hl wp
    have wq := (hok.2 q (sp_at_mem hq)).1
    obtain ⟨wl', wr', elr'⟩ := sp_sd_wf hl' wq
    by_cases hB : ∃ B, fo_ty l = fo_ar (fo_ty l') B
    · obtain ⟨B, hB⟩ := hB
      have w1 : fo_wf [] (fo_ap l l') := fo_wf_ap wl wl' hB
      have hB2 : fo_ty r = fo_ar (fo_ty r') B := by rw [← elr, ← elr']; exact hB
      have w2 : fo_wf [] (fo_ap r r') := fo_wf_ap wr wr' hB2
      have et : fo_ty (fo_ap l l') = fo_ty (fo_ap r r') := by rw [fo_ty_ap, fo_ty_ap, hB, hB2, fo_cod_ar, fo_cod_ar]
      have ho : sp_r2 (sp_at FS x) (sp_at FS y) = some (sp_eq (fo_ap l l') (fo_ap r r'), p.2 ++ q.2) := by
        rw [hp, hq]
        simp [sp_r2, hl, hl', sp_if_pos (show ∃ B, fo_ty l = fo_ar (fo_ty l') B from ⟨B, hB⟩)]
      have s1 : ∀ U V : kF → Prop, fo_Cl U V → V (sp_eq (fo_ap l l') (fo_ap r r')) → V (fo_ap l l') := fun U V hc hg => (hc.2.2.1 _ _ (hc.2.2.1 _ _ hg).1).2
      have s2 : ∀ U V : kF → Prop, fo_Cl U V → V (sp_eq (fo_ap l l') (fo_ap r r')) → V (fo_ap r r') := fun U V hc hg => (hc.2.2.1 _ _ hg).2
      have hraw : ∀ z, z ∈ p.2 ++ q.2 → z ∈ LM := fun z hz => by
        rcases List.mem_append.mp hz with hz | hz
        · exact rc_A_hyp hA (sp_at_mem hp) z hz
        · exact rc_A_hyp hA (sp_at_mem hq) z hz
      refine c_Te_application hS hj hj' ⟨[], w1⟩ (fun r2 S2 LM2 g2 e2 => ?_)
      have h2 := ru_at_gr h g2
      refine c_Ru_rightOf h2.1.1 h2.1.2.1 hp hl (fun jr hjr => c_Ru_rightOf h2.1.1 h2.1.2.1 hq hl' (fun jr' hjr' => c_Te_application h2.1.1 hjr hjr' ⟨[], w2⟩ (fun r3 S3 LM3 g3 e3 => ?_)))
      have h3 := ru_at_gr h2 g3
      have hraw3 : ∀ z, z ∈ p.2 ++ q.2 → z ∈ LM3 := fun z hz => rp_sub (g2.2.2.1.trans g3.2.2.1) (hraw z hz)
      rcases e2 with ⟨i2, hi2, rfl, m2⟩ | ⟨rfl, n2⟩
      · rcases e3 with ⟨i3, hi3, rfl, m3⟩ | ⟨rfl, n3⟩
        · refine c_Te_equation h3.1.1 (rp_pre g3.2.2.1 hi2) hi3 ⟨[], w1, w2⟩ et (fun r4 S4 LT4 LM4 g4 e4 => ?_)
          have mm : fo_mn LT LM LT LM3 (fun _ V => V (sp_eq (fo_ap l l') (fo_ap r r'))) := fo_mn_tr m2 m3 s1 s2
          refine ru_both (ru_at_gr h3 g4) hp hq ho (fun z hz => rp_sub g4.2.2.1 (hraw3 z hz)) ?_ k
          rcases e4 with ⟨i4, hi4, rfl, m4⟩ | ⟨rfl, n4⟩
          · exact Or.inl ⟨i4, hi4, rfl, fo_mn_1 (fo_mn_tr mm m4 (fun _ _ _ hg => hg) (fun _ _ _ hg => hg)) (fun _ _ _ hg => hg.1)⟩
          · exact Or.inr ⟨kn_m1lt, fo_no_1 (fo_no_2 mm n4 (fun _ _ _ hg => hg) (fun _ _ _ hg => hg)) (fun _ _ _ hg => hg.1)⟩
        · refine c_Te_equation_nr h3.1.1 (rp_pre g3.2.2.1 hi2) kn_m1lt (fun S4 LT4 LM4 g4 => ?_)
          refine ru_both (ru_at_gr h3 g4) hp hq ho (fun z hz => rp_sub g4.2.2.1 (hraw3 z hz)) (Or.inr ⟨kn_m1lt, ?_⟩) k
          exact fo_no_1 (fo_no_2 m2 n3 s1 s2) (fun _ _ _ hg => hg.1)
      · refine c_Te_equation_no kn_m1lt (ru_both h3 hp hq ho hraw3 (Or.inr ⟨kn_m1lt, ?_⟩) k)
        exact fo_no_1 (fo_no_1 n2 s1) (fun _ _ _ hg => hg.1)
    · have hn : sp_r2 (sp_at FS x) (sp_at FS y) = none := by
        rw [hp, hq]
        simp [sp_r2, hl, hl', sp_if_neg hB]
      have fail : ∀ S2 LT2 LM2 D b, ru_at S LT LM FS NT NM τ S2 LT2 LM2 D b τ → F (-1) S2 := fun S2 LT2 LM2 D b h2 => k _ _ (ru_fail h2 (Or.inl hn))
      have hP : ∀ i t, LM[i]? = some t → (kn i = -1 ↔ (fun _ : kF => False) t) := fun i t hi => ⟨fun e => kn_m1 (by have := rc_lM hS hi; omega) e, fun e => e.elim⟩
      refine c_Te_application_un hS hj hj' (fun B e => hB ⟨B, e⟩) (c_Ru_rightOf hS hA hp hl (fun jr hjr => c_Ru_rightOf hS hA hq hl' (fun jr' hjr' => c_Te_application_un hS hjr hjr' (fun B e => hB ⟨B, ?_⟩) (c_Te_equation_no kn_m1lt ?_))))
      · rw [elr, elr']; exact e
      · refine g_Ru_closeWithBoth (c_Fa_assumeAllBut hS hA h.2.1 hp hP (fun S2 D2 b2 f2 d2 e2 => ?_))
        have h2 := ru_at_fd h f2 d2
        refine c_Fa_assumeAllBut h2.1.1 h2.1.2.1 d2 hq hP (fun S3 D3 b3 f3 d3 e3 => ?_)
        exact c_Fa_close_no kn_m1lt (fail _ _ _ _ _ (ru_at_fd h2 f3 d3))
  · refine c_Ru_leftOf hS hA (fun q l' r' j' hq hl' hj' => ⟨fun _ => k _ _ (ru_fail h (Or.inl (sp_r2_n (Or.inl e)))), fun e => absurd kn_m1lt e⟩) (fun _ => ⟨fun _ => k _ _ (ru_fail h (Or.inl (sp_r2_n (Or.inl e)))), fun e => absurd kn_m1lt e⟩)
theorem ru_5 {i : Nat} {t : kF} (h : ru_at S LT LM FS NT NM τ S1 LT LM [] false τ) (hi : LM[i]? = some t) (k : ∀ r S', ru_po S LT LM FS NT NM τ (sp_r5 (some t)) r S' → F r S') : kK (d + 2) m_Ru_assumption [.inr 33, .inl (kn i)] S1 (kq F) := by
  have hS := h.1.1
  refine g_Ru_assumption (c_Te_typeAt hS hi (fun y hy => ⟨fun e => ?_, fun e => k _ _ (ru_fail h (Or.inl ?_))⟩))
  · have e := kn_inj (m := 0) (by have := rc_lT hS hy; omega) (by decide) e
    subst e
    have h0 := hS.1.2.2.2.2.2.2.2
    rw [hy] at h0
    injection h0 with h0
    refine c_Fa_assume hS h.2.1 hi (fun S2 D2 b2 f2 d2 e2 => ?_)
    refine ru_close (c := t) (raw := [t]) (ru_at_fd h f2 d2) ?_ (e2 []) (fun z hz => ?_) (Or.inl ⟨i, hi, rfl, fo_mn_rf⟩) k
    · simp [sp_r5, sp_if_pos h0]
    · rw [List.mem_singleton] at hz
      rw [hz]; exact rp_mem hi
  · have hne : ¬ fo_ty t = fo_tb 0 := fun q => e (by rw [q] at hy; rw [fo_ix hS.1.1 hy hS.1.2.2.2.2.2.2.2]; rfl)
    simp [sp_r5, sp_if_neg hne]
theorem ru_5n {x : Int32} (h : ru_at S LT LM FS NT NM τ S1 LT LM [] false τ) (hx : x < 0) (k : ∀ r S', ru_po S LT LM FS NT NM τ none r S' → F r S') : kK (d + 2) m_Ru_assumption [.inr 33, .inl x] S1 (kq F) :=
  g_Ru_assumption (c_Te_typeAt_no hx ⟨fun e => absurd e (by decide), fun _ => k _ _ (ru_fail h (Or.inl rfl))⟩)
theorem sp_r6_n {p q : Option kQ} (h : p.bind (fun q => sp_sd q.1) = none ∨ q = none) : sp_r6 p q = none := by
  cases p with
  | none => rfl
  | some p =>
    cases q with
    | none => rfl
    | some q =>
      rcases h with h | h
      · have h : sp_sd p.1 = none := h
        simp [sp_r6, h]
      · cases h
theorem ru_6 {x y : Int32} (h : ru_at S LT LM FS NT NM τ S1 LT LM [] false τ) (k : ∀ r S', ru_po S LT LM FS NT NM τ (sp_r6 (sp_at FS x) (sp_at FS y)) r S' → F r S') : kK (d + 5) m_Ru_equalTruth [.inr 33, .inl x, .inl y] S1 (kq F) := by
  have hS := h.1.1
  have hA := h.1.2.1
  refine g_Ru_equalTruth (c_Ru_leftOf hS hA (fun p l r j hp hl hj => ⟨fun e => absurd e (kn_nn (by have := rc_lM hS hj; omega)), fun _ => ?_⟩) (fun e => ⟨fun _ => k _ _ (ru_fail h (Or.inl (sp_r6_n (Or.inl e)))), fun e => absurd kn_m1lt e⟩))
  refine c_Fa_conclusionOf hA (fun q i hq hi => ⟨fun e => ?_, fun e => k _ _ (ru_fail h (Or.inl ?_))⟩) (fun e => ⟨fun e2 => absurd e2 (kn_m1 (by have := rc_lM hS hj; omega)), fun _ => k _ _ (ru_fail h (Or.inl (sp_r6_n (Or.inr e))))⟩)
  · have e := kn_inj (by have := rc_lM hS hj; omega) (by have := rc_lM hS hi; omega) e
    subst e
    rw [hj] at hi
    injection hi with hi
    refine c_Ru_rightOf hS hA hp hl (fun jr hjr => ru_both (c := r) h hp hq ?_ (fun z hz => ?_) (Or.inl ⟨jr, hjr, rfl, fo_mn_rf⟩) k)
    · rw [hp, hq]
      simp [sp_r6, hl, sp_if_pos hi]
    · rcases List.mem_append.mp hz with hz | hz
      · exact rc_A_hyp hA (sp_at_mem hp) z hz
      · exact rc_A_hyp hA (sp_at_mem hq) z hz
  · rw [hp, hq]
    have hne : ¬ l = q.1 := fun z => e (by rw [z] at hj; rw [fo_ix hS.1.2.1 hj hi])
    simp [sp_r6, hl, sp_if_neg hne]
theorem ru_7 {x y : Int32} (h : ru_at S LT LM FS NT NM τ S1 LT LM [] false τ) (hok : sp_ok NM FS) (k : ∀ r S', ru_po S LT LM FS NT NM τ (sp_r7 (sp_at FS x) (sp_at FS y)) r S' → F r S') : kK (d + 4) m_Ru_equivalence [.inr 33, .inl x, .inl y] S1 (kq F) := by
  have hS := h.1.1
  have hA := h.1.2.1
  have hPn : ∀ i t, LM[i]? = some t → (kn i = -1 ↔ (fun _ : kF => False) t) := fun i t hi => ⟨fun e => kn_m1 (by have := rc_lM hS hi; omega) e, fun e => e.elim⟩
  have hPe : ∀ (j : Nat) (u : kF), LM[j]? = some u → ∀ i t, LM[i]? = some t → (kn i = kn j ↔ (fun z : kF => z = u) t) := fun j u hj i t hi => ⟨fun e => by
      have e := kn_inj (by have := rc_lM hS hi; omega) (by have := rc_lM hS hj; omega) e
      subst e
      rw [hi] at hj
      injection hj, fun e => by
      have e : t = u := e
      rw [e] at hi
      rw [fo_ix hS.1.2.1 hi hj]⟩
  refine g_Ru_equivalence (c_Fa_conclusionOf hA (fun p i hp hi => ?_) (fun e => ?_))
  · refine c_Fa_conclusionOf hA (fun q j hq hj => ?_) (fun e => ?_)
    · have wp := hok.2 p (sp_at_mem hp)
      have wq := hok.2 q (sp_at_mem hq)
      refine c_Fa_assumeAllBut hS hA h.2.1 hp (hPe j q.1 hj) (fun S2 D2 b2 f2 d2 e2 => ?_)
      have h2 := ru_at_fd h f2 d2
      refine c_Fa_assumeAllBut h2.1.1 h2.1.2.1 d2 hq (hPe i p.1 hi) (fun S3 D3 b3 f3 d3 e3 => ?_)
      have h3 := ru_at_fd h2 f3 d3
      refine c_Te_equation h3.1.1 hi hj ⟨[], wp.1, wq.1⟩ (wp.2.1.trans wq.2.1.symm) (fun r4 S4 LT4 LM4 g4 e4 => ?_)
      refine ru_close (c := sp_eq p.1 q.1) (raw := sp_bt q.1 p.2 ++ sp_bt p.1 q.2) (ru_at_gr h3 g4) (by rw [hp, hq]; rfl) ?_ (fun z hz => rp_sub g4.2.2.1 ?_) (ru_of_en e4) k
      · have z1 := e2 (sp_bt p.1 q.2)
        have z2 := e3 []
        rw [List.append_nil] at z2
        exact z1.trans z2
      · rcases List.mem_append.mp hz with hz | hz
        · exact rc_A_hyp hA (sp_at_mem hp) z (List.mem_filter.mp hz).1
        · exact rc_A_hyp hA (sp_at_mem hq) z (List.mem_filter.mp hz).1
    · refine c_Fa_assumeAllBut hS hA h.2.1 hp hPn (fun S2 D2 b2 f2 d2 e2 => ?_)
      have h2 := ru_at_fd h f2 d2
      refine c_Fa_assumeAllBut_no h2.1.2.1 e (c_Te_equation_nr h2.1.1 hi kn_m1lt (fun S3 LT3 LM3 g3 => c_Fa_close_no kn_m1lt (k _ _ (ru_fail (ru_at_gr h2 g3) (Or.inl ?_)))))
      rw [hp, e]; rfl
  · refine c_Fa_conclusionOf hA (fun q j hq hj => ?_) (fun e2 => ?_)
    · refine c_Fa_assumeAllBut_no hA e (c_Fa_assumeAllBut hS hA h.2.1 hq hPn (fun S2 D2 b2 f2 d2 e2 => ?_))
      refine c_Te_equation_no kn_m1lt (c_Fa_close_no kn_m1lt (k _ _ (ru_fail (ru_at_fd h f2 d2) (Or.inl ?_))))
      rw [e]; rfl
    · refine c_Fa_assumeAllBut_no hA e (c_Fa_assumeAllBut_no hA e2 (c_Te_equation_no kn_m1lt (c_Fa_close_no kn_m1lt (k _ _ (ru_fail h (Or.inl ?_))))))
      rw [e]; rfl
end RULES
