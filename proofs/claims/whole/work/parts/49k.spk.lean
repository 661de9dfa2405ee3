/-! ===== WHAT THE CALLS KEEP ===== -/
theorem sk_nm {N : List kF} {v : kF} {P : kF → Prop} (h : ∀ t, t ∈ N → P t) (hv : P v) : ∀ t, t ∈ (sp_nm N v).2 → P t := by
  intro t ht
  unfold sp_nm at ht
  split at ht
  · exact h t ht
  · rcases List.mem_append.mp ht with ht | ht
    · exact h t ht
    · rw [List.mem_singleton] at ht
      rw [ht]; exact hv
theorem sk_numT {M : kO} {v : kF} (h : sp_kM M) (hv : fo_tw v) : sp_kM (sp_numT M v).2 := ⟨h.1, sk_nm h.2 hv⟩
theorem sk_numM {M : kO} {v : kF} (h : sp_kM M) (hv : fo_wf [] v) : sp_kM (sp_numM M v).2 := ⟨⟨sk_nm h.1.1 hv, h.1.2⟩, h.2⟩
theorem sk_ite {p : Prop} {x y : Int32 × kO} (hx : p → sp_kM x.2) (hy : sp_kM y.2) : sp_kM (sp_ite p x y).2 := by
  by_cases h : p
  · rw [sp_ite_pos h]; exact hx h
  · rw [sp_ite_neg h]; exact hy
theorem sk_b1 {α : Type} {o : Option α} {M : kO} {f : α → Int32 × kO} (h : sp_kM M) (hf : ∀ x, o = some x → sp_kM (f x).2) : sp_kM (sp_b1 o M f).2 := by
  cases o with
  | none => exact h
  | some x => exact hf x rfl
theorem sk_mkT {M : kO} {v : kF} (h : sp_kM M) (hv : fo_tw v) : sp_kM (sp_mkT M v).2 := sk_ite (fun _ => ⟨h.1, sk_nm h.2 hv⟩) h
theorem sk_mkM {M : kO} {v : kF} (h : sp_kM M) (hv : fo_wf [] v) : sp_kM (sp_mkM M v).2 := sk_ite (fun _ => ⟨⟨sk_nm h.1.1 hv, h.1.2⟩, h.2⟩) h
theorem sk_typeVariable {M : kO} {a : Int32} (h : sp_kM M) : sp_kM (sp_typeVariable M a).2 := by
  unfold sp_typeVariable
  split
  · exact h
  · rename_i e
    split
    · rename_i e2
      obtain ⟨n, hn, rfl⟩ := (kn_of a).resolve_left e
      have := (kn_lt (m := 4) hn (by decide)).mp e2
      rw [kn_tn hn]
      exact sk_mkT h (fo_tw_tb (by omega))
    · exact h
theorem sk_arrow {M : kO} {a b : Int32} (h : sp_kM M) : sp_kM (sp_arrow M a b).2 := sk_b1 h (fun x hx => sk_b1 h (fun y hy => sk_mkT h (fo_tw_ar (h.2 x (sp_at_mem hx)) (h.2 y (sp_at_mem hy)))))
theorem sk_variable {M : kO} {a b : Int32} (h : sp_kM M) : sp_kM (sp_variable M a b).2 := by
  unfold sp_variable
  split
  · exact h
  · rename_i e
    split
    · rename_i e2
      obtain ⟨n, hn, rfl⟩ := (kn_of a).resolve_left e
      have := (kn_lt (m := 8) hn (by decide)).mp e2
      rw [kn_tn hn]
      exact sk_b1 h (fun A hA => sk_mkM h (fo_wf_lf ⟨h.2 A (sp_at_mem hA), Or.inl ⟨rfl, by omega⟩⟩))
    · exact h
theorem sk_equality {M : kO} {a : Int32} (h : sp_kM M) : sp_kM (sp_equality M a).2 := sk_b1 h (fun A hA => sk_mkM h (fo_wf_lf ⟨fo_tw_ar (h.2 A (sp_at_mem hA)) (fo_tw_ar (h.2 A (sp_at_mem hA)) (fo_tw_tb (by decide))), Or.inr (Or.inl ⟨rfl, rfl, A, rfl⟩)⟩))
theorem sk_apply {M : kO} {a b : Int32} (h : sp_kM M) : sp_kM (sp_apply M a b).2 := sk_b1 h (fun f hf => sk_b1 h (fun x hx => sk_ite (fun ⟨B, hB⟩ => sk_mkM h (fo_wf_ap (h.1.1 f (sp_at_mem hf)) (h.1.1 x (sp_at_mem hx)) hB)) h))
theorem sk_lambda {M : kO} {a b : Int32} (h : sp_kM M) : sp_kM (sp_lambda M a b).2 := sk_b1 h (fun x hx => sk_b1 h (fun t ht => sk_ite (fun ⟨n, A, e⟩ => by
  have wx := h.1.1 x (sp_at_mem hx)
  subst e
  exact sk_mkM h (sp_iA_wf (fo_wf_ilf wx).1 (h.1.1 t (sp_at_mem ht))).1) h))
theorem sk_rule {M : kO} {op a b c : Int32} (h : sp_kM M) : sp_kM (sp_rule M op a b c).2 := sk_b1 h (fun M' hM' => (sp_ru_ok h hM').1)
theorem sk_line {M : kO} {op a b c : Int32} (h : sp_kM M) : sp_kM (sp_line M op a b c).2 := by
  unfold sp_line
  split
  · exact h
  · split
    · exact h
    · split
      · exact h
      · exact h
theorem sk_clear {M : kO} (h : sp_kM M) : sp_kM (sp_clear M).2 := h
theorem sk_rep {n0 : Nat} : ∀ (l : kTL) (i : Nat) (M M' : kO), sp_kM M → sp_rep n0 l i M = .inl M' → sp_kM M'
  | [], i, M, M', h, e => by injection e with e; rw [← e]; exact h
  | (op, a, b, c) :: l, i, M, M', h, e => by
    unfold sp_rep at e
    split at e
    · rename_i M1 h1
      exact sk_rep l (i + 1) M1 M' (sp_ru_ok h h1).1 e
    · cases e
theorem sk_replay {M : kO} (h : sp_kM M) : sp_kM (sp_replay M).2 := by
  unfold sp_replay
  split
  · rename_i M' e
    exact sk_rep _ _ _ _ h e
  · exact h
theorem sk_typeOf {M : kO} {a : Int32} (h : sp_kM M) : sp_kM (sp_typeOf M a).2 := sk_b1 h (fun t ht => sk_numT h (fo_wf_ty (h.1.1 t (sp_at_mem ht))))
theorem sk_kind {M : kO} {a : Int32} (h : sp_kM M) : sp_kM (sp_kind M a).2 := sk_b1 h (fun _ _ => h)
theorem sk_conclusion {M : kO} {a : Int32} (h : sp_kM M) : sp_kM (sp_conclusion M a).2 := sk_b1 h (fun q hq => sk_numM h (h.1.2 q (sp_at_mem hq)).1)
theorem sk_fa {t : kF} {px : kF × kF} (h : sp_fa t = some px) : t = fo_ap px.1 px.2 := by
  unfold sp_fa at h
  split at h
  · injection h with h
    rw [← h]; rfl
  · cases h
theorem sk_part {M : kO} {a b : Int32} (h : sp_kM M) : sp_kM (sp_part M a b).2 := sk_b1 h (fun t ht => by
  have wt := h.1.1 t (sp_at_mem ht)
  split
  · split
    · exact h
    · exact h
  · refine sk_b1 h (fun px hpx => ?_)
    rw [sk_fa hpx] at wt
    obtain ⟨w1, w2, _⟩ := fo_wf_iap wt
    split
    · exact sk_numM h w1
    · split
      · exact sk_numM h w2
      · exact h)
theorem sk_ru1 {M M' : kO} {v : kF} (h : sp_kM M) (hv : fo_wf [] v) (ht : fo_ty v = fo_tb 0) (e : sp_ru M (some (v, [])) = some M') : sp_kM M' := by
  have e : sp_if (sp_rk M v []) (some (sp_rm M v [])) = some M' := e
  obtain ⟨_, e⟩ := sp_ifi e
  injection e with e
  rw [← e]
  refine ⟨⟨h.1.1, fun q hq => ?_⟩, h.2⟩
  rcases List.mem_append.mp hq with hq | hq
  · exact h.1.2 q hq
  · rw [List.mem_singleton] at hq
    rw [hq]
    exact ⟨hv, ht, fun z hz => by cases hz⟩
theorem sk_define {M : kO} {a : Int32} (h : sp_kM M) : sp_kM (sp_define M a).2 := sk_b1 h (fun t ht => sk_ite (fun hc => by
  have wt := h.1.1 t (sp_at_mem ht)
  have w0 : fo_wf [] (fo_lf 2 (sm_c M) (fo_ty t)) := fo_wf_lf ⟨fo_wf_ty wt, Or.inr (Or.inr (Or.inl ⟨rfl, hc.2.2, fo_gn_ty wt hc.2.1⟩))⟩
  exact sk_b1 h (fun M' hM' => (show sp_kM M' from sk_ru1 h (sp_eq_wf w0 wt rfl).2 rfl hM'))) h)
