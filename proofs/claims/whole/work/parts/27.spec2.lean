/-! ===== WHAT THE CALLS DO, IN TREES ===== -/
/-- types, terms, numbered types, numbered terms, facts, constants, defined types, lines -/
abbrev kO : Type := (kF → Prop) × (kF → Prop) × List kF × List kF × List kQ × Nat × Nat × kTL
def sm_T (M : kO) : kF → Prop := M.1
def sm_M (M : kO) : kF → Prop := M.2.1
def sm_nT (M : kO) : List kF := M.2.2.1
def sm_nM (M : kO) : List kF := M.2.2.2.1
def sm_F (M : kO) : List kQ := M.2.2.2.2.1
def sm_c (M : kO) : Nat := M.2.2.2.2.2.1
def sm_d (M : kO) : Nat := M.2.2.2.2.2.2.1
def sm_L (M : kO) : kTL := M.2.2.2.2.2.2.2
/-- the least closed sets with g -/
def sp_cT (pT pM : kF → Prop) (g : kU) : kF → Prop := fun x => ∀ U V, fo_Cl U V → (∀ y, pT y → U y) → (∀ y, pM y → V y) → g U V → U x
def sp_cM (pT pM : kF → Prop) (g : kU) : kF → Prop := fun x => ∀ U V, fo_Cl U V → (∀ y, pT y → U y) → (∀ y, pM y → V y) → g U V → V x
def sp_fit (pT pM : kF → Prop) (g : kU) : Prop := ∃ U V, fo_Cl U V ∧ fo_Li U V ∧ (∀ y, pT y → U y) ∧ (∀ y, pM y → V y) ∧ g U V
theorem sp_no {LT LM : List kF} {pT pM : kF → Prop} {g : kU} (hT : ∀ x, x ∈ LT ↔ pT x) (hM : ∀ x, x ∈ LM ↔ pM x) (h : fo_no LT LM g) : ¬ sp_fit pT pM g := fun ⟨U, V, hc, hl, a, b, hg⟩ => h U V hc hl (fun x hx => a x ((hT x).mp hx)) (fun x hx => b x ((hM x).mp hx)) hg
theorem sp_yes {LT LM LT' LM' : List kF} {pT pM : kF → Prop} {g : kU} (hT : ∀ x, x ∈ LT ↔ pT x) (hM : ∀ x, x ∈ LM ↔ pM x) (hL : fo_SL LT' LM') (p1 : ∀ x, x ∈ LT → x ∈ LT') (p2 : ∀ x, x ∈ LM → x ∈ LM') (hg : g (· ∈ LT') (· ∈ LM')) (m : fo_mn LT LM LT' LM' g) : sp_fit pT pM g ∧ (∀ x, x ∈ LT' ↔ sp_cT pT pM g x) ∧ (∀ x, x ∈ LM' ↔ sp_cM pT pM g x) := by
  refine ⟨⟨(· ∈ LT'), (· ∈ LM'), hL.2.2.1, fo_SL_Li hL, fun y hy => p1 y ((hT y).mpr hy), fun y hy => p2 y ((hM y).mpr hy), hg⟩, fun x => ⟨fun hx U V hc a b hg => ?_, fun hx => ?_⟩, fun x => ⟨fun hx U V hc a b hg => ?_, fun hx => ?_⟩⟩
  · exact (m U V hc (fun z hz => a z ((hT z).mp hz)) (fun z hz => b z ((hM z).mp hz)) hg).1 x hx
  · exact hx _ _ hL.2.2.1 (fun y hy => p1 y ((hT y).mpr hy)) (fun y hy => p2 y ((hM y).mpr hy)) hg
  · exact (m U V hc (fun z hz => a z ((hT z).mp hz)) (fun z hz => b z ((hM z).mp hz)) hg).2 x hx
  · exact hx _ _ hL.2.2.1 (fun y hy => p1 y ((hT y).mpr hy)) (fun y hy => p2 y ((hM y).mpr hy)) hg
noncomputable def sp_ite {α : Type} (p : Prop) (x y : α) : α := @ite _ p (Classical.propDecidable p) x y
theorem sp_ite_pos {α : Type} {p : Prop} {x y : α} (h : p) : sp_ite p x y = x := if_pos h
theorem sp_ite_neg {α : Type} {p : Prop} {x y : α} (h : ¬ p) : sp_ite p x y = y := if_neg h
/-- a number for v -/
noncomputable def sp_nm (N : List kF) (v : kF) : Int32 × List kF := @dite _ (∃ j : Nat, N[j]? = some v) (Classical.propDecidable _) (fun h => (kn (Classical.choose h), N)) (fun _ => (kn N.length, N ++ [v]))
theorem sp_nm_in {N : List kF} {v : kF} {j : Nat} (hn : N.Nodup) (h : N[j]? = some v) : sp_nm N v = (kn j, N) := by
  have he : ∃ j : Nat, N[j]? = some v := ⟨j, h⟩
  unfold sp_nm
  rw [dif_pos he, fo_ix hn (Classical.choose_spec he) h]
theorem sp_nm_new {N : List kF} {v : kF} (h : v ∉ N) : sp_nm N v = (kn N.length, N ++ [v]) := by
  unfold sp_nm
  rw [dif_neg (fun ⟨j, hj⟩ => h (rp_mem hj))]
def sp_gT (v : kF) : kU := fun U _ => U v
def sp_gM (v : kF) : kU := fun _ V => V v
/-- a type made and numbered; a term made and numbered -/
noncomputable def sp_mkT (M : kO) (v : kF) : Int32 × kO := sp_ite (sp_fit (sm_T M) (sm_M M) (sp_gT v)) ((sp_nm (sm_nT M) v).1, (sp_cT (sm_T M) (sm_M M) (sp_gT v), sp_cM (sm_T M) (sm_M M) (sp_gT v), (sp_nm (sm_nT M) v).2, sm_nM M, sm_F M, sm_c M, sm_d M, sm_L M)) (-1, M)
noncomputable def sp_mkM (M : kO) (v : kF) : Int32 × kO := sp_ite (sp_fit (sm_T M) (sm_M M) (sp_gM v)) ((sp_nm (sm_nM M) v).1, (sp_cT (sm_T M) (sm_M M) (sp_gM v), sp_cM (sm_T M) (sm_M M) (sp_gM v), sm_nT M, (sp_nm (sm_nM M) v).2, sm_F M, sm_c M, sm_d M, sm_L M)) (-1, M)
def sp_b1 {α : Type} (o : Option α) (M : kO) (f : α → Int32 × kO) : Int32 × kO := match o with
  | some x => f x
  | none => (-1, M)
noncomputable def sp_typeVariable (M : kO) (k : Int32) : Int32 × kO := if k < 0 then (-1, M) else if k < 4 then sp_mkT M (fo_tb (2 + k.toNatClampNeg)) else (-1, M)
noncomputable def sp_arrow (M : kO) (a b : Int32) : Int32 × kO := sp_b1 (sp_at (sm_nT M) a) M fun x => sp_b1 (sp_at (sm_nT M) b) M fun y => sp_mkT M (fo_ar x y)
noncomputable def sp_variable (M : kO) (k t : Int32) : Int32 × kO := if k < 0 then (-1, M) else if k < 8 then sp_b1 (sp_at (sm_nT M) t) M fun A => sp_mkM M (fo_lf 0 k.toNatClampNeg A) else (-1, M)
noncomputable def sp_equality (M : kO) (t : Int32) : Int32 × kO := sp_b1 (sp_at (sm_nT M) t) M fun A => sp_mkM M (fo_lf 1 0 (fo_ar A (fo_ar A (fo_tb 0))))
noncomputable def sp_apply (M : kO) (f x : Int32) : Int32 × kO := sp_b1 (sp_at (sm_nM M) f) M fun f => sp_b1 (sp_at (sm_nM M) x) M fun x => sp_ite (∃ B, fo_ty f = fo_ar (fo_ty x) B) (sp_mkM M (fo_ap f x)) (-1, M)
noncomputable def sp_lambda (M : kO) (x t : Int32) : Int32 × kO := sp_b1 (sp_at (sm_nM M) x) M fun x => sp_b1 (sp_at (sm_nM M) t) M fun t => sp_ite (∃ n A, x = fo_lf 0 n A) (sp_mkM M (sp_iA x t)) (-1, M)
/-- a rule with its fact -/
def sp_rk (M : kO) (c : kF) (raw : List kF) : Prop := (sp_ds [] false raw).2 = false ∧ (sm_F M).length < 60 ∧ sp_fit (sm_T M) (sm_M M) (sp_g c raw)
noncomputable def sp_rm (M : kO) (c : kF) (raw : List kF) : kO := (sp_cT (sm_T M) (sm_M M) (sp_g c raw), sp_cM (sm_T M) (sm_M M) (sp_g c raw), sm_nT M, sm_nM M, sm_F M ++ [(c, (sp_ds [] false raw).1)], sm_c M, sm_d M, sm_L M)
noncomputable def sp_ru (M : kO) (o : Option kQ) : Option kO := o.bind fun q => sp_if (sp_rk M q.1 q.2) (some (sp_rm M q.1 q.2))
noncomputable def sp_ro (fx : Int32 → Int32) (M : kO) (op a b c : Int32) : Option kQ := if op < 0 then none else sp_rl fx (sm_nT M) (sm_nM M) (sm_F M) op.toNatClampNeg a b c
noncomputable def sp_rule (M : kO) (op a b c : Int32) : Int32 × kO := sp_b1 (sp_ru M (sp_ro id M op a b c)) M fun M' => (kn (sm_F M).length, M')
/-- a constant of its own for a term -/
noncomputable def sp_define (M : kO) (t : Int32) : Int32 × kO := sp_b1 (sp_at (sm_nM M) t) M fun t =>
  sp_ite (fo_af t = false ∧ fo_gn t = false ∧ sm_c M < 8) (sp_b1 (sp_ru M (some (sp_eq (fo_lf 2 (sm_c M) (fo_ty t)) t, []))) M fun M' => (kn (sm_F M).length, (sm_T M', sm_M M', sm_nT M', sm_nM M', sm_F M', sm_c M + 1, sm_d M', sm_L M'))) (-1, M)
/-- the two facts of a new type: up and down are constants n and n + 1, v and w variables -/
def sp_up (n : Nat) (A T : kF) : kF := fo_lf 2 n (fo_ar A T)
def sp_f1 (n : Nat) (A T : kF) : kF := sp_eq (fo_ap (sp_up n A T) (fo_ap (sp_up (n + 1) T A) (fo_lf 0 0 T))) (fo_lf 0 0 T)
def sp_f2 (n : Nat) (A T p : kF) : kF := sp_eq (fo_ap p (fo_lf 0 0 A)) (sp_eq (fo_ap (sp_up (n + 1) T A) (fo_ap (sp_up n A T) (fo_lf 0 0 A))) (fo_lf 0 0 A))
def sp_g2 (x y : kF) : kU := fun _ V => V x ∧ V y
noncomputable def sp_defineType (M : kO) (f : Int32) : Int32 × kO := sp_b1 (sp_at (sm_F M) f) M fun q => sp_b1 (sp_fa q.1) M fun px =>
  sp_ite (fo_af px.1 = false ∧ fo_gn px.1 = false ∧ q.2 = [] ∧ sm_d M < 3 ∧ sm_c M + 2 ≤ 8 ∧ (sm_F M).length + 2 ≤ 60 ∧ sp_fit (sm_T M) (sm_M M) (sp_g2 (sp_f1 (sm_c M) (fo_ty px.2) (fo_tb (6 + sm_d M))) (sp_f2 (sm_c M) (fo_ty px.2) (fo_tb (6 + sm_d M)) px.1)))
    (kn (sm_F M).length, (sp_cT (sm_T M) (sm_M M) (sp_g2 (sp_f1 (sm_c M) (fo_ty px.2) (fo_tb (6 + sm_d M))) (sp_f2 (sm_c M) (fo_ty px.2) (fo_tb (6 + sm_d M)) px.1)), sp_cM (sm_T M) (sm_M M) (sp_g2 (sp_f1 (sm_c M) (fo_ty px.2) (fo_tb (6 + sm_d M))) (sp_f2 (sm_c M) (fo_ty px.2) (fo_tb (6 + sm_d M)) px.1)), sm_nT M, sm_nM M, sm_F M ++ [(sp_f1 (sm_c M) (fo_ty px.2) (fo_tb (6 + sm_d M)), []), (sp_f2 (sm_c M) (fo_ty px.2) (fo_tb (6 + sm_d M)) px.1, [])], sm_c M + 2, sm_d M + 1, sm_L M)) (-1, M)
def sp_line (M : kO) (op a b c : Int32) : Int32 × kO := if op < 0 then (-1, M) else if 10 < op then (-1, M) else if (sm_L M).length < 12 then (kn (sm_L M).length, (sm_T M, sm_M M, sm_nT M, sm_nM M, sm_F M, sm_c M, sm_d M, sm_L M ++ [(op, a, b, c)])) else (-1, M)
def sp_clear (M : kO) : Int32 × kO := (kn (sm_L M).length, (sm_T M, sm_M M, sm_nT M, sm_nM M, sm_F M, sm_c M, sm_d M, []))
/-- the lines one after the other: where one is refused, its number -/
noncomputable def sp_rep (n0 : Nat) : kTL → Nat → kO → kO ⊕ Nat
  | [], _, M => .inl M
  | (op, a, b, c) :: l, i, M => match sp_ru M (sp_ro (sp_fx (kn n0) (kn i)) M op a b c) with
    | some M' => sp_rep n0 l (i + 1) M'
    | none => .inr i
noncomputable def sp_replay (M : kO) : Int32 × kO := match sp_rep (sm_F M).length (sm_L M) 0 M with
  | .inl M' => (kn (sm_L M).length, M')
  | .inr i => (-1 - kn i, M)
noncomputable def sp_numT (M : kO) (v : kF) : Int32 × kO := ((sp_nm (sm_nT M) v).1, (sm_T M, sm_M M, (sp_nm (sm_nT M) v).2, sm_nM M, sm_F M, sm_c M, sm_d M, sm_L M))
noncomputable def sp_numM (M : kO) (v : kF) : Int32 × kO := ((sp_nm (sm_nM M) v).1, (sm_T M, sm_M M, sm_nT M, (sp_nm (sm_nM M) v).2, sm_F M, sm_c M, sm_d M, sm_L M))
noncomputable def sp_typeOf (M : kO) (t : Int32) : Int32 × kO := sp_b1 (sp_at (sm_nM M) t) M fun t => sp_numT M (fo_ty t)
def sp_kind (M : kO) (t : Int32) : Int32 × kO := sp_b1 (sp_at (sm_nM M) t) M fun t => (kn (fo_so t), M)
/-- which one a leaf is -/
def sp_wh (t : kF) : Int32 := match t with
  | .nest _ (.tag k _) => kn k
  | _ => -1
noncomputable def sp_part (M : kO) (t i : Int32) : Int32 × kO := sp_b1 (sp_at (sm_nM M) t) M fun t =>
  if fo_so t = 0 ∨ fo_so t = 2 then (if i = 0 then (sp_wh t, M) else (-1, M)) else sp_b1 (sp_fa t) M fun fx => if i = 0 then sp_numM M fx.1 else if i = 1 then sp_numM M fx.2 else (-1, M)
noncomputable def sp_free (M : kO) (x t : Int32) : Int32 := match sp_at (sm_nM M) x, sp_at (sm_nM M) t with
  | some x, some t => sp_ite ((∃ n A, x = fo_lf 0 n A) ∧ fo_oc x t) 1 0
  | _, _ => 0
noncomputable def sp_conclusion (M : kO) (f : Int32) : Int32 × kO := sp_b1 (sp_at (sm_F M) f) M fun q => sp_numM M q.1
def sp_hypotheses (M : kO) (f : Int32) : Int32 := match sp_at (sm_F M) f with
  | some q => kn q.2.length
  | none => -1
noncomputable def sp_assumes (M : kO) (f t : Int32) : Int32 := match sp_at (sm_F M) f, sp_at (sm_nM M) t with
  | some q, some t => sp_ite (t ∈ q.2) 1 0
  | _, _ => 0
/-- how many: the length of a list without repetition that holds just p -/
noncomputable def sp_card (p : kF → Prop) : Nat := @dite _ (∃ L : List kF, L.Nodup ∧ ∀ x, x ∈ L ↔ p x) (Classical.propDecidable _) (fun h => (Classical.choose h).length) (fun _ => 0)
theorem sp_card_eq {p : kF → Prop} {L : List kF} (hn : L.Nodup) (h : ∀ x, x ∈ L ↔ p x) : sp_card p = L.length := by
  have he : ∃ L : List kF, L.Nodup ∧ ∀ x, x ∈ L ↔ p x := ⟨L, hn, h⟩
  have hc := Classical.choose_spec he
  unfold sp_card
  rw [dif_pos he]
  apply Nat.le_antisymm
  · exact fo_pg _ _ hc.1 (fun x hx => (h x).mpr ((hc.2 x).mp hx))
  · exact fo_pg _ _ hn (fun x hx => (hc.2 x).mpr ((h x).mp hx))
noncomputable def sp_count (M : kO) (w : Int32) : Int32 := if w = 0 then kn (sp_card (sm_M M)) else if w = 1 then kn (sp_card (sm_T M)) else if w = 2 then kn (sm_F M).length else if w = 3 then kn (sm_nM M).length else if w = 4 then kn (sm_nT M).length else -1
