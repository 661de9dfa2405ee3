/-! ===== TREES: types and terms as formats, their measures, changes, the closed sets ===== -/
abbrev kF : Type := Std.Format
def fo_ar (a b : kF) : kF := .append a b
def fo_tb (k : Nat) : kF := .tag k .nil
def fo_lf (s k : Nat) (A : kF) : kF := .nest (Int.ofNat s) (.tag k A)
def fo_ap (f x : kF) : kF := .append f x
def fo_ab (A b : kF) : kF := .group (.append A b) .allOrNone
def fo_th : kF → Nat
  | .append a b => 1 + max (fo_th a) (fo_th b)
  | _ => 1
def fo_ht : kF → Nat
  | .append f x => 1 + max (fo_ht f) (fo_ht x)
  | .group (.append _ b) _ => 1 + fo_ht b
  | _ => 1
def fo_cod : kF → kF
  | .append _ b => b
  | t => t
def fo_ty : kF → kF
  | .append f _ => fo_cod (fo_ty f)
  | .group (.append A b) _ => .append A (fo_ty b)
  | .nest _ (.tag _ A) => A
  | t => t
/-- a type variable stands in the type -/
def fo_gt : kF → Bool
  | .append a b => fo_gt a || fo_gt b
  | .tag k _ => Nat.ble 2 k && Nat.ble k 5
  | _ => false
/-- a type variable stands in the term's type or in that of a part -/
def fo_gn : kF → Bool
  | .append f x => fo_gt (fo_ty (.append f x)) || (fo_gn f || fo_gn x)
  | .group (.append A b) h => fo_gt (fo_ty (.group (.append A b) h)) || fo_gn b
  | t => fo_gt (fo_ty t)
/-- a variable stands in the term -/
def fo_af : kF → Bool
  | .append f x => fo_af f || fo_af x
  | .group (.append _ b) _ => fo_af b
  | .nest s _ => s == 0
  | _ => false
/-- x stands in t -/
def fo_oc (x : kF) : kF → Prop
  | .append f y => x = .append f y ∨ fo_oc x f ∨ fo_oc x y
  | .group (.append A b) h => x = .group (.append A b) h ∨ fo_oc x b
  | t => x = t
/-- a change: st puts something in the place of a term under d abstractions, rt changes types -/
def fo_im (st : kF → Nat → Option kF) (rt : kF → kF) : kF → Nat → kF
  | .append f x, d => (st (.append f x) d).getD (.append (fo_im st rt f d) (fo_im st rt x d))
  | .group (.append A b) h, d => (st (.group (.append A b) h) d).getD (.group (.append (rt A) (fo_im st rt b (d + 1))) h)
  | .nest s (.tag k A), d => (st (.nest s (.tag k A)) d).getD (.nest s (.tag k (rt A)))
  | t, _ => t
def fo_rt (j : Nat) (c : kF) : kF → kF
  | .append a b => .append (fo_rt j c a) (fo_rt j c b)
  | .tag k t => if k = j then c else .tag k t
  | t => t
theorem fo_ap_inj {f x g y : kF} (h : fo_ap f x = fo_ap g y) : f = g ∧ x = y := by
  unfold fo_ap at h; injection h with h1 h2; exact ⟨h1, h2⟩
theorem fo_ar_inj {f x g y : kF} (h : fo_ar f x = fo_ar g y) : f = g ∧ x = y := by
  unfold fo_ar at h; injection h with h1 h2; exact ⟨h1, h2⟩
theorem fo_ab_inj {A b C d : kF} (h : fo_ab A b = fo_ab C d) : A = C ∧ b = d := by
  unfold fo_ab at h; injection h with h1 h2; injection h1 with h3 h4; exact ⟨h3, h4⟩
theorem fo_tb_inj {j k : Nat} (h : fo_tb j = fo_tb k) : j = k := by
  unfold fo_tb at h; injection h
theorem fo_lf_inj {s k s' k' : Nat} {A A' : kF} (h : fo_lf s k A = fo_lf s' k' A') : s = s' ∧ k = k' ∧ A = A' := by
  unfold fo_lf at h; injection h with h1 h2; injection h2 with h3 h4; injection h1 with h5; exact ⟨h5, h3, h4⟩
theorem fo_ap_lf {f x A : kF} {s k : Nat} : fo_ap f x ≠ fo_lf s k A := by unfold fo_ap fo_lf; exact fun h => by cases h
theorem fo_ap_ab {f x A b : kF} : fo_ap f x ≠ fo_ab A b := by unfold fo_ap fo_ab; exact fun h => by cases h
theorem fo_ab_lf {A b B : kF} {s k : Nat} : fo_ab A b ≠ fo_lf s k B := by unfold fo_ab fo_lf; exact fun h => by cases h
theorem fo_ar_tb {a b : kF} {k : Nat} : fo_ar a b ≠ fo_tb k := by unfold fo_ar fo_tb; exact fun h => by cases h
theorem fo_th_ar (a b : kF) : fo_th (fo_ar a b) = 1 + max (fo_th a) (fo_th b) := rfl
theorem fo_th_tb (k : Nat) : fo_th (fo_tb k) = 1 := rfl
theorem fo_ht_ap (f x : kF) : fo_ht (fo_ap f x) = 1 + max (fo_ht f) (fo_ht x) := rfl
theorem fo_ht_ab (A b : kF) : fo_ht (fo_ab A b) = 1 + fo_ht b := rfl
theorem fo_ht_lf (s k : Nat) (A : kF) : fo_ht (fo_lf s k A) = 1 := rfl
theorem fo_ty_ap (f x : kF) : fo_ty (fo_ap f x) = fo_cod (fo_ty f) := rfl
theorem fo_ty_ab (A b : kF) : fo_ty (fo_ab A b) = fo_ar A (fo_ty b) := rfl
theorem fo_ty_lf (s k : Nat) (A : kF) : fo_ty (fo_lf s k A) = A := rfl
theorem fo_cod_ar (a b : kF) : fo_cod (fo_ar a b) = b := rfl
theorem fo_gt_ar (a b : kF) : fo_gt (fo_ar a b) = (fo_gt a || fo_gt b) := rfl
theorem fo_gt_tb (k : Nat) : fo_gt (fo_tb k) = (Nat.ble 2 k && Nat.ble k 5) := rfl
theorem fo_gn_ap (f x : kF) : fo_gn (fo_ap f x) = (fo_gt (fo_ty (fo_ap f x)) || (fo_gn f || fo_gn x)) := rfl
theorem fo_gn_ab (A b : kF) : fo_gn (fo_ab A b) = (fo_gt (fo_ty (fo_ab A b)) || fo_gn b) := rfl
theorem fo_gn_lf (s k : Nat) (A : kF) : fo_gn (fo_lf s k A) = fo_gt A := rfl
theorem fo_af_ap (f x : kF) : fo_af (fo_ap f x) = (fo_af f || fo_af x) := rfl
theorem fo_af_ab (A b : kF) : fo_af (fo_ab A b) = fo_af b := rfl
theorem fo_af_lf (s k : Nat) (A : kF) : fo_af (fo_lf s k A) = (s == 0) := by
  show ((Int.ofNat s) == 0) = (s == 0)
  cases s <;> rfl
theorem fo_oc_ap (x f y : kF) : fo_oc x (fo_ap f y) ↔ (x = fo_ap f y ∨ fo_oc x f ∨ fo_oc x y) := Iff.rfl
theorem fo_oc_ab (x A b : kF) : fo_oc x (fo_ab A b) ↔ (x = fo_ab A b ∨ fo_oc x b) := Iff.rfl
theorem fo_oc_lf (x A : kF) (s k : Nat) : fo_oc x (fo_lf s k A) ↔ x = fo_lf s k A := Iff.rfl
theorem fo_im_ap (st : kF → Nat → Option kF) (rt : kF → kF) (f x : kF) (d : Nat) : fo_im st rt (fo_ap f x) d = (st (fo_ap f x) d).getD (fo_ap (fo_im st rt f d) (fo_im st rt x d)) := rfl
theorem fo_im_ab (st : kF → Nat → Option kF) (rt : kF → kF) (A b : kF) (d : Nat) : fo_im st rt (fo_ab A b) d = (st (fo_ab A b) d).getD (fo_ab (rt A) (fo_im st rt b (d + 1))) := rfl
theorem fo_im_lf (st : kF → Nat → Option kF) (rt : kF → kF) (s k : Nat) (A : kF) (d : Nat) : fo_im st rt (fo_lf s k A) d = (st (fo_lf s k A) d).getD (fo_lf s k (rt A)) := rfl
theorem fo_rt_ar (j : Nat) (c a b : kF) : fo_rt j c (fo_ar a b) = fo_ar (fo_rt j c a) (fo_rt j c b) := rfl
theorem fo_rt_tb (j : Nat) (c : kF) (k : Nat) : fo_rt j c (fo_tb k) = if k = j then c else fo_tb k := rfl
/-- the types -/
def fo_tw (t : kF) : Prop := ∀ P : kF → Prop, (∀ k, k < 9 → P (fo_tb k)) → (∀ a b, P a → P b → P (fo_ar a b)) → P t
theorem fo_tw_tb {k : Nat} (h : k < 9) : fo_tw (fo_tb k) := fun _ h1 _ => h1 k h
theorem fo_tw_ar {a b : kF} (ha : fo_tw a) (hb : fo_tw b) : fo_tw (fo_ar a b) := fun P h1 h2 => h2 a b (ha P h1 h2) (hb P h1 h2)
theorem fo_tw_cases {t : kF} (h : fo_tw t) : (∃ k, k < 9 ∧ t = fo_tb k) ∨ ∃ a b, t = fo_ar a b ∧ fo_tw a ∧ fo_tw b :=
  (h (fun t => fo_tw t ∧ ((∃ k, k < 9 ∧ t = fo_tb k) ∨ ∃ a b, t = fo_ar a b ∧ fo_tw a ∧ fo_tw b)) (fun k hk => ⟨fo_tw_tb hk, Or.inl ⟨k, hk, rfl⟩⟩) (fun a b ha hb => ⟨fo_tw_ar ha.1 hb.1, Or.inr ⟨a, b, rfl, ha.1, hb.1⟩⟩)).2
theorem fo_tw_inv {a b : kF} (h : fo_tw (fo_ar a b)) : fo_tw a ∧ fo_tw b := by
  rcases fo_tw_cases h with ⟨k, _, e⟩ | ⟨a', b', e, h1, h2⟩
  · exact absurd e fo_ar_tb
  · obtain ⟨rfl, rfl⟩ := fo_ar_inj e; exact ⟨h1, h2⟩
theorem fo_tw_ind {P : kF → Prop} (h1 : ∀ k, k < 9 → P (fo_tb k)) (h2 : ∀ a b, fo_tw a → fo_tw b → P a → P b → P (fo_ar a b)) {t : kF} (h : fo_tw t) : P t :=
  (h (fun t => fo_tw t ∧ P t) (fun k hk => ⟨fo_tw_tb hk, h1 k hk⟩) (fun a b ha hb => ⟨fo_tw_ar ha.1 hb.1, h2 a b ha.1 hb.1 ha.2 hb.2⟩)).2
theorem fo_gt_tb_iff {k : Nat} : fo_gt (fo_tb k) = true ↔ 2 ≤ k ∧ k < 6 := by
  rw [fo_gt_tb, Bool.and_eq_true]
  constructor
  · rintro ⟨h1, h2⟩
    have := Nat.le_of_ble_eq_true h1
    have := Nat.le_of_ble_eq_true h2
    omega
  · rintro ⟨h1, h2⟩
    exact ⟨Nat.ble_eq_true_of_le h1, Nat.ble_eq_true_of_le (by omega)⟩
theorem fo_rt_id {j : Nat} {c A : kF} (hj : 2 ≤ j ∧ j < 6) (h : fo_tw A) : fo_gt A = false → fo_rt j c A = A := by
  refine fo_tw_ind (P := fun A => fo_gt A = false → fo_rt j c A = A) ?_ ?_ h
  · intro k hk hg
    rw [fo_rt_tb]
    by_cases e : k = j
    · subst e
      rw [(fo_gt_tb_iff (k := k)).mpr hj] at hg
      cases hg
    · rw [if_neg e]
  · intro a b _ _ ha hb hg
    rw [fo_gt_ar, Bool.or_eq_false_iff] at hg
    rw [fo_rt_ar, ha hg.1, hb hg.2]
theorem fo_rt_tw {j : Nat} {c A : kF} (hc : fo_tw c) (h : fo_tw A) : fo_tw (fo_rt j c A) := by
  refine fo_tw_ind (P := fun A => fo_tw (fo_rt j c A)) ?_ ?_ h
  · intro k hk
    rw [fo_rt_tb]
    split
    · exact hc
    · exact fo_tw_tb hk
  · intro a b _ _ ha hb
    rw [fo_rt_ar]
    exact fo_tw_ar ha hb
/-- the terms, in a context of bound variables' types -/
def fo_lo (Γ : List kF) (s k : Nat) (A : kF) : Prop := fo_tw A ∧ ((s = 0 ∧ k < 8) ∨ (s = 1 ∧ k = 0 ∧ ∃ a, A = fo_ar a (fo_ar a (fo_tb 0))) ∨ (s = 2 ∧ k < 8 ∧ fo_gt A = false) ∨ (s = 5 ∧ Γ[k]? = some A))
def fo_wf (Γ : List kF) (t : kF) : Prop := ∀ P : List kF → kF → Prop, (∀ Γ s k A, fo_lo Γ s k A → P Γ (fo_lf s k A)) → (∀ Γ f x b, P Γ f → P Γ x → fo_ty f = fo_ar (fo_ty x) b → P Γ (fo_ap f x)) → (∀ Γ A b, fo_tw A → P (A :: Γ) b → P Γ (fo_ab A b)) → P Γ t
theorem fo_wf_lf {Γ : List kF} {s k : Nat} {A : kF} (h : fo_lo Γ s k A) : fo_wf Γ (fo_lf s k A) := fun _ h1 _ _ => h1 Γ s k A h
theorem fo_wf_ap {Γ : List kF} {f x b : kF} (hf : fo_wf Γ f) (hx : fo_wf Γ x) (e : fo_ty f = fo_ar (fo_ty x) b) : fo_wf Γ (fo_ap f x) := fun P h1 h2 h3 => h2 Γ f x b (hf P h1 h2 h3) (hx P h1 h2 h3) e
theorem fo_wf_ab {Γ : List kF} {A b : kF} (hA : fo_tw A) (hb : fo_wf (A :: Γ) b) : fo_wf Γ (fo_ab A b) := fun P h1 h2 h3 => h3 Γ A b hA (hb P h1 h2 h3)
theorem fo_wf_ind {P : List kF → kF → Prop} (hl : ∀ Γ s k A, fo_lo Γ s k A → P Γ (fo_lf s k A)) (ha : ∀ Γ f x b, fo_wf Γ f → fo_wf Γ x → P Γ f → P Γ x → fo_ty f = fo_ar (fo_ty x) b → P Γ (fo_ap f x)) (hb : ∀ Γ A b, fo_tw A → fo_wf (A :: Γ) b → P (A :: Γ) b → P Γ (fo_ab A b)) {Γ : List kF} {t : kF} (h : fo_wf Γ t) : P Γ t :=
  (h (fun Γ t => fo_wf Γ t ∧ P Γ t) (fun Γ s k A q => ⟨fo_wf_lf q, hl Γ s k A q⟩) (fun Γ f x b qf qx e => ⟨fo_wf_ap qf.1 qx.1 e, ha Γ f x b qf.1 qx.1 qf.2 qx.2 e⟩) (fun Γ A b qA qb => ⟨fo_wf_ab qA qb.1, hb Γ A b qA qb.1 qb.2⟩)).2
theorem fo_wf_cases {Γ : List kF} {t : kF} (h : fo_wf Γ t) : (∃ s k A, t = fo_lf s k A ∧ fo_lo Γ s k A) ∨ (∃ f x b, t = fo_ap f x ∧ fo_wf Γ f ∧ fo_wf Γ x ∧ fo_ty f = fo_ar (fo_ty x) b) ∨ (∃ A b, t = fo_ab A b ∧ fo_tw A ∧ fo_wf (A :: Γ) b) :=
  fo_wf_ind (P := fun Γ t => (∃ s k A, t = fo_lf s k A ∧ fo_lo Γ s k A) ∨ (∃ f x b, t = fo_ap f x ∧ fo_wf Γ f ∧ fo_wf Γ x ∧ fo_ty f = fo_ar (fo_ty x) b) ∨ (∃ A b, t = fo_ab A b ∧ fo_tw A ∧ fo_wf (A :: Γ) b)) (fun _ s k A q => Or.inl ⟨s, k, A, rfl, q⟩) (fun _ f x b qf qx _ _ e => Or.inr (Or.inl ⟨f, x, b, rfl, qf, qx, e⟩)) (fun _ A b qA qb _ => Or.inr (Or.inr ⟨A, b, rfl, qA, qb⟩)) h
theorem fo_wf_iap {Γ : List kF} {f x : kF} (h : fo_wf Γ (fo_ap f x)) : fo_wf Γ f ∧ fo_wf Γ x ∧ fo_ty f = fo_ar (fo_ty x) (fo_ty (fo_ap f x)) := by
  rcases fo_wf_cases h with ⟨s, k, A, e, _⟩ | ⟨f', x', b, e, h1, h2, h3⟩ | ⟨A, b, e, _⟩
  · exact absurd e fo_ap_lf
  · obtain ⟨rfl, rfl⟩ := fo_ap_inj e
    refine ⟨h1, h2, ?_⟩
    rw [fo_ty_ap, h3, fo_cod_ar]
  · exact absurd e fo_ap_ab
theorem fo_wf_iab {Γ : List kF} {A b : kF} (h : fo_wf Γ (fo_ab A b)) : fo_tw A ∧ fo_wf (A :: Γ) b := by
  rcases fo_wf_cases h with ⟨s, k, B, e, _⟩ | ⟨f', x', c, e, _⟩ | ⟨B, c, e, h1, h2⟩
  · exact absurd e fo_ab_lf
  · exact absurd e.symm fo_ap_ab
  · obtain ⟨rfl, rfl⟩ := fo_ab_inj e; exact ⟨h1, h2⟩
theorem fo_wf_ilf {Γ : List kF} {s k : Nat} {A : kF} (h : fo_wf Γ (fo_lf s k A)) : fo_lo Γ s k A := by
  rcases fo_wf_cases h with ⟨s', k', B, e, h1⟩ | ⟨f', x', c, e, _⟩ | ⟨B, c, e, _⟩
  · obtain ⟨rfl, rfl, rfl⟩ := fo_lf_inj e; exact h1
  · exact absurd e.symm fo_ap_lf
  · exact absurd e.symm fo_ab_lf
theorem fo_wf_ty {Γ : List kF} {t : kF} (h : fo_wf Γ t) : fo_tw (fo_ty t) := by
  refine fo_wf_ind (P := fun _ t => fo_tw (fo_ty t)) ?_ ?_ ?_ h
  · intro _ s k A q; exact q.1
  · intro _ f x b _ _ hf _ e
    rw [e] at hf
    rw [fo_ty_ap, e, fo_cod_ar]
    exact (fo_tw_inv hf).2
  · intro _ A b hA _ hb
    rw [fo_ty_ab]
    exact fo_tw_ar hA hb
theorem fo_wf_weak {Γ : List kF} {t : kF} (h : fo_wf Γ t) (Δ : List kF) : fo_wf (Γ ++ Δ) t := by
  refine fo_wf_ind (P := fun Γ t => fo_wf (Γ ++ Δ) t) ?_ ?_ ?_ h
  · intro Γ s k A q
    refine fo_wf_lf ⟨q.1, ?_⟩
    rcases q.2 with q | q | q | ⟨q1, q2⟩
    · exact Or.inl q
    · exact Or.inr (Or.inl q)
    · exact Or.inr (Or.inr (Or.inl q))
    · refine Or.inr (Or.inr (Or.inr ⟨q1, ?_⟩))
      have hk : k < Γ.length := (List.getElem?_eq_some_iff.mp q2).1
      rw [List.getElem?_append_left hk]
      exact q2
  · intro Γ f x b _ _ hf hx e; exact fo_wf_ap hf hx e
  · intro Γ A b hA _ hb; exact fo_wf_ab hA hb
theorem fo_wf_nil {t : kF} (h : fo_wf [] t) (Γ : List kF) : fo_wf Γ t := by
  have := fo_wf_weak h Γ
  rwa [List.nil_append] at this
/-- what a change of types does to contexts, terms and types -/
theorem fo_im_wf {st : kF → Nat → Option kF} {rt : kF → kF} (E : List kF → List kF → Nat → Prop)
    (hE : ∀ Γ Γ' d A, E Γ Γ' d → E (A :: Γ) (rt A :: Γ') (d + 1))
    (hr : ∀ a b, rt (fo_ar a b) = fo_ar (rt a) (rt b)) (ht : ∀ A, fo_tw A → fo_tw (rt A))
    (hl : ∀ Γ Γ' d s k A, fo_lo Γ s k A → E Γ Γ' d → st (fo_lf s k A) d = none → fo_lo Γ' s k (rt A))
    (hs : ∀ Γ Γ' d t u, fo_wf Γ t → E Γ Γ' d → st t d = some u → fo_wf Γ' u ∧ fo_ty u = rt (fo_ty t))
    {Γ : List kF} {t : kF} (h : fo_wf Γ t) : ∀ Γ' d, E Γ Γ' d → fo_wf Γ' (fo_im st rt t d) ∧ fo_ty (fo_im st rt t d) = rt (fo_ty t) := by
  refine fo_wf_ind (P := fun Γ t => ∀ Γ' d, E Γ Γ' d → fo_wf Γ' (fo_im st rt t d) ∧ fo_ty (fo_im st rt t d) = rt (fo_ty t)) ?_ ?_ ?_ h
  · intro Γ s k A q Γ' d he
    rw [fo_im_lf]
    cases e : st (fo_lf s k A) d with
    | some u => exact hs Γ Γ' d _ u (fo_wf_lf q) he e
    | none => exact ⟨fo_wf_lf (hl Γ Γ' d s k A q he e), rfl⟩
  · intro Γ f x b wf wx hf hx e Γ' d he
    rw [fo_im_ap]
    cases es : st (fo_ap f x) d with
    | some u => exact hs Γ Γ' d _ u (fo_wf_ap wf wx e) he es
    | none =>
      obtain ⟨h1, h2⟩ := hf Γ' d he
      obtain ⟨h3, h4⟩ := hx Γ' d he
      have h5 : fo_ty (fo_im st rt f d) = fo_ar (fo_ty (fo_im st rt x d)) (rt b) := by rw [h2, e, hr, h4]
      refine ⟨fo_wf_ap h1 h3 h5, ?_⟩
      show fo_ty (fo_ap (fo_im st rt f d) (fo_im st rt x d)) = _
      rw [fo_ty_ap, h5, fo_cod_ar, fo_ty_ap, e, fo_cod_ar]
  · intro Γ A b hA wb hb Γ' d he
    rw [fo_im_ab]
    cases es : st (fo_ab A b) d with
    | some u => exact hs Γ Γ' d _ u (fo_wf_ab hA wb) he es
    | none =>
      obtain ⟨h1, h2⟩ := hb _ (d + 1) (hE Γ Γ' d A he)
      refine ⟨fo_wf_ab (ht A hA) h1, ?_⟩
      show fo_ty (fo_ab (rt A) (fo_im st rt b (d + 1))) = _
      rw [fo_ty_ab, h2, fo_ty_ab, hr]
/-- the four ways of a change -/
noncomputable def fo_sR (old put : kF) : kF → Nat → Option kF := fun t _ => @ite _ (t = old) (Classical.propDecidable _) (some put) none
noncomputable def fo_sA (x : kF) : kF → Nat → Option kF := fun t d => @ite _ (t = x) (Classical.propDecidable _) (some (fo_lf 5 d (fo_ty x))) none
noncomputable def fo_sO (put : kF) : kF → Nat → Option kF := fun t d => @ite _ (∃ A, t = fo_lf 5 d A) (Classical.propDecidable _) (some put) none
def fo_sN : kF → Nat → Option kF := fun _ _ => none
theorem fo_sR_eq {old put t : kF} {d : Nat} : fo_sR old put t d = some put ∧ t = old ∨ fo_sR old put t d = none ∧ t ≠ old := by
  unfold fo_sR
  by_cases h : t = old
  · exact Or.inl ⟨if_pos h, h⟩
  · exact Or.inr ⟨if_neg h, h⟩
theorem fo_sA_eq {x t : kF} {d : Nat} : fo_sA x t d = some (fo_lf 5 d (fo_ty x)) ∧ t = x ∨ fo_sA x t d = none ∧ t ≠ x := by
  unfold fo_sA
  by_cases h : t = x
  · exact Or.inl ⟨if_pos h, h⟩
  · exact Or.inr ⟨if_neg h, h⟩
theorem fo_sO_eq {put t : kF} {d : Nat} : fo_sO put t d = some put ∧ (∃ A, t = fo_lf 5 d A) ∨ fo_sO put t d = none ∧ ¬ ∃ A, t = fo_lf 5 d A := by
  unfold fo_sO
  by_cases h : ∃ A, t = fo_lf 5 d A
  · exact Or.inl ⟨if_pos h, h⟩
  · exact Or.inr ⟨if_neg h, h⟩
theorem fo_wf_R {old put : kF} (hp : fo_wf [] put) (he : fo_ty put = fo_ty old) {Γ : List kF} {t : kF} (h : fo_wf Γ t) (d : Nat) : fo_wf Γ (fo_im (fo_sR old put) id t d) ∧ fo_ty (fo_im (fo_sR old put) id t d) = fo_ty t := by
  refine fo_im_wf (rt := id) (fun Γ Γ' _ => Γ' = Γ) ?_ ?_ ?_ ?_ ?_ h Γ d rfl
  · rintro Γ Γ' d A rfl; rfl
  · intro a b; rfl
  · intro A q; exact q
  · rintro Γ Γ' d s k A q rfl _; exact q
  · rintro Γ Γ' d t u wt rfl e
    rcases fo_sR_eq (old := old) (put := put) (t := t) (d := d) with ⟨h1, h2⟩ | ⟨h1, h2⟩
    · rw [h1] at e; injection e with e; subst e
      exact ⟨fo_wf_nil hp _, by rw [he, h2]; rfl⟩
    · rw [h1] at e; cases e
theorem fo_wf_A {k : Nat} {A : kF} (hA : fo_tw A) {Γ : List kF} {t : kF} (h : fo_wf Γ t) : fo_wf (Γ ++ [A]) (fo_im (fo_sA (fo_lf 0 k A)) id t Γ.length) ∧ fo_ty (fo_im (fo_sA (fo_lf 0 k A)) id t Γ.length) = fo_ty t := by
  refine fo_im_wf (rt := id) (fun Γ Γ' d => Γ' = Γ ++ [A] ∧ Γ.length = d) ?_ ?_ ?_ ?_ ?_ h (Γ ++ [A]) Γ.length ⟨rfl, rfl⟩
  · rintro Γ Γ' d B ⟨rfl, rfl⟩; exact ⟨rfl, rfl⟩
  · intro a b; rfl
  · intro A q; exact q
  · rintro Γ Γ' d s j B q ⟨rfl, rfl⟩ _
    exact fo_wf_ilf (fo_wf_weak (fo_wf_lf q) [A])
  · rintro Γ Γ' d t u wt ⟨rfl, rfl⟩ e
    rcases fo_sA_eq (x := fo_lf 0 k A) (t := t) (d := Γ.length) with ⟨h1, h2⟩ | ⟨h1, h2⟩
    · rw [h1] at e; injection e with e; subst e; subst h2
      refine ⟨fo_wf_lf ⟨hA, Or.inr (Or.inr (Or.inr ⟨rfl, ?_⟩))⟩, rfl⟩
      show (Γ ++ [A])[Γ.length]? = some A
      simp
    · rw [h1] at e; cases e
theorem fo_wf_O {put : kF} (hp : fo_wf [] put) {Γ : List kF} {t : kF} (h : fo_wf (Γ ++ [fo_ty put]) t) : fo_wf Γ (fo_im (fo_sO put) id t Γ.length) ∧ fo_ty (fo_im (fo_sO put) id t Γ.length) = fo_ty t := by
  refine fo_im_wf (rt := id) (fun Γ Γ' d => Γ = Γ' ++ [fo_ty put] ∧ Γ'.length = d) ?_ ?_ ?_ ?_ ?_ h Γ Γ.length ⟨rfl, rfl⟩
  · rintro Γ Γ' d B ⟨rfl, rfl⟩; exact ⟨rfl, rfl⟩
  · intro a b; rfl
  · intro A q; exact q
  · rintro Γ Γ' d s j B q ⟨rfl, rfl⟩ e
    refine ⟨q.1, ?_⟩
    rcases q.2 with q | q | q | ⟨q1, q2⟩
    · exact Or.inl q
    · exact Or.inr (Or.inl q)
    · exact Or.inr (Or.inr (Or.inl q))
    · refine Or.inr (Or.inr (Or.inr ⟨q1, ?_⟩))
      rcases fo_sO_eq (put := put) (t := fo_lf s j B) (d := Γ'.length) with ⟨h1, h2⟩ | ⟨h1, h2⟩
      · rw [h1] at e; cases e
      · have hj : j ≠ Γ'.length := fun e => h2 ⟨B, by rw [q1, e]⟩
        have hk : j < (Γ' ++ [fo_ty put]).length := (List.getElem?_eq_some_iff.mp q2).1
        rw [List.length_append, List.length_singleton] at hk
        rw [List.getElem?_append_left (by omega)] at q2
        exact q2
  · rintro Γ Γ' d t u wt ⟨rfl, rfl⟩ e
    rcases fo_sO_eq (put := put) (t := t) (d := Γ'.length) with ⟨h1, B, h2⟩ | ⟨h1, h2⟩
    · rw [h1] at e; injection e with e; subst e; subst h2
      refine ⟨fo_wf_nil hp _, ?_⟩
      rcases (fo_wf_ilf wt).2 with q | q | q | ⟨_, q2⟩
      · exact absurd q.1 (by decide)
      · exact absurd q.1 (by decide)
      · exact absurd q.1 (by decide)
      · have q3 : (Γ' ++ [fo_ty put])[Γ'.length]? = some (fo_ty put) := by simp
        rw [q3] at q2
        injection q2
    · rw [h1] at e; cases e
theorem fo_wf_T {j : Nat} {c : kF} (hj : 2 ≤ j ∧ j < 6) (hc : fo_tw c) {Γ : List kF} {t : kF} (h : fo_wf Γ t) (d : Nat) : fo_wf (Γ.map (fo_rt j c)) (fo_im fo_sN (fo_rt j c) t d) ∧ fo_ty (fo_im fo_sN (fo_rt j c) t d) = fo_rt j c (fo_ty t) := by
  refine fo_im_wf (rt := fo_rt j c) (fun Γ Γ' _ => Γ' = Γ.map (fo_rt j c)) ?_ ?_ ?_ ?_ ?_ h _ d rfl
  · rintro Γ Γ' d A rfl; rfl
  · intro a b; rfl
  · intro A q; exact fo_rt_tw hc q
  · rintro Γ Γ' d s k A q rfl _
    refine ⟨fo_rt_tw hc q.1, ?_⟩
    rcases q.2 with q1 | ⟨q1, q2, a, rfl⟩ | q1 | ⟨q1, q2⟩
    · exact Or.inl q1
    · refine Or.inr (Or.inl ⟨q1, q2, fo_rt j c a, ?_⟩)
      rw [fo_rt_ar, fo_rt_ar, fo_rt_tb, if_neg (by omega)]
    · refine Or.inr (Or.inr (Or.inl ⟨q1.1, q1.2.1, ?_⟩))
      rw [fo_rt_id hj q.1 q1.2.2]
      exact q1.2.2
    · refine Or.inr (Or.inr (Or.inr ⟨q1, ?_⟩))
      rw [List.getElem?_map, q2]
      rfl
  · rintro Γ Γ' d t u wt rfl e
    cases e
theorem fo_im_gn {j : Nat} {c : kF} (hj : 2 ≤ j ∧ j < 6) {Γ : List kF} {t : kF} (h : fo_wf Γ t) : fo_gn t = false → ∀ d, fo_im fo_sN (fo_rt j c) t d = t := by
  refine fo_wf_ind (P := fun _ t => fo_gn t = false → ∀ d, fo_im fo_sN (fo_rt j c) t d = t) ?_ ?_ ?_ h
  · intro Γ s k A q hg d
    show fo_lf s k (fo_rt j c A) = fo_lf s k A
    rw [fo_rt_id hj q.1 hg]
  · intro Γ f x b _ _ hf hx e hg d
    rw [fo_gn_ap, Bool.or_eq_false_iff, Bool.or_eq_false_iff] at hg
    show fo_ap (fo_im fo_sN (fo_rt j c) f d) (fo_im fo_sN (fo_rt j c) x d) = _
    rw [hf hg.2.1, hx hg.2.2]
  · intro Γ A b hA wb hb hg d
    rw [fo_gn_ab, Bool.or_eq_false_iff] at hg
    show fo_ab (fo_rt j c A) (fo_im fo_sN (fo_rt j c) b (d + 1)) = _
    rw [hb hg.2, fo_rt_id hj hA]
    have := hg.1
    rw [fo_ty_ab, fo_gt_ar, Bool.or_eq_false_iff] at this
    exact this.1
/-- where what is put in doesn't depend on the depth, the depth doesn't matter -/
theorem fo_im_d {st : kF → Nat → Option kF} {rt : kF → kF} (hs : ∀ t d e, st t d = st t e) {Γ : List kF} {t : kF} (h : fo_wf Γ t) : ∀ d e, fo_im st rt t d = fo_im st rt t e := by
  refine fo_wf_ind (P := fun _ t => ∀ d e, fo_im st rt t d = fo_im st rt t e) ?_ ?_ ?_ h
  · intro Γ s k A _ d e
    rw [fo_im_lf, fo_im_lf, hs _ d e]
  · intro Γ f x b _ _ hf hx _ d e
    rw [fo_im_ap, fo_im_ap, hs _ d e, hf d e, hx d e]
  · intro Γ A b _ _ hb d e
    rw [fo_im_ab, fo_im_ab, hs _ d e, hb (d + 1) (e + 1)]
theorem fo_ht_pos (t : kF) : 1 ≤ fo_ht t := by
  unfold fo_ht; split <;> omega
theorem fo_th_pos (t : kF) : 1 ≤ fo_th t := by
  unfold fo_th; split <;> omega
/-- sets of types and terms that hold the parts of what they hold -/
def fo_Cl (U V : kF → Prop) : Prop := (∀ a b, U (fo_ar a b) → U a ∧ U b) ∧ (∀ t, V t → U (fo_ty t)) ∧ (∀ f x, V (fo_ap f x) → V f ∧ V x) ∧ (∀ A b, V (fo_ab A b) → V b)
def fo_Li (U V : kF → Prop) : Prop := (∃ l : List kF, l.length ≤ 50 ∧ ∀ x, U x → x ∈ l) ∧ (∃ l : List kF, l.length ≤ 250 ∧ ∀ x, V x → x ∈ l) ∧ (∀ x, U x → fo_th x ≤ 10) ∧ (∀ x, V x → fo_ht x ≤ 20)
def fo_ok (x : kF) : Prop := (∃ Γ, fo_wf Γ x) ∧ fo_ht x ≤ 20 ∧ ∀ s j A, x = fo_lf s j A → j < 250
def fo_SL (LT LM : List kF) : Prop := LT.Nodup ∧ LM.Nodup ∧ fo_Cl (· ∈ LT) (· ∈ LM) ∧ (∀ x ∈ LT, fo_tw x ∧ fo_th x ≤ 10) ∧ (∀ x ∈ LM, fo_ok x) ∧ LT.length ≤ 50 ∧ LM.length ≤ 250 ∧ LT[0]? = some (fo_tb 0)
theorem fo_SL_Li {LT LM : List kF} (h : fo_SL LT LM) : fo_Li (· ∈ LT) (· ∈ LM) := ⟨⟨LT, h.2.2.2.2.2.1, fun _ q => q⟩, ⟨LM, h.2.2.2.2.2.2.1, fun _ q => q⟩, fun x q => (h.2.2.2.1 x q).2, fun x q => (h.2.2.2.2.1 x q).2.1⟩
/-- pigeons and holes -/
theorem fo_pg : ∀ (L V : List kF), L.Nodup → (∀ x, x ∈ L → x ∈ V) → L.length ≤ V.length
  | [], _, _, _ => Nat.zero_le _
  | a :: L, V, hn, h => by
    obtain ⟨s, t, rfl⟩ := List.append_of_mem (h a List.mem_cons_self)
    rw [List.nodup_cons] at hn
    have := fo_pg L (s ++ t) hn.2 (fun x hx => by
      have h1 := h x (List.mem_cons_of_mem _ hx)
      rw [List.mem_append, List.mem_cons] at h1
      rw [List.mem_append]
      rcases h1 with h1 | rfl | h1
      · exact Or.inl h1
      · exact absurd hx hn.1
      · exact Or.inr h1)
    rw [List.length_append] at this
    rw [List.length_cons, List.length_append, List.length_cons]
    omega
theorem fo_nd {L : List kF} {t : kF} (h : L.Nodup) (ht : t ∉ L) : (L ++ [t]).Nodup := by
  rw [List.nodup_append]
  refine ⟨h, by simp, ?_⟩
  intro a ha b hb
  rw [List.mem_singleton] at hb
  subst hb
  exact fun e => ht (e ▸ ha)
theorem fo_SL_T {LT LM : List kF} {t : kF} (h : fo_SL LT LM) (ht : t ∉ LT) (hw : fo_tw t) (hp : ∀ a b, t = fo_ar a b → a ∈ LT ∧ b ∈ LT) (hh : fo_th t ≤ 10) (hn : LT.length < 50) : fo_SL (LT ++ [t]) LM := by
  obtain ⟨h1, h2, ⟨c1, c2, c3, c4⟩, h4, h5, h6, h7, h8⟩ := h
  refine ⟨fo_nd h1 ht, h2, ⟨?_, ?_, c3, c4⟩, ?_, h5, by rw [List.length_append, List.length_singleton]; omega, h7, ?_⟩
  · intro a b hab
    rw [List.mem_append, List.mem_singleton] at hab
    rcases hab with hab | rfl
    · exact ⟨List.mem_append_left _ (c1 a b hab).1, List.mem_append_left _ (c1 a b hab).2⟩
    · exact ⟨List.mem_append_left _ (hp a b rfl).1, List.mem_append_left _ (hp a b rfl).2⟩
  · intro x hx
    exact List.mem_append_left _ (c2 x hx)
  · intro x hx
    rw [List.mem_append, List.mem_singleton] at hx
    rcases hx with hx | rfl
    · exact h4 x hx
    · exact ⟨hw, hh⟩
  · have : 0 < LT.length := (List.getElem?_eq_some_iff.mp h8).1
    rw [List.getElem?_append_left this]
    exact h8
theorem fo_SL_M {LT LM : List kF} {t : kF} (h : fo_SL LT LM) (ht : t ∉ LM) (hw : fo_ok t) (hy : fo_ty t ∈ LT) (hp : ∀ f x, t = fo_ap f x → f ∈ LM ∧ x ∈ LM) (hb : ∀ A b, t = fo_ab A b → b ∈ LM) (hn : LM.length < 250) : fo_SL LT (LM ++ [t]) := by
  obtain ⟨h1, h2, ⟨c1, c2, c3, c4⟩, h4, h5, h6, h7, h8⟩ := h
  refine ⟨h1, fo_nd h2 ht, ⟨c1, ?_, ?_, ?_⟩, h4, ?_, h6, by rw [List.length_append, List.length_singleton]; omega, h8⟩
  · intro x hx
    rw [List.mem_append, List.mem_singleton] at hx
    rcases hx with hx | rfl
    · exact c2 x hx
    · exact hy
  · intro f x hx
    rw [List.mem_append, List.mem_singleton] at hx
    rcases hx with hx | rfl
    · exact ⟨List.mem_append_left _ (c3 f x hx).1, List.mem_append_left _ (c3 f x hx).2⟩
    · exact ⟨List.mem_append_left _ (hp f x rfl).1, List.mem_append_left _ (hp f x rfl).2⟩
  · intro A b hx
    rw [List.mem_append, List.mem_singleton] at hx
    rcases hx with hx | rfl
    · exact List.mem_append_left _ (c4 A b hx)
    · exact List.mem_append_left _ (hb A b rfl)
  · intro x hx
    rw [List.mem_append, List.mem_singleton] at hx
    rcases hx with hx | rfl
    · exact h5 x hx
    · exact hw
/-- a tree stands at one place only -/
theorem fo_ix {L : List kF} (h : L.Nodup) {i j : Nat} {t : kF} (hi : L[i]? = some t) (hj : L[j]? = some t) : i = j :=
  (List.getElem?_inj (List.getElem?_eq_some_iff.mp hi).1 h).mp (hi.trans hj.symm)
