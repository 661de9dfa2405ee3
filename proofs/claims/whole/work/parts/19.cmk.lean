/-! ===== THE CLASS: reads of the stores, applications, abstractions, equations ===== -/
/-- the sort of a term -/
def fo_so : kF → Nat
  | .append _ _ => 3
  | .group _ _ => 4
  | .nest (.ofNat s) _ => s
  | _ => 9
theorem fo_so_lf (s k : Nat) (A : kF) : fo_so (fo_lf s k A) = s := rfl
theorem fo_so_ap (f x : kF) : fo_so (fo_ap f x) = 3 := rfl
theorem fo_so_ab (A b : kF) : fo_so (fo_ab A b) = 4 := rfl
theorem fo_lo_s {Γ : List kF} {s k : Nat} {A : kF} (h : fo_lo Γ s k A) : s = 0 ∨ s = 1 ∨ s = 2 ∨ s = 5 := by
  rcases h.2 with q | q | q | q
  · exact Or.inl q.1
  · exact Or.inr (Or.inl q.1)
  · exact Or.inr (Or.inr (Or.inl q.1))
  · exact Or.inr (Or.inr (Or.inr q.1))
theorem fo_so_le {Γ : List kF} {t : kF} (h : fo_wf Γ t) : fo_so t < 6 := by
  rcases fo_wf_cases h with ⟨s, k, A, rfl, ho⟩ | ⟨f, x, _, rfl, _⟩ | ⟨A, b, rfl, _⟩
  · have := fo_lo_s ho
    rw [fo_so_lf]; omega
  · rw [fo_so_ap]; omega
  · rw [fo_so_ab]; omega
theorem fo_so_3 {Γ : List kF} {t : kF} (h : fo_wf Γ t) (e : fo_so t = 3) : ∃ f x, t = fo_ap f x := by
  rcases fo_wf_cases h with ⟨s, k, A, rfl, ho⟩ | ⟨f, x, _, rfl, _⟩ | ⟨A, b, rfl, _⟩
  · have := fo_lo_s ho
    rw [fo_so_lf] at e; omega
  · exact ⟨f, x, rfl⟩
  · rw [fo_so_ab] at e; omega
theorem fo_so_4 {Γ : List kF} {t : kF} (h : fo_wf Γ t) (e : fo_so t = 4) : ∃ A b, t = fo_ab A b := by
  rcases fo_wf_cases h with ⟨s, k, A, rfl, ho⟩ | ⟨f, x, _, rfl, _⟩ | ⟨A, b, rfl, _⟩
  · have := fo_lo_s ho
    rw [fo_so_lf] at e; omega
  · rw [fo_so_ap] at e; omega
  · exact ⟨A, b, rfl⟩
theorem fo_so_l {Γ : List kF} {t : kF} (h : fo_wf Γ t) (e3 : fo_so t ≠ 3) (e4 : fo_so t ≠ 4) : ∃ k A, t = fo_lf (fo_so t) k A ∧ fo_lo Γ (fo_so t) k A := by
  rcases fo_wf_cases h with ⟨s, k, A, rfl, ho⟩ | ⟨f, x, _, rfl, _⟩ | ⟨A, b, rfl, _⟩
  · exact ⟨k, A, rfl, ho⟩
  · exact absurd rfl e3
  · exact absurd rfl e4
theorem rc_so {S : kS} {LT LM : List kF} (hS : rc_S S LT LM) {i : Nat} {t : kF} (h : LM[i]? = some t) : S 14 i = kn (fo_so t) ∧ fo_so t < 6 ∧ i < 250 := by
  obtain ⟨hL, _, _, _, hM, _⟩ := hS
  obtain ⟨⟨Γ, hw⟩, _, _⟩ := hL.2.2.2.2.1 t (rp_mem h)
  have hl : i < 250 := by have := rp_lt h; have := hL.2.2.2.2.2.2.1; omega
  refine ⟨?_, fo_so_le hw, hl⟩
  obtain ⟨_, _, _, _, h5, h6, h7⟩ := hM i t h
  rcases fo_wf_cases hw with ⟨s, k, A, rfl, ho⟩ | ⟨f, x, _, rfl, _⟩ | ⟨A, b, rfl, _⟩
  · exact (h5 s k A rfl).1
  · exact (h6 f x rfl).1
  · exact (h7 A b rfl).1
theorem rc_lT {S : kS} {LT LM : List kF} (hS : rc_S S LT LM) {i : Nat} {t : kF} (h : LT[i]? = some t) : i < 50 := by have := rp_lt h; have := hS.1.2.2.2.2.2.1; omega
theorem rc_lM {S : kS} {LT LM : List kF} (hS : rc_S S LT LM) {i : Nat} {t : kF} (h : LM[i]? = some t) : i < 250 := by have := rp_lt h; have := hS.1.2.2.2.2.2.2.1; omega
theorem rc_wf {S : kS} {LT LM : List kF} (hS : rc_S S LT LM) {i : Nat} {t : kF} (h : LM[i]? = some t) : ∃ Γ, fo_wf Γ t := (hS.1.2.2.2.2.1 t (rp_mem h)).1
theorem c_Te_sortAt {d : Nat} {S : kS} {LT LM : List kF} {i : Nat} {t : kF} {F : Int32 → kS → Prop} (hS : rc_S S LT LM) (h : LM[i]? = some t) (k : F (kn (fo_so t)) S) : kK (d + 1) m_Te_sortAt [.inr 10, .inl (kn i)] S (kq F) := by
  obtain ⟨e, _, hl⟩ := rc_so hS h
  refine g_Te_sortAt ⟨fun _ => ⟨kn_in hl (by decide), ?_⟩, fun q => absurd (kn_ge (by omega)) q⟩
  rw [kn_tn (by omega), e]
  exact k
theorem c_Te_sortAt_no {d : Nat} {S : kS} {x : Int32} {F : Int32 → kS → Prop} (h : x < 0) (k : F (-1) S) : kK (d + 1) m_Te_sortAt [.inr 10, .inl x] S (kq F) :=
  g_Te_sortAt ⟨fun e => absurd h (Int32.not_lt.mpr e), fun _ => k⟩
theorem c_Te_typeAt {d : Nat} {S : kS} {LT LM : List kF} {i : Nat} {t : kF} {F : Int32 → kS → Prop} (hS : rc_S S LT LM) (h : LM[i]? = some t) (k : ∀ y, LT[y]? = some (fo_ty t) → F (kn y) S) : kK (d + 1) m_Te_typeAt [.inr 10, .inl (kn i)] S (kq F) := by
  have hl := rc_lM hS h
  obtain ⟨_, _, _, ⟨y, h1, h2⟩, _⟩ := hS.2.2.2.2.1 i t h
  refine g_Te_typeAt ⟨fun _ => ⟨kn_in hl (by decide), ?_⟩, fun q => absurd (kn_ge (by omega)) q⟩
  rw [kn_tn (by omega), h2]
  exact k y h1
theorem c_Te_typeAt_no {d : Nat} {S : kS} {x : Int32} {F : Int32 → kS → Prop} (h : x < 0) (k : F (-1) S) : kK (d + 1) m_Te_typeAt [.inr 10, .inl x] S (kq F) :=
  g_Te_typeAt ⟨fun e => absurd h (Int32.not_lt.mpr e), fun _ => k⟩
theorem c_Te_functionOf {d : Nat} {S : kS} {LT LM : List kF} {i : Nat} {t : kF} {F : Int32 → kS → Prop} (hS : rc_S S LT LM) (h : LM[i]? = some t) (k1 : ∀ f x j, t = fo_ap f x → LM[j]? = some f → F (kn j) S) (k2 : (∀ f x, t ≠ fo_ap f x) → F (-1) S) : kK (d + 2) m_Te_functionOf [.inr 10, .inl (kn i)] S (kq F) := by
  obtain ⟨_, h6, hl⟩ := rc_so hS h
  obtain ⟨Γ, hw⟩ := rc_wf hS h
  refine g_Te_functionOf (c_Te_sortAt hS h ⟨fun e => k2 fun f x e2 => ?_, fun e => ⟨kn_in hl (by decide), ?_⟩⟩)
  · rw [e2, fo_so_ap] at e; exact e rfl
  · obtain ⟨f, x, rfl⟩ := fo_so_3 hw (kn_inj (m := 3) (by omega) (by decide) (Classical.not_not.mp e))
    obtain ⟨_, a, b, _, _, ha, hb, e1, e2⟩ := (hS.2.2.2.2.1 i _ h).2.2.2.2.2.1 f x rfl
    rw [kn_tn (by omega), e1]
    exact k1 f x a rfl ha
theorem c_Te_functionOf_no {d : Nat} {S : kS} {x : Int32} {F : Int32 → kS → Prop} (h : x < 0) (k : F (-1) S) : kK (d + 2) m_Te_functionOf [.inr 10, .inl x] S (kq F) :=
  g_Te_functionOf (c_Te_sortAt_no h ⟨fun _ => k, fun e => absurd (by decide) e⟩)
theorem c_Te_argumentOf {d : Nat} {S : kS} {LT LM : List kF} {i : Nat} {t : kF} {F : Int32 → kS → Prop} (hS : rc_S S LT LM) (h : LM[i]? = some t) (k1 : ∀ f x j, t = fo_ap f x → LM[j]? = some x → F (kn j) S) (k2 : (∀ f x, t ≠ fo_ap f x) → F (-1) S) : kK (d + 2) m_Te_argumentOf [.inr 10, .inl (kn i)] S (kq F) := by
  obtain ⟨_, h6, hl⟩ := rc_so hS h
  obtain ⟨Γ, hw⟩ := rc_wf hS h
  refine g_Te_argumentOf (c_Te_sortAt hS h ⟨fun e => k2 fun f x e2 => ?_, fun e => ⟨kn_in hl (by decide), ?_⟩⟩)
  · rw [e2, fo_so_ap] at e; exact e rfl
  · obtain ⟨f, x, rfl⟩ := fo_so_3 hw (kn_inj (m := 3) (by omega) (by decide) (Classical.not_not.mp e))
    obtain ⟨_, a, b, _, _, ha, hb, e1, e2⟩ := (hS.2.2.2.2.1 i _ h).2.2.2.2.2.1 f x rfl
    rw [kn_tn (by omega), e2]
    exact k1 f x b rfl hb
theorem c_Te_argumentOf_no {d : Nat} {S : kS} {x : Int32} {F : Int32 → kS → Prop} (h : x < 0) (k : F (-1) S) : kK (d + 2) m_Te_argumentOf [.inr 10, .inl x] S (kq F) :=
  g_Te_argumentOf (c_Te_sortAt_no h ⟨fun _ => k, fun e => absurd (by decide) e⟩)
theorem sp_sd_some {l r : kF} {A : kF} : sp_sd (fo_ap (fo_ap (fo_lf 1 0 A) l) r) = some (l, r) := by
  show sp_if (∃ B, fo_lf 1 0 A = fo_lf 1 0 B) (some (l, r)) = _
  exact sp_if_pos ⟨A, rfl⟩
theorem sp_sd_inv {t l r : kF} (h : sp_sd t = some (l, r)) : ∃ A, t = fo_ap (fo_ap (fo_lf 1 0 A) l) r := by
  unfold sp_sd at h
  split at h
  · rename_i e l' r'
    by_cases q : ∃ A, e = fo_lf 1 0 A
    · rw [sp_if_pos q] at h
      obtain ⟨A, rfl⟩ := q
      injection h with h
      injection h with h1 h2
      subst h1; subst h2
      exact ⟨A, rfl⟩
    · rw [sp_if_neg q] at h; cases h
  · cases h
theorem sp_sd_none {t : kF} (h : ∀ A l r, t ≠ fo_ap (fo_ap (fo_lf 1 0 A) l) r) : sp_sd t = none := by
  cases e : sp_sd t with
  | none => rfl
  | some p =>
    obtain ⟨A, q⟩ := sp_sd_inv (l := p.1) (r := p.2) e
    exact absurd q (h A _ _)
theorem c_Te_leftOf {d : Nat} {S : kS} {LT LM : List kF} {i : Nat} {t : kF} {F : Int32 → kS → Prop} (hS : rc_S S LT LM) (h : LM[i]? = some t) (k1 : ∀ l r j, sp_sd t = some (l, r) → LM[j]? = some l → F (kn j) S) (k2 : sp_sd t = none → F (-1) S) : kK (d + 3) m_Te_leftOf [.inr 10, .inl (kn i)] S (kq F) := by
  refine g_Te_leftOf (c_Te_functionOf hS h (fun f r a e ha => ?_) (fun e => ?_))
  · refine c_Te_functionOf hS ha (fun g l b e2 hb => ?_) (fun e2 => ?_)
    · obtain ⟨e3, h6, hl⟩ := rc_so hS hb
      refine c_Te_sortAt hS hb ⟨fun q => k2 (sp_sd_none fun A l' r' e4 => ?_), fun q => ⟨kn_in (rc_lM hS ha) (by decide), ?_⟩⟩
      · rw [e, e2] at e4
        rw [(fo_ap_inj (fo_ap_inj e4).1).1] at q
        exact q rfl
      · have h1 := kn_inj (m := 1) (by omega) (by decide) (Classical.not_not.mp q)
        obtain ⟨Γ, hw⟩ := rc_wf hS hb
        obtain ⟨k, A, e5, ho⟩ := fo_so_l hw (by omega) (by omega)
        rw [h1] at e5 ho
        have hk0 : k = 0 := by
          rcases ho.2 with z | z | z | z
          · omega
          · exact z.2.1
          · omega
          · omega
        subst hk0
        subst e5; subst e2
        obtain ⟨_, a', b', _, _, ha', hb', e1, e2⟩ := (hS.2.2.2.2.1 a _ ha).2.2.2.2.2.1 _ _ rfl
        rw [kn_tn (by have := rc_lM hS ha; omega), e2]
        exact k1 l r b' (by rw [e]; exact sp_sd_some) hb'
    · refine c_Te_sortAt_no kn_m1lt ⟨fun q => k2 (sp_sd_none fun A l' r' e4 => ?_), fun q => absurd (by decide) q⟩
      rw [e] at e4
      exact e2 _ _ (fo_ap_inj e4).1
  · refine c_Te_functionOf_no kn_m1lt (c_Te_sortAt_no kn_m1lt ⟨fun q => k2 (sp_sd_none fun A l' r' e4 => e _ _ e4), fun q => absurd (by decide) q⟩)
theorem c_Te_leftOf_no {d : Nat} {S : kS} {x : Int32} {F : Int32 → kS → Prop} (h : x < 0) (k : F (-1) S) : kK (d + 3) m_Te_leftOf [.inr 10, .inl x] S (kq F) :=
  g_Te_leftOf (c_Te_functionOf_no h (c_Te_functionOf_no kn_m1lt (c_Te_sortAt_no kn_m1lt ⟨fun _ => k, fun q => absurd (by decide) q⟩)))
theorem c_Te_isFixed {d : Nat} {S : kS} {LT LM : List kF} {i : Nat} {t : kF} {F : Int32 → kS → Prop} (hS : rc_S S LT LM) (h : LM[i]? = some t) (k1 : fo_af t = false → fo_gn t = false → F 1 S) (k2 : fo_af t = true ∨ fo_gn t = true → F 0 S) : kK (d + 1) m_Te_isFixed [.inr 10, .inl (kn i)] S (kq F) := by
  have hl := rc_lM hS h
  obtain ⟨_, h2, h3, _⟩ := hS.2.2.2.2.1 i t h
  refine g_Te_isFixed ⟨fun e => absurd e (kn_nn (by omega)), fun _ => ?_⟩
  rw [kn_tn (by omega), h2, h3]
  refine ⟨kn_in hl (by decide), fun e => k2 (Or.inl (kb_nz.mp e)), fun e => ⟨kn_in hl (by decide), fun e2 => k2 (Or.inr (kb_nz.mp e2)), fun e2 => k1 (kb_zero.mp (Classical.not_not.mp e)) (kb_zero.mp (Classical.not_not.mp e2))⟩⟩
theorem c_Te_isFixed_no {d : Nat} {S : kS} {x : Int32} {F : Int32 → kS → Prop} (h : x < 0) (k : F 0 S) : kK (d + 1) m_Te_isFixed [.inr 10, .inl x] S (kq F) :=
  g_Te_isFixed ⟨fun _ => k, fun e => absurd h e⟩
/-- the stores have grown -/
def rc_gr (S : kS) (LT LM : List kF) (S' : kS) (LT' LM' : List kF) : Prop := rc_S S' LT' LM' ∧ LT <+: LT' ∧ LM <+: LM' ∧ rc_FM S S'
theorem rc_gr_rf {S : kS} {LT LM : List kF} (h : rc_S S LT LM) : rc_gr S LT LM S LT LM := ⟨h, List.prefix_refl _, List.prefix_refl _, rc_FM_rf⟩
theorem rc_gr_tr {S S1 S2 : kS} {LT LM LT1 LM1 LT2 LM2 : List kF} (h1 : rc_gr S LT LM S1 LT1 LM1) (h2 : rc_gr S1 LT1 LM1 S2 LT2 LM2) : rc_gr S LT LM S2 LT2 LM2 := ⟨h2.1, h1.2.1.trans h2.2.1, h1.2.2.1.trans h2.2.2.1, rc_FM_tr h1.2.2.2 h2.2.2.2⟩
/-- a making's end: the term's place, or none -/
def rc_en (LT LM LT' LM' : List kF) (t : kF) (r : Int32) : Prop := (∃ i, LM'[i]? = some t ∧ r = kn i ∧ fo_mn LT LM LT' LM' (fun _ V => V t)) ∨ (r = -1 ∧ fo_no LT LM (fun _ V => V t))
theorem fo_eq_sub {U V : kF → Prop} {a : kF} (hc : fo_Cl U V) (h : V (fo_lf 1 0 (fo_ar a (fo_ar a (fo_tb 0))))) : U (fo_ar a (fo_ar a (fo_tb 0))) ∧ U (fo_ar a (fo_tb 0)) := by
  have h1 := hc.2.1 _ h
  rw [fo_ty_lf] at h1
  exact ⟨h1, (hc.1 _ _ h1).2⟩
theorem c_Te_equalityOf {d : Nat} {S : kS} {LT LM : List kF} {i : Nat} {a : kF} {F : Int32 → kS → Prop} (hS : rc_S S LT LM) (h : LT[i]? = some a) (k : ∀ r S' LT' LM', rc_gr S LT LM S' LT' LM' → rc_en LT LM LT' LM' (fo_lf 1 0 (fo_ar a (fo_ar a (fo_tb 0)))) r → F r S') : kK (d + 2) m_Te_equalityOf [.inr 10, .inl (kn i)] S (kq F) := by
  have ha : fo_tw a := (hS.1.2.2.2.1 a (rp_mem h)).1
  refine g_Te_equalityOf (c_Ty_store (t := fo_ar a (fo_tb 0)) (s := 3) (a := i) (b := 0) hS (Or.inr ⟨a, fo_tb 0, rfl, rfl, h, hS.1.2.2.2.2.2.2.2⟩) (fo_tw_ar ha (fo_tw_tb (by decide))) ?_)
  intro r S1 LT1 h1 p1 f1 e1
  rcases e1 with ⟨j, hj, rfl, m1⟩ | ⟨rfl, n1⟩
  · refine c_Ty_store (t := fo_ar a (fo_ar a (fo_tb 0))) (s := 3) (a := i) (b := j) h1 (Or.inr ⟨a, _, rfl, rfl, rp_pre p1 h, hj⟩) (fo_tw_ar ha (fo_tw_ar ha (fo_tw_tb (by decide)))) ?_
    intro r S2 LT2 h2 p2 f2 e2
    rcases e2 with ⟨l, hl, rfl, m2⟩ | ⟨rfl, n2⟩
    · refine c_Te_store (t := fo_lf 1 0 (fo_ar a (fo_ar a (fo_tb 0)))) (s := 1) (a := 0) (b := 0) (y := l) h2 ⟨hl, Or.inl ⟨_, rfl, rfl, by omega, by omega⟩⟩ ⟨[], fo_wf_lf ⟨fo_tw_ar ha (fo_tw_ar ha (fo_tw_tb (by decide))), Or.inr (Or.inl ⟨rfl, rfl, a, rfl⟩)⟩⟩ ?_
      intro r S3 LM3 h3 p3 f3 e3
      refine k r S3 LT2 LM3 ⟨h3, p1.trans p2, p3, rc_FM_tr (rc_FM_of (rc_FT_tr f1 f2)) f3⟩ ?_
      have mm : fo_mn LT LM LT2 LM (fun _ V => V (fo_lf 1 0 (fo_ar a (fo_ar a (fo_tb 0))))) := fo_mn_tr m1 m2 (fun U V hc hg => (fo_eq_sub hc hg).2) (fun U V hc hg => (fo_eq_sub hc hg).1)
      rcases e3 with ⟨q, hq, rfl, m3⟩ | ⟨rfl, n3⟩
      · exact Or.inl ⟨q, hq, rfl, fo_mn_tr mm m3 (fun _ _ _ hg => hg) (fun _ _ _ hg => hg)⟩
      · exact Or.inr ⟨rfl, fo_no_2 mm n3 (fun _ _ _ hg => hg) (fun _ _ _ hg => hg)⟩
    · refine c_Te_store_no kn_m1lt (k _ _ LT2 LM ⟨h2, p1.trans p2, List.prefix_refl _, rc_FM_of (rc_FT_tr f1 f2)⟩ (Or.inr ⟨rfl, ?_⟩))
      exact fo_no_2 m1 n2 (fun U V hc hg => (fo_eq_sub hc hg).2) (fun U V hc hg => (fo_eq_sub hc hg).1)
  · refine c_Ty_store_no (Or.inr kn_m1lt) (c_Te_store_no kn_m1lt (k _ _ LT1 LM ⟨h1, p1, List.prefix_refl _, rc_FM_of f1⟩ (Or.inr ⟨rfl, ?_⟩)))
    exact fo_no_1 n1 (fun U V hc hg => (fo_eq_sub hc hg).2)
theorem c_Te_equalityOf_no {d : Nat} {S : kS} {x : Int32} {F : Int32 → kS → Prop} (h : x < 0) (k : F (-1) S) : kK (d + 2) m_Te_equalityOf [.inr 10, .inl x] S (kq F) :=
  g_Te_equalityOf (c_Ty_store_no (Or.inl h) (c_Ty_store_no (Or.inl h) (c_Te_store_no kn_m1lt k)))
theorem c_Ty_isArrowFrom {d : Nat} {S : kS} {LT LM : List kF} {i j : Nat} {a x : kF} {F : Int32 → kS → Prop} (hS : rc_S S LT LM) (h : LT[i]? = some a) (hx : LT[j]? = some x) (k1 : ∀ b, a = fo_ar x b → F 1 S) (k2 : (∀ b, a ≠ fo_ar x b) → F 0 S) : kK (d + 1) m_Ty_isArrowFrom [.inr 1, .inl (kn i), .inl (kn j)] S (kq F) := by
  have hl := rc_lT hS h
  have hlx := rc_lT hS hx
  obtain ⟨_, _, h3, h4⟩ := hS.2.2.2.1 i a h
  refine g_Ty_isArrowFrom ?_
  rw [kn_tn (by omega)]
  rcases fo_tw_cases (hS.1.2.2.2.1 a (rp_mem h)).1 with ⟨q, hq, rfl⟩ | ⟨y, b, rfl, _⟩
  · have hb := (rc_bc.2 q hq).1
    refine ⟨kn_in hl (by decide), fun _ => k2 (fun b e => fo_ar_tb e.symm), fun e => ?_⟩
    rw [(h3 q rfl).1] at e
    have := kn_inj (m := 3) (by omega) (by decide) (Classical.not_not.mp e)
    omega
  · obtain ⟨e0, i', j', _, _, hi', _, e1, _⟩ := h4 y b rfl
    have hli := rc_lT hS hi'
    rw [e0, e1]
    refine ⟨kn_in hl (by decide), fun e => absurd rfl e, fun _ => ⟨kn_in hl (by decide), fun e => k2 (fun b' e2 => e ?_), fun e => k1 b ?_⟩⟩
    · obtain ⟨rfl, _⟩ := fo_ar_inj e2
      rw [fo_ix hS.1.1 hi' hx]
    · have := kn_inj (by omega) (by omega) (Classical.not_not.mp e)
      subst this
      rw [hi'] at hx
      injection hx with hx
      rw [hx]
theorem c_Te_application {d : Nat} {S : kS} {LT LM : List kF} {i j : Nat} {f x : kF} {F : Int32 → kS → Prop} (hS : rc_S S LT LM) (hf : LM[i]? = some f) (hx : LM[j]? = some x) (hw : ∃ Γ, fo_wf Γ (fo_ap f x)) (k : ∀ r S' LM', rc_gr S LT LM S' LT LM' → rc_en LT LM LT LM' (fo_ap f x) r → F r S') : kK (d + 2) m_Te_application [.inr 10, .inl (kn i), .inl (kn j)] S (kq F) := by
  have hlf := rc_lM hS hf
  have hlx := rc_lM hS hx
  obtain ⟨_, _, _, ⟨yf, h1, h2⟩, _⟩ := hS.2.2.2.2.1 i f hf
  obtain ⟨_, _, _, ⟨yx, h3, h4⟩, _⟩ := hS.2.2.2.2.1 j x hx
  have hty : fo_ty f = fo_ar (fo_ty x) (fo_ty (fo_ap f x)) := by
    obtain ⟨Γ, hw⟩ := hw
    exact (fo_wf_iap hw).2.2
  have hlyf := rc_lT hS h1
  refine g_Te_application ⟨fun e => absurd e (kn_nn (by omega)), fun _ => ⟨fun e => absurd e (kn_nn (by omega)), fun _ => ⟨kn_in hlf (by decide), kn_in hlx (by decide), ?_⟩⟩⟩
  rw [kn_tn (by omega), kn_tn (by omega), h2, h4]
  refine c_Ty_isArrowFrom hS h1 h3 (fun b e => ⟨fun _ => ⟨kn_in hlf (by decide), ?_⟩, fun e => absurd (by decide) e⟩) (fun e => absurd hty (e _))
  obtain ⟨_, i', j', _, _, _, hj', _, e5⟩ := (hS.2.2.2.1 yf _ h1).2.2.2 _ _ hty
  rw [h2, kn_tn (by omega), e5]
  refine ⟨kn_in hlyf (by decide), c_Te_store (t := fo_ap f x) (s := 3) hS ⟨hj', Or.inr (Or.inl ⟨f, x, rfl, rfl, hf, hx⟩)⟩ hw ?_⟩
  intro r S' LM' h5 p5 f5 e6
  exact k r S' LM' ⟨h5, List.prefix_refl _, p5, f5⟩ e6
/-- an application whose types don't fit -/
theorem c_Te_application_un {d : Nat} {S : kS} {LT LM : List kF} {i j : Nat} {f x : kF} {F : Int32 → kS → Prop} (hS : rc_S S LT LM) (hf : LM[i]? = some f) (hx : LM[j]? = some x) (hu : ∀ b, fo_ty f ≠ fo_ar (fo_ty x) b) (k : F (-1) S) : kK (d + 2) m_Te_application [.inr 10, .inl (kn i), .inl (kn j)] S (kq F) := by
  have hlf := rc_lM hS hf
  have hlx := rc_lM hS hx
  obtain ⟨_, _, _, ⟨yf, h1, h2⟩, _⟩ := hS.2.2.2.2.1 i f hf
  obtain ⟨_, _, _, ⟨yx, h3, h4⟩, _⟩ := hS.2.2.2.2.1 j x hx
  refine g_Te_application ⟨fun e => absurd e (kn_nn (by omega)), fun _ => ⟨fun e => absurd e (kn_nn (by omega)), fun _ => ⟨kn_in hlf (by decide), kn_in hlx (by decide), ?_⟩⟩⟩
  rw [kn_tn (by omega), kn_tn (by omega), h2, h4]
  exact c_Ty_isArrowFrom hS h1 h3 (fun b e => absurd e (hu b)) (fun _ => ⟨fun e => absurd rfl e, fun _ => k⟩)
theorem c_Te_application_no {d : Nat} {S : kS} {x y : Int32} {F : Int32 → kS → Prop} (h : x < 0 ∨ y < 0) (k : F (-1) S) : kK (d + 1) m_Te_application [.inr 10, .inl x, .inl y] S (kq F) := by
  refine g_Te_application ⟨fun _ => k, fun e => ⟨fun _ => k, fun e2 => ?_⟩⟩
  rcases h with h | h
  · exact absurd h e
  · exact absurd h e2
theorem c_Te_abstraction {d : Nat} {S : kS} {LT LM : List kF} {i j : Nat} {A b : kF} {F : Int32 → kS → Prop} (hS : rc_S S LT LM) (hA : LT[i]? = some A) (hb : LM[j]? = some b) (hw : ∃ Γ, fo_wf Γ (fo_ab A b)) (k : ∀ r S' LT' LM', rc_gr S LT LM S' LT' LM' → rc_en LT LM LT' LM' (fo_ab A b) r → F r S') : kK (d + 2) m_Te_abstraction [.inr 10, .inl (kn i), .inl (kn j)] S (kq F) := by
  have hlb := rc_lM hS hb
  obtain ⟨_, _, _, ⟨yb, h1, h2⟩, _⟩ := hS.2.2.2.2.1 j b hb
  have hwA : fo_tw A := (hS.1.2.2.2.1 A (rp_mem hA)).1
  have hwb : fo_tw (fo_ty b) := (hS.1.2.2.2.1 _ (rp_mem h1)).1
  refine g_Te_abstraction ⟨fun _ => ⟨kn_in hlb (by decide), ?_⟩, fun q => absurd (kn_ge (by omega)) q⟩
  rw [kn_tn (by omega), h2]
  refine c_Ty_store (t := fo_ar A (fo_ty b)) (s := 3) hS (Or.inr ⟨A, _, rfl, rfl, hA, h1⟩) (fo_tw_ar hwA hwb) ?_
  intro r S1 LT1 g1 p1 f1 e1
  rcases e1 with ⟨l, hl, rfl, m1⟩ | ⟨rfl, n1⟩
  · refine c_Te_store (t := fo_ab A b) (s := 4) (y := l) g1 ⟨hl, Or.inr (Or.inr ⟨A, b, rfl, rfl, hb, rfl⟩)⟩ hw ?_
    intro r S2 LM2 g2 p2 f2 e2
    refine k r S2 LT1 LM2 ⟨g2, p1, p2, rc_FM_tr (rc_FM_of f1) f2⟩ ?_
    have mm : fo_mn LT LM LT1 LM (fun _ V => V (fo_ab A b)) := fo_mn_tr m1 fo_mn_rf (g2 := fun _ _ => True) (fun U V hc hg => hc.2.1 _ hg) (fun _ _ _ _ => trivial)
    rcases e2 with ⟨q, hq, rfl, m2⟩ | ⟨rfl, n2⟩
    · exact Or.inl ⟨q, hq, rfl, fo_mn_tr mm m2 (fun _ _ _ hg => hg) (fun _ _ _ hg => hg)⟩
    · exact Or.inr ⟨rfl, fo_no_2 mm n2 (fun _ _ _ hg => hg) (fun _ _ _ hg => hg)⟩
  · exact c_Te_store_no kn_m1lt (k _ _ LT1 LM ⟨g1, p1, List.prefix_refl _, rc_FM_of f1⟩ (Or.inr ⟨rfl, fo_no_1 n1 (fun U V hc hg => hc.2.1 _ hg)⟩))
theorem c_Te_abstraction_no {d : Nat} {S : kS} {x y : Int32} {F : Int32 → kS → Prop} (h : y < 0) (k : F (-1) S) : kK (d + 1) m_Te_abstraction [.inr 10, .inl x, .inl y] S (kq F) :=
  g_Te_abstraction ⟨fun e => absurd h (Int32.not_lt.mpr e), fun _ => k⟩
theorem sp_eq_wf {Γ : List kF} {x y : kF} (hx : fo_wf Γ x) (hy : fo_wf Γ y) (e : fo_ty x = fo_ty y) : fo_wf Γ (fo_ap (fo_lf 1 0 (fo_ar (fo_ty x) (fo_ar (fo_ty x) (fo_tb 0)))) x) ∧ fo_wf Γ (sp_eq x y) := by
  have ht := fo_wf_ty hx
  have h1 : fo_wf Γ (fo_lf 1 0 (fo_ar (fo_ty x) (fo_ar (fo_ty x) (fo_tb 0)))) := fo_wf_lf ⟨fo_tw_ar ht (fo_tw_ar ht (fo_tw_tb (by decide))), Or.inr (Or.inl ⟨rfl, rfl, _, rfl⟩)⟩
  have h2 := fo_wf_ap h1 hx (b := fo_ar (fo_ty x) (fo_tb 0)) rfl
  exact ⟨h2, fo_wf_ap h2 hy (b := fo_tb 0) (by rw [← e]; rfl)⟩
theorem sp_eq_ty (x y : kF) : fo_ty (sp_eq x y) = fo_tb 0 := rfl
theorem c_Te_equation {d : Nat} {S : kS} {LT LM : List kF} {i j : Nat} {x y : kF} {F : Int32 → kS → Prop} (hS : rc_S S LT LM) (hx : LM[i]? = some x) (hy : LM[j]? = some y) (hw : ∃ Γ, fo_wf Γ x ∧ fo_wf Γ y) (he : fo_ty x = fo_ty y) (k : ∀ r S' LT' LM', rc_gr S LT LM S' LT' LM' → rc_en LT LM LT' LM' (sp_eq x y) r → F r S') : kK (d + 3) m_Te_equation [.inr 10, .inl (kn i), .inl (kn j)] S (kq F) := by
  obtain ⟨Γ, wx, wy⟩ := hw
  obtain ⟨w1, w2⟩ := sp_eq_wf wx wy he
  have s1 : ∀ U V : kF → Prop, fo_Cl U V → V (sp_eq x y) → V (fo_ap (fo_lf 1 0 (fo_ar (fo_ty x) (fo_ar (fo_ty x) (fo_tb 0)))) x) := fun U V hc hg => (hc.2.2.1 _ _ hg).1
  have s2 : ∀ U V : kF → Prop, fo_Cl U V → V (sp_eq x y) → V (fo_lf 1 0 (fo_ar (fo_ty x) (fo_ar (fo_ty x) (fo_tb 0)))) := fun U V hc hg => (hc.2.2.1 _ _ (s1 U V hc hg)).1
  refine g_Te_equation (c_Te_typeAt hS hx (fun l hl => c_Te_equalityOf hS hl ?_))
  intro r S1 LT1 LM1 g1 e1
  rcases e1 with ⟨p, hp, rfl, m1⟩ | ⟨rfl, n1⟩
  · refine c_Te_application g1.1 hp (rp_pre g1.2.2.1 hx) ⟨Γ, w1⟩ ?_
    intro r S2 LM2 g2 e2
    rcases e2 with ⟨q, hq, rfl, m2⟩ | ⟨rfl, n2⟩
    · refine c_Te_application g2.1 hq (rp_pre g2.2.2.1 (rp_pre g1.2.2.1 hy)) ⟨Γ, w2⟩ ?_
      intro r S3 LM3 g3 e3
      have mm : fo_mn LT LM LT1 LM2 (fun _ V => V (sp_eq x y)) := fo_mn_tr m1 m2 s2 s1
      refine k r S3 _ _ (rc_gr_tr g1 (rc_gr_tr g2 g3)) ?_
      rcases e3 with ⟨z, hz, rfl, m3⟩ | ⟨rfl, n3⟩
      · exact Or.inl ⟨z, hz, rfl, fo_mn_tr mm m3 (fun _ _ _ hg => hg) (fun _ _ _ hg => hg)⟩
      · exact Or.inr ⟨rfl, fo_no_2 mm n3 (fun _ _ _ hg => hg) (fun _ _ _ hg => hg)⟩
    · exact c_Te_application_no (Or.inl kn_m1lt) (k _ _ _ _ (rc_gr_tr g1 g2) (Or.inr ⟨rfl, fo_no_2 m1 n2 s2 s1⟩))
  · exact c_Te_application_no (Or.inl kn_m1lt) (c_Te_application_no (Or.inl kn_m1lt) (k _ _ _ _ g1 (Or.inr ⟨rfl, fo_no_1 n1 s2⟩)))
theorem c_Te_equation_no {d : Nat} {S : kS} {x y : Int32} {F : Int32 → kS → Prop} (h : x < 0) (k : F (-1) S) : kK (d + 3) m_Te_equation [.inr 10, .inl x, .inl y] S (kq F) :=
  g_Te_equation (c_Te_typeAt_no h (c_Te_equalityOf_no kn_m1lt (c_Te_application_no (Or.inl kn_m1lt) (c_Te_application_no (Or.inl kn_m1lt) k))))
/-- an equation whose right side is refused -/
theorem c_Te_equation_nr {d : Nat} {S : kS} {LT LM : List kF} {i : Nat} {x : kF} {y : Int32} {F : Int32 → kS → Prop} (hS : rc_S S LT LM) (hx : LM[i]? = some x) (hy : y < 0) (k : ∀ S' LT' LM', rc_gr S LT LM S' LT' LM' → F (-1) S') : kK (d + 3) m_Te_equation [.inr 10, .inl (kn i), .inl y] S (kq F) := by
  obtain ⟨Γ, wx⟩ := rc_wf hS hx
  obtain ⟨w1, _⟩ := sp_eq_wf wx wx rfl
  refine g_Te_equation (c_Te_typeAt hS hx (fun l hl => c_Te_equalityOf hS hl ?_))
  intro r S1 LT1 LM1 g1 e1
  rcases e1 with ⟨p, hp, rfl, m1⟩ | ⟨rfl, n1⟩
  · refine c_Te_application g1.1 hp (rp_pre g1.2.2.1 hx) ⟨Γ, w1⟩ ?_
    intro r S2 LM2 g2 _
    exact c_Te_application_no (Or.inr hy) (k _ _ _ (rc_gr_tr g1 g2))
  · exact c_Te_application_no (Or.inl kn_m1lt) (c_Te_application_no (Or.inl kn_m1lt) (k _ _ _ g1))
