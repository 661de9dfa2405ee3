/-! ===== WHAT THE RULES MAKE IS WELL FORMED ===== -/
def sp_kM (M : kO) : Prop := sp_ok (sm_nM M) (sm_F M) ∧ ∀ t, t ∈ sm_nT M → fo_tw t
theorem sp_iR_wf {x y t : kF} (hy : fo_wf [] y) (e : fo_ty y = fo_ty x) (ht : fo_wf [] t) : fo_wf [] (sp_iR x y t) ∧ fo_ty (sp_iR x y t) = fo_ty t := fo_wf_R hy e ht 0
theorem sp_iT_wf {j : Nat} {c t : kF} (hj : 2 ≤ j ∧ j < 6) (hc : fo_tw c) (ht : fo_wf [] t) : fo_wf [] (sp_iT j c t) ∧ fo_ty (sp_iT j c t) = fo_rt j c (fo_ty t) := fo_wf_T hj hc ht 0
theorem sp_bind {α β : Type} {o : Option α} {f : α → Option β} {b : β} (h : o.bind f = some b) : ∃ a, o = some a ∧ f a = some b := by
  cases o with
  | none => cases h
  | some a => exact ⟨a, rfl, h⟩
theorem sp_ifi {α : Type} {p : Prop} {x : Option α} {b : α} (h : sp_if p x = some b) : p ∧ x = some b := by
  by_cases hp : p
  · rw [sp_if_pos hp] at h; exact ⟨hp, h⟩
  · rw [sp_if_neg hp] at h; cases h
theorem sp_tv_inv {t : kF} {j : Nat} (h : sp_tv t = some j) : t = fo_tb j ∧ 2 ≤ j ∧ j < 6 := by
  unfold sp_tv at h
  split at h
  · obtain ⟨h1, h2⟩ := sp_ifi h
    injection h2 with h2
    subst h2
    exact ⟨rfl, h1.1, h1.2⟩
  · cases h
theorem sp_fa_inv {t f x : kF} (h : sp_fa t = some (f, x)) : t = fo_ap f x := by
  unfold sp_fa at h
  split at h
  · injection h with h
    injection h with h1 h2
    subst h1; subst h2; rfl
  · cases h
theorem sp_rl_ok {fx : Int32 → Int32} {NT NM : List kF} {FS : List kQ} {op : Nat} {a b c : Int32} {v : kF} {raw : List kF} (hok : sp_ok NM FS) (hT : ∀ t, t ∈ NT → fo_tw t) (h : sp_rl fx NT NM FS op a b c = some (v, raw)) : fo_wf [] v ∧ fo_ty v = fo_tb 0 ∧ ∀ z, z ∈ raw → fo_wf [] z := by
  have two : ∀ (p q : kQ), p ∈ FS → q ∈ FS → ∀ z, z ∈ p.2 ++ q.2 → fo_wf [] z := by
    intro p q hp hq z hz
    rcases List.mem_append.mp hz with hz | hz
    · exact (hok.2 p hp).2.2 z hz
    · exact (hok.2 q hq).2.2 z hz
  unfold sp_rl at h
  split at h
  · obtain ⟨t, ht, h⟩ := sp_bind h
    injection h with h; injection h with h1 h2; subst h1; subst h2
    have wt := hok.1 t (sp_at_mem ht)
    exact ⟨(sp_eq_wf wt wt rfl).2, rfl, fun z hz => by cases hz⟩
  · obtain ⟨p, hp, h⟩ := sp_bind h
    obtain ⟨q, hq, h⟩ := sp_bind h
    obtain ⟨l, hl, h⟩ := sp_bind h
    obtain ⟨m, hm, h⟩ := sp_bind h
    obtain ⟨e, h⟩ := sp_ifi h
    injection h with h; injection h with h1 h2; subst h1; subst h2
    obtain ⟨w1, w2, w3⟩ := sp_sd_wf (l := l.1) (r := l.2) hl (hok.2 p (sp_at_mem hp)).1
    obtain ⟨w4, w5, w6⟩ := sp_sd_wf (l := m.1) (r := m.2) hm (hok.2 q (sp_at_mem hq)).1
    exact ⟨(sp_eq_wf w1 w5 (by rw [w3, e, w6])).2, rfl, two p q (sp_at_mem hp) (sp_at_mem hq)⟩
  · obtain ⟨p, hp, h⟩ := sp_bind h
    obtain ⟨q, hq, h⟩ := sp_bind h
    obtain ⟨l, hl, h⟩ := sp_bind h
    obtain ⟨m, hm, h⟩ := sp_bind h
    obtain ⟨⟨B, e⟩, h⟩ := sp_ifi h
    injection h with h; injection h with h1 h2; subst h1; subst h2
    obtain ⟨w1, w2, w3⟩ := sp_sd_wf (l := l.1) (r := l.2) hl (hok.2 p (sp_at_mem hp)).1
    obtain ⟨w4, w5, w6⟩ := sp_sd_wf (l := m.1) (r := m.2) hm (hok.2 q (sp_at_mem hq)).1
    have e2 : fo_ty l.2 = fo_ar (fo_ty m.2) B := by rw [← w3, ← w6]; exact e
    exact ⟨(sp_eq_wf (fo_wf_ap w1 w4 e) (fo_wf_ap w2 w5 e2) (by rw [fo_ty_ap, fo_ty_ap, e, e2, fo_cod_ar, fo_cod_ar])).2, rfl, two p q (sp_at_mem hp) (sp_at_mem hq)⟩
  · obtain ⟨x, hx, h⟩ := sp_bind h
    obtain ⟨q, hq, h⟩ := sp_bind h
    obtain ⟨m, hm, h⟩ := sp_bind h
    obtain ⟨⟨⟨n, A, e⟩, _⟩, h⟩ := sp_ifi h
    injection h with h; injection h with h1 h2; subst h1; subst h2; subst e
    have hA := (fo_wf_ilf (hok.1 _ (sp_at_mem hx))).1
    have wq := hok.2 q (sp_at_mem hq)
    obtain ⟨w4, w5, w6⟩ := sp_sd_wf (l := m.1) (r := m.2) hm wq.1
    obtain ⟨a1, a2⟩ := sp_iA_wf (n := n) hA w4
    obtain ⟨a3, a4⟩ := sp_iA_wf (n := n) hA w5
    exact ⟨(sp_eq_wf a1 a3 (by rw [a2, a4, w6])).2, rfl, wq.2.2⟩
  · obtain ⟨t, ht, h⟩ := sp_bind h
    obtain ⟨f, hf, h⟩ := sp_bind h
    obtain ⟨bd, hb, h⟩ := sp_bind h
    injection h with h; injection h with h1 h2; subst h1; subst h2
    have wt := hok.1 t (sp_at_mem ht)
    have et := sp_fa_inv (f := f.1) (x := f.2) hf
    rw [et] at wt
    obtain ⟨wf, wu, ety⟩ := fo_wf_iap wt
    rcases fo_wf_cases wf with ⟨s, n, A, e, _⟩ | ⟨g, x, _, e, _⟩ | ⟨A, b', e, hA, wb⟩
    · rw [e] at hb; cases hb
    · rw [e] at hb; cases hb
    · rw [e] at hb ety
      injection hb with hb
      subst hb
      rw [fo_ty_ab] at ety
      obtain ⟨e1, e2⟩ := fo_ar_inj ety
      subst e1
      have wO := fo_wf_O (Γ := []) wu wb
      have wO1 : fo_wf [] (sp_iO f.2 b') := wO.1
      have wO2 : fo_ty (sp_iO f.2 b') = fo_ty b' := wO.2
      refine ⟨(sp_eq_wf (by rw [et]; exact wt) wO1 (by rw [et, wO2, e2, e])).2, rfl, fun z hz => by cases hz⟩
  · obtain ⟨t, ht, h⟩ := sp_bind h
    obtain ⟨e, h⟩ := sp_ifi h
    injection h with h; injection h with h1 h2; subst h1; subst h2
    have wt := hok.1 t (sp_at_mem ht)
    exact ⟨wt, e, fun z hz => by rw [List.mem_singleton] at hz; rw [hz]; exact wt⟩
  · obtain ⟨p, hp, h⟩ := sp_bind h
    obtain ⟨q, hq, h⟩ := sp_bind h
    obtain ⟨l, hl, h⟩ := sp_bind h
    obtain ⟨e, h⟩ := sp_ifi h
    injection h with h; injection h with h1 h2; subst h1; subst h2
    obtain ⟨w1, w2, w3⟩ := sp_sd_wf (l := l.1) (r := l.2) hl (hok.2 p (sp_at_mem hp)).1
    exact ⟨w2, by rw [← w3, e]; exact (hok.2 q (sp_at_mem hq)).2.1, two p q (sp_at_mem hp) (sp_at_mem hq)⟩
  · obtain ⟨p, hp, h⟩ := sp_bind h
    obtain ⟨q, hq, h⟩ := sp_bind h
    injection h with h; injection h with h1 h2; subst h1; subst h2
    have wp := hok.2 p (sp_at_mem hp)
    have wq := hok.2 q (sp_at_mem hq)
    refine ⟨(sp_eq_wf wp.1 wq.1 (by rw [wp.2.1, wq.2.1])).2, rfl, fun z hz => ?_⟩
    rcases List.mem_append.mp hz with hz | hz
    · exact wp.2.2 z (List.mem_filter.mp hz).1
    · exact wq.2.2 z (List.mem_filter.mp hz).1
  · obtain ⟨p, hp, h⟩ := sp_bind h
    obtain ⟨x, hx, h⟩ := sp_bind h
    obtain ⟨y, hy, h⟩ := sp_bind h
    obtain ⟨e, h⟩ := sp_ifi h
    injection h with h; injection h with h1 h2; subst h1; subst h2
    have wp := hok.2 p (sp_at_mem hp)
    have wy := hok.1 y (sp_at_mem hy)
    refine ⟨(sp_iR_wf wy e.2 wp.1).1, by rw [(sp_iR_wf wy e.2 wp.1).2]; exact wp.2.1, fun z hz => ?_⟩
    obtain ⟨w, hw, rfl⟩ := List.mem_map.mp hz
    exact (sp_iR_wf wy e.2 (wp.2.2 w hw)).1
  · obtain ⟨p, hp, h⟩ := sp_bind h
    obtain ⟨x, hx, h⟩ := sp_bind h
    obtain ⟨y, hy, h⟩ := sp_bind h
    obtain ⟨j, hj, h⟩ := sp_bind h
    injection h with h; injection h with h1 h2; subst h1; subst h2
    have wp := hok.2 p (sp_at_mem hp)
    have wy := hT y (sp_at_mem hy)
    have ej := (sp_tv_inv hj).2
    refine ⟨(sp_iT_wf ej wy wp.1).1, ?_, fun z hz => ?_⟩
    · rw [(sp_iT_wf ej wy wp.1).2, wp.2.1, fo_rt_tb, if_neg (by omega)]
    · obtain ⟨w, hw, rfl⟩ := List.mem_map.mp hz
      exact (sp_iT_wf ej wy (wp.2.2 w hw)).1
  · obtain ⟨p, hp, h⟩ := sp_bind h
    obtain ⟨q, hq, h⟩ := sp_bind h
    obtain ⟨l, hl, h⟩ := sp_bind h
    injection h with h; injection h with h1 h2; subst h1; subst h2
    have wq := hok.2 q (sp_at_mem hq)
    obtain ⟨w1, w2, w3⟩ := sp_sd_wf (l := l.1) (r := l.2) hl (hok.2 p (sp_at_mem hp)).1
    exact ⟨(sp_iR_wf w2 w3.symm wq.1).1, by rw [(sp_iR_wf w2 w3.symm wq.1).2]; exact wq.2.1, two p q (sp_at_mem hp) (sp_at_mem hq)⟩
  · cases h
theorem sp_ds_sub : ∀ (l D : List kF) (b : Bool) (z : kF), z ∈ (sp_ds D b l).1 → z ∈ D ∨ z ∈ l
  | [], D, b, z, h => Or.inl h
  | a :: l, D, b, z, h => by
    by_cases e : a ∈ D
    · rw [sp_ds_in e] at h
      rcases sp_ds_sub l D b z h with h | h
      · exact Or.inl h
      · exact Or.inr (List.mem_cons_of_mem _ h)
    · by_cases n : D.length < 12
      · rw [sp_ds_new e n] at h
        rcases sp_ds_sub l _ b z h with h | h
        · rcases List.mem_append.mp h with h | h
          · exact Or.inl h
          · rw [List.mem_singleton] at h
            rw [h]; exact Or.inr List.mem_cons_self
        · exact Or.inr (List.mem_cons_of_mem _ h)
      · rw [sp_ds_full e n] at h
        rcases sp_ds_sub l D true z h with h | h
        · exact Or.inl h
        · exact Or.inr (List.mem_cons_of_mem _ h)
theorem sp_ok_add {NM : List kF} {FS : List kQ} {v : kF} {raw : List kF} (hok : sp_ok NM FS) (h : fo_wf [] v ∧ fo_ty v = fo_tb 0 ∧ ∀ z, z ∈ raw → fo_wf [] z) : sp_ok NM (FS ++ [(v, (sp_ds [] false raw).1)]) := by
  refine ⟨hok.1, fun q hq => ?_⟩
  rcases List.mem_append.mp hq with hq | hq
  · exact hok.2 q hq
  · rw [List.mem_singleton] at hq
    subst hq
    refine ⟨h.1, h.2.1, fun z hz => ?_⟩
    rcases sp_ds_sub raw [] false z hz with e | e
    · cases e
    · exact h.2.2 z e
theorem sp_ru_ok {fx : Int32 → Int32} {M M' : kO} {op a b c : Int32} (hok : sp_kM M) (h : sp_ru M (sp_ro fx M op a b c) = some M') : sp_kM M' ∧ sm_nT M' = sm_nT M ∧ sm_nM M' = sm_nM M ∧ sm_c M' = sm_c M ∧ sm_d M' = sm_d M ∧ sm_L M' = sm_L M := by
  obtain ⟨q, hq, h⟩ := sp_bind h
  obtain ⟨_, h⟩ := sp_ifi h
  injection h with h
  subst h
  refine ⟨⟨?_, hok.2⟩, rfl, rfl, rfl, rfl, rfl⟩
  unfold sp_ro at hq
  split at hq
  · cases hq
  · exact sp_ok_add hok.1 (sp_rl_ok (v := q.1) (raw := q.2) hok.1 hok.2 hq)
/-! ===== THE CLASS: its calls (rules, definitions by a constant, replay, looks) ===== -/
/-- a rule's end, settled -/
theorem k_settle_ru {d : Nat} {S S1 : kS} {M : kO} {τ : Nat} {LT LM : List kF} {o : Option kQ} {r : Int32} {F : Int32 → kS → Prop} (hQ : rc_Q S M τ LT LM) (hp : ru_po S LT LM (sm_F M) (sm_nT M) (sm_nM M) τ o r S1)
    (k1 : ∀ S' M' τ', sp_ru M o = some M' → rc_R S' M' τ' → τ' ≤ τ + 2 → rc_Fx S S' → r = kn (sm_F M).length → F r S') (k2 : ∀ S' τ', sp_ru M o = none → rc_R S' M τ' → τ' ≤ τ + 2 → rc_Fx S S' → r = -1 → F r S') : kK (d + 2) m_K_settled [.inr 0, .inl r] S1 (kq F) := by
  obtain ⟨LT1, LM1, FS1, τ1, w1, p1, p2, f1, z1, ht1, en⟩ := hp
  have h60 := hQ.1.2.1.2.1
  rcases en with ⟨c, raw, hs, ho, hds, hlt, rfl, rfl, hc, hraw, m⟩ | ⟨rfl, rfl, hn⟩
  · obtain ⟨hfit, hcT, hcM⟩ := sp_yes (g := sp_g c raw) hQ.2.2.2.1 hQ.2.2.2.2.1 w1.1.1 (fun x hx => rp_sub p1 hx) (fun x hx => rp_sub p2 hx) ⟨hc, hraw⟩ m
    have hru : sp_ru M o = some (sp_rm M c raw) := by
      rw [ho]
      exact sp_if_pos ⟨by rw [hds], hlt, hfit⟩
    refine k_keep hQ w1 (rc_Fk_r f1) z1 (kn_nn (by omega)) (fun S2 w2 k2' z2 x2 fx2 => k1 S2 _ τ1 hru ⟨LT1, LM1, ?_, ?_, z2, hcT, hcM, x2⟩ ht1 fx2 rfl)
    · show rc_W S2 LT1 LM1 (sm_F M ++ [(c, (sp_ds [] false raw).1)]) (sm_nT M) (sm_nM M)
      rw [hds]; exact w2
    · show rc_K S2 LT1 LM1 (sm_F M ++ [(c, (sp_ds [] false raw).1)])
      rw [hds]; exact k2'
  · have hru : sp_ru M o = none := by
      rcases hn with rfl | ⟨c, raw, rfl, hn⟩
      · rfl
      · refine sp_if_neg (fun ⟨h1, h2, h3⟩ => ?_)
        rcases hn with hn | hn | hn
        · rw [h1] at hn; cases hn
        · omega
        · exact sp_no (g := sp_g c raw) hQ.2.2.2.1 hQ.2.2.2.2.1 hn h3
    exact k_back hQ w1 p1 p2 (List.prefix_refl _) (rc_Fk_r f1) z1 kn_m1lt (fun S2 q2 fx2 => k2 S2 τ1 hru ⟨LT, LM, q2⟩ ht1 fx2 rfl)
theorem rc_W_fr {S S' : kS} {LT LM : List kF} {FS : List kQ} {NT NM : List kF} (h : rc_W S LT LM FS NT NM) (f : ∀ o i, o ≤ 29 → S' o i = S o i) : rc_W S' LT LM FS NT NM :=
  ⟨rc_S_fr h.1 (fun o i hc => f o i (by unfold rc_cm rc_ct at hc; omega)), ⟨(f _ _ (by decide)).trans h.2.1.1, h.2.1.2.1, rp_F_grow h.2.1.2.2 (List.prefix_refl _) (funext fun _ => f _ _ (by decide)) (funext fun _ => f _ _ (by decide)) (funext fun _ => f _ _ (by decide))⟩, rc_N_gr h.2.2.1 (List.prefix_refl _) h.1.1.1 h.1.1.2.2.2.2.2.1 (fun _ => f _ _ (by decide)) (fun _ => f _ _ (by decide)) (f _ _ (by decide)), rc_N_gr h.2.2.2 (List.prefix_refl _) h.1.1.2.1 h.1.1.2.2.2.2.2.2.1 (fun _ => f _ _ (by decide)) (fun _ => f _ _ (by decide)) (f _ _ (by decide))⟩
theorem rc_Q_33 {S S' : kS} {M : kO} {τ : Nat} {LT LM : List kF} (h : rc_Q S M τ LT LM) (f : ∀ o i, o ≠ 33 → S' o i = S o i) : rc_Q S' M τ LT LM := by
  obtain ⟨hW, hK, hZ, hT, hM, hX⟩ := h
  exact ⟨rc_W_fr hW (fun o i ho => f o i (by omega)), rc_K_fr hK (f _ _ (by decide)) (f _ _ (by decide)) (f _ _ (by decide)), ch_Z_fr hZ (f _ _ (by decide)) (fun _ => f _ _ (by decide)) (fun _ => f _ _ (by decide)), hT, hM, rc_X_fr hX (fun o i ho => f _ _ (by omega))⟩
/-- what is less than none -/
theorem kn_ng {a : Int32} (h : a < 0) : ∃ n, n < 2147483648 ∧ -1 - a = kn n ∧ a.toInt = -1 - (n : Int) := by
  have h1 : a.toInt < 0 := by
    have := Int32.lt_iff_toInt_lt.mp h
    exact this
  have h2 := Int32.le_toInt a
  have e : (-1 - a).toInt = -1 - a.toInt := by
    rw [Int32.toInt_sub]
    have e1 : (-1 : Int32).toInt = -1 := by decide
    rw [e1]
    apply Int.bmod_eq_of_le <;> omega
  refine ⟨(-1 - a.toInt).toNat, by omega, ?_, by omega⟩
  apply Int32.toInt_inj.mp
  rw [e, kn_ti (by omega)]
  omega
theorem sp_rl_congr {fx gx : Int32 → Int32} {NT NM : List kF} {FS : List kQ} {op : Nat} {a b c : Int32} (h : ∀ z, sp_at FS (fx z) = sp_at FS (gx z)) : sp_rl fx NT NM FS op a b c = sp_rl gx NT NM FS op a b c := by
  unfold sp_rl
  simp only [h]
theorem sp_ro_congr {fx gx : Int32 → Int32} {M : kO} {op a b c : Int32} (h : ∀ z, sp_at (sm_F M) (fx z) = sp_at (sm_F M) (gx z)) : sp_ro fx M op a b c = sp_ro gx M op a b c := by
  unfold sp_ro
  rw [sp_rl_congr h]
theorem sp_fx_00 {FS : List kQ} (z : Int32) : sp_at FS (sp_fx 0 0 z) = sp_at FS (id z) := by
  unfold sp_fx
  by_cases hz : z < 0
  · obtain ⟨n, hn, e, _⟩ := kn_ng hz
    rw [if_pos hz, e, if_neg (kn_nn hn), sp_at_neg kn_m1lt]
    exact (sp_at_neg hz).symm
  · rw [if_neg hz]; rfl
section KPUB2
variable {d : Nat} {S : kS} {M : kO} {τ : Nat} {F : Int32 → kS → Prop}
theorem k_rule {op a b c : Int32} (h : rc_R S M τ) (hok : sp_kM M) (hτ : τ + 2 < 8388608) (k : ∀ S' τ', rc_R S' (sp_rule M op a b c).2 τ' → τ' ≤ τ + 2 → rc_Fx S S' → F (sp_rule M op a b c).1 S') : kK (d + 70) m_K_rule [.inr 0, .inl op, .inl a, .inl b, .inl c] S (kq F) := by
  obtain ⟨LT, LM, hQ⟩ := h
  have fr : ∀ o i, o ≠ 33 → ku (ku S 33 4 0) 33 5 0 o i = S o i := fun o i ho => by rw [ku_ne (by omega), ku_ne (by omega)]
  have hQ1 := rc_Q_33 hQ fr
  refine g_K_rule (g_Ru_refer (c_Ru_make hQ1.1 hQ1.2.2.1 hτ hok.1 (fun r S2 hp => ?_)))
  have e4 : ku (ku S 33 4 0) 33 5 0 33 4 = 0 := by rw [ku_ne (by omega), ku_self]
  have e5 : ku (ku S 33 4 0) 33 5 0 33 5 = 0 := ku_self
  rw [e4, e5, sp_ro_congr (gx := id) sp_fx_00] at hp
  unfold sp_rule at k
  refine k_settle_ru hQ1 hp (fun S3 M3 τ3 e3 r3 t3 f3 er => ?_) (fun S3 τ3 e3 r3 t3 f3 er => ?_)
  · rw [e3] at k
    subst er
    exact k S3 τ3 r3 t3 (fun o i ho => (f3 o i ho).trans (fr o i (by omega)))
  · rw [e3] at k
    subst er
    exact k S3 τ3 r3 t3 (fun o i ho => (f3 o i ho).trans (fr o i (by omega)))
theorem fo_gn_ty {Γ : List kF} {t : kF} (hw : fo_wf Γ t) (h : fo_gn t = false) : fo_gt (fo_ty t) = false := by
  rcases fo_wf_cases hw with ⟨s, k, A, rfl, _⟩ | ⟨f, x, _, rfl, _⟩ | ⟨A, b, rfl, _⟩
  · exact h
  · rw [fo_gn_ap, Bool.or_eq_false_iff] at h; exact h.1
  · rw [fo_gn_ab, Bool.or_eq_false_iff] at h; exact h.1
theorem rc_R_c {S : kS} {M : kO} {τ n : Nat} (h : rc_R S M τ) (hn : n ≤ 8) : rc_R (ku S 0 6 (kn n)) (sm_T M, sm_M M, sm_nT M, sm_nM M, sm_F M, n, sm_d M, sm_L M) τ := by
  obtain ⟨LT, LM, hW, hK, hZ, hT, hM, hX⟩ := h
  have fr : ∀ o i, ¬ (o = 0 ∧ i = 6) → ku S 0 6 (kn n) o i = S o i := fun o i ho => ku_ne ho
  refine ⟨LT, LM, ?_, rc_K_fr hK (fr _ _ (by omega)) (fr _ _ (by omega)) (fr _ _ (by omega)), ch_Z_fr hZ (fr _ _ (by omega)) (fun _ => fr _ _ (by omega)) (fun _ => fr _ _ (by omega)), hT, hM, ku_self, (fr _ _ (by omega)).trans hX.2.1, hn, hX.2.2.2.1, (fr _ _ (by omega)).trans hX.2.2.2.2.1, hX.2.2.2.2.2.1, fun i o a b c e => ?_⟩
  · exact ⟨rc_S_fr hW.1 (fun o i hc => fr o i (by unfold rc_cm rc_ct at hc; omega)), ⟨(fr _ _ (by omega)).trans hW.2.1.1, hW.2.1.2.1, rp_F_grow hW.2.1.2.2 (List.prefix_refl _) (funext fun _ => fr _ _ (by omega)) (funext fun _ => fr _ _ (by omega)) (funext fun _ => fr _ _ (by omega))⟩, rc_N_gr hW.2.2.1 (List.prefix_refl _) hW.1.1.1 hW.1.1.2.2.2.2.2.1 (fun _ => fr _ _ (by omega)) (fun _ => fr _ _ (by omega)) (fr _ _ (by omega)), rc_N_gr hW.2.2.2 (List.prefix_refl _) hW.1.1.2.1 hW.1.1.2.2.2.2.2.2.1 (fun _ => fr _ _ (by omega)) (fun _ => fr _ _ (by omega)) (fr _ _ (by omega))⟩
  · rw [fr 35 i (by omega), fr 36 i (by omega), fr 37 i (by omega), fr 38 i (by omega)]
    exact hX.2.2.2.2.2.2 i o a b c e
theorem k_define {a : Int32} (h : rc_R S M τ) (hok : sp_kM M) (k : ∀ S' τ', rc_R S' (sp_define M a).2 τ' → τ' ≤ τ + 2 → rc_Fx S S' → F (sp_define M a).1 S') : kK (d + 5) m_K_define [.inr 0, .inl a] S (kq F) := by
  obtain ⟨LT, LM, hQ⟩ := h
  unfold sp_define at k
  obtain ⟨hW, hK, hZ, hT, hM, hX⟩ := hQ
  have hQ : rc_Q S M τ LT LM := ⟨hW, hK, hZ, hT, hM, hX⟩
  have hl := hW.1.1.2.2.2.2.2.2.1
  have h06 := hX.1
  have h8 := hX.2.2.1
  refine g_K_define (c_Nu_placeOf_11 hW.2.2.2 hl (fun i t et hi => ?_) (fun et => ?_))
  · rw [et] at k
    simp only [sp_b1] at k
    have wt := hok.1.1 t (sp_at_mem et)
    refine c_Te_isFixed hW.1 hi (fun haf hgn => ⟨fun e => absurd e (by decide), fun _ => ?_⟩) (fun hf => ⟨fun _ => ?_, fun e => absurd rfl e⟩)
    · rw [h06]
      refine ⟨fun e => ?_, fun e => ?_⟩
      · have hc8 : sm_c M < 8 := (kn_lt (m := 8) (by omega) (by decide)).mp e
        rw [sp_ite_pos ⟨haf, hgn, hc8⟩] at k
        have hg := fo_gn_ty wt hgn
        have w0 : fo_wf [] (fo_lf 2 (sm_c M) (fo_ty t)) := fo_wf_lf ⟨fo_wf_ty wt, Or.inr (Or.inr (Or.inl ⟨rfl, hc8, hg⟩))⟩
        refine c_Te_typeAt hW.1 hi (fun y hy => c_Te_store (t := fo_lf 2 (sm_c M) (fo_ty t)) (s := 2) (a := sm_c M) (b := 0) hW.1 ⟨hy, Or.inl ⟨_, rfl, rfl, by omega, by omega⟩⟩ ⟨[], w0⟩ (fun r1 S1 LM1 s1 p1 f1 e1 => ?_))
        have h0 : ∀ D b, rc_D S1 LM1 D b → ru_at S LT LM (sm_F M) (sm_nT M) (sm_nM M) τ S1 LT LM1 D b τ := fun D b hD => ⟨rc_W_gr hW s1 (List.prefix_refl _) p1 (rc_FC_of f1), hD, List.prefix_refl _, p1, rc_FR_c (rc_FC_of f1), ch_Z_fm hZ f1, by omega⟩
        have sb : ∀ U V : kF → Prop, fo_Cl U V → V (sp_eq (fo_lf 2 (sm_c M) (fo_ty t)) t) → V (fo_lf 2 (sm_c M) (fo_ty t)) := fun U V hc hg => (hc.2.2.1 _ _ (hc.2.2.1 _ _ hg).1).2
        have fin : ∀ r S4, ru_po S LT LM (sm_F M) (sm_nT M) (sm_nM M) τ (some (sp_eq (fo_lf 2 (sm_c M) (fo_ty t)) t, [])) r S4 → kK (d + 4) m_K_settled [.inr 0, .inl r] S4 (kq fun r15 S14 => (r15 < 0 → F r15 S14) ∧ (¬ r15 < 0 → F r15 (ku S14 0 6 ((S14 0 6) + 1)))) := by
          intro r S4 hp
          have h60 := hW.2.1.2.1
          refine k_settle_ru hQ hp (fun S5 M5 τ5 e5 r5 t5 f5 er => ?_) (fun S5 τ5 e5 r5 t5 f5 er => ?_)
          · rw [e5] at k
            simp only [sp_b1] at k
            subst er
            refine ⟨fun e => absurd e (kn_nn (by omega)), fun _ => ?_⟩
            obtain ⟨q, hq, h5⟩ := sp_bind e5
            obtain ⟨_, h5⟩ := sp_ifi h5
            injection h5 with h5
            have ec : sm_c M5 = sm_c M := by rw [← h5]; rfl
            have e06 : S5 0 6 = kn (sm_c M) := by
              obtain ⟨_, _, hq5⟩ := r5
              rw [hq5.2.2.2.2.2.1, ec]
            rw [e06, kn_suc]
            exact k _ τ5 (rc_R_c r5 (by omega)) t5 (fun o i ho => (ku_ne (by omega)).trans (f5 o i ho))
          · rw [e5] at k
            subst er
            exact ⟨fun _ => k S5 τ5 r5 t5 f5, fun e => absurd kn_m1lt e⟩
        rcases e1 with ⟨q1, hq1, rfl, m1⟩ | ⟨rfl, n1⟩
        · refine c_Fa_open (LM := LM1) (fun S2 f2 d2 => ?_)
          have h2 : ru_at S LT LM (sm_F M) (sm_nT M) (sm_nM M) τ S2 LT LM1 [] false τ := ⟨rc_W_fd (rc_W_gr hW s1 (List.prefix_refl _) p1 (rc_FC_of f1)) f2, d2, List.prefix_refl _, p1, rc_FR_tr (rc_FR_c (rc_FC_of f1)) (rc_FR_d f2), ch_Z_cd (ch_Z_fm hZ f1) f2, by omega⟩
          refine c_Te_equation h2.1.1 hq1 (rp_pre p1 hi) ⟨[], w0, wt⟩ rfl (fun r3 S3 LT3 LM3 g3 e3 => ?_)
          refine ru_close (c := sp_eq (fo_lf 2 (sm_c M) (fo_ty t)) t) (raw := []) (ru_at_gr h2 g3) rfl rfl (fun _ e => by cases e) ?_ fin
          rcases e3 with ⟨i3, hi3, rfl, m3⟩ | ⟨rfl, n3⟩
          · exact Or.inl ⟨i3, hi3, rfl, fo_mn_1 (fo_mn_tr m1 m3 sb (fun _ _ _ hg => hg)) (fun _ _ _ hg => hg.1)⟩
          · exact Or.inr ⟨kn_m1lt, fo_no_1 (fo_no_2 m1 n3 sb (fun _ _ _ hg => hg)) (fun _ _ _ hg => hg.1)⟩
        · refine c_Fa_open (LM := LM1) (fun S2 f2 d2 => ?_)
          have h2 : ru_at S LT LM (sm_F M) (sm_nT M) (sm_nM M) τ S2 LT LM1 [] false τ := ⟨rc_W_fd (rc_W_gr hW s1 (List.prefix_refl _) p1 (rc_FC_of f1)) f2, d2, List.prefix_refl _, p1, rc_FR_tr (rc_FR_c (rc_FC_of f1)) (rc_FR_d f2), ch_Z_cd (ch_Z_fm hZ f1) f2, by omega⟩
          exact c_Te_equation_no kn_m1lt (ru_close (c := sp_eq (fo_lf 2 (sm_c M) (fo_ty t)) t) (raw := []) h2 rfl rfl (fun _ e => by cases e) (Or.inr ⟨kn_m1lt, fo_no_1 n1 (fun U V hc hg => sb U V hc hg.1)⟩) fin)
      · rw [sp_ite_neg (fun z => e ((kn_lt (m := 8) (by omega) (by decide)).mpr z.2.2))] at k
        exact k S τ ⟨LT, LM, hQ⟩ (by omega) rc_Fx_rf
    · rw [sp_ite_neg (fun z => by rcases hf with hf | hf <;> simp [z.1, z.2.1] at hf)] at k
      exact k S τ ⟨LT, LM, hQ⟩ (by omega) rc_Fx_rf
  · rw [et] at k
    exact c_Te_isFixed_no kn_m1lt ⟨fun _ => k S τ ⟨LT, LM, hQ⟩ (by omega) rc_Fx_rf, fun e => absurd rfl e⟩
theorem k_line {op a b c : Int32} (h : rc_R S M τ) (k : ∀ S', rc_R S' (sp_line M op a b c).2 τ → rc_Fx S S' → F (sp_line M op a b c).1 S') : kK (d + 2) m_K_line [.inr 0, .inl op, .inl a, .inl b, .inl c] S (kq F) := by
  have h0 := h
  obtain ⟨LT, LM, hW, hK, hZ, hT, hM, hX⟩ := h
  obtain ⟨h34, h12, hL⟩ := hX.2.2.2.2
  unfold sp_line at k
  refine g_K_line (g_Ru_has ⟨fun e => ⟨fun _ => ?_, fun e => absurd rfl e⟩, fun e => ⟨fun e2 => ⟨fun _ => ?_, fun e => absurd rfl e⟩, fun e2 => ⟨fun e => absurd e (by decide), fun _ => ?_⟩⟩⟩)
  · rw [if_pos e] at k; exact k S h0 rc_Fx_rf
  · rw [if_neg e, if_pos e2] at k; exact k S h0 rc_Fx_rf
  · rw [if_neg e, if_neg e2] at k
    refine g_Tr_add ?_
    rw [h34, kn_tn (by omega)]
    refine ⟨fun e3 => ?_, fun e3 => ?_⟩
    · have hlt := (kn_lt (m := 12) (by omega) (by decide)).mp e3
      rw [if_pos hlt] at k
      have hin : vp_in (kn (sm_L M).length) 12 := kn_in hlt (by decide)
      refine ⟨hin, hin, hin, hin, ?_⟩
      have fr : ∀ o i, ¬ (34 ≤ o ∧ o ≤ 38) → ku (ku (ku (ku (ku S 35 (sm_L M).length op) 36 (sm_L M).length a) 37 (sm_L M).length b) 38 (sm_L M).length c) 34 4 (kn (sm_L M).length + 1) o i = S o i := fun o i ho => by
        rw [ku_ne (by omega), ku_ne (by omega), ku_ne (by omega), ku_ne (by omega), ku_ne (by omega)]
      refine k _ ⟨LT, LM, rc_W_fr hW (fun o i ho => fr o i (by omega)), rc_K_fr hK (fr _ _ (by omega)) (fr _ _ (by omega)) (fr _ _ (by omega)), ch_Z_fr hZ (fr _ _ (by omega)) (fun _ => fr _ _ (by omega)) (fun _ => fr _ _ (by omega)), hT, hM, (fr _ _ (by omega)).trans hX.1, (fr _ _ (by omega)).trans hX.2.1, hX.2.2.1, hX.2.2.2.1, ?_, ?_, fun i o' a' b' c' hi => ?_⟩ (fun o i ho => fr o i (by omega))
      · show _ = kn (sm_L M ++ [(op, a, b, c)]).length
        rw [ku_self, kn_suc, List.length_append, List.length_singleton]
      · show (sm_L M ++ [(op, a, b, c)]).length ≤ 12
        rw [List.length_append, List.length_singleton]; omega
      · have hi : (sm_L M ++ [(op, a, b, c)])[i]? = some (o', a', b', c') := hi
        by_cases hl : i < (sm_L M).length
        · rw [List.getElem?_append_left hl] at hi
          obtain ⟨g1, g2, g3, g4⟩ := hL i o' a' b' c' hi
          refine ⟨?_, ?_, ?_, ?_⟩
          · rw [ku_ne (by omega), ku_ne (by omega), ku_ne (by omega), ku_ne (by omega), ku_ne (by omega)]; exact g1
          · rw [ku_ne (by omega), ku_ne (by omega), ku_ne (by omega), ku_ne (by omega), ku_ne (by omega)]; exact g2
          · rw [ku_ne (by omega), ku_ne (by omega), ku_ne (by omega), ku_ne (by omega), ku_ne (by omega)]; exact g3
          · rw [ku_ne (by omega), ku_ne (by omega), ku_ne (by omega), ku_ne (by omega), ku_ne (by omega)]; exact g4
        · have hi2 := (List.getElem?_eq_some_iff.mp hi).1
          rw [List.length_append, List.length_singleton] at hi2
          have : i = (sm_L M).length := by omega
          subst this
          rw [List.getElem?_append_right (Nat.le_refl _), Nat.sub_self] at hi
          injection hi with hi
          injection hi with g1 hi
          injection hi with g2 hi
          injection hi with g3 g4
          subst g1; subst g2; subst g3; subst g4
          refine ⟨?_, ?_, ?_, ?_⟩
          · rw [ku_ne (by omega), ku_ne (by omega), ku_ne (by omega), ku_ne (by omega), ku_self]
          · rw [ku_ne (by omega), ku_ne (by omega), ku_ne (by omega), ku_self]
          · rw [ku_ne (by omega), ku_ne (by omega), ku_self]
          · rw [ku_ne (by omega), ku_self]
    · rw [if_neg (fun z => e3 ((kn_lt (m := 12) (by omega) (by decide)).mpr z))] at k
      exact k S h0 rc_Fx_rf
theorem k_clear (h : rc_R S M τ) (k : ∀ S', rc_R S' (sp_clear M).2 τ → rc_Fx S S' → F (sp_clear M).1 S') : kK (d + 2) m_K_clear [.inr 0] S (kq F) := by
  obtain ⟨LT, LM, hW, hK, hZ, hT, hM, hX⟩ := h
  obtain ⟨h34, h12, hL⟩ := hX.2.2.2.2
  refine g_K_clear (g_Tr_empty ?_)
  rw [h34]
  have fr : ∀ o i, ¬ (o = 34) → ku S 34 4 0 o i = S o i := fun o i ho => ku_ne (by omega)
  exact k _ ⟨LT, LM, rc_W_fr hW (fun o i ho => fr o i (by omega)), rc_K_fr hK (fr _ _ (by omega)) (fr _ _ (by omega)) (fr _ _ (by omega)), ch_Z_fr hZ (fr _ _ (by omega)) (fun _ => fr _ _ (by omega)) (fun _ => fr _ _ (by omega)), hT, hM, (fr _ _ (by omega)).trans hX.1, (fr _ _ (by omega)).trans hX.2.1, hX.2.2.1, hX.2.2.2.1, ku_self, Nat.zero_le _, fun i o a b c e => by cases e⟩ (fun o i ho => fr o i (by omega))
end KPUB2
