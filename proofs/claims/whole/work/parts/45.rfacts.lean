/-! ===== THE REFERENCE: reads, what stands in a term, facts ===== -/
theorem rr_so {S : kS} {LT LM NT NM : List kF} (hS : rr_S S LT LM NT NM) {i : Nat} {t : kF} (h : LM[i]? = some t) : S 47 i = kn (fo_so t) ∧ fo_so t < 6 ∧ i < 250 := by
  obtain ⟨hL, _, _, _, hM, _⟩ := hS
  obtain ⟨⟨Γ, hw⟩, _, _⟩ := hL.2.2.2.2.1 t (rp_mem h)
  have hl : i < 250 := by have := rp_lt h; have := hL.2.2.2.2.2.2.1; omega
  refine ⟨?_, fo_so_le hw, hl⟩
  obtain ⟨_, _, h5, h5e, h6, h7⟩ := hM i t h
  rcases fo_wf_cases hw with ⟨s, k, A, rfl, ho⟩ | ⟨f, x, _, rfl, _⟩ | ⟨A, b, rfl, _⟩
  · rw [fo_so_lf]
    rcases ho.2 with q | ⟨q, _, a, ea⟩ | q | q
    · exact (h5 s k A rfl (by omega)).1
    · subst q; subst ea
      exact (h5e k _ _ rfl).1
    · exact (h5 s k A rfl (by omega)).1
    · exact (h5 s k A rfl (by omega)).1
  · exact (h6 f x rfl).1
  · exact (h7 A b rfl).1
theorem rr_wf {S : kS} {LT LM NT NM : List kF} (hS : rr_S S LT LM NT NM) {i : Nat} {t : kF} (h : LM[i]? = some t) : ∃ Γ, fo_wf Γ t := (hS.1.2.2.2.2.1 t (rp_mem h)).1
theorem rr_ap {S : kS} {LT LM NT NM : List kF} (hS : rr_S S LT LM NT NM) {i : Nat} {t : kF} (h : LM[i]? = some t) (e : S 47 i = 3) : ∃ f x a c, t = fo_ap f x ∧ LM[a]? = some f ∧ LM[c]? = some x ∧ S 48 i = kn a ∧ S 49 i = kn c ∧ a < i ∧ c < i := by
  obtain ⟨es, h6, _⟩ := rr_so hS h
  obtain ⟨Γ, hw⟩ := rr_wf hS h
  rw [es] at e
  obtain ⟨f, x, rfl⟩ := fo_so_3 hw (kn_inj (m := 3) (by omega) (by decide) e)
  obtain ⟨_, a, c, la, lc, ha, hc, e1, e2⟩ := (hS.2.2.2.2.1 i _ h).2.2.2.2.1 f x rfl
  exact ⟨f, x, a, c, rfl, ha, hc, e1, e2, la, lc⟩
section RRD
variable {d : Nat} {S : kS} {LT LM NT NM : List kF} {F : Int32 → kS → Prop}
theorem rm_isEq {i : Nat} {t : kF} (hS : rr_S S LT LM NT NM) (h : LM[i]? = some t) (k1 : ∀ l r, sp_sd t = some (l, r) → F 1 S) (k0 : sp_sd t = none → F 0 S) : kK (d + 1) m_Mo_isEquation [.inr 39, .inl (kn i)] S (kq F) := by
  have li := (rr_so hS h).2.2
  have hin : vp_in (kn i) 250 := kn_in li (by decide)
  refine g_Mo_isEquation ?_
  rw [kn_tn (by omega)]
  refine ⟨hin, fun e => k0 (sp_sd_none fun A l r et => e ?_), fun e => ?_⟩
  · have := (rr_so hS h).1
    rw [et] at this
    exact this
  · obtain ⟨f, x, a, c, rfl, ha, hc, e1, e2, la, lc⟩ := rr_ap hS h (Classical.not_not.mp e)
    have lia := (rr_so hS ha).2.2
    have hina : vp_in (kn a) 250 := kn_in lia (by decide)
    rw [e1, kn_tn (by omega)]
    refine ⟨hin, hina, fun e3 => k0 (sp_sd_none fun A l r et => e3 ?_), fun e3 => ?_⟩
    · have := (rr_so hS ha).1
      rw [(fo_ap_inj et).1] at this
      exact this
    · obtain ⟨g, y, b, q, rfl, hb, hq, e4, e5, lb, lq⟩ := rr_ap hS ha (Classical.not_not.mp e3)
      obtain ⟨es, h6, lib⟩ := rr_so hS hb
      rw [e4, kn_tn (by omega), es]
      refine ⟨hin, hina, kn_in lib (by decide), fun e6 => k0 (sp_sd_none fun A l r et => e6 ?_), fun e6 => ?_⟩
      · rw [(fo_ap_inj (fo_ap_inj et).1).1]; rfl
      · have h1 := kn_inj (m := 1) (by omega) (by decide) (Classical.not_not.mp e6)
        obtain ⟨Γ, hw⟩ := rr_wf hS hb
        obtain ⟨n, A, eg, ho⟩ := fo_so_l hw (by omega) (by omega)
        rw [h1] at eg ho
        have hn0 : n = 0 := by
          rcases ho.2 with z | z | z | z
          · omega
          · exact z.2.1
          · omega
          · omega
        subst hn0
        subst eg
        exact k1 y x sp_sd_some
/-- the sides of an equation by their places -/
theorem rr_sides {i : Nat} {t l r : kF} (hS : rr_S S LT LM NT NM) (h : LM[i]? = some t) (hs : sp_sd t = some (l, r)) : ∃ a j q, S 48 i = kn a ∧ a < 250 ∧ S 49 a = kn j ∧ LM[j]? = some l ∧ S 49 i = kn q ∧ LM[q]? = some r := by
  obtain ⟨A, rfl⟩ := sp_sd_inv hs
  obtain ⟨_, a, q, la, lq, ha, hq, e1, e2⟩ := (hS.2.2.2.2.1 i _ h).2.2.2.2.1 _ _ rfl
  obtain ⟨_, b, j, lb, lj, hb, hj, e3, e4⟩ := (hS.2.2.2.2.1 a _ ha).2.2.2.2.1 _ _ rfl
  exact ⟨a, j, q, e1, (rr_so hS ha).2.2, e4, hj, e2, hq⟩
theorem rm_left {i : Nat} {t l r : kF} (hS : rr_S S LT LM NT NM) (h : LM[i]? = some t) (hs : sp_sd t = some (l, r)) (k : ∀ j, LM[j]? = some l → F (kn j) S) : kK (d + 1) m_Mo_left [.inr 39, .inl (kn i)] S (kq F) := by
  have li := (rr_so hS h).2.2
  obtain ⟨a, j, q, e1, la, e2, hj, _⟩ := rr_sides hS h hs
  refine g_Mo_left ?_
  rw [kn_tn (by omega), e1, kn_tn (by omega), e2]
  exact ⟨kn_in li (by decide), kn_in la (by decide), k j hj⟩
theorem rm_fits {i j : Nat} {f x : kF} (hS : rr_S S LT LM NT NM) (hf : LM[i]? = some f) (hx : LM[j]? = some x) (k1 : ∀ B, fo_ty f = fo_ar (fo_ty x) B → F 1 S) (k0 : (∀ B, fo_ty f ≠ fo_ar (fo_ty x) B) → F 0 S) : kK (d + 1) m_Mo_fits [.inr 39, .inl (kn i), .inl (kn j)] S (kq F) := by
  have li := (rr_so hS hf).2.2
  have lj := (rr_so hS hx).2.2
  obtain ⟨_, ⟨y, hy, ey⟩, _⟩ := hS.2.2.2.2.1 i f hf
  obtain ⟨_, ⟨z, hz, ez⟩, _⟩ := hS.2.2.2.2.1 j x hx
  have hlT := hS.1.2.2.2.2.2.1
  have ly := rp_lt hy
  have lz := rp_lt hz
  obtain ⟨_, _, h3, h4⟩ := hS.2.2.2.1 y _ hy
  refine g_Mo_fits ?_
  rw [kn_tn (by omega), kn_tn (by omega), ey, ez, kn_tn (by omega)]
  refine ⟨kn_in li (by decide), kn_in (by omega) (by decide), fun e => k0 (fun B eB => e (h4 _ _ eB).1), fun e => ⟨kn_in (by omega) (by decide), kn_in lj (by decide), ?_⟩⟩
  rcases fo_tw_cases (hS.1.2.2.2.1 _ (rp_mem hy)).1 with ⟨q, hq, eq⟩ | ⟨a, b, eab, _⟩
  · rw [(h3 q eq).1] at e
    have hb := (rr_bc.2 q hq).1
    have := kn_inj (m := 4) (by omega) (by decide) (Classical.not_not.mp e)
    omega
  · obtain ⟨_, i', j', _, _, hi', _, e1, _⟩ := h4 a b eab
    have li' := rp_lt hi'
    rw [e1]
    refine ⟨fun e2 => k0 (fun B eB => e2 ?_), fun e2 => k1 b ?_⟩
    · rw [eab] at eB
      obtain ⟨rfl, _⟩ := fo_ar_inj eB
      rw [fo_ix hS.1.1 hi' hz]
    · have := kn_inj (by omega) (by omega) (Classical.not_not.mp e2)
      subst this
      rw [hi'] at hz
      injection hz with hz
      rw [eab, hz]
end RRD
theorem fo_oc_tr {x y : kF} {Γ : List kF} {t : kF} (hw : fo_wf Γ t) : fo_oc y t → fo_oc x y → fo_oc x t := by
  refine fo_wf_ind (P := fun _ t => fo_oc y t → fo_oc x y → fo_oc x t) ?_ ?_ ?_ hw
  · intro _ s k A _ h1 h2
    rw [fo_oc_lf] at h1
    rw [h1] at h2; exact h2
  · intro _ f z b _ _ hf hz _ h1 h2
    rw [fo_oc_ap] at h1
    rcases h1 with h1 | h1 | h1
    · rw [h1] at h2; exact h2
    · rw [fo_oc_ap]; exact Or.inr (Or.inl (hf h1 h2))
    · rw [fo_oc_ap]; exact Or.inr (Or.inr (hz h1 h2))
  · intro _ A b _ _ hb h1 h2
    rw [fo_oc_ab] at h1
    rcases h1 with h1 | h1
    · rw [h1] at h2; exact h2
    · rw [fo_oc_ab]; exact Or.inr (hb h1 h2)
/-- marks say what stands in a term -/
theorem rm_occ {S : kS} {LT LM NT NM : List kF} {N : Nat → Int32} {i : Nat} {T : kF} {x : Int32} (hS : rr_S S LT LM NT NM) (hi : LM[i]? = some T) (D : rm_D LM (rm_st 2 x) (rm_inc 2) N i T 0) : ∀ j t, LM[j]? = some t → (j ≤ i ∧ N (21 * j) ≠ 0 ↔ fo_oc t T) := by
  obtain ⟨D1, D2, D3⟩ := D
  have hnd := hS.1.2.1
  obtain ⟨Γ, wT⟩ := rr_wf hS hi
  have ns : ∀ u, ¬ rm_st 2 x u := fun u h => absurd h.1 (by decide)
  have inc0 : rm_inc 2 = 0 := rfl
  intro j t hj
  constructor
  · rintro ⟨h1, h2⟩
    have hR : rm_R LM (rm_st 2 x) (rm_inc 2) (fun u _ => fo_oc u T) := by
      intro u z e hu hz _
      refine ⟨fun f y ez => ?_, fun A y ez => ?_⟩
      · subst ez
        exact ⟨fo_oc_tr wT hz (by rw [fo_oc_ap]; exact Or.inr (Or.inl (fo_oc_self f))), fo_oc_tr wT hz (by rw [fo_oc_ap]; exact Or.inr (Or.inr (fo_oc_self y)))⟩
      · subst ez
        exact fo_oc_tr wT hz (by rw [fo_oc_ab]; exact Or.inr (fo_oc_self y))
    have e1 : 21 * j / 21 = j := by omega
    exact D2 (21 * j) t (by omega) h2 (by rw [e1]; exact hj) _ hR (fo_oc_self T)
  · intro h
    have key : ∀ {Γ : List kF} {z : kF}, fo_wf Γ z → ∀ u, u ≤ i → LM[u]? = some z → N (21 * u) ≠ 0 → fo_oc t z → j ≤ i ∧ N (21 * j) ≠ 0 := by
      intro Γ z hz
      refine fo_wf_ind (P := fun _ z => ∀ u, u ≤ i → LM[u]? = some z → N (21 * u) ≠ 0 → fo_oc t z → j ≤ i ∧ N (21 * j) ≠ 0) ?_ ?_ ?_ hz
      · intro _ s k A _ u hu hz hn ho
        rw [fo_oc_lf] at ho
        subst ho
        rw [fo_ix hnd hj hz]
        exact ⟨hu, hn⟩
      · intro _ f y b _ _ hf hy _ u hu hz hn ho
        obtain ⟨_, a, c, la, lc, ha, hc, _⟩ := (hS.2.2.2.2.1 u _ hz).2.2.2.2.1 f y rfl
        have e1 : 21 * u / 21 = u := by omega
        have e2 : 21 * u % 21 = 0 := by omega
        have := (D3 (21 * u) _ (Nat.zero_le _) (by omega) hn (by rw [e1]; exact hz) (ns _)).1 f y rfl a c ha hc
        rw [e2, Nat.add_zero, Nat.add_zero] at this
        rw [fo_oc_ap] at ho
        rcases ho with ho | ho | ho
        · subst ho
          rw [fo_ix hnd hj hz]
          exact ⟨hu, hn⟩
        · exact hf a (by omega) ha this.1 ho
        · exact hy c (by omega) hc this.2 ho
      · intro _ A y _ _ hy u hu hz hn ho
        obtain ⟨_, a, c, ha, lc, hc, _⟩ := (hS.2.2.2.2.1 u _ hz).2.2.2.2.2 A y rfl
        have e1 : 21 * u / 21 = u := by omega
        have e2 : 21 * u % 21 = 0 := by omega
        have := (D3 (21 * u) _ (Nat.zero_le _) (by omega) hn (by rw [e1]; exact hz) (ns _)).2 A y rfl c hc
        rw [e2, inc0] at this
        rw [fo_oc_ab] at ho
        rcases ho with ho | ho
        · subst ho
          rw [fo_ix hnd hj hz]
          exact ⟨hu, hn⟩
        · exact hy c (by omega) hc this ho
    exact key wT i (Nat.le_refl _) hi D1 h
theorem fo_cl {Γ : List kF} {T : kF} (hw : fo_wf Γ T) : (fo_af T = false ∧ fo_gn T = false) ↔ ∀ u, fo_oc u T → fo_so u ≠ 0 ∧ fo_gt (fo_ty u) = false := by
  refine fo_wf_ind (P := fun _ T => (fo_af T = false ∧ fo_gn T = false) ↔ ∀ u, fo_oc u T → fo_so u ≠ 0 ∧ fo_gt (fo_ty u) = false) ?_ ?_ ?_ hw
  · intro _ s k A _
    rw [fo_af_lf, fo_gn_lf]
    constructor
    · rintro ⟨h1, h2⟩ u hu
      rw [fo_oc_lf] at hu
      subst hu
      exact ⟨by rw [fo_so_lf]; simpa using h1, h2⟩
    · intro h
      have := h _ (fo_oc_self _)
      rw [fo_so_lf, fo_ty_lf] at this
      exact ⟨by simpa using this.1, this.2⟩
  · intro _ f x b _ _ hf hx _
    rw [fo_af_ap, fo_gn_ap, Bool.or_eq_false_iff, Bool.or_eq_false_iff, Bool.or_eq_false_iff]
    constructor
    · rintro ⟨⟨a1, a2⟩, a3, a4, a5⟩ u hu
      rw [fo_oc_ap] at hu
      rcases hu with rfl | hu | hu
      · exact ⟨by rw [fo_so_ap]; decide, a3⟩
      · exact hf.mp ⟨a1, a4⟩ u hu
      · exact hx.mp ⟨a2, a5⟩ u hu
    · intro h
      have h1 := hf.mpr (fun u hu => h u (by rw [fo_oc_ap]; exact Or.inr (Or.inl hu)))
      have h2 := hx.mpr (fun u hu => h u (by rw [fo_oc_ap]; exact Or.inr (Or.inr hu)))
      exact ⟨⟨h1.1, h2.1⟩, (h _ (fo_oc_self _)).2, h1.2, h2.2⟩
  · intro _ A b _ _ hb
    rw [fo_af_ab, fo_gn_ab, Bool.or_eq_false_iff]
    constructor
    · rintro ⟨a1, a2, a3⟩ u hu
      rw [fo_oc_ab] at hu
      rcases hu with rfl | hu
      · exact ⟨by rw [fo_so_ab]; decide, a2⟩
      · exact hb.mp ⟨a1, a3⟩ u hu
    · intro h
      have h1 := hb.mpr (fun u hu => h u (by rw [fo_oc_ab]; exact Or.inr hu))
      exact ⟨h1.1, (h _ (fo_oc_self _)).2, h1.2⟩
section RRD2
variable {d : Nat} {S : kS} {LT LM NT NM : List kF} {F : Int32 → kS → Prop}
theorem rm_has {i j : Nat} {t x : kF} (hS : rr_S S LT LM NT NM) (hi : LM[i]? = some t) (hj : LM[j]? = some x) (k1 : fo_oc x t → ∀ S', (∀ o q, o ≠ 61 → S' o q = S o q) → F 1 S') (k0 : ¬ fo_oc x t → ∀ S', (∀ o q, o ≠ 61 → S' o q = S o q) → F 0 S') : kK (d + 2) m_Mo_has [.inr 39, .inl (kn i), .inl (kn j)] S (kq F) := by
  have li := (rr_so hS hi).2.2
  have lj := (rr_so hS hj).2.2
  refine g_Mo_has (rm_mark (hw := 2) hS hi (by decide) (fun S2 o2 D => ?_))
  have occ := rm_occ hS hi D j x hj
  have k00 : 21 * kn j = kn (21 * j) := by rw [show (21 : Int32) = kn 21 from rfl, kn_mul]
  refine ⟨fun e => k0 (fun z => ?_) S2 o2, fun e => ?_⟩
  · have := (kn_lt (by omega) (by omega)).mp e
    have := (occ.mpr z).1
    omega
  · have hji : j ≤ i := by
      have : ¬ i < j := fun z => e ((kn_lt (by omega) (by omega)).mpr z)
      omega
    rw [k00, kn_tn (by omega)]
    exact ⟨kn_in (by omega) (by decide), fun e2 => k0 (fun z => (occ.mpr z).2 e2) S2 o2, fun e2 => k1 (occ.mp ⟨hji, e2⟩) S2 o2⟩
theorem rm_closed {i : Nat} {t : kF} (hS : rr_S S LT LM NT NM) (hi : LM[i]? = some t) (k1 : fo_af t = false → fo_gn t = false → ∀ S', (∀ o q, o ≠ 61 → S' o q = S o q) → F 1 S') (k0 : ¬ (fo_af t = false ∧ fo_gn t = false) → ∀ S', (∀ o q, o ≠ 61 → S' o q = S o q) → F 0 S') : kK (d + 2) m_Mo_closed [.inr 39, .inl (kn i)] S (kq F) := by
  have li := (rr_so hS hi).2.2
  obtain ⟨Γ, wt⟩ := rr_wf hS hi
  have li0 := rp_lt hi
  have hlT := hS.1.2.2.2.2.2.1
  refine g_Mo_closed (fun G hG => rm_mark (hw := 2) hS hi (by decide) (fun S2 o2 D => ?_))
  have occ := rm_occ hS hi D
  have loop : ∀ m q, q + m = i + 1 → ∀ v : Int32, (v = 1 ∧ (∀ n u, n < q → LM[n]? = some u → fo_oc u t → fo_so u ≠ 0 ∧ fo_gt (fo_ty u) = false) ∨ v = 0 ∧ ¬ (fo_af t = false ∧ fo_gn t = false)) → G 11 [some (.inr 39), some (.inl (kn i)), some (.inl v), some (.inl (kn q))] [] S2 := by
    intro m
    induction m with
    | zero =>
      intro q hq v hv
      refine f_Mo_closed_11 kspec_Mo hG ⟨fun _ => ?_, fun e => absurd ((kn_lt (by omega) (by omega)).mpr (by omega)) e⟩
      rcases hv with ⟨rfl, hv⟩ | ⟨rfl, hv⟩
      · have := (fo_cl wt).mpr (fun u hu => by
          have hm : u ∈ LM := by
            have : ∀ {Γ : List kF} {z : kF}, fo_wf Γ z → z ∈ LM → fo_oc u z → u ∈ LM := by
              intro Γ z hz
              refine fo_wf_ind (P := fun _ z => z ∈ LM → fo_oc u z → u ∈ LM) ?_ ?_ ?_ hz
              · intro _ s k A _ hz ho
                rw [fo_oc_lf] at ho; rw [ho]; exact hz
              · intro _ f y b _ _ hf hy _ hz ho
                have := hS.1.2.2.1.2.2.1 f y hz
                rw [fo_oc_ap] at ho
                rcases ho with ho | ho | ho
                · rw [ho]; exact hz
                · exact hf this.1 ho
                · exact hy this.2 ho
              · intro _ A y _ _ hy hz ho
                have := hS.1.2.2.1.2.2.2 A y hz
                rw [fo_oc_ab] at ho
                rcases ho with ho | ho
                · rw [ho]; exact hz
                · exact hy this ho
            exact this wt (rp_mem hi) hu
          obtain ⟨n, hn⟩ := rp_at hm
          exact hv n u (by have := ((occ n u hn).mpr hu).1; omega) hn hu)
        exact ⟨Or.inr rfl, k1 this.1 this.2 S2 o2⟩
      · exact ⟨Or.inl rfl, k0 hv S2 o2⟩
    | succ m ih =>
      intro q hq v hv
      have lq : q < LM.length := by omega
      have hu : LM[q]? = some LM[q] := List.getElem?_eq_getElem lq
      have k00 : 21 * kn q = kn (21 * q) := by rw [show (21 : Int32) = kn 21 from rfl, kn_mul]
      refine f_Mo_closed_11 kspec_Mo hG ⟨fun e => absurd ((kn_lt (by omega) (by omega)).mp e) (by omega), fun _ => ?_⟩
      rw [k00, kn_tn (by omega), kn_tn (by omega), kn_suc]
      refine ⟨fun e => ih (q + 1) (by omega) 0 (Or.inr ⟨rfl, ?_⟩), fun e => ?_⟩
      · rcases hv with ⟨rfl, _⟩ | ⟨_, hv⟩
        · exact absurd e (by decide)
        · exact hv
      · have hv : ∀ n u, n < q → LM[n]? = some u → fo_oc u t → fo_so u ≠ 0 ∧ fo_gt (fo_ty u) = false := by
          rcases hv with ⟨_, hv⟩ | ⟨hv, _⟩
          · exact hv
          · exact absurd hv e
        have go1 : (fo_oc LM[q] t → fo_so LM[q] ≠ 0 ∧ fo_gt (fo_ty LM[q]) = false) → G 11 [some (.inr 39), some (.inl (kn i)), some (.inl 1), some (.inl (kn (q + 1)))] [] S2 := by
          intro hq1
          refine ih (q + 1) (by omega) 1 (Or.inl ⟨rfl, fun n u hn hnu ho => ?_⟩)
          by_cases e : n = q
          · subst e
            rw [hu] at hnu
            injection hnu with hnu
            subst hnu
            exact hq1 ho
          · exact hv n u (by omega) hnu ho
        have go0 : fo_oc LM[q] t → ¬ (fo_so LM[q] ≠ 0 ∧ fo_gt (fo_ty LM[q]) = false) → G 11 [some (.inr 39), some (.inl (kn i)), some (.inl 0), some (.inl (kn (q + 1)))] [] S2 := fun ho hn => ih (q + 1) (by omega) 0 (Or.inr ⟨rfl, fun z => hn ((fo_cl wt).mp z _ ho)⟩)
        have lq250 : q < 250 := (rr_so hS hu).2.2
        have es : S2 47 q = kn (fo_so LM[q]) := (o2 _ _ (by decide)).trans (rr_so hS hu).1
        have h6 := (rr_so hS hu).2.1
        obtain ⟨_, ⟨y, hy, ey⟩, _⟩ := hS.2.2.2.2.1 q _ hu
        have ly := rp_lt hy
        have e50 : S2 50 q = kn y := (o2 _ _ (by decide)).trans ey
        have e44 : S2 44 y = kb (fo_gt (fo_ty LM[q])) := (o2 _ _ (by decide)).trans (hS.2.2.2.1 y _ hy).2.1
        rw [es, e50, kn_tn (by omega), e44]
        refine ⟨kn_in (by omega) (by decide), fun e2 => go1 (fun z => absurd e2 ((occ q _ hu).mpr z).2), fun e2 => ?_⟩
        have ho : fo_oc LM[q] t := (occ q _ hu).mp ⟨by omega, e2⟩
        refine ⟨kn_in lq250 (by decide), fun e3 => go0 ho (fun z => z.1 (kn_inj (m := 0) (by omega) (by decide) e3)), fun e3 => ⟨kn_in lq250 (by decide), kn_in (by omega) (by decide), fun e4 => go0 ho (fun z => by rw [z.2] at e4; exact e4 rfl), fun e4 => go1 (fun _ => ⟨fun z => e3 (by rw [z]; rfl), kb_zero.mp (Classical.not_not.mp e4)⟩)⟩⟩
  exact loop (i + 1) 0 (by omega) 1 (Or.inl ⟨rfl, fun n u hn => absurd hn (by omega)⟩)
end RRD2
