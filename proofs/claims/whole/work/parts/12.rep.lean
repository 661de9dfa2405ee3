/-! ===== WHAT THE CELLS HOLD: records of types and terms ===== -/
def rc_b (j : Nat) : Nat × Nat := if j < 2 then (0, j) else if j < 6 then (1, j - 2) else (2, j - 6)
def rr_b (j : Nat) : Nat × Nat := if j < 2 then (j, 0) else if j < 6 then (2, j - 2) else (3, j - 6)
/-- what is asked of a coding of the base types -/
def rp_bc (sA : Nat) (bc : Nat → Nat × Nat) : Prop := sA < 9 ∧ ∀ j, j < 9 → (bc j).1 < sA ∧ (bc j).2 < 9 ∧ ∀ i, i < 9 → bc i = bc j → i = j
theorem rc_bc : rp_bc 3 rc_b := by unfold rp_bc; decide
theorem rr_bc : rp_bc 4 rr_b := by unfold rp_bc; decide
def rp_t (S : kS) (cs ca cb ch cg sA : Nat) (bc : Nat → Nat × Nat) (LT : List kF) (k : Nat) (t : kF) : Prop :=
  S ch k = kn (fo_th t) ∧ S cg k = kb (fo_gt t) ∧ (∀ j, t = fo_tb j → S cs k = kn (bc j).1 ∧ S ca k = kn (bc j).2 ∧ S cb k = kn 0) ∧
  (∀ a b, t = fo_ar a b → S cs k = kn sA ∧ ∃ i j, i < k ∧ j < k ∧ LT[i]? = some a ∧ LT[j]? = some b ∧ S ca k = kn i ∧ S cb k = kn j)
def rp_T (S : kS) (cs ca cb ch cg sA : Nat) (bc : Nat → Nat × Nat) (LT : List kF) : Prop := ∀ k t, LT[k]? = some t → rp_t S cs ca cb ch cg sA bc LT k t
/-- the record that type t has or would have -/
def rp_q (sA : Nat) (bc : Nat → Nat × Nat) (LT : List kF) (t : kF) (s a b : Nat) : Prop :=
  (∃ j, j < 9 ∧ t = fo_tb j ∧ s = (bc j).1 ∧ a = (bc j).2 ∧ b = 0) ∨ (∃ x y, t = fo_ar x y ∧ s = sA ∧ LT[a]? = some x ∧ LT[b]? = some y)
theorem rp_lt {L : List kF} {k : Nat} {t : kF} (h : L[k]? = some t) : k < L.length := (List.getElem?_eq_some_iff.mp h).1
theorem rp_mem {L : List kF} {k : Nat} {t : kF} (h : L[k]? = some t) : t ∈ L := List.mem_of_getElem? h
theorem rp_at {L : List kF} {t : kF} (h : t ∈ L) : ∃ k : Nat, L[k]? = some t := List.getElem?_of_mem h
theorem rp_hit {S : kS} {cs ca cb ch cg sA : Nat} {bc : Nat → Nat × Nat} {LT : List kF} (hn : LT.Nodup) (hT : rp_T S cs ca cb ch cg sA bc LT) {k : Nat} {t : kF} (hk : LT[k]? = some t) {s a b : Nat} (hq : rp_q sA bc LT t s a b) : S cs k = kn s ∧ S ca k = kn a ∧ S cb k = kn b := by
  obtain ⟨_, _, h3, h4⟩ := hT k t hk
  rcases hq with ⟨j, _, e, rfl, rfl, rfl⟩ | ⟨x, y, e, rfl, ha, hb⟩
  · exact h3 j e
  · obtain ⟨h5, i, j, _, _, hi, hj, h6, h7⟩ := h4 x y e
    rw [fo_ix hn ha hi, fo_ix hn hb hj]
    exact ⟨h5, h6, h7⟩
theorem rp_found {S : kS} {cs ca cb ch cg sA : Nat} {bc : Nat → Nat × Nat} (hbc : rp_bc sA bc) {LT : List kF} (hl : LT.length ≤ 50) (hT : rp_T S cs ca cb ch cg sA bc LT) {k : Nat} {t u : kF} (hk : LT[k]? = some u) (hw : fo_tw u) {s a b : Nat} (hq : rp_q sA bc LT t s a b) (e1 : S cs k = kn s) (e2 : S ca k = kn a) (e3 : S cb k = kn b) : u = t := by
  obtain ⟨_, _, h3, h4⟩ := hT k u hk
  rcases fo_tw_cases hw with ⟨i, hi, rfl⟩ | ⟨x, y, rfl, _⟩
  · obtain ⟨f1, f2, f3⟩ := h3 i rfl
    have hbi := hbc.2 i hi
    rcases hq with ⟨j, hj, rfl, rfl, rfl, rfl⟩ | ⟨x, y, rfl, rfl, ha, hb⟩
    · have hbj := hbc.2 j hj
      have g1 := kn_inj (by have := hbc.1; omega) (by have := hbc.1; omega) (f1.symm.trans e1)
      have g2 := kn_inj (by omega) (by omega) (f2.symm.trans e2)
      rw [hbj.2.2 i hi (Prod.ext g1 g2)]
    · have g1 := kn_inj (by have := hbc.1; omega) (by have := hbc.1; omega) (f1.symm.trans e1)
      omega
  · obtain ⟨f0, i, j, _, _, hi, hj, f1, f2⟩ := h4 x y rfl
    have li := rp_lt hi
    have lj := rp_lt hj
    rcases hq with ⟨m, hm, rfl, rfl, rfl, rfl⟩ | ⟨x', y', rfl, rfl, ha, hb⟩
    · have hbm := hbc.2 m hm
      have g1 := kn_inj (by have := hbc.1; omega) (by have := hbc.1; omega) (f0.symm.trans e1)
      omega
    · have la := rp_lt ha
      have lb := rp_lt hb
      have g1 := kn_inj (by omega) (by omega) (f1.symm.trans e2)
      have g2 := kn_inj (by omega) (by omega) (f2.symm.trans e3)
      subst g1; subst g2
      rw [hi] at ha; rw [hj] at hb
      injection ha with ha; injection hb with hb
      rw [ha, hb]
/-- one more type: what is asked of the new cells -/
theorem rp_add {S S' : kS} {cs ca cb ch cg sA : Nat} {bc : Nat → Nat × Nat} {LT : List kF} {t : kF} (hT : rp_T S cs ca cb ch cg sA bc LT) {s a b : Nat} (hq : rp_q sA bc LT t s a b)
    (ho : ∀ o k, (o = cs ∨ o = ca ∨ o = cb ∨ o = ch ∨ o = cg) → k < LT.length → S' o k = S o k)
    (e1 : S' cs LT.length = kn s) (e2 : S' ca LT.length = kn a) (e3 : S' cb LT.length = kn b) (e4 : S' ch LT.length = kn (fo_th t)) (e5 : S' cg LT.length = kb (fo_gt t)) : rp_T S' cs ca cb ch cg sA bc (LT ++ [t]) := by
  intro k u hk
  by_cases hl : k < LT.length
  · rw [List.getElem?_append_left hl] at hk
    obtain ⟨h1, h2, h3, h4⟩ := hT k u hk
    refine ⟨by rw [ho ch k (by simp) hl]; exact h1, by rw [ho cg k (by simp) hl]; exact h2, fun j e => ?_, fun x y e => ?_⟩
    · rw [ho cs k (by simp) hl, ho ca k (by simp) hl, ho cb k (by simp) hl]
      exact h3 j e
    · obtain ⟨f0, i, j, li, lj, hi, hj, f1, f2⟩ := h4 x y e
      rw [ho cs k (by simp) hl, ho ca k (by simp) hl, ho cb k (by simp) hl]
      exact ⟨f0, i, j, li, lj, by rw [List.getElem?_append_left (rp_lt hi)]; exact hi, by rw [List.getElem?_append_left (rp_lt hj)]; exact hj, f1, f2⟩
  · have hk2 := rp_lt hk
    rw [List.length_append, List.length_singleton] at hk2
    have : k = LT.length := by omega
    subst this
    rw [List.getElem?_append_right (Nat.le_refl _), Nat.sub_self] at hk
    injection hk with hk
    subst hk
    refine ⟨e4, e5, fun j e => ?_, fun x y e => ?_⟩
    · rcases hq with ⟨i, _, rfl, rfl, rfl, rfl⟩ | ⟨x, y, rfl, _⟩
      · rw [fo_tb_inj e] at e1 e2
        exact ⟨e1, e2, e3⟩
      · exact absurd e fo_ar_tb
    · rcases hq with ⟨i, _, rfl, rfl, rfl, rfl⟩ | ⟨x', y', rfl, rfl, ha, hb⟩
      · exact absurd e.symm fo_ar_tb
      · obtain ⟨rfl, rfl⟩ := fo_ar_inj e
        exact ⟨e1, a, b, rp_lt ha, rp_lt hb, by rw [List.getElem?_append_left (rp_lt ha)]; exact ha, by rw [List.getElem?_append_left (rp_lt hb)]; exact hb, e2, e3⟩
theorem rp_T_congr {S S' : kS} {cs ca cb ch cg sA : Nat} {bc : Nat → Nat × Nat} {LT : List kF} (hT : rp_T S cs ca cb ch cg sA bc LT) (ho : ∀ o, (o = cs ∨ o = ca ∨ o = cb ∨ o = ch ∨ o = cg) → S' o = S o) : rp_T S' cs ca cb ch cg sA bc LT := by
  intro k u hk
  have h := hT k u hk
  unfold rp_t at h ⊢
  rw [ho cs (by simp), ho ca (by simp), ho cb (by simp), ho ch (by simp), ho cg (by simp)]
  exact h
/-- the first n types alone -/
theorem rp_T_take {S : kS} {cs ca cb ch cg sA : Nat} {bc : Nat → Nat × Nat} {LT LT' : List kF} (hT : rp_T S cs ca cb ch cg sA bc LT') (hp : LT <+: LT') : rp_T S cs ca cb ch cg sA bc LT := by
  obtain ⟨r, rfl⟩ := hp
  intro k u hk
  have hl := rp_lt hk
  obtain ⟨h1, h2, h3, h4⟩ := hT k u (by rw [List.getElem?_append_left hl]; exact hk)
  refine ⟨h1, h2, h3, fun x y e => ?_⟩
  obtain ⟨f0, i, j, li, lj, hi, hj, f1, f2⟩ := h4 x y e
  exact ⟨f0, i, j, li, lj, by rw [List.getElem?_append_left (by omega)] at hi; exact hi, by rw [List.getElem?_append_left (by omega)] at hj; exact hj, f1, f2⟩
/-- a term's record in the class: sort, first, second, type -/
def rc_m (S : kS) (LT LM : List kF) (k : Nat) (t : kF) : Prop :=
  S 21 k = kn (fo_ht t) ∧ S 18 k = kb (fo_gn t) ∧ S 20 k = kb (fo_af t) ∧ (∃ i, LT[i]? = some (fo_ty t) ∧ S 17 k = kn i) ∧
  (∀ s j A, t = fo_lf s j A → S 14 k = kn s ∧ S 15 k = kn j ∧ S 16 k = kn 0) ∧
  (∀ f x, t = fo_ap f x → S 14 k = kn 3 ∧ ∃ i j, i < k ∧ j < k ∧ LM[i]? = some f ∧ LM[j]? = some x ∧ S 15 k = kn i ∧ S 16 k = kn j) ∧
  (∀ A b, t = fo_ab A b → S 14 k = kn 4 ∧ ∃ i, i < k ∧ LM[i]? = some b ∧ S 15 k = kn i ∧ S 16 k = kn i)
def rc_M (S : kS) (LT LM : List kF) : Prop := ∀ k t, LM[k]? = some t → rc_m S LT LM k t
def rc_q (LT LM : List kF) (t : kF) (s a b y : Nat) : Prop := LT[y]? = some (fo_ty t) ∧ ((∃ A, t = fo_lf s a A ∧ b = 0 ∧ (s = 0 ∨ s = 1 ∨ s = 2 ∨ s = 5) ∧ a < 250) ∨ (∃ f x, t = fo_ap f x ∧ s = 3 ∧ LM[a]? = some f ∧ LM[b]? = some x) ∨ (∃ A c, t = fo_ab A c ∧ s = 4 ∧ LM[a]? = some c ∧ b = a))
theorem rc_hit {S : kS} {LT LM : List kF} (hnT : LT.Nodup) (hn : LM.Nodup) (hM : rc_M S LT LM) {k : Nat} {t : kF} (hk : LM[k]? = some t) {s a b y : Nat} (hq : rc_q LT LM t s a b y) : S 14 k = kn s ∧ S 15 k = kn a ∧ S 16 k = kn b ∧ S 17 k = kn y := by
  obtain ⟨_, _, _, ⟨i0, h0, e0⟩, h3, h4, h5⟩ := hM k t hk
  obtain ⟨hy, hq⟩ := hq
  rw [fo_ix hnT hy h0]
  rcases hq with ⟨A, e, rfl, _⟩ | ⟨f, x, e, rfl, ha, hb⟩ | ⟨A, c, e, rfl, ha, rfl⟩
  · obtain ⟨g1, g2, g3⟩ := h3 s a A e
    exact ⟨g1, g2, g3, e0⟩
  · obtain ⟨g1, i, j, _, _, hi, hj, g2, g3⟩ := h4 f x e
    rw [fo_ix hn ha hi, fo_ix hn hb hj]
    exact ⟨g1, g2, g3, e0⟩
  · obtain ⟨g1, i, _, hi, g2, g3⟩ := h5 A c e
    rw [fo_ix hn ha hi]
    exact ⟨g1, g2, g3, e0⟩
theorem rc_found {S : kS} {LT LM : List kF} (hlT : LT.length ≤ 50) (hl : LM.length ≤ 250) (hM : rc_M S LT LM) {k : Nat} {t u : kF} (hk : LM[k]? = some u) (hok : fo_ok u) {s a b y : Nat} (hq : rc_q LT LM t s a b y) (e1 : S 14 k = kn s) (e2 : S 15 k = kn a) (e3 : S 16 k = kn b) (e4 : S 17 k = kn y) : u = t := by
  obtain ⟨_, _, _, ⟨i0, h0, e0⟩, h3, h4, h5⟩ := hM k u hk
  obtain ⟨hy, hq⟩ := hq
  have l0 := rp_lt h0
  have ly := rp_lt hy
  have g0 := kn_inj (by omega) (by omega) (e0.symm.trans e4)
  subst g0
  rw [h0] at hy
  injection hy with hy
  obtain ⟨⟨Γ, hw⟩, _, hb20⟩ := hok
  rcases fo_wf_cases hw with ⟨s', j, A, rfl, ho⟩ | ⟨f, x, B, rfl, _⟩ | ⟨A, c, rfl, _⟩
  · obtain ⟨g1, g2, g3⟩ := h3 s' j A rfl
    have hj := hb20 s' j A rfl
    have hs : s' = 0 ∨ s' = 1 ∨ s' = 2 ∨ s' = 5 := by
      rcases ho.2 with q | q | q | q
      · exact Or.inl q.1
      · exact Or.inr (Or.inl q.1)
      · exact Or.inr (Or.inr (Or.inl q.1))
      · exact Or.inr (Or.inr (Or.inr q.1))
    rcases hq with ⟨A', rfl, rfl, hs', ha⟩ | ⟨f, x, rfl, rfl, ha, hb⟩ | ⟨A', c, rfl, rfl, ha, rfl⟩
    · have f1 := kn_inj (by omega) (by omega) (g1.symm.trans e1)
      have f2 := kn_inj (by omega) (by omega) (g2.symm.trans e2)
      rw [fo_ty_lf, fo_ty_lf] at hy
      rw [f1, f2, hy]
    · have f1 := kn_inj (by omega) (by omega) (g1.symm.trans e1)
      omega
    · have f1 := kn_inj (by omega) (by omega) (g1.symm.trans e1)
      omega
  · obtain ⟨g1, i, j, _, _, hi, hj, g2, g3⟩ := h4 f x rfl
    have li := rp_lt hi
    have lj := rp_lt hj
    rcases hq with ⟨A', rfl, rfl, hs', ha⟩ | ⟨f', x', rfl, rfl, ha, hb⟩ | ⟨A', c, rfl, rfl, ha, rfl⟩
    · have f1 := kn_inj (by omega) (by omega) (g1.symm.trans e1)
      omega
    · have la := rp_lt ha
      have lb := rp_lt hb
      have f1 := kn_inj (by omega) (by omega) (g2.symm.trans e2)
      have f2 := kn_inj (by omega) (by omega) (g3.symm.trans e3)
      subst f1; subst f2
      rw [hi] at ha; rw [hj] at hb
      injection ha with ha; injection hb with hb
      rw [ha, hb]
    · have f1 := kn_inj (by omega) (by omega) (g1.symm.trans e1)
      omega
  · obtain ⟨g1, i, _, hi, g2, g3⟩ := h5 A c rfl
    have li := rp_lt hi
    rcases hq with ⟨A', rfl, rfl, hs', ha⟩ | ⟨f', x', rfl, rfl, ha, hb⟩ | ⟨A', c', rfl, rfl, ha, rfl⟩
    · have f1 := kn_inj (by omega) (by omega) (g1.symm.trans e1)
      omega
    · have f1 := kn_inj (by omega) (by omega) (g1.symm.trans e1)
      omega
    · have la := rp_lt ha
      have f1 := kn_inj (by omega) (by omega) (g2.symm.trans e2)
      subst f1
      rw [hi] at ha
      injection ha with ha
      subst ha
      rw [fo_ty_ab, fo_ty_ab] at hy
      rw [(fo_ar_inj hy).1]
theorem rc_add {S S' : kS} {LT LM : List kF} {t : kF} {s a b y : Nat} (hM : rc_M S LT LM) (hq : rc_q LT LM t s a b y)
    (ho : ∀ o k, 14 ≤ o → o ≤ 21 → o ≠ 19 → k < LM.length → S' o k = S o k)
    (e1 : S' 14 LM.length = kn s) (e2 : S' 15 LM.length = kn a) (e3 : S' 16 LM.length = kn b) (e4 : S' 17 LM.length = kn y)
    (e5 : S' 21 LM.length = kn (fo_ht t)) (e6 : S' 18 LM.length = kb (fo_gn t)) (e7 : S' 20 LM.length = kb (fo_af t)) : rc_M S' LT (LM ++ [t]) := by
  intro k u hk
  by_cases hl : k < LM.length
  · rw [List.getElem?_append_left hl] at hk
    obtain ⟨h1, h2, h3, h4, h5, h6, h7⟩ := hM k u hk
    unfold rc_m
    rw [ho 14 k (by decide) (by decide) (by decide) hl, ho 15 k (by decide) (by decide) (by decide) hl, ho 16 k (by decide) (by decide) (by decide) hl, ho 17 k (by decide) (by decide) (by decide) hl, ho 18 k (by decide) (by decide) (by decide) hl, ho 20 k (by decide) (by decide) (by decide) hl, ho 21 k (by decide) (by decide) (by decide) hl]
    refine ⟨h1, h2, h3, h4, h5, fun f x e => ?_, fun A c e => ?_⟩
    · obtain ⟨g0, i, j, li, lj, hi, hj, g1, g2⟩ := h6 f x e
      exact ⟨g0, i, j, li, lj, by rw [List.getElem?_append_left (rp_lt hi)]; exact hi, by rw [List.getElem?_append_left (rp_lt hj)]; exact hj, g1, g2⟩
    · obtain ⟨g0, i, li, hi, g1, g2⟩ := h7 A c e
      exact ⟨g0, i, li, by rw [List.getElem?_append_left (rp_lt hi)]; exact hi, g1, g2⟩
  · have hk2 := rp_lt hk
    rw [List.length_append, List.length_singleton] at hk2
    have : k = LM.length := by omega
    subst this
    rw [List.getElem?_append_right (Nat.le_refl _), Nat.sub_self] at hk
    injection hk with hk
    subst hk
    obtain ⟨hy, hq⟩ := hq
    refine ⟨e5, e6, e7, ⟨y, hy, e4⟩, fun s' j A e => ?_, fun f x e => ?_, fun A c e => ?_⟩
    · rcases hq with ⟨A', rfl, rfl, _⟩ | ⟨f, x, rfl, _⟩ | ⟨A', c, rfl, _⟩
      · obtain ⟨rfl, rfl, rfl⟩ := fo_lf_inj e
        exact ⟨e1, e2, e3⟩
      · exact absurd e fo_ap_lf
      · exact absurd e fo_ab_lf
    · rcases hq with ⟨A', rfl, rfl, _⟩ | ⟨f', x', rfl, rfl, ha, hb⟩ | ⟨A', c, rfl, _⟩
      · exact absurd e.symm fo_ap_lf
      · obtain ⟨rfl, rfl⟩ := fo_ap_inj e
        exact ⟨e1, a, b, rp_lt ha, rp_lt hb, by rw [List.getElem?_append_left (rp_lt ha)]; exact ha, by rw [List.getElem?_append_left (rp_lt hb)]; exact hb, e2, e3⟩
      · exact absurd e.symm fo_ap_ab
    · rcases hq with ⟨A', rfl, rfl, _⟩ | ⟨f', x', rfl, _⟩ | ⟨A', c', rfl, rfl, ha, rfl⟩
      · exact absurd e.symm fo_ab_lf
      · exact absurd e fo_ap_ab
      · obtain ⟨rfl, rfl⟩ := fo_ab_inj e
        exact ⟨e1, _, rp_lt ha, by rw [List.getElem?_append_left (rp_lt ha)]; exact ha, e2, e3⟩
theorem rp_pre {L L' : List kF} (h : L <+: L') {k : Nat} {t : kF} (e : L[k]? = some t) : L'[k]? = some t := by
  obtain ⟨r, rfl⟩ := h
  rw [List.getElem?_append_left (rp_lt e)]
  exact e
theorem rc_M_T {S : kS} {LT LT' LM : List kF} (hM : rc_M S LT LM) (h : LT <+: LT') : rc_M S LT' LM := by
  intro k u hk
  obtain ⟨h1, h2, h3, ⟨i, h4, h5⟩, h6⟩ := hM k u hk
  exact ⟨h1, h2, h3, ⟨i, rp_pre h h4, h5⟩, h6⟩
theorem rc_M_congr {S S' : kS} {LT LM : List kF} (hM : rc_M S LT LM) (ho : ∀ o, 14 ≤ o → o ≤ 21 → o ≠ 19 → S' o = S o) : rc_M S' LT LM := by
  intro k u hk
  have h := hM k u hk
  unfold rc_m at h ⊢
  rw [ho 14 (by decide) (by decide) (by decide), ho 15 (by decide) (by decide) (by decide), ho 16 (by decide) (by decide) (by decide), ho 17 (by decide) (by decide) (by decide), ho 18 (by decide) (by decide) (by decide), ho 20 (by decide) (by decide) (by decide), ho 21 (by decide) (by decide) (by decide)]
  exact h
theorem rc_M_take {S : kS} {LT LT' LM LM' : List kF} (hM : rc_M S LT' LM') (hn : LT'.Nodup) (hT : LT <+: LT') (hL : LM <+: LM') (hy : ∀ x ∈ LM, fo_ty x ∈ LT) : rc_M S LT LM := by
  intro k u hk
  obtain ⟨h1, h2, h3, ⟨i, h4, h5⟩, h6, h7, h8⟩ := hM k u (rp_pre hL hk)
  obtain ⟨i', h9⟩ := rp_at (hy u (rp_mem hk))
  have := fo_ix hn (rp_pre hT h9) h4
  subst this
  have hl := rp_lt hk
  obtain ⟨r, rfl⟩ := hL
  refine ⟨h1, h2, h3, ⟨i', h9, h5⟩, h6, fun f x e => ?_, fun A c e => ?_⟩
  · obtain ⟨g0, i, j, li, lj, hi, hj, g1, g2⟩ := h7 f x e
    exact ⟨g0, i, j, li, lj, by rw [List.getElem?_append_left (by omega)] at hi; exact hi, by rw [List.getElem?_append_left (by omega)] at hj; exact hj, g1, g2⟩
  · obtain ⟨g0, i, li, hi, g1, g2⟩ := h8 A c e
    exact ⟨g0, i, li, by rw [List.getElem?_append_left (by omega)] at hi; exact hi, g1, g2⟩
/-- a term's record in the reference -/
def rr_m (S : kS) (LT LM : List kF) (k : Nat) (t : kF) : Prop :=
  S 51 k = kn (fo_ht t) ∧ (∃ i, LT[i]? = some (fo_ty t) ∧ S 50 k = kn i) ∧
  (∀ s j A, t = fo_lf s j A → s ≠ 1 → S 47 k = kn s ∧ S 48 k = kn j ∧ S 49 k = kn 0) ∧
  (∀ j x y, t = fo_lf 1 j (fo_ar x y) → S 47 k = kn 1 ∧ (∃ i, LT[i]? = some x ∧ S 48 k = kn i) ∧ S 49 k = kn 0) ∧
  (∀ f x, t = fo_ap f x → S 47 k = kn 3 ∧ ∃ i j, i < k ∧ j < k ∧ LM[i]? = some f ∧ LM[j]? = some x ∧ S 48 k = kn i ∧ S 49 k = kn j) ∧
  (∀ A b, t = fo_ab A b → S 47 k = kn 4 ∧ ∃ i j, LT[i]? = some A ∧ j < k ∧ LM[j]? = some b ∧ S 48 k = kn i ∧ S 49 k = kn j)
def rr_M (S : kS) (LT LM : List kF) : Prop := ∀ k t, LM[k]? = some t → rr_m S LT LM k t
def rr_q (LT LM : List kF) (t : kF) (s a b y : Nat) : Prop := LT[y]? = some (fo_ty t) ∧ ((∃ A, t = fo_lf s a A ∧ b = 0 ∧ (s = 0 ∨ s = 2 ∨ s = 5) ∧ a < 250) ∨ (∃ x, t = fo_lf 1 0 (fo_ar x (fo_ar x (fo_tb 0))) ∧ s = 1 ∧ LT[a]? = some x ∧ b = 0) ∨ (∃ f x, t = fo_ap f x ∧ s = 3 ∧ LM[a]? = some f ∧ LM[b]? = some x) ∨ (∃ A c, t = fo_ab A c ∧ s = 4 ∧ LT[a]? = some A ∧ LM[b]? = some c))
theorem rr_hit {S : kS} {LT LM : List kF} (hnT : LT.Nodup) (hn : LM.Nodup) (hM : rr_M S LT LM) {k : Nat} {t : kF} (hk : LM[k]? = some t) {s a b y : Nat} (hq : rr_q LT LM t s a b y) : S 47 k = kn s ∧ S 48 k = kn a ∧ S 49 k = kn b ∧ S 50 k = kn y := by
  obtain ⟨_, ⟨i0, h0, e0⟩, h3, h3e, h4, h5⟩ := hM k t hk
  obtain ⟨hy, hq⟩ := hq
  rw [fo_ix hnT hy h0]
  rcases hq with ⟨A, e, rfl, hs, _⟩ | ⟨x, e, rfl, ha, rfl⟩ | ⟨f, x, e, rfl, ha, hb⟩ | ⟨A, c, e, rfl, ha, hb⟩
  · obtain ⟨g1, g2, g3⟩ := h3 s a A e (by omega)
    exact ⟨g1, g2, g3, e0⟩
  · obtain ⟨g1, ⟨i, hi, g2⟩, g3⟩ := h3e 0 x _ e
    rw [fo_ix hnT ha hi]
    exact ⟨g1, g2, g3, e0⟩
  · obtain ⟨g1, i, j, _, _, hi, hj, g2, g3⟩ := h4 f x e
    rw [fo_ix hn ha hi, fo_ix hn hb hj]
    exact ⟨g1, g2, g3, e0⟩
  · obtain ⟨g1, i, j, hi, _, hj, g2, g3⟩ := h5 A c e
    rw [fo_ix hnT ha hi, fo_ix hn hb hj]
    exact ⟨g1, g2, g3, e0⟩
theorem rr_found {S : kS} {LT LM : List kF} (hlT : LT.length ≤ 50) (hl : LM.length ≤ 250) (hM : rr_M S LT LM) {k : Nat} {t u : kF} (hk : LM[k]? = some u) (hok : fo_ok u) {s a b y : Nat} (hq : rr_q LT LM t s a b y) (e1 : S 47 k = kn s) (e2 : S 48 k = kn a) (e3 : S 49 k = kn b) (e4 : S 50 k = kn y) : u = t := by
  obtain ⟨_, ⟨i0, h0, e0⟩, h3, h3e, h4, h5⟩ := hM k u hk
  obtain ⟨hy, hq⟩ := hq
  have l0 := rp_lt h0
  have ly := rp_lt hy
  have g0 := kn_inj (by omega) (by omega) (e0.symm.trans e4)
  subst g0
  rw [h0] at hy
  injection hy with hy
  obtain ⟨⟨Γ, hw⟩, _, hb20⟩ := hok
  rcases fo_wf_cases hw with ⟨s', j, A, rfl, ho⟩ | ⟨f, x, B, rfl, _⟩ | ⟨A, c, rfl, _⟩
  · have hj := hb20 s' j A rfl
    have hs : s' = 0 ∨ s' = 1 ∧ j = 0 ∧ (∃ a, A = fo_ar a (fo_ar a (fo_tb 0))) ∨ s' = 2 ∨ s' = 5 := by
      rcases ho.2 with q | q | q | q
      · exact Or.inl q.1
      · exact Or.inr (Or.inl q)
      · exact Or.inr (Or.inr (Or.inl q.1))
      · exact Or.inr (Or.inr (Or.inr q.1))
    have gs : S 47 k = kn s' ∧ S 49 k = kn 0 := by
      rcases hs with rfl | ⟨rfl, rfl, z, rfl⟩ | rfl | rfl
      · exact ⟨(h3 _ _ _ rfl (by decide)).1, (h3 _ _ _ rfl (by decide)).2.2⟩
      · exact ⟨(h3e _ _ _ rfl).1, (h3e _ _ _ rfl).2.2⟩
      · exact ⟨(h3 _ _ _ rfl (by decide)).1, (h3 _ _ _ rfl (by decide)).2.2⟩
      · exact ⟨(h3 _ _ _ rfl (by decide)).1, (h3 _ _ _ rfl (by decide)).2.2⟩
    rcases hq with ⟨A', rfl, rfl, hs', ha⟩ | ⟨x, rfl, rfl, ha, rfl⟩ | ⟨f, x, rfl, rfl, ha, hb⟩ | ⟨A', c, rfl, rfl, ha, hb⟩
    · have f1 := kn_inj (by omega) (by omega) (gs.1.symm.trans e1)
      subst f1
      have f2 := kn_inj (by omega) (by omega) ((h3 _ _ _ rfl (by omega)).2.1.symm.trans e2)
      rw [fo_ty_lf, fo_ty_lf] at hy
      rw [f2, hy]
    · have f1 := kn_inj (by omega) (by omega) (gs.1.symm.trans e1)
      subst f1
      rw [fo_ty_lf, fo_ty_lf] at hy
      rcases hs with q | ⟨_, rfl, _⟩ | q | q
      · omega
      · rw [hy]
      · omega
      · omega
    · have f1 := kn_inj (by omega) (by omega) (gs.1.symm.trans e1)
      omega
    · have f1 := kn_inj (by omega) (by omega) (gs.1.symm.trans e1)
      omega
  · obtain ⟨g1, i, j, _, _, hi, hj, g2, g3⟩ := h4 f x rfl
    have li := rp_lt hi
    have lj := rp_lt hj
    rcases hq with ⟨A', rfl, rfl, hs', ha⟩ | ⟨x, rfl, rfl, ha, rfl⟩ | ⟨f', x', rfl, rfl, ha, hb⟩ | ⟨A', c, rfl, rfl, ha, hb⟩
    · have f1 := kn_inj (by omega) (by omega) (g1.symm.trans e1)
      omega
    · have f1 := kn_inj (by omega) (by omega) (g1.symm.trans e1)
      omega
    · have la := rp_lt ha
      have lb := rp_lt hb
      have f1 := kn_inj (by omega) (by omega) (g2.symm.trans e2)
      have f2 := kn_inj (by omega) (by omega) (g3.symm.trans e3)
      subst f1; subst f2
      rw [hi] at ha; rw [hj] at hb
      injection ha with ha; injection hb with hb
      rw [ha, hb]
    · have f1 := kn_inj (by omega) (by omega) (g1.symm.trans e1)
      omega
  · obtain ⟨g1, i, j, hi, _, hj, g2, g3⟩ := h5 A c rfl
    have li := rp_lt hi
    have lj := rp_lt hj
    rcases hq with ⟨A', rfl, rfl, hs', ha⟩ | ⟨x, rfl, rfl, ha, rfl⟩ | ⟨f', x', rfl, rfl, ha, hb⟩ | ⟨A', c', rfl, rfl, ha, hb⟩
    · have f1 := kn_inj (by omega) (by omega) (g1.symm.trans e1)
      omega
    · have f1 := kn_inj (by omega) (by omega) (g1.symm.trans e1)
      omega
    · have f1 := kn_inj (by omega) (by omega) (g1.symm.trans e1)
      omega
    · have la := rp_lt ha
      have lb := rp_lt hb
      have f1 := kn_inj (by omega) (by omega) (g2.symm.trans e2)
      have f2 := kn_inj (by omega) (by omega) (g3.symm.trans e3)
      subst f1; subst f2
      rw [hi] at ha; rw [hj] at hb
      injection ha with ha; injection hb with hb
      rw [ha, hb]
theorem rr_add {S S' : kS} {LT LM : List kF} {t : kF} {s a b y : Nat} (hM : rr_M S LT LM) (hq : rr_q LT LM t s a b y)
    (ho : ∀ o k, 47 ≤ o → o ≤ 51 → k < LM.length → S' o k = S o k)
    (e1 : S' 47 LM.length = kn s) (e2 : S' 48 LM.length = kn a) (e3 : S' 49 LM.length = kn b) (e4 : S' 50 LM.length = kn y)
    (e5 : S' 51 LM.length = kn (fo_ht t)) : rr_M S' LT (LM ++ [t]) := by
  intro k u hk
  by_cases hl : k < LM.length
  · rw [List.getElem?_append_left hl] at hk
    obtain ⟨h1, h2, h3, h4, h6, h7⟩ := hM k u hk
    unfold rr_m
    rw [ho 47 k (by decide) (by decide) hl, ho 48 k (by decide) (by decide) hl, ho 49 k (by decide) (by decide) hl, ho 50 k (by decide) (by decide) hl, ho 51 k (by decide) (by decide) hl]
    refine ⟨h1, h2, h3, h4, fun f x e => ?_, fun A c e => ?_⟩
    · obtain ⟨g0, i, j, li, lj, hi, hj, g1, g2⟩ := h6 f x e
      exact ⟨g0, i, j, li, lj, by rw [List.getElem?_append_left (rp_lt hi)]; exact hi, by rw [List.getElem?_append_left (rp_lt hj)]; exact hj, g1, g2⟩
    · obtain ⟨g0, i, j, hi, lj, hj, g1, g2⟩ := h7 A c e
      exact ⟨g0, i, j, hi, lj, by rw [List.getElem?_append_left (rp_lt hj)]; exact hj, g1, g2⟩
  · have hk2 := rp_lt hk
    rw [List.length_append, List.length_singleton] at hk2
    have : k = LM.length := by omega
    subst this
    rw [List.getElem?_append_right (Nat.le_refl _), Nat.sub_self] at hk
    injection hk with hk
    subst hk
    obtain ⟨hy, hq⟩ := hq
    refine ⟨e5, ⟨y, hy, e4⟩, fun s' j A e hs => ?_, fun j x y e => ?_, fun f x e => ?_, fun A c e => ?_⟩
    · rcases hq with ⟨A', rfl, rfl, _⟩ | ⟨x, rfl, rfl, _⟩ | ⟨f, x, rfl, _⟩ | ⟨A', c, rfl, _⟩
      · obtain ⟨rfl, rfl, rfl⟩ := fo_lf_inj e
        exact ⟨e1, e2, e3⟩
      · exact absurd (fo_lf_inj e).1.symm hs
      · exact absurd e fo_ap_lf
      · exact absurd e fo_ab_lf
    · rcases hq with ⟨A', rfl, rfl, hs', _⟩ | ⟨x', rfl, rfl, ha, rfl⟩ | ⟨f, x, rfl, _⟩ | ⟨A', c, rfl, _⟩
      · have := (fo_lf_inj e).1
        omega
      · obtain ⟨rfl, _⟩ := fo_ar_inj (fo_lf_inj e).2.2
        exact ⟨e1, ⟨a, ha, e2⟩, e3⟩
      · exact absurd e fo_ap_lf
      · exact absurd e fo_ab_lf
    · rcases hq with ⟨A', rfl, rfl, _⟩ | ⟨x', rfl, rfl, _⟩ | ⟨f', x', rfl, rfl, ha, hb⟩ | ⟨A', c, rfl, _⟩
      · exact absurd e.symm fo_ap_lf
      · exact absurd e.symm fo_ap_lf
      · obtain ⟨rfl, rfl⟩ := fo_ap_inj e
        exact ⟨e1, a, b, rp_lt ha, rp_lt hb, by rw [List.getElem?_append_left (rp_lt ha)]; exact ha, by rw [List.getElem?_append_left (rp_lt hb)]; exact hb, e2, e3⟩
      · exact absurd e.symm fo_ap_ab
    · rcases hq with ⟨A', rfl, rfl, _⟩ | ⟨x', rfl, rfl, _⟩ | ⟨f', x', rfl, _⟩ | ⟨A', c', rfl, rfl, ha, hb⟩
      · exact absurd e.symm fo_ab_lf
      · exact absurd e.symm fo_ab_lf
      · exact absurd e fo_ap_ab
      · obtain ⟨rfl, rfl⟩ := fo_ab_inj e
        exact ⟨e1, a, b, ha, rp_lt hb, by rw [List.getElem?_append_left (rp_lt hb)]; exact hb, e2, e3⟩
theorem rr_M_T {S : kS} {LT LT' LM : List kF} (hM : rr_M S LT LM) (h : LT <+: LT') : rr_M S LT' LM := by
  intro k u hk
  obtain ⟨h1, ⟨i, h4, h5⟩, h6, h7, h8, h9⟩ := hM k u hk
  refine ⟨h1, ⟨i, rp_pre h h4, h5⟩, h6, fun j x y e => ?_, h8, fun A c e => ?_⟩
  · obtain ⟨g1, ⟨i, g2, g3⟩, g4⟩ := h7 j x y e
    exact ⟨g1, ⟨i, rp_pre h g2, g3⟩, g4⟩
  · obtain ⟨g0, i, j, hi, lj, hj, g1, g2⟩ := h9 A c e
    exact ⟨g0, i, j, rp_pre h hi, lj, hj, g1, g2⟩
theorem rr_M_congr {S S' : kS} {LT LM : List kF} (hM : rr_M S LT LM) (ho : ∀ o, 47 ≤ o → o ≤ 51 → S' o = S o) : rr_M S' LT LM := by
  intro k u hk
  have h := hM k u hk
  unfold rr_m at h ⊢
  rw [ho 47 (by decide) (by decide), ho 48 (by decide) (by decide), ho 49 (by decide) (by decide), ho 50 (by decide) (by decide), ho 51 (by decide) (by decide)]
  exact h
theorem rr_M_take {S : kS} {LT LT' LM LM' : List kF} (hM : rr_M S LT' LM') (hn : LT'.Nodup) (hT : LT <+: LT') (hL : LM <+: LM') (hc : fo_Cl (· ∈ LT) (· ∈ LM)) : rr_M S LT LM := by
  have hone : ∀ (i : Nat) (x : kF), x ∈ LT → LT'[i]? = some x → LT[i]? = some x := by
    intro i x hx hi
    obtain ⟨i', h9⟩ := rp_at hx
    have := fo_ix hn (rp_pre hT h9) hi
    subst this
    exact h9
  intro k u hk
  have hu := rp_mem hk
  obtain ⟨h1, ⟨i, h4, h5⟩, h6, h7, h8, h9⟩ := hM k u (rp_pre hL hk)
  have hl := rp_lt hk
  obtain ⟨r, rfl⟩ := hL
  refine ⟨h1, ⟨i, hone i _ (hc.2.1 u hu) h4, h5⟩, h6, fun j x y e => ?_, fun f x e => ?_, fun A c e => ?_⟩
  · obtain ⟨g1, ⟨i, g2, g3⟩, g4⟩ := h7 j x y e
    have := hc.2.1 u hu
    rw [e, fo_ty_lf] at this
    exact ⟨g1, ⟨i, hone i x (hc.1 x y this).1 g2, g3⟩, g4⟩
  · obtain ⟨g0, i, j, li, lj, hi, hj, g1, g2⟩ := h8 f x e
    exact ⟨g0, i, j, li, lj, by rw [List.getElem?_append_left (by omega)] at hi; exact hi, by rw [List.getElem?_append_left (by omega)] at hj; exact hj, g1, g2⟩
  · obtain ⟨g0, i, j, hi, lj, hj, g1, g2⟩ := h9 A c e
    have := hc.2.1 u hu
    rw [e, fo_ty_ab] at this
    exact ⟨g0, i, j, hone i A (hc.1 A _ this).1 hi, lj, by rw [List.getElem?_append_left (by omega)] at hj; exact hj, g1, g2⟩
