/-! ===== THE CLASS: changes of types and terms ===== -/
theorem rc_S_fr {S S' : kS} {LT LM : List kF} (h : rc_S S LT LM) (hf : ∀ o i, rc_cm o i → S' o i = S o i) : rc_S S' LT LM := by
  have hc : ∀ o, 5 ≤ o → o ≤ 9 → S' o = S o := fun o h1 h2 => funext fun i => hf o i (Or.inl (Or.inr ⟨h1, h2⟩))
  have hd : ∀ o, 14 ≤ o → o ≤ 24 → o ≠ 19 → S' o = S o := fun o h1 h2 h3 => funext fun i => hf o i (Or.inr (Or.inr ⟨h1, h2, h3⟩))
  refine ⟨h.1, ?_, ?_, rp_T_congr h.2.2.2.1 ?_, rc_M_congr h.2.2.2.2.1 ?_, rc_H_congr h.2.2.2.2.2 ?_⟩
  · rw [hf 1 6 (Or.inl (Or.inl ⟨rfl, rfl⟩))]; exact h.2.1
  · rw [hf 10 13 (Or.inr (Or.inl ⟨rfl, rfl⟩))]; exact h.2.2.1
  · intro o ho; exact hc o (by omega) (by omega)
  · intro o h1 h2 h3; exact hd o h1 (by omega) h3
  · intro o ho; exact hd o (by omega) (by omega) (by omega)
/-- the change that has begun -/
def ch_W (S : kS) (LT LM : List kF) (st : kF → Nat → Option kF) (rt : kF → kF) : Prop :=
  (∃ o p i j, S 30 5 = kn 0 ∧ LM[i]? = some o ∧ LM[j]? = some p ∧ S 30 6 = kn i ∧ S 30 7 = kn j ∧ st = fo_sR o p ∧ rt = id) ∨
  (∃ v c i j, S 30 5 = kn 1 ∧ (2 ≤ v ∧ v < 6) ∧ LT[i]? = some (fo_tb v) ∧ LT[j]? = some c ∧ S 30 6 = kn i ∧ S 30 7 = kn j ∧ st = fo_sN ∧ rt = fo_rt v c) ∨
  (∃ x i, S 30 5 = kn 2 ∧ LM[i]? = some x ∧ S 30 6 = kn i ∧ st = fo_sA x ∧ rt = id) ∨
  (∃ p j, S 30 5 = kn 3 ∧ LM[j]? = some p ∧ S 30 7 = kn j ∧ st = fo_sO p ∧ rt = id)
/-- the memories of this turn -/
def ch_M (S : kS) (LT LM : List kF) (st : kF → Nat → Option kF) (rt : kF → kF) : Prop := ∃ τ, S 30 4 = kn τ ∧ τ < 8388608 ∧
  (∀ u i, u < 20 → i < 250 → ∃ m p, m ≤ τ ∧ p < 256 ∧ S 31 (u * 250 + i) = kn (m * 256 + p) ∧ (m = τ → ∃ t, LM[i]? = some t ∧ LM[p]? = some (fo_im st rt t u))) ∧
  (∀ i, i < 50 → ∃ m p, m ≤ τ ∧ p < 256 ∧ S 32 i = kn (m * 256 + p) ∧ (m = τ → ∃ A, LT[i]? = some A ∧ LT[p]? = some (rt A)))
def rc_C (S : kS) (LT LM : List kF) (st : kF → Nat → Option kF) (rt : kF → kF) : Prop := rc_S S LT LM ∧ ch_W S LT LM st rt ∧ ch_M S LT LM st rt
theorem ch_W_gr {S S' : kS} {LT LM LT' LM' : List kF} {st : kF → Nat → Option kF} {rt : kF → kF} (h : ch_W S LT LM st rt) (p1 : LT <+: LT') (p2 : LM <+: LM') (h5 : S' 30 5 = S 30 5) (h6 : S' 30 6 = S 30 6) (h7 : S' 30 7 = S 30 7) : ch_W S' LT' LM' st rt := by
  unfold ch_W
  rw [h5, h6, h7]
  rcases h with ⟨o, p, i, j, a1, a2, a3, a4⟩ | ⟨v, c, i, j, a1, a2, a3, a4, a5⟩ | ⟨x, i, a1, a2, a3⟩ | ⟨p, j, a1, a2, a3⟩
  · exact Or.inl ⟨o, p, i, j, a1, rp_pre p2 a2, rp_pre p2 a3, a4⟩
  · exact Or.inr (Or.inl ⟨v, c, i, j, a1, a2, rp_pre p1 a3, rp_pre p1 a4, a5⟩)
  · exact Or.inr (Or.inr (Or.inl ⟨x, i, a1, rp_pre p2 a2, a3⟩))
  · exact Or.inr (Or.inr (Or.inr ⟨p, j, a1, rp_pre p2 a2, a3⟩))
theorem ch_M_gr {S S' : kS} {LT LM LT' LM' : List kF} {st : kF → Nat → Option kF} {rt : kF → kF} (h : ch_M S LT LM st rt) (p1 : LT <+: LT') (p2 : LM <+: LM') (h4 : S' 30 4 = S 30 4) (h31 : ∀ i, S' 31 i = S 31 i) (h32 : ∀ i, S' 32 i = S 32 i) : ch_M S' LT' LM' st rt := by
  obtain ⟨τ, a1, a2, a3, a4⟩ := h
  refine ⟨τ, h4.trans a1, a2, fun u i hu hi => ?_, fun i hi => ?_⟩
  · obtain ⟨m, p, b1, b2, b3, b4⟩ := a3 u i hu hi
    refine ⟨m, p, b1, b2, (h31 _).trans b3, fun e => ?_⟩
    obtain ⟨t, c1, c2⟩ := b4 e
    exact ⟨t, rp_pre p2 c1, rp_pre p2 c2⟩
  · obtain ⟨m, p, b1, b2, b3, b4⟩ := a4 i hi
    refine ⟨m, p, b1, b2, (h32 _).trans b3, fun e => ?_⟩
    obtain ⟨t, c1, c2⟩ := b4 e
    exact ⟨t, rp_pre p1 c1, rp_pre p1 c2⟩
theorem rc_ncm {o i : Nat} (h : o = 30 ∨ o = 31 ∨ o = 32) : ¬ rc_cm o i := by
  unfold rc_cm rc_ct; omega
theorem rc_C_gr {S S' : kS} {LT LM LT' LM' : List kF} {st : kF → Nat → Option kF} {rt : kF → kF} (h : rc_C S LT LM st rt) (g : rc_gr S LT LM S' LT' LM') : rc_C S' LT' LM' st rt :=
  ⟨g.1, ch_W_gr h.2.1 g.2.1 g.2.2.1 (g.2.2.2 _ _ (rc_ncm (by omega))) (g.2.2.2 _ _ (rc_ncm (by omega))) (g.2.2.2 _ _ (rc_ncm (by omega))), ch_M_gr h.2.2 g.2.1 g.2.2.1 (g.2.2.2 _ _ (rc_ncm (by omega))) (fun _ => g.2.2.2 _ _ (rc_ncm (by omega))) (fun _ => g.2.2.2 _ _ (rc_ncm (by omega)))⟩
theorem rc_C_gT {S S' : kS} {LT LM LT' : List kF} {st : kF → Nat → Option kF} {rt : kF → kF} (h : rc_C S LT LM st rt) (g : rc_S S' LT' LM) (p : LT <+: LT') (f : rc_FT S S') : rc_C S' LT' LM st rt := rc_C_gr h ⟨g, p, List.prefix_refl _, rc_FM_of f⟩
theorem ch_sh {m p : Nat} (h : m < 8388608) (hp : p < 256) : kn (m * 256 + p) >>> ((8 : Int32) &&& 31) = kn m ∧ kn (m * 256 + p) &&& 255 = kn p := by
  rw [kn_shr8 (by omega), kn_and255]
  exact ⟨by congr 1; omega, by congr 1; omega⟩
/-- what is remembered of a type -/
theorem rc_C_mT {S : kS} {LT LM : List kF} {st : kF → Nat → Option kF} {rt : kF → kF} (h : rc_C S LT LM st rt) {i j : Nat} {A : kF} (hi : LT[i]? = some A) (hj : LT[j]? = some (rt A)) : rc_C (ku S 32 i (((S 30 4) <<< ((8 : Int32) &&& 31)) ||| kn j)) LT LM st rt := by
  obtain ⟨hS, hW, τ, a1, a2, a3, a4⟩ := h
  have lj := rc_lT hS hj
  refine ⟨rc_S_fr hS (fun o k hk => ku_ne (fun e => rc_ncm (by omega) hk)), ch_W_gr hW (List.prefix_refl _) (List.prefix_refl _) (ku_ne (by omega)) (ku_ne (by omega)) (ku_ne (by omega)), τ, (ku_ne (by omega)).trans a1, a2, fun u k hu hk => ?_, fun k hk => ?_⟩
  · rw [ku_ne (by omega)]; exact a3 u k hu hk
  · by_cases e : k = i
    · subst e
      refine ⟨τ, j, Nat.le_refl _, by omega, ?_, fun _ => ⟨A, hi, hj⟩⟩
      rw [ku_self, a1]
      exact kn_mem a2 (by omega)
    · rw [ku_ne (by omega)]; exact a4 k hk
theorem rc_C_mM {S : kS} {LT LM : List kF} {st : kF → Nat → Option kF} {rt : kF → kF} (h : rc_C S LT LM st rt) {i j u : Nat} {t : kF} (hu : u < 20) (hi : LM[i]? = some t) (hj : LM[j]? = some (fo_im st rt t u)) : rc_C (ku S 31 (u * 250 + i) (((S 30 4) <<< ((8 : Int32) &&& 31)) ||| kn j)) LT LM st rt := by
  obtain ⟨hS, hW, τ, a1, a2, a3, a4⟩ := h
  have lj := rc_lM hS hj
  have li := rc_lM hS hi
  refine ⟨rc_S_fr hS (fun o k hk => ku_ne (fun e => rc_ncm (by omega) hk)), ch_W_gr hW (List.prefix_refl _) (List.prefix_refl _) (ku_ne (by omega)) (ku_ne (by omega)) (ku_ne (by omega)), τ, (ku_ne (by omega)).trans a1, a2, fun w k hw hk => ?_, fun k hk => ?_⟩
  · by_cases e : w * 250 + k = u * 250 + i
    · have e1 : w = u := by omega
      have e2 : k = i := by omega
      subst e1; subst e2
      refine ⟨τ, j, Nat.le_refl _, by omega, ?_, fun _ => ⟨t, hi, hj⟩⟩
      rw [ku_self, a1]
      exact kn_mem a2 (by omega)
    · rw [ku_ne (by omega)]; exact a3 w k hw hk
  · rw [ku_ne (by omega)]; exact a4 k hk
theorem rc_FC_32 {S : kS} {i : Nat} {x : Int32} : rc_FC S (ku S 32 i x) := fun o k h => ku_ne (fun e => h (Or.inr (Or.inr e.1)))
theorem rc_FC_31 {S : kS} {i : Nat} {x : Int32} : rc_FC S (ku S 31 i x) := fun o k h => ku_ne (fun e => h (Or.inr (Or.inl e.1)))
/-- a type with the change -/
theorem c_Ch_retyped {st : kF → Nat → Option kF} {rt : kF → kF} {LM : List kF} {A : kF} (hA : fo_tw A) : ∀ (D : Nat), 2 * fo_th A + 1 ≤ D → ∀ (S : kS) (LT : List kF) (i l : Nat) (F : Int32 → kS → Prop), rc_C S LT LM st rt → LT[i]? = some A → l + fo_th A ≤ 10 →
    (∀ r S' LT', rc_C S' LT' LM st rt → LT <+: LT' → rc_FC S S' → ((∃ j, LT'[j]? = some (rt A) ∧ r = kn j ∧ fo_mn LT LM LT' LM (fun U _ => U (rt A))) ∨ (r = -1 ∧ fo_no LT LM (fun U _ => U (rt A)))) → F r S') →
    kK D m_Ch_retyped [.inr 30, .inl (kn i), .inl (kn l)] S (kq F) := by
  refine fo_tw_ind (P := fun A => ∀ (D : Nat), 2 * fo_th A + 1 ≤ D → ∀ (S : kS) (LT : List kF) (i l : Nat) (F : Int32 → kS → Prop), rc_C S LT LM st rt → LT[i]? = some A → l + fo_th A ≤ 10 →
    (∀ r S' LT', rc_C S' LT' LM st rt → LT <+: LT' → rc_FC S S' → ((∃ j, LT'[j]? = some (rt A) ∧ r = kn j ∧ fo_mn LT LM LT' LM (fun U _ => U (rt A))) ∨ (r = -1 ∧ fo_no LT LM (fun U _ => U (rt A)))) → F r S') →
    kK D m_Ch_retyped [.inr 30, .inl (kn i), .inl (kn l)] S (kq F)) ?_ ?_ hA
  · intro q hq D hD S LT i l F hC hi hl k
    obtain ⟨d, rfl⟩ : ∃ d, D = d + 1 := ⟨D - 1, by have := fo_th_tb q; omega⟩
    have li := rc_lT hC.1 hi
    obtain ⟨_, g2, g3, _⟩ := hC.1.2.2.2.1 i _ hi
    have self : rt (fo_tb q) = fo_tb q → F (kn i) S := fun e => k _ _ LT hC (List.prefix_refl _) rc_FC_rf (Or.inl ⟨i, by rw [e]; exact hi, rfl, fo_mn_rf⟩)
    rcases hC.2.1 with ⟨o, p, a, b, w, _, _, _, _, _, rfl⟩ | ⟨v, c, a, b, w, hv, h1, h2, h3, h4, _, rfl⟩ | ⟨x, a, w, _, _, _, rfl⟩ | ⟨p, b, w, _, _, _, rfl⟩
    · exact g_Ch_retyped ⟨fun _ => self rfl, fun e => absurd (by rw [w]; decide) e⟩
    · refine g_Ch_retyped ⟨fun e => absurd (by rw [w]; rfl) e, fun _ => ⟨kn_in li (by decide), fun e => ⟨fun e2 => ⟨kn_in li (by decide), fun e3 => ?_, fun _ => self ?_⟩, fun e2 => ?_⟩, fun e => self ?_⟩⟩
      · rw [kn_tn (by omega), (g3 q rfl).1] at e3
        have hb := (rc_bc.2 q hq).1
        have := kn_inj (m := 3) (by omega) (by decide) e3
        omega
      · rw [fo_rt_tb]
        refine if_neg (fun e4 => e2 ?_)
        subst e4
        rw [h3, fo_ix hC.1.1.1 hi h1]
      · rw [h3] at e2
        have e3 := kn_inj (by omega) (by have := rc_lT hC.1 h1; omega) (Classical.not_not.mp e2)
        subst e3
        rw [h1] at hi
        injection hi with hi
        rw [h4]
        refine k _ _ LT hC (List.prefix_refl _) rc_FC_rf (Or.inl ⟨b, ?_, rfl, fo_mn_rf⟩)
        rw [← fo_tb_inj hi, fo_rt_tb, if_pos rfl]
        exact h2
      · rw [kn_tn (by omega), g2] at e
        exact fo_rt_id hv (fo_tw_tb hq) (kb_zero.mp (Classical.not_not.mp e))
    · exact g_Ch_retyped ⟨fun _ => self rfl, fun e => absurd (by rw [w]; decide) e⟩
    · exact g_Ch_retyped ⟨fun _ => self rfl, fun e => absurd (by rw [w]; decide) e⟩
  · intro x y hx hy ihx ihy D hD S LT i l F hC hi hl k
    rw [fo_th_ar] at hD hl
    obtain ⟨d, rfl⟩ : ∃ d, D = d + 3 := ⟨D - 3, by omega⟩
    have li := rc_lT hC.1 hi
    obtain ⟨_, g2, _, g4⟩ := hC.1.2.2.2.1 i _ hi
    have self : rt (fo_ar x y) = fo_ar x y → F (kn i) S := fun e => k _ _ LT hC (List.prefix_refl _) rc_FC_rf (Or.inl ⟨i, by rw [e]; exact hi, rfl, fo_mn_rf⟩)
    rcases hC.2.1 with ⟨o, p, a, b, w, _, _, _, _, _, rfl⟩ | ⟨v, c, a, b, w, hv, h1, h2, h3, h4, _, rfl⟩ | ⟨z, a, w, _, _, _, rfl⟩ | ⟨p, b, w, _, _, _, rfl⟩
    · exact g_Ch_retyped ⟨fun _ => self rfl, fun e => absurd (by rw [w]; decide) e⟩
    · refine g_Ch_retyped ⟨fun e => absurd (by rw [w]; rfl) e, fun _ => ⟨kn_in li (by decide), fun e => ⟨fun e2 => ⟨kn_in li (by decide), fun e3 => ⟨fun e4 => ⟨kn_in li (by decide), fun e5 => ?_, fun e5 => ⟨kn_in li (by decide), ?_⟩⟩, fun e4 => ?_⟩, fun e3 => ?_⟩, fun e2 => ?_⟩, fun e => self ?_⟩⟩
      · -- made anew
        rw [kn_suc, kn_tn (by omega)]
        obtain ⟨_, i1, i2, _, _, hi1, hi2, f1, f2⟩ := g4 x y rfl
        refine g_Ch_retypedParts ⟨kn_in li (by decide), ?_⟩
        rw [kn_tn (by omega), f1]
        refine ihx (d + 1) (by omega) S LT i1 (l + 1) _ hC hi1 (by omega) ?_
        intro r S1 LT1 c1 p1 q1 m1
        rcases m1 with ⟨j1, hj1, rfl, m1⟩ | ⟨rfl, n1⟩
        · refine ⟨fun _ => ⟨kn_in li (by decide), ?_⟩, fun e => absurd (kn_ge (by have := rc_lT c1.1 hj1; omega)) e⟩
          obtain ⟨_, i1', i2', _, _, _, hi2', _, f2'⟩ := (c1.1.2.2.2.1 i _ (rp_pre p1 hi)).2.2.2 x y rfl
          rw [f2']
          refine ihy (d + 1) (by omega) S1 LT1 i2' (l + 1) _ c1 hi2' (by omega) ?_
          intro r S2 LT2 c2 p2 q2 m2
          have sub : ∀ U V : kF → Prop, fo_Cl U V → U (fo_rt v c (fo_ar x y)) → U (fo_rt v c x) ∧ U (fo_rt v c y) := fun U V hc hg => hc.1 _ _ hg
          rcases m2 with ⟨j2, hj2, rfl, m2⟩ | ⟨rfl, n2⟩
          · refine c_Ty_store (t := fo_rt v c (fo_ar x y)) (s := 3) c2.1 (Or.inr ⟨_, _, rfl, rfl, rp_pre p2 hj1, hj2⟩) (by rw [fo_rt_ar]; exact fo_tw_ar (c2.1.1.2.2.2.1 _ (rp_mem (rp_pre p2 hj1))).1 (c2.1.1.2.2.2.1 _ (rp_mem hj2)).1) ?_
            intro r S3 LT3 s3 p3 q3 m3
            have c3 := rc_C_gT c2 s3 p3 q3
            have f3 : rc_FC S S3 := rc_FC_tr q1 (rc_FC_tr q2 (rc_FC_of (rc_FM_of q3)))
            have mm : fo_mn LT LM LT2 LM (fun U _ => U (fo_rt v c (fo_ar x y))) := fo_mn_tr m1 m2 (fun U V hc hg => (sub U V hc hg).1) (fun U V hc hg => (sub U V hc hg).2)
            rcases m3 with ⟨j3, hj3, rfl, m3⟩ | ⟨rfl, n3⟩
            · refine ⟨fun e => absurd e (kn_nn (by have := rc_lT s3 hj3; omega)), fun _ => ⟨kn_in li (by decide), ?_⟩⟩
              refine k _ _ LT3 (rc_C_mT c3 (rp_pre (p1.trans (p2.trans p3)) hi) hj3) (p1.trans (p2.trans p3)) (rc_FC_tr f3 rc_FC_32) (Or.inl ⟨j3, hj3, rfl, fo_mn_tr mm m3 (fun _ _ _ hg => hg) (fun _ _ _ hg => hg)⟩)
            · refine ⟨fun _ => k _ _ LT3 c3 (p1.trans (p2.trans p3)) f3 (Or.inr ⟨rfl, fo_no_2 mm n3 (fun _ _ _ hg => hg) (fun _ _ _ hg => hg)⟩), fun e => absurd kn_m1lt e⟩
          · refine c_Ty_store_no (Or.inr kn_m1lt) ⟨fun _ => k _ _ LT2 c2 (p1.trans p2) (rc_FC_tr q1 q2) (Or.inr ⟨rfl, fo_no_2 m1 n2 (fun U V hc hg => (sub U V hc hg).1) (fun U V hc hg => (sub U V hc hg).2)⟩), fun e => absurd kn_m1lt e⟩
        · refine ⟨fun e => absurd e (by decide), fun _ => ⟨fun _ => k _ _ LT1 c1 p1 q1 (Or.inr ⟨rfl, fo_no_1 n1 (fun U V hc hg => (hc.1 _ _ hg).1)⟩), fun e => absurd kn_m1lt e⟩⟩
      · -- remembered
        rw [kn_tn (by omega)] at e5 ⊢
        obtain ⟨τ, a1, a2, _, a4⟩ := hC.2.2
        obtain ⟨m, p, b1, b2, b3, b4⟩ := a4 i li
        have sh := ch_sh (m := m) (p := p) (by omega) b2
        rw [b3, sh.1, a1] at e5
        have em := kn_inj (by omega) (by omega) (Classical.not_not.mp e5)
        obtain ⟨A', c1, c2⟩ := b4 em
        rw [hi] at c1
        injection c1 with c1
        subst c1
        rw [b3, sh.2]
        exact k _ _ LT hC (List.prefix_refl _) rc_FC_rf (Or.inl ⟨p, c2, rfl, fo_mn_rf⟩)
      · exact absurd ((kn_lt (n := l) (m := 10) (by omega) (by decide)).mpr (by omega)) e4
      · rw [kn_tn (by omega)] at e3
        exact absurd (g4 x y rfl).1 e3
      · rw [h3] at e2
        have e3 := kn_inj (by omega) (by have := rc_lT hC.1 h1; omega) (Classical.not_not.mp e2)
        subst e3
        rw [h1] at hi
        injection hi with hi
        exact absurd hi.symm fo_ar_tb
      · rw [kn_tn (by omega), g2] at e
        exact fo_rt_id hv (fo_tw_ar hx hy) (kb_zero.mp (Classical.not_not.mp e))
    · exact g_Ch_retyped ⟨fun _ => self rfl, fun e => absurd (by rw [w]; decide) e⟩
    · exact g_Ch_retyped ⟨fun _ => self rfl, fun e => absurd (by rw [w]; decide) e⟩
