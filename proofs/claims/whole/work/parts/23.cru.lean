/-! ===== THE CLASS: what the rules stand on ===== -/
noncomputable def sp_bp (P : kF → Prop) (l : List kF) : List kF := l.filter (fun h => @decide (¬ P h) (Classical.propDecidable _))
theorem sp_bp_cons_in {P : kF → Prop} {h : kF} {l : List kF} (e : P h) : sp_bp P (h :: l) = sp_bp P l := by
  unfold sp_bp
  rw [List.filter_cons_of_neg]
  simpa using e
theorem sp_bp_cons_out {P : kF → Prop} {h : kF} {l : List kF} (e : ¬ P h) : sp_bp P (h :: l) = h :: sp_bp P l := by
  unfold sp_bp
  rw [List.filter_cons_of_pos]
  simpa using e
theorem sp_bp_none {P : kF → Prop} (e : ∀ h, ¬ P h) : ∀ l, sp_bp P l = l
  | [] => rfl
  | h :: l => by rw [sp_bp_cons_out (e h), sp_bp_none e l]
theorem sp_bp_bt {q : kF} {l : List kF} : sp_bp (fun h => h = q) l = sp_bt q l := rfl
theorem c_Fa_assumeAllBut {d : Nat} {S : kS} {LT LM D : List kF} {FS : List kQ} {b : Bool} {x y : Int32} {q : kQ} {P : kF → Prop} {F : kS → Prop} (hS : rc_S S LT LM) (hA : rc_A S LM FS) (hD : rc_D S LM D b) (hq : sp_at FS x = some q) (hP : ∀ i t, LM[i]? = some t → (kn i = y ↔ P t)) (k : ∀ S' D' b', rc_FD S S' → rc_D S' LM D' b' → (∀ l, sp_ds D b (sp_bp P q.2 ++ l) = sp_ds D' b' l) → F S') : kK (d + 3) m_Fa_assumeAllBut [.inr 25, .inl x, .inl y] S (kv F) := by
  refine g_Fa_assumeAllBut (fun G h => ?_)
  have loop : ∀ m j, j + m = q.2.length → ∀ S1 D1 b1, rc_S S1 LT LM → rc_A S1 LM FS → rc_D S1 LM D1 b1 → rc_FD S S1 → (∀ l, sp_ds D b (sp_bp P q.2 ++ l) = sp_ds D1 b1 (sp_bp P (q.2.drop j) ++ l)) → G 2 [some (.inr 25), some (.inl x), some (.inl y), some (.inl (kn j))] [] S1 := by
    intro m
    induction m with
    | zero =>
      intro j hj S1 D1 b1 s1 a1 d1 f1 e1
      refine f_Fa_assumeAllBut_2 kspec_Mo h (c_Fa_sizeOf a1 (fun q' hq' h12 => ?_) (fun e => by rw [hq] at e; cases e))
      rw [hq] at hq'
      injection hq' with hq'
      subst hq'
      refine ⟨fun _ => k S1 D1 b1 f1 d1 (fun l => ?_), fun e => absurd ((kn_le (by omega) (by omega)).mpr (by omega)) e⟩
      rw [e1 l, List.drop_of_length_le (by omega)]
      rfl
    | succ m ih =>
      intro j hj S1 D1 b1 s1 a1 d1 f1 e1
      have hjl : j < q.2.length := by omega
      have hu : q.2[j]? = some q.2[j] := List.getElem?_eq_getElem hjl
      have hdrop : q.2.drop j = q.2[j] :: q.2.drop (j + 1) := List.drop_eq_getElem_cons hjl
      refine f_Fa_assumeAllBut_2 kspec_Mo h (c_Fa_sizeOf a1 (fun q' hq' h12 => ?_) (fun e => by rw [hq] at e; cases e))
      rw [hq] at hq'
      injection hq' with hq'
      subst hq'
      refine ⟨fun e => absurd ((kn_le (by omega) (by omega)).mp e) (by omega), fun _ => c_Fa_hypothesis a1 hq hu (fun i hi => ⟨fun e => ?_, fun e => ?_⟩)⟩
      · rw [kn_suc]
        refine ih (j + 1) (by omega) S1 D1 b1 s1 a1 d1 f1 (fun l => ?_)
        rw [e1 l, hdrop, sp_bp_cons_in ((hP i _ hi).mp e)]
      · refine c_Fa_hypothesis a1 hq hu (fun i2 hi2 => c_Fa_assume s1 d1 hi2 (fun S2 D2 b2 f2 d2 e2 => ?_))
        rw [kn_suc]
        refine ih (j + 1) (by omega) S2 D2 b2 (rc_S_fd s1 f2) (rc_A_fd a1 f2) d2 (rc_FD_tr f1 f2) (fun l => ?_)
        rw [e1 l, hdrop, sp_bp_cons_out (fun z => e ((hP i _ hi).mpr z)), List.cons_append, e2]
  exact loop q.2.length 0 (by omega) S D b hS hA hD rc_FD_rf (fun l => rfl)
theorem c_Fa_assumeAllBut_no {d : Nat} {S : kS} {LM : List kF} {FS : List kQ} {x y : Int32} {F : kS → Prop} (hA : rc_A S LM FS) (hq : sp_at FS x = none) (k : F S) : kK (d + 3) m_Fa_assumeAllBut [.inr 25, .inl x, .inl y] S (kv F) := by
  refine g_Fa_assumeAllBut (fun G h => f_Fa_assumeAllBut_2 kspec_Mo h (c_Fa_sizeOf hA (fun q' hq' _ => by rw [hq] at hq'; cases hq') (fun _ => ⟨fun _ => k, fun e => absurd (by decide) e⟩)))
/-- cells that a rule may write -/
def rc_cr (o i : Nat) : Prop := rc_cc o i ∨ (o = 25 ∧ 4 ≤ i ∧ i ≤ 6) ∨ (26 ≤ o ∧ o ≤ 29) ∨ o = 30 ∨ o = 19
def rc_FR (S S' : kS) : Prop := ∀ o i, ¬ rc_cr o i → S' o i = S o i
theorem rc_FR_rf {S : kS} : rc_FR S S := fun _ _ _ => rfl
theorem rc_FR_tr {S S1 S2 : kS} (h1 : rc_FR S S1) (h2 : rc_FR S1 S2) : rc_FR S S2 := fun o i h => (h2 o i h).trans (h1 o i h)
theorem rc_FR_c {S S' : kS} (h : rc_FC S S') : rc_FR S S' := fun o i q => h o i (fun e => q (Or.inl e))
theorem rc_FR_d {S S' : kS} (h : rc_FD S S') : rc_FR S S' := fun o i q => h o i (fun e => q (by unfold rc_cd at e; unfold rc_cr; omega))
/-- a rule's end -/
def ru_en (FS : List kQ) (LT LM LT' LM' : List kF) (o : Option kQ) (r : Int32) (FS' : List kQ) : Prop :=
  (∃ c raw hs, o = some (c, raw) ∧ sp_ds [] false raw = (hs, false) ∧ FS.length < 60 ∧ r = kn FS.length ∧ FS' = FS ++ [(c, hs)] ∧ c ∈ LM' ∧ (∀ h, h ∈ raw → h ∈ LM') ∧ fo_mn LT LM LT' LM' (sp_g c raw)) ∨
  (r = -1 ∧ FS' = FS ∧ (o = none ∨ ∃ c raw, o = some (c, raw) ∧ ((sp_ds [] false raw).2 = true ∨ 60 ≤ FS.length ∨ fo_no LT LM (sp_g c raw))))
def ru_po (S : kS) (LT LM : List kF) (FS : List kQ) (NT NM : List kF) (τ : Nat) (o : Option kQ) (r : Int32) (S' : kS) : Prop := ∃ LT' LM' FS' τ', rc_W S' LT' LM' FS' NT NM ∧ LT <+: LT' ∧ LM <+: LM' ∧ rc_FR S S' ∧ ch_Z S' τ' ∧ τ' ≤ τ + 2 ∧ ru_en FS LT LM LT' LM' o r FS'
/-- where a rule stands: from S, now at S1 -/
def ru_at (S : kS) (LT LM : List kF) (FS : List kQ) (NT NM : List kF) (τ : Nat) (S1 : kS) (LT1 LM1 D : List kF) (b : Bool) (τ1 : Nat) : Prop := rc_W S1 LT1 LM1 FS NT NM ∧ rc_D S1 LM1 D b ∧ LT <+: LT1 ∧ LM <+: LM1 ∧ rc_FR S S1 ∧ ch_Z S1 τ1 ∧ τ1 ≤ τ + 2
theorem ru_fail {S : kS} {LT LM : List kF} {FS : List kQ} {NT NM : List kF} {τ : Nat} {S1 : kS} {LT1 LM1 D : List kF} {b : Bool} {τ1 : Nat} {o : Option kQ} (h : ru_at S LT LM FS NT NM τ S1 LT1 LM1 D b τ1) (e : o = none ∨ ∃ c raw, o = some (c, raw) ∧ ((sp_ds [] false raw).2 = true ∨ 60 ≤ FS.length ∨ fo_no LT LM (sp_g c raw))) : ru_po S LT LM FS NT NM τ o (-1) S1 :=
  ⟨LT1, LM1, FS, τ1, h.1, h.2.2.1, h.2.2.2.1, h.2.2.2.2.1, h.2.2.2.2.2.1, h.2.2.2.2.2.2, Or.inr ⟨rfl, rfl, e⟩⟩
theorem ch_Z_cd {S S' : kS} {τ : Nat} (h : ch_Z S τ) (f : rc_FD S S') : ch_Z S' τ := ch_Z_fr h (f _ _ (by unfold rc_cd; omega)) (fun _ => f _ _ (by unfold rc_cd; omega)) (fun _ => f _ _ (by unfold rc_cd; omega))
theorem ch_Z_fm {S S' : kS} {τ : Nat} (h : ch_Z S τ) (f : rc_FM S S') : ch_Z S' τ := ch_Z_fr h (f _ _ (rc_ncm (by omega))) (fun _ => f _ _ (rc_ncm (by omega))) (fun _ => f _ _ (rc_ncm (by omega)))
/-- a making without changes -/
theorem ru_at_gr {S : kS} {LT LM : List kF} {FS : List kQ} {NT NM : List kF} {τ : Nat} {S1 S2 : kS} {LT1 LM1 LT2 LM2 D : List kF} {b : Bool} {τ1 : Nat} (h : ru_at S LT LM FS NT NM τ S1 LT1 LM1 D b τ1) (g : rc_gr S1 LT1 LM1 S2 LT2 LM2) : ru_at S LT LM FS NT NM τ S2 LT2 LM2 D b τ1 :=
  ⟨rc_W_gr h.1 g.1 g.2.1 g.2.2.1 (rc_FC_of g.2.2.2), rc_D_gr h.2.1 g.2.2.1 (rc_FC_of g.2.2.2), h.2.2.1.trans g.2.1, h.2.2.2.1.trans g.2.2.1, rc_FR_tr h.2.2.2.2.1 (rc_FR_c (rc_FC_of g.2.2.2)), ch_Z_fm h.2.2.2.2.2.1 g.2.2.2, h.2.2.2.2.2.2⟩
/-- hypotheses given -/
theorem ru_at_fd {S : kS} {LT LM : List kF} {FS : List kQ} {NT NM : List kF} {τ : Nat} {S1 S2 : kS} {LT1 LM1 D D2 : List kF} {b b2 : Bool} {τ1 : Nat} (h : ru_at S LT LM FS NT NM τ S1 LT1 LM1 D b τ1) (f : rc_FD S1 S2) (d : rc_D S2 LM1 D2 b2) : ru_at S LT LM FS NT NM τ S2 LT1 LM1 D2 b2 τ1 :=
  ⟨rc_W_fd h.1 f, d, h.2.2.1, h.2.2.2.1, rc_FR_tr h.2.2.2.2.1 (rc_FR_d f), ch_Z_cd h.2.2.2.2.2.1 f, h.2.2.2.2.2.2⟩
theorem c_Fa_close_no {d : Nat} {S : kS} {x : Int32} {F : Int32 → kS → Prop} (h : x < 0) (k : F (-1) S) : kK (d + 1) m_Fa_close [.inr 25, .inl x] S (kq F) :=
  g_Fa_close ⟨fun _ => k, fun e => absurd h e⟩
set_option maxHeartbeats 1000000 in
theorem c_Fa_close {d : Nat} {S : kS} {LT LM D : List kF} {FS : List kQ} {NT NM : List kF} {b : Bool} {i : Nat} {c : kF} {F : Int32 → kS → Prop} (hW : rc_W S LT LM FS NT NM) (hD : rc_D S LM D b) (hi : LM[i]? = some c)
    (k1 : b = false → FS.length < 60 → ∀ S', (∀ o j, ¬ ((o = 25 ∧ j = 6) ∨ (26 ≤ o ∧ o ≤ 28)) → S' o j = S o j) → rc_W S' LT LM (FS ++ [(c, D)]) NT NM → F (kn FS.length) S') (k2 : b = true ∨ 60 ≤ FS.length → F (-1) S) : kK (d + 1) m_Fa_close [.inr 25, .inl (kn i)] S (kq F) := by
  have li := rc_lM hW.1 hi
  obtain ⟨h4, h5, h12, hnd, hpl⟩ := hD
  obtain ⟨h6, h60, hF⟩ := hW.2.1
  refine g_Fa_close ⟨fun e => absurd e (kn_nn (by omega)), fun _ => ⟨fun e => k2 (Or.inl (by rw [h5] at e; exact kb_nz.mp e)), fun e => ?_⟩⟩
  have hb : b = false := by rw [h5] at e; exact kb_zero.mp (Classical.not_not.mp e)
  have km : kn FS.length * 12 = kn (12 * FS.length) := by rw [show (12 : Int32) = kn 12 from rfl, kn_mul, Nat.mul_comm]
  rw [h6, h4, km, kn_tn (show FS.length < 2147483648 by omega), kn_tn (show 12 * FS.length < 2147483648 by omega), kn_tn (show D.length < 2147483648 by omega)]
  refine ⟨fun e2 => ?_, fun e2 => k2 (Or.inr (Nat.not_lt.mp fun q => e2 ((kn_lt (m := 60) (by omega) (by decide)).mpr q)))⟩
  have hlt : FS.length < 60 := (kn_lt (m := 60) (by omega) (by decide)).mp e2
  have hin : vp_in (kn FS.length) 60 := kn_in hlt (by decide)
  refine ⟨hin, hin, ⟨by decide, kn_nn (by omega), kn_nn (by omega), by rw [show (0 : Int32).toNatClampNeg = 0 from rfl]; omega, by omega⟩, ?_⟩
  have c1 : kc (ku (ku S 26 FS.length (kn i)) 27 FS.length (kn D.length)) 29 0 28 (kn (12 * FS.length)) (kn D.length) 25 6 = kn FS.length := by
    rw [kc_o (by decide), ku_ne (by omega), ku_ne (by omega)]; exact h6
  rw [c1]
  have fr : ∀ o j, ¬ ((o = 25 ∧ j = 6) ∨ (26 ≤ o ∧ o ≤ 28)) → ku (kc (ku (ku S 26 FS.length (kn i)) 27 FS.length (kn D.length)) 29 0 28 (kn (12 * FS.length)) (kn D.length)) 25 6 (kn FS.length + 1) o j = S o j := by
    intro o j ho
    rw [ku_ne (by omega), kc_o (by omega), ku_ne (by omega), ku_ne (by omega)]
  have e26 : ∀ j, ku (kc (ku (ku S 26 FS.length (kn i)) 27 FS.length (kn D.length)) 29 0 28 (kn (12 * FS.length)) (kn D.length)) 25 6 (kn FS.length + 1) 26 j = if j = FS.length then kn i else S 26 j := by
    intro j
    rw [ku_ne (by omega), kc_o (by decide), ku_ne (by omega), ku_at]
    simp
  have e27 : ∀ j, ku (kc (ku (ku S 26 FS.length (kn i)) 27 FS.length (kn D.length)) 29 0 28 (kn (12 * FS.length)) (kn D.length)) 25 6 (kn FS.length + 1) 27 j = if j = FS.length then kn D.length else S 27 j := by
    intro j
    rw [ku_ne (by omega), kc_o (by decide), ku_at]
    by_cases ej : j = FS.length
    · simp [ej]
    · simp [ej, ku_at]
  have e28 : ∀ j, ku (kc (ku (ku S 26 FS.length (kn i)) 27 FS.length (kn D.length)) 29 0 28 (kn (12 * FS.length)) (kn D.length)) 25 6 (kn FS.length + 1) 28 j = if 12 * FS.length ≤ j ∧ j < 12 * FS.length + D.length then S 29 (j - 12 * FS.length) else S 28 j := by
    intro j
    rw [ku_ne (by omega), kc_self, kn_tn (by omega), kn_tn (by omega)]
    unfold va_cpy
    rw [show (0 : Int32).toNatClampNeg = 0 from rfl, Nat.zero_add, ku_ne (by omega), ku_ne (by omega), ku_ne (by omega), ku_ne (by omega)]
  refine k1 hb hlt _ fr ⟨rc_S_fr hW.1 (fun o j hc => fr o j (by unfold rc_cm rc_ct at hc; omega)), ⟨?_, ?_, ?_⟩, rc_N_gr hW.2.2.1 (List.prefix_refl _) hW.1.1.1 hW.1.1.2.2.2.2.2.1 (fun _ => fr _ _ (by omega)) (fun _ => fr _ _ (by omega)) (fr _ _ (by omega)), rc_N_gr hW.2.2.2 (List.prefix_refl _) hW.1.1.2.1 hW.1.1.2.2.2.2.2.2.1 (fun _ => fr _ _ (by omega)) (fun _ => fr _ _ (by omega)) (fr _ _ (by omega))⟩
  · rw [ku_self, kn_suc, List.length_append, List.length_singleton]
  · rw [List.length_append, List.length_singleton]; omega
  · intro n c' hs hn
    rw [e26, e27]
    by_cases hl : n < FS.length
    · rw [List.getElem?_append_left hl] at hn
      obtain ⟨g1, g2, g3, g4⟩ := hF n c' hs hn
      rw [if_neg (by omega), if_neg (by omega)]
      refine ⟨g1, g2, g3, fun j h hj => ?_⟩
      have := rp_lt hj
      rw [e28, if_neg (by omega)]
      exact g4 j h hj
    · have hn2 := (List.getElem?_eq_some_iff.mp hn).1
      rw [List.length_append, List.length_singleton] at hn2
      have : n = FS.length := by omega
      subst this
      rw [List.getElem?_append_right (Nat.le_refl _), Nat.sub_self] at hn
      injection hn with hn
      injection hn with hn1 hn2
      subst hn1; subst hn2
      rw [if_pos rfl, if_pos rfl]
      refine ⟨⟨i, hi, rfl⟩, h12, rfl, fun j h hj => ?_⟩
      have := rp_lt hj
      rw [e28, if_pos (by omega), show 12 * FS.length + j - 12 * FS.length = j by omega]
      exact hpl j h hj
/-- a rule's last step: the conclusion made or refused -/
theorem ru_close {d : Nat} {S : kS} {LT LM : List kF} {FS : List kQ} {NT NM : List kF} {τ : Nat} {S1 : kS} {LT1 LM1 D : List kF} {b : Bool} {τ1 : Nat} {o : Option kQ} {c : kF} {raw : List kF} {r : Int32} {F : Int32 → kS → Prop} (h : ru_at S LT LM FS NT NM τ S1 LT1 LM1 D b τ1) (ho : o = some (c, raw)) (hds : sp_ds [] false raw = (D, b)) (hraw : ∀ h, h ∈ raw → h ∈ LM1)
    (en : (∃ i, LM1[i]? = some c ∧ r = kn i ∧ fo_mn LT LM LT1 LM1 (sp_g c raw)) ∨ (r < 0 ∧ fo_no LT LM (sp_g c raw))) (k : ∀ r S', ru_po S LT LM FS NT NM τ o r S' → F r S') : kK (d + 1) m_Fa_close [.inr 25, .inl r] S1 (kq F) := by
  rcases en with ⟨i, hi, rfl, m⟩ | ⟨hr, n⟩
  · refine c_Fa_close h.1 h.2.1 hi (fun hb hlt S' fr hW => ?_) (fun e => k _ _ (ru_fail h (Or.inr ⟨c, raw, ho, ?_⟩)))
    · subst hb
      have hf : rc_FR S1 S' := fun o j q => fr o j (fun e => q (by unfold rc_cr; omega))
      exact k _ _ ⟨LT1, LM1, _, τ1, hW, h.2.2.1, h.2.2.2.1, rc_FR_tr h.2.2.2.2.1 hf, ch_Z_fr h.2.2.2.2.2.1 (fr _ _ (by omega)) (fun _ => fr _ _ (by omega)) (fun _ => fr _ _ (by omega)), h.2.2.2.2.2.2, Or.inl ⟨c, raw, D, ho, hds, hlt, rfl, rfl, rp_mem hi, hraw, m⟩⟩
    · rcases e with e | e
      · rw [hds]; exact Or.inl e
      · exact Or.inr (Or.inl e)
  · exact c_Fa_close_no hr (k _ _ (ru_fail h (Or.inr ⟨c, raw, ho, Or.inr (Or.inr n)⟩)))
/-- and with the hypotheses of two facts -/
theorem ru_both {d : Nat} {S : kS} {LT LM : List kF} {FS : List kQ} {NT NM : List kF} {τ : Nat} {S1 : kS} {LT1 LM1 : List kF} {τ1 : Nat} {o : Option kQ} {c : kF} {p q : kQ} {x y r : Int32} {F : Int32 → kS → Prop} (h : ru_at S LT LM FS NT NM τ S1 LT1 LM1 [] false τ1) (hp : sp_at FS x = some p) (hq : sp_at FS y = some q) (ho : o = some (c, p.2 ++ q.2)) (hraw : ∀ h, h ∈ p.2 ++ q.2 → h ∈ LM1)
    (en : (∃ i, LM1[i]? = some c ∧ r = kn i ∧ fo_mn LT LM LT1 LM1 (sp_g c (p.2 ++ q.2))) ∨ (r < 0 ∧ fo_no LT LM (sp_g c (p.2 ++ q.2)))) (k : ∀ r S', ru_po S LT LM FS NT NM τ o r S' → F r S') : kK (d + 4) m_Ru_closeWithBoth [.inr 33, .inl x, .inl y, .inl r] S1 (kq F) := by
  have hP : ∀ i t, LM1[i]? = some t → (kn i = -1 ↔ (fun _ : kF => False) t) := fun i t hi => ⟨fun e => kn_m1 (by have := rc_lM h.1.1 hi; omega) e, fun e => e.elim⟩
  refine g_Ru_closeWithBoth (c_Fa_assumeAllBut h.1.1 h.1.2.1 h.2.1 hp hP (fun S2 D2 b2 f2 d2 e2 => ?_))
  have h2 := ru_at_fd h f2 d2
  refine c_Fa_assumeAllBut h2.1.1 h2.1.2.1 d2 hq hP (fun S3 D3 b3 f3 d3 e3 => ?_)
  have h3 := ru_at_fd h2 f3 d3
  refine ru_close h3 ho ?_ hraw en k
  have z1 := e2 q.2
  have z2 := e3 []
  rw [sp_bp_none (fun _ e => e), List.append_nil] at z2
  rw [sp_bp_none (fun _ e => e)] at z1
  rw [z1, z2]
  rfl
/-- facts by their numbers -/
theorem c_Ru_factAt {d : Nat} {S : kS} {LM : List kF} {FS : List kQ} {a : Int32} {F : Int32 → kS → Prop} (hA : rc_A S LM FS) (k : ∀ x, sp_at FS x = sp_at FS (sp_fx (S 33 4) (S 33 5) a) → F x S) : kK (d + 2) m_Ru_factAt [.inr 33, .inl a] S (kq F) := by
  have key : ∀ z : Int32, (S 25 6 ≤ z → F (-1) S) → (¬ S 25 6 ≤ z → F z S) → True := fun _ _ _ => trivial
  have out : ∀ z : Int32, S 25 6 ≤ z → sp_at FS z = none := by
    intro z e
    by_cases hz : z < 0
    · exact sp_at_neg hz
    · obtain ⟨n, hn, rfl⟩ := (kn_of z).resolve_left hz
      rw [hA.1] at e
      rw [sp_at_kn hn]
      exact List.getElem?_eq_none ((kn_le (by have := hA.2.1; omega) hn).mp e)
  have m1 : sp_at FS (-1) = none := sp_at_neg kn_m1lt
  refine g_Ru_factAt ⟨fun e => ⟨fun e2 => ?_, fun e2 => ?_⟩, fun e => ?_⟩
  · have hx : sp_fx (S 33 4) (S 33 5) a = -1 := by
      unfold sp_fx
      rw [if_pos e, if_neg (Int32.not_lt.mpr e2)]
    exact g_Fa_size ⟨fun _ => k _ (by rw [hx]), fun _ => k _ (by rw [hx])⟩
  · have hx : sp_fx (S 33 4) (S 33 5) a = S 33 4 + (-1 - a) := by
      unfold sp_fx
      rw [if_pos e, if_pos (Int32.not_le.mp e2)]
    exact g_Fa_size ⟨fun e3 => k _ (by rw [hx, m1, out _ e3]), fun _ => k _ (by rw [hx])⟩
  · have hx : sp_fx (S 33 4) (S 33 5) a = a := by
      unfold sp_fx
      rw [if_neg e]
    exact g_Fa_size ⟨fun e3 => k _ (by rw [hx, m1, out _ e3]), fun _ => k _ (by rw [hx])⟩
theorem c_Ru_leftOf {d : Nat} {S : kS} {LT LM : List kF} {FS : List kQ} {x : Int32} {F : Int32 → kS → Prop} (hS : rc_S S LT LM) (hA : rc_A S LM FS) (k1 : ∀ q l r j, sp_at FS x = some q → sp_sd q.1 = some (l, r) → LM[j]? = some l → F (kn j) S) (k2 : (sp_at FS x).bind (fun q => sp_sd q.1) = none → F (-1) S) : kK (d + 4) m_Ru_leftOf [.inr 33, .inl x] S (kq F) := by
  refine g_Ru_leftOf (c_Fa_conclusionOf hA (fun q i hq hi => c_Te_leftOf hS hi (fun l r j e hj => k1 q l r j hq e hj) (fun e => k2 (by rw [hq]; exact e))) (fun e => c_Te_leftOf_no kn_m1lt (k2 (by rw [e]; rfl))))
theorem c_Ru_rightOf {d : Nat} {S : kS} {LT LM : List kF} {FS : List kQ} {x : Int32} {q : kQ} {l r : kF} {F : Int32 → kS → Prop} (hS : rc_S S LT LM) (hA : rc_A S LM FS) (hq : sp_at FS x = some q) (hs : sp_sd q.1 = some (l, r)) (k : ∀ j, LM[j]? = some r → F (kn j) S) : kK (d + 3) m_Ru_rightOf [.inr 33, .inl x] S (kq F) := by
  obtain ⟨A, e⟩ := sp_sd_inv hs
  refine g_Ru_rightOf (c_Fa_conclusionOf hA (fun q' i hq' hi => ?_) (fun e => by rw [hq] at e; cases e))
  rw [hq] at hq'
  injection hq' with hq'
  subst hq'
  refine c_Te_argumentOf hS hi (fun f z j e2 hj => ?_) (fun e2 => absurd e (e2 _ _))
  rw [e] at e2
  rw [← (fo_ap_inj e2).2] at hj
  exact k j hj
