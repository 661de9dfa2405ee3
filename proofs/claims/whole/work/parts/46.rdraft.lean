/-! ===== THE REFERENCE: facts as they are made ===== -/
def rr_A (S : kS) (LM : List kF) (FS : List kQ) : Prop := S 39 20 = kn FS.length ∧ FS.length ≤ 60 ∧ rp_F S 54 55 56 LM FS
def rr_cr (o i : Nat) : Prop := rr_cm o i ∨ (o = 39 ∧ (i = 20 ∨ i = 24)) ∨ (54 ≤ o ∧ o ≤ 57)
def rr_FR (S S' : kS) : Prop := ∀ o i, ¬ rr_cr o i → S' o i = S o i
theorem rr_FR_rf {S : kS} : rr_FR S S := fun _ _ _ => rfl
theorem rr_FR_tr {S S1 S2 : kS} (h1 : rr_FR S S1) (h2 : rr_FR S1 S2) : rr_FR S S2 := fun o i h => (h2 o i h).trans (h1 o i h)
theorem rr_FR_c {S S' : kS} (h : rr_FC S S') : rr_FR S S' := fun o i q => h o i (fun e => q (Or.inl e))
/-- where a rule of the reference stands: D the hypotheses so far, don what was given -/
def rz (S : kS) (LT LM NT NM : List kF) (g : kU) (FS : List kQ) (S1 : kS) (LT1 LM1 : List kF) (b : Bool) (D don : List kF) : Prop :=
  rr_J S1 LT LM NT NM g S1 LT1 LM1 b ∧ rr_FR S S1 ∧ rr_A S1 LM1 FS ∧ (∃ n, n ≤ 12 ∧ S1 39 24 = kn n) ∧ (b = false → S1 39 24 = kn D.length ∧ rp_D S1 57 LM1 D ∧ ∀ l, sp_ds [] false (don ++ l) = sp_ds D false l)
theorem rr_J_re {S S' : kS} {LT LM NT NM : List kF} {g : kU} {S1 : kS} {LT1 LM1 : List kF} {b : Bool} (h : rr_J S LT LM NT NM g S1 LT1 LM1 b) : rr_J S1 LT LM NT NM g S1 LT1 LM1 b := ⟨h.1, h.2.1, h.2.2.1, h.2.2.2.1, rr_FC_rf, h.2.2.2.2.2⟩
theorem rr_ncm {o i : Nat} (h : (o = 39 ∧ i ≠ 0 ∧ i ≠ 9 ∧ i ≠ 33) ∨ o < 39 ∨ o = 46 ∨ (53 ≤ o ∧ o ≤ 60)) : ¬ rr_cm o i := by unfold rr_cm; omega
theorem rr_A_fc {S S' : kS} {LM LM' : List kF} {FS : List kQ} (h : rr_A S LM FS) (p : LM <+: LM') (f : rr_FC S S') : rr_A S' LM' FS :=
  ⟨(f _ _ (rr_ncm (by omega))).trans h.1, h.2.1, rp_F_grow h.2.2 p (funext fun _ => f _ _ (rr_ncm (by omega))) (funext fun _ => f _ _ (rr_ncm (by omega))) (funext fun _ => f _ _ (rr_ncm (by omega)))⟩
theorem rz_mk {S : kS} {LT LM NT NM : List kF} {g : kU} {FS : List kQ} {S1 : kS} {LT1 LM1 : List kF} {b : Bool} {D don : List kF} {S0 S2 : kS} {LT2 LM2 : List kF} {b2 : Bool} (h : rz S LT LM NT NM g FS S1 LT1 LM1 b D don) (J : rr_J S0 LT LM NT NM g S2 LT2 LM2 b2) (p : LM1 <+: LM2) (f : rr_FC S1 S2) (i : b2 = false → b = false) : rz S LT LM NT NM g FS S2 LT2 LM2 b2 D don := by
  obtain ⟨_, h2, h3, ⟨n, hn, en⟩, h5⟩ := h
  have f24 : S2 39 24 = S1 39 24 := f _ _ (rr_ncm (by omega))
  refine ⟨rr_J_re (S' := S1) J, rr_FR_tr h2 (rr_FR_c f), rr_A_fc h3 p f, ⟨n, hn, f24.trans en⟩, fun hb => ?_⟩
  obtain ⟨a1, a2, a3⟩ := h5 (i hb)
  exact ⟨f24.trans a1, rp_D_grow a2 p (funext fun _ => f _ _ (rr_ncm (by omega))), a3⟩
/-- cell 61 alone changed -/
theorem rz_61 {S : kS} {LT LM NT NM : List kF} {g : kU} {FS : List kQ} {S1 : kS} {LT1 LM1 : List kF} {b : Bool} {D don : List kF} {S2 : kS} (h : rz S LT LM NT NM g FS S1 LT1 LM1 b D don) (f : ∀ o q, o ≠ 61 → S2 o q = S1 o q) : rz S LT LM NT NM g FS S2 LT1 LM1 b D don :=
  rz_mk h (rr_J_fr h.1 (fun o i ho => f o i (by omega))) (List.prefix_refl _) (fun o i ho => f o i (fun e => ho (by unfold rr_cm; omega))) id
section RDR
variable {d : Nat} {S : kS} {LT LM NT NM : List kF} {g : kU} {FS : List kQ} {S1 : kS} {LT1 LM1 : List kF} {b : Bool} {D don : List kF}
theorem rm_assume {t : kF} {r : Int32} {F : kS → Prop} (h : rz S LT LM NT NM g FS S1 LT1 LM1 b D don) (hv : rr_v LM1 250 b t r) (hg : ∀ U V, g U V → ∃ rest, (sp_ds [] false (don ++ t :: rest)).2 = false) (k : ∀ S2 b2 D2, rz S LT LM NT NM g FS S2 LT1 LM1 b2 D2 (don ++ [t]) → (b2 = false → b = false) → (∀ o i, ¬ (o = 57 ∨ (o = 39 ∧ (i = 24 ∨ i = 33))) → S2 o i = S1 o i) → F S2) : kK (d + 1) m_Mo_assume [.inr 39, .inl r] S1 (kv F) := by
  have hz := h
  obtain ⟨hJ, hF, hA, ⟨n, hn, en⟩, hD⟩ := h
  obtain ⟨⟨i, hi, rfl⟩, hv2⟩ := hv
  have fin : ∀ (S2 : kS) (b2 : Bool) (D2 : List kF) (m : Nat), (∀ o i, ¬ (o = 57 ∨ (o = 39 ∧ (i = 24 ∨ i = 33))) → S2 o i = S1 o i) → S2 39 33 = kb b2 → (b2 = true → fo_no LT LM g) → (b2 = false → b = false) → m ≤ 12 → S2 39 24 = kn m → (b2 = false → S2 39 24 = kn D2.length ∧ rp_D S2 57 LM1 D2 ∧ ∀ l, sp_ds [] false ((don ++ [t]) ++ l) = sp_ds D2 false l) → F S2 := by
    intro S2 b2 D2 m f2 e33 no2 i2 hm e24 hD2
    refine k S2 b2 D2 ⟨⟨rr_S_fr hJ.1 (fun o i ho => f2 o i (by omega)), e33, hJ.2.2.1, hJ.2.2.2.1, rr_FC_rf, fun e => hJ.2.2.2.2.2.1 (i2 e), no2⟩, rr_FR_tr hF (fun o i ho => f2 o i (fun e => ho (by unfold rr_cr rr_cm; omega))), ⟨(f2 _ _ (by omega)).trans hA.1, hA.2.1, rp_F_grow hA.2.2 (List.prefix_refl _) (funext fun _ => f2 _ _ (by omega)) (funext fun _ => f2 _ _ (by omega)) (funext fun _ => f2 _ _ (by omega))⟩, ⟨m, hm, e24⟩, hD2⟩ i2 f2
  have app : ∀ l : List kF, don ++ [t] ++ l = don ++ t :: l := fun l => by rw [List.append_assoc]; rfl
  refine g_Mo_assume (fun G hG => ?_)
  have loop : ∀ m j, j + m = n → ∀ v : Int32, (v = 0 ∨ v = 1) → (b = false → (v = 0 → ∀ q, q < j → D[q]? ≠ some t) ∧ (v = 1 → t ∈ D)) → G 4 [some (.inr 39), some (.inl (kn i)), some (.inl v), some (.inl (kn j))] [] S1 := by
    intro m
    induction m with
    | zero =>
      intro j hj v hv01 hv
      refine f_Mo_assume_4 kspec_Mo hG ⟨fun _ => ⟨fun e => ?_, fun e => ?_⟩, fun e => absurd (by rw [en]; exact (kn_le (by omega) (by omega)).mpr (by omega)) e⟩
      · have hnot : b = false → t ∉ D := fun hb hx => by
          obtain ⟨q, hq⟩ := rp_at hx
          have h24 := (hD hb).1
          have hl : D.length ≤ 12 := (hD hb).2.1.1
          have := kn_inj (by omega) (by omega) (en.symm.trans h24)
          exact (hv hb).1 e q (by have := rp_lt hq; omega) hq
        rw [en, kn_tn (by omega), kn_suc]
        refine ⟨fun e2 => ?_, fun e2 => ?_⟩
        · have hlt : n < 12 := by
            have : n ≠ 12 := fun z => e2 (by rw [z]; rfl)
            omega
          refine ⟨kn_in hlt (by decide), ?_⟩
          have f2 : ∀ o q, ¬ (o = 57 ∨ (o = 39 ∧ (q = 24 ∨ q = 33))) → ku (ku S1 57 n (kn i)) 39 24 (kn (n + 1)) o q = S1 o q := fun o q ho => by rw [ku_ne (by omega), ku_ne (by omega)]
          refine fin _ b (D ++ [t]) (n + 1) f2 (by rw [ku_ne (by omega), ku_ne (by omega)]; exact hJ.2.1) hJ.2.2.2.2.2.2 id (by omega) ku_self (fun hb => ?_)
          obtain ⟨a1, a2, a3⟩ := hD hb
          obtain ⟨i', e1, e1'⟩ := hv2 hb
          have hl := hJ.1.1.2.2.2.2.2.2.1
          have l1 := rp_lt e1
          have := kn_inj (by omega) (by omega) e1'
          subst this
          have hnD := kn_inj (by omega) (by have := a2.1; omega) (en.symm.trans a1)
          subst hnD
          refine ⟨?_, ⟨?_, fo_nd a2.2.1 (hnot hb), fun q z hq => ?_⟩, fun l => ?_⟩
          · rw [ku_self, List.length_append, List.length_singleton]
          · rw [List.length_append, List.length_singleton]; omega
          · rw [ku_ne (by omega)]
            by_cases hl2 : q < D.length
            · rw [List.getElem?_append_left hl2] at hq
              rw [ku_ne (by omega)]
              exact a2.2.2 q z hq
            · have hq2 := rp_lt hq
              rw [List.length_append, List.length_singleton] at hq2
              have : q = D.length := by omega
              subst this
              rw [List.getElem?_append_right (Nat.le_refl _), Nat.sub_self] at hq
              injection hq with hq
              subst hq
              rw [ku_self]
              exact ⟨i, e1, rfl⟩
          · rw [app, a3, sp_ds_new (hnot hb) hlt]
        · have hn12 : n = 12 := kn_inj (m := 12) (by omega) (by decide) (Classical.not_not.mp e2)
          refine fin _ true D n (fun o q ho => ku_ne (by omega)) ku_self (fun _ => ?_) (fun e => by cases e) (by omega) ((ku_ne (by omega)).trans en) (fun e => by cases e)
          cases hb : b with
          | true => exact hJ.2.2.2.2.2.2 hb
          | false =>
            obtain ⟨a1, a2, a3⟩ := hD hb
            have hnD := kn_inj (by omega) (by have := a2.1; omega) (en.symm.trans a1)
            intro U V hc hl c1 c2 hgu
            obtain ⟨rest, hr⟩ := hg U V hgu
            rw [a3, sp_ds_full (hnot hb) (by omega), sp_ds_bad] at hr
            cases hr
      · have hv1 : v = 1 := by
          rcases hv01 with z | z
          · exact absurd z e
          · exact z
        refine fin S1 b D n (fun _ _ _ => rfl) hJ.2.1 hJ.2.2.2.2.2.2 id hn en (fun hb => ?_)
        obtain ⟨a1, a2, a3⟩ := hD hb
        exact ⟨a1, a2, fun l => by rw [app, a3, sp_ds_in ((hv hb).2 hv1)]⟩
    | succ m ih =>
      intro j hj v hv01 hv
      refine f_Mo_assume_4 kspec_Mo hG ⟨fun e => absurd ((kn_le (by omega) (by omega)).mp (en ▸ e)) (by omega), fun _ => ?_⟩
      rw [kn_suc]
      refine ⟨fun e => ih (j + 1) (by omega) 1 (Or.inr rfl) (fun hb => ⟨fun z => absurd z (by decide), fun _ => (hv hb).2 ?_⟩), fun e => ⟨kn_in (by omega) (by decide), ?_⟩⟩
      · rcases hv01 with z | z
        · exact absurd z e
        · exact z
      · have hv0 := Classical.not_not.mp e
        rw [kn_tn (by omega)]
        have place : b = false → ∃ z, D[j]? = some z ∧ (S1 57 j = kn i ↔ z = t) := by
          intro hb
          obtain ⟨a1, a2, a3⟩ := hD hb
          have hnD := kn_inj (by omega) (by have := a2.1; omega) (en.symm.trans a1)
          have hjl : j < D.length := by omega
          have hu : D[j]? = some D[j] := List.getElem?_eq_getElem hjl
          obtain ⟨p, hp, ep⟩ := a2.2.2 j _ hu
          obtain ⟨i', e1, e1'⟩ := hv2 hb
          have hl := hJ.1.1.2.2.2.2.2.2.1
          have l1 := rp_lt e1
          have l2 := rp_lt hp
          have := kn_inj (by omega) (by omega) e1'
          subst this
          refine ⟨_, hu, ?_⟩
          rw [ep]
          constructor
          · intro z
            have := kn_inj (by omega) (by omega) z
            subst this
            rw [hp] at e1
            injection e1
          · intro z
            rw [z] at hp
            rw [fo_ix hJ.1.1.2.1 hp e1]
        refine ⟨fun e2 => ih (j + 1) (by omega) 0 (Or.inl rfl) (fun hb => ⟨fun _ q hq => ?_, fun z => absurd z (by decide)⟩), fun e2 => ih (j + 1) (by omega) 1 (Or.inr rfl) (fun hb => ⟨fun z => absurd z (by decide), fun _ => ?_⟩)⟩
        · by_cases eq : q = j
          · subst eq
            obtain ⟨z, hz, hzz⟩ := place hb
            rw [hz]
            intro w
            injection w with w
            exact e2 (hzz.mpr w)
          · exact (hv hb).1 hv0 q (by omega)
        · obtain ⟨z, hz, hzz⟩ := place hb
          rw [← hzz.mp (Classical.not_not.mp e2)]
          exact rp_mem hz
  exact loop n 0 (by omega) 0 (Or.inl rfl) (fun _ => ⟨fun _ q hq => absurd hq (by omega), fun z => absurd z (by decide)⟩)
theorem rr_fact {q : Nat} {f : kQ} (hA : rr_A S1 LM1 FS) (hq : FS[q]? = some f) : q < 60 ∧ (∃ p, LM1[p]? = some f.1 ∧ S1 54 q = kn p) ∧ f.2.length ≤ 12 ∧ S1 55 q = kn f.2.length ∧ ∀ i h, f.2[i]? = some h → ∃ p, LM1[p]? = some h ∧ S1 56 (12 * q + i) = kn p := by
  have hl := (List.getElem?_eq_some_iff.mp hq).1
  have h60 := hA.2.1
  exact ⟨by omega, hA.2.2 q f.1 f.2 hq⟩
theorem kn_12 {a c : Nat} : 12 * kn a + kn c = kn (12 * a + c) := by
  rw [show (12 : Int32) = kn 12 from rfl, kn_mul, kn_add]
theorem rm_assumeAll {q : Nat} {f : kQ} {y : Int32} {P : kF → Prop} {F : kS → Prop} (h : rz S LT LM NT NM g FS S1 LT1 LM1 b D don) (hq : FS[q]? = some f) (hP : ∀ i t, LM1[i]? = some t → (kn i = y ↔ P t)) (hg : ∀ U V, g U V → ∃ rest, (sp_ds [] false (don ++ (sp_bp P f.2 ++ rest))).2 = false) (k : ∀ S2 b2 D2, rz S LT LM NT NM g FS S2 LT1 LM1 b2 D2 (don ++ sp_bp P f.2) → (b2 = false → b = false) → (∀ o i, ¬ (o = 57 ∨ (o = 39 ∧ (i = 24 ∨ i = 33))) → S2 o i = S1 o i) → F S2) : kK (d + 2) m_Mo_assumeAll [.inr 39, .inl (kn q), .inl y] S1 (kv F) := by
  refine g_Mo_assumeAll (fun G hG => ?_)
  have loop : ∀ m j, j + m = f.2.length → ∀ (S2 : kS) (b2 : Bool) (D2 dn : List kF), rz S LT LM NT NM g FS S2 LT1 LM1 b2 D2 dn → (b2 = false → b = false) → (∀ o i, ¬ (o = 57 ∨ (o = 39 ∧ (i = 24 ∨ i = 33))) → S2 o i = S1 o i) → don ++ sp_bp P f.2 = dn ++ sp_bp P (f.2.drop j) → G 2 [some (.inr 39), some (.inl (kn q)), some (.inl y), some (.inl (kn j))] [] S2 := by
    intro m
    induction m with
    | zero =>
      intro j hj S2 b2 D2 dn h2 i2 f2 ed
      obtain ⟨l60, _, h12, e55, _⟩ := rr_fact h2.2.2.1 hq
      refine f_Mo_assumeAll_2 kspec_Mo hG ⟨kn_in l60 (by decide), ?_⟩
      rw [kn_tn (by omega), e55]
      refine ⟨fun _ => k S2 b2 D2 ?_ i2 f2, fun e => absurd ((kn_le (by omega) (by omega)).mpr (by omega)) e⟩
      rw [List.drop_of_length_le (by omega)] at ed
      rw [ed]
      show rz S LT LM NT NM g FS S2 LT1 LM1 b2 D2 (dn ++ [])
      rw [List.append_nil]; exact h2
    | succ m ih =>
      intro j hj S2 b2 D2 dn h2 i2 f2 ed
      have hjl : j < f.2.length := by omega
      have hu : f.2[j]? = some f.2[j] := List.getElem?_eq_getElem hjl
      have hdrop : f.2.drop j = f.2[j] :: f.2.drop (j + 1) := List.drop_eq_getElem_cons hjl
      obtain ⟨l60, _, h12, e55, e56⟩ := rr_fact h2.2.2.1 hq
      obtain ⟨p, hp, ep⟩ := e56 j _ hu
      refine f_Mo_assumeAll_2 kspec_Mo hG ⟨kn_in l60 (by decide), ?_⟩
      rw [kn_tn (by omega), e55, kn_12, kn_tn (by omega), ep, kn_suc]
      refine ⟨fun e => absurd ((kn_le (by omega) (by omega)).mp e) (by omega), fun _ => ⟨kn_in (by omega) (by decide), fun e => ih (j + 1) (by omega) S2 b2 D2 dn h2 i2 f2 ?_, fun e => ⟨kn_in (by omega) (by decide), ?_⟩⟩⟩
      · rw [ed, hdrop, sp_bp_cons_in ((hP p _ hp).mp e)]
      · have hnP : ¬ P f.2[j] := fun z => e ((hP p _ hp).mpr z)
        rw [hdrop, sp_bp_cons_out hnP] at ed
        refine rm_assume h2 (rr_v_of hp h2.1.1.1.2.2.2.2.2.2.1) (fun U V hgu => ?_) (fun S3 b3 D3 h3 i3 f3 => ih (j + 1) (by omega) S3 b3 D3 _ h3 (fun z => i2 (i3 z)) (fun o i ho => (f3 o i ho).trans (f2 o i ho)) ?_)
        · obtain ⟨rest, hr⟩ := hg U V hgu
          refine ⟨sp_bp P (f.2.drop (j + 1)) ++ rest, ?_⟩
          rw [← List.append_assoc, ed] at hr
          rw [List.append_assoc] at hr
          exact hr
        · rw [ed, List.append_assoc]; rfl
  exact loop f.2.length 0 (by omega) S1 b D don h id (fun _ _ _ => rfl) rfl
theorem rm_fact {c : kF} {r : Int32} {F : Int32 → kS → Prop} (h : rz S LT LM NT NM g FS S1 LT1 LM1 b D don) (hv : rr_v LM1 250 b c r) (hg : ∀ U V, g U V → FS.length < 60)
    (k1 : b = false → FS.length < 60 → ∀ S2, rr_J S2 LT LM NT NM g S2 LT1 LM1 false → rr_FR S S2 → rr_A S2 LM1 (FS ++ [(c, D)]) → (S2 39 24 = kn D.length ∧ rp_D S2 57 LM1 D) → F (kn FS.length) S2) (k2 : ∀ S2, fo_no LT LM g → rr_J S2 LT LM NT NM g S2 LT1 LM1 true → rr_FR S S2 → rr_A S2 LM1 FS → F (-1) S2) : kK (d + 1) m_Mo_fact [.inr 39, .inl r] S1 (kq F) := by
  obtain ⟨hJ, hF, hA, ⟨n, hn, en⟩, hD⟩ := h
  have h60 := hA.2.1
  have bad : fo_no LT LM g → F (-1) (ku S1 39 33 1) := fun nn => k2 _ nn (rr_J_re (S' := S1) (rr_J_bad hJ nn)) (rr_FR_tr hF (fun o i ho => ku_ne (fun e => ho (by unfold rr_cr rr_cm; omega)))) ⟨(ku_ne (by omega)).trans hA.1, hA.2.1, rp_F_grow hA.2.2 (List.prefix_refl _) (funext fun _ => ku_ne (by omega)) (funext fun _ => ku_ne (by omega)) (funext fun _ => ku_ne (by omega))⟩
  refine g_Mo_fact (fun G hG => ⟨fun e => bad (hJ.2.2.2.2.2.2 (by rw [hJ.2.1] at e; exact kb_nz.mp e)), fun e => ?_⟩)
  have hb : b = false := by have e := Classical.not_not.mp e; rw [hJ.2.1] at e; exact kb_zero.mp e
  obtain ⟨a1, a2, a3⟩ := hD hb
  obtain ⟨⟨i, hi, rfl⟩, hv2⟩ := hv
  obtain ⟨i', e1, e1'⟩ := hv2 hb
  have hl := hJ.1.1.2.2.2.2.2.2.1
  have l1 := rp_lt e1
  have := kn_inj (by omega) (by omega) e1'
  subst this
  rw [hA.1, kn_tn (by omega), a1]
  refine ⟨fun e2 => ?_, fun e2 => bad (fun U V _ _ _ _ hgu => ?_)⟩
  · have hlt : FS.length < 60 := by
      have : FS.length ≠ 60 := fun z => e2 (by rw [z]; rfl)
      omega
    have hin : vp_in (kn FS.length) 60 := kn_in hlt (by decide)
    refine ⟨hin, hin, ?_⟩
    have h12 := a2.1
    have loop : ∀ m j, j + m = D.length → ∀ S2 : kS, (∀ o q, ¬ ((o = 54 ∧ q = FS.length) ∨ (o = 55 ∧ q = FS.length) ∨ (o = 56 ∧ 12 * FS.length ≤ q)) → S2 o q = S1 o q) → S2 54 FS.length = kn i → S2 55 FS.length = kn D.length → (∀ q, q < j → S2 56 (12 * FS.length + q) = S1 57 q) → G 48 [some (.inr 39), some (.inl (kn i)), some (.inl (kn j))] [] S2 := by
      intro m
      induction m with
      | zero =>
        intro j hj S2 f2 e54 e55 e56
        have e24 : S2 39 24 = kn D.length := (f2 _ _ (by omega)).trans a1
        have e20 : S2 39 20 = kn FS.length := (f2 _ _ (by omega)).trans hA.1
        refine f_Mo_fact_48 kspec_Mo hG ⟨fun _ => ?_, fun z => absurd (by rw [e24]; exact (kn_le (by omega) (by omega)).mpr (by omega)) z⟩
        rw [e20, kn_pm, kn_suc]
        have f3 : ∀ o q, ¬ (o = 39 ∧ q = 20) → ku S2 39 20 (kn (FS.length + 1)) o q = S2 o q := fun o q ho => ku_ne ho
        refine k1 hb hlt _ ?_ ?_ ⟨?_, ?_, ?_⟩ ⟨(f3 _ _ (by omega)).trans e24, rp_D_grow a2 (List.prefix_refl _) (funext fun q => (f3 _ _ (by omega)).trans (f2 _ _ (by omega)))⟩
        · subst hb
          exact ⟨rr_S_fr hJ.1 (fun o q ho => (f3 o q (by omega)).trans (f2 o q (by omega))), (f3 _ _ (by omega)).trans ((f2 _ _ (by omega)).trans hJ.2.1), hJ.2.2.1, hJ.2.2.2.1, rr_FC_rf, hJ.2.2.2.2.2⟩
        · exact rr_FR_tr hF (fun o q ho => (f3 o q (fun e => ho (by unfold rr_cr; omega))).trans (f2 o q (fun e => ho (by unfold rr_cr; omega))))
        · rw [ku_self, List.length_append, List.length_singleton]
        · rw [List.length_append, List.length_singleton]; omega
        · intro n' c' hs hn'
          rw [f3 _ _ (by omega), f3 _ _ (by omega)]
          by_cases hl2 : n' < FS.length
          · rw [List.getElem?_append_left hl2] at hn'
            obtain ⟨⟨p, g1, g2⟩, g3, g4, g5⟩ := hA.2.2 n' c' hs hn'
            rw [f2 _ _ (by omega), f2 _ _ (by omega)]
            refine ⟨⟨p, g1, g2⟩, g3, g4, fun a z hz => ?_⟩
            have := rp_lt hz
            rw [f3 _ _ (by omega), f2 _ _ (by omega)]
            exact g5 a z hz
          · have hn2 := (List.getElem?_eq_some_iff.mp hn').1
            rw [List.length_append, List.length_singleton] at hn2
            have : n' = FS.length := by omega
            subst this
            rw [List.getElem?_append_right (Nat.le_refl _), Nat.sub_self] at hn'
            injection hn' with hn'
            injection hn' with x1 x2
            subst x1; subst x2
            rw [e54, e55]
            refine ⟨⟨i, e1, rfl⟩, h12, rfl, fun a z hz => ?_⟩
            have := rp_lt hz
            rw [f3 _ _ (by omega), e56 a (by omega)]
            exact a2.2.2 a z hz
      | succ m ih =>
        intro j hj S2 f2 e54 e55 e56
        have e24 : S2 39 24 = kn D.length := (f2 _ _ (by omega)).trans a1
        have e20 : S2 39 20 = kn FS.length := (f2 _ _ (by omega)).trans hA.1
        refine f_Mo_fact_48 kspec_Mo hG ⟨fun z => absurd ((kn_le (by omega) (by omega)).mp (e24 ▸ z)) (by omega), fun _ => ?_⟩
        rw [e20, kn_12, kn_tn (by omega), kn_tn (by omega), kn_suc]
        refine ⟨kn_in (by omega) (by decide), kn_in (by omega) (by decide), ih (j + 1) (by omega) _ (fun o q ho => ?_) ?_ ?_ (fun q hq => ?_)⟩
        · rw [ku_ne (by omega)]; exact f2 o q ho
        · rw [ku_ne (by omega)]; exact e54
        · rw [ku_ne (by omega)]; exact e55
        · by_cases eq : q = j
          · subst eq; rw [ku_self]; exact f2 _ _ (by omega)
          · rw [ku_ne (by omega)]; exact e56 q (by omega)
    refine loop D.length 0 (by omega) _ (fun o q ho => ?_) ?_ ?_ (fun q hq => absurd hq (by omega))
    · rw [ku_ne (by omega), ku_ne (by omega)]
    · rw [ku_ne (by omega), ku_self]
    · rw [ku_self]
  · have := hg U V hgu
    have := kn_inj (m := 60) (by omega) (by decide) (Classical.not_not.mp e2)
    omega
end RDR
