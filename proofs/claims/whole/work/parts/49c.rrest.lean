/-! ===== THE REFERENCE AT REST ===== -/
def rr_L (S : kS) (TL : kTL) : Prop := S 39 26 = kn TL.length ∧ TL.length ≤ 12 ∧ ∀ i o a b c, TL[i]? = some (o, a, b, c) → S 58 i = o ∧ S 59 (3 * i) = a ∧ S 59 (3 * i + 1) = b ∧ S 59 (3 * i + 2) = c
def rr_X (S : kS) (M : kO) : Prop := S 39 18 = kn (sm_c M) ∧ S 39 19 = kn (sm_d M) ∧ sm_c M ≤ 8 ∧ sm_d M ≤ 3 ∧ rr_L S (sm_L M)
def rr_Q (S : kS) (M : kO) (LT LM : List kF) : Prop := rr_S S LT LM (sm_nT M) (sm_nM M) ∧ rr_A S LM (sm_F M) ∧ S 39 8 = kn (sm_nT M).length ∧ S 39 17 = kn (sm_nM M).length ∧ (∀ x, x ∈ LT ↔ sm_T M x) ∧ (∀ x, x ∈ LM ↔ sm_M M x) ∧ rr_X S M
def rr_R (S : kS) (M : kO) : Prop := ∃ LT LM, rr_Q S M LT LM
/-- nothing of the class is touched -/
def rr_Fx (S S' : kS) : Prop := ∀ o i, o < 39 → S' o i = S o i
theorem rr_Fx_rf {S : kS} : rr_Fx S S := fun _ _ _ => rfl
theorem rr_Fx_tr {S S1 S2 : kS} (h1 : rr_Fx S S1) (h2 : rr_Fx S1 S2) : rr_Fx S S2 := fun o i h => (h2 o i h).trans (h1 o i h)
def rr_ck (o i : Nat) : Prop := o < 39 ∨ (o = 39 ∧ (i = 8 ∨ i = 17 ∨ i = 18 ∨ i = 19 ∨ i = 26 ∨ i = 30 ∨ i = 31 ∨ i = 32)) ∨ o = 58 ∨ o = 59
def rr_Fk (S S' : kS) : Prop := ∀ o i, rr_ck o i → S' o i = S o i
theorem rr_Fk_r {S S' : kS} (h : rr_FR S S') : rr_Fk S S' := fun o i q => h o i (by unfold rr_ck at q; unfold rr_cr rr_cm; omega)
theorem rr_Fk_tr {S S1 S2 : kS} (h1 : rr_Fk S S1) (h2 : rr_Fk S1 S2) : rr_Fk S S2 := fun o i h => (h2 o i h).trans (h1 o i h)
theorem rr_Fk_x {S S' : kS} (h : rr_Fk S S') : rr_Fx S S' := fun o i q => h o i (Or.inl q)
theorem rr_X_fr {S S' : kS} {M : kO} (h : rr_X S M) (f : ∀ o i, (o = 39 ∧ (i = 18 ∨ i = 19 ∨ i = 26)) ∨ o = 58 ∨ o = 59 → S' o i = S o i) : rr_X S' M := by
  obtain ⟨h1, h2, h3, h4, h5, h6, h7⟩ := h
  refine ⟨(f _ _ (by omega)).trans h1, (f _ _ (by omega)).trans h2, h3, h4, (f _ _ (by omega)).trans h5, h6, fun i o a b c e => ?_⟩
  rw [f 58 i (by omega), f 59 _ (by omega), f 59 _ (by omega), f 59 _ (by omega)]
  exact h7 i o a b c e
theorem rr_A_fr {S S' : kS} {LM : List kF} {FS : List kQ} (h : rr_A S LM FS) (f : ∀ o i, (o = 39 ∧ i = 20) ∨ (54 ≤ o ∧ o ≤ 56) → S' o i = S o i) : rr_A S' LM FS :=
  ⟨(f _ _ (by omega)).trans h.1, h.2.1, rp_F_grow h.2.2 (List.prefix_refl _) (funext fun _ => f _ _ (by omega)) (funext fun _ => f _ _ (by omega)) (funext fun _ => f _ _ (by omega))⟩
theorem rr_Q_fr {S S' : kS} {M : kO} {LT LM : List kF} (h : rr_Q S M LT LM) (f : ∀ o i, (o = 39 ∧ (i = 0 ∨ i = 8 ∨ i = 9 ∨ i = 17 ∨ i = 18 ∨ i = 19 ∨ i = 20 ∨ i = 26)) ∨ (40 ≤ o ∧ o ≤ 56) ∨ o = 58 ∨ o = 59 → S' o i = S o i) : rr_Q S' M LT LM :=
  ⟨rr_S_fr h.1 (fun o i ho => f o i (by omega)), rr_A_fr h.2.1 (fun o i ho => f o i (by omega)), (f _ _ (by omega)).trans h.2.2.1, (f _ _ (by omega)).trans h.2.2.2.1, h.2.2.2.2.1, h.2.2.2.2.2.1, rr_X_fr h.2.2.2.2.2.2 (fun o i ho => f o i (by omega))⟩
/-- what begin keeps -/
def rr_O (S : kS) (LT LM : List kF) (FS : List kQ) : Prop := S 39 30 = kn LT.length ∧ S 39 31 = kn LM.length ∧ S 39 32 = kn FS.length
theorem rr_A_mem {S : kS} {LM : List kF} {FS : List kQ} (hA : rr_A S LM FS) : ∀ f, f ∈ FS → f.1 ∈ LM ∧ ∀ z, z ∈ f.2 → z ∈ LM := by
  intro f hf
  obtain ⟨n, hn⟩ := List.getElem?_of_mem hf
  obtain ⟨⟨p, g1, _⟩, _, _, g5⟩ := hA.2.2 n f.1 f.2 hn
  refine ⟨rp_mem g1, fun z hz => ?_⟩
  obtain ⟨y, hy⟩ := rp_at hz
  obtain ⟨p, hp, _⟩ := g5 y z hy
  exact rp_mem hp
section RRS
variable {d : Nat} {S : kS} {M : kO} {LT LM : List kF}
theorem rm_begin {F : kS → Prop} (h : rr_Q S M LT LM) (k : ∀ S1, rr_Q S1 M LT LM → S1 39 33 = 0 → rr_O S1 LT LM (sm_F M) → (∀ o i, ¬ (o = 39 ∧ 30 ≤ i ∧ i ≤ 33) → S1 o i = S o i) → F S1) : kK (d + 1) m_Mo_begin [.inr 39] S (kv F) := by
  have fr : ∀ o i, ¬ (o = 39 ∧ 30 ≤ i ∧ i ≤ 33) → ku (ku (ku (ku S 39 33 0) 39 30 (S 39 0)) 39 31 (S 39 9)) 39 32 (S 39 20) o i = S o i := fun o i ho => by
    rw [ku_ne (by omega), ku_ne (by omega), ku_ne (by omega), ku_ne (by omega)]
  refine g_Mo_begin (k _ (rr_Q_fr h (fun o i ho => fr o i (by omega))) ?_ ⟨?_, ?_, ?_⟩ fr)
  · rw [ku_ne (by omega), ku_ne (by omega), ku_ne (by omega), ku_self]
  · rw [ku_ne (by omega), ku_ne (by omega), ku_self]; exact h.1.2.1
  · rw [ku_ne (by omega), ku_self]; exact h.1.2.2.1
  · rw [ku_self]; exact h.2.1.1
theorem rm_stays_no {S2 : kS} {LT2 LM2 : List kF} {FS2 : List kQ} {F : Int32 → kS → Prop} (h : rr_Q S M LT LM) (ho : rr_O S LT LM (sm_F M)) (hS : rr_S S2 LT2 LM2 (sm_nT M) (sm_nM M)) (p1 : LT <+: LT2) (p2 : LM <+: LM2) (hA : rr_A S2 LM2 FS2) (p3 : sm_F M <+: FS2) (f : rr_Fk S S2) (hb : ¬ S2 39 33 = 0) (k : ∀ S3, rr_Q S3 M LT LM → rr_Fx S S3 → F 0 S3) : kK (d + 1) m_Mo_stays [.inr 39] S2 (kq F) := by
  have fr : ∀ o i, ¬ (o = 39 ∧ (i = 0 ∨ i = 9 ∨ i = 20)) → ku (ku (ku S2 39 0 (S2 39 30)) 39 9 (S2 39 31)) 39 20 (S2 39 32) o i = S2 o i := fun o i ho => by
    rw [ku_ne (by omega), ku_ne (by omega), ku_ne (by omega)]
  have fk : ∀ o i, rr_ck o i → ku (ku (ku S2 39 0 (S2 39 30)) 39 9 (S2 39 31)) 39 20 (S2 39 32) o i = S o i := fun o i hc => (fr o i (by unfold rr_ck at hc; omega)).trans (f o i hc)
  obtain ⟨hL', _, _, hT, hMM, hB, hN1, hN2⟩ := hS
  have hL := h.1.1
  refine g_Mo_stays ⟨fun _ => k _ ⟨⟨hL, ?_, ?_, ?_, ?_, ?_, ?_, ?_⟩, ⟨?_, h.2.1.2.1, ?_⟩, (fk _ _ (by unfold rr_ck; omega)).trans h.2.2.1, (fk _ _ (by unfold rr_ck; omega)).trans h.2.2.2.1, h.2.2.2.2.1, h.2.2.2.2.2.1, rr_X_fr h.2.2.2.2.2.2 (fun o i hc => fk o i (by unfold rr_ck; omega))⟩ (fun o i hc => fk o i (Or.inl hc)), fun e => absurd hb e⟩
  · rw [ku_ne (by omega), ku_ne (by omega), ku_self, f _ _ (by unfold rr_ck; omega)]; exact ho.1
  · rw [ku_ne (by omega), ku_self, f _ _ (by unfold rr_ck; omega)]; exact ho.2.1
  · exact rp_T_congr (rp_T_take hT p1) (fun o hc => funext fun i => fr o i (by omega))
  · exact rr_M_congr (rr_M_take hMM hL'.1 p1 p2 hL.2.2.1) (fun o a b => funext fun i => fr o i (by omega))
  · intro q hq
    rw [fr 50 q (by omega)]; exact hB q hq
  · exact rp_N_congr (rp_N_take hN1 p1 hL'.1 (rp_N_sub h.1.2.2.2.2.2.2.1)) (fun _ => fr _ _ (by omega)) (fun _ => fr _ _ (by omega))
  · exact rp_N_congr (rp_N_take hN2 p2 hL'.2.1 (rp_N_sub h.1.2.2.2.2.2.2.2)) (fun _ => fr _ _ (by omega)) (fun _ => fr _ _ (by omega))
  · rw [ku_self, f _ _ (by unfold rr_ck; omega)]; exact ho.2.2
  · exact rp_F_grow (rp_F_take hA.2.2 p2 hL'.2.1 p3 (rr_A_mem h.2.1)) (List.prefix_refl _) (funext fun _ => fr _ _ (by omega)) (funext fun _ => fr _ _ (by omega)) (funext fun _ => fr _ _ (by omega))
theorem rm_stays_yes {F : Int32 → kS → Prop} (hb : S 39 33 = 0) (k : F 1 S) : kK (d + 1) m_Mo_stays [.inr 39] S (kq F) := g_Mo_stays ⟨fun e => absurd hb e, fun _ => k⟩
theorem rm_numT {i : Nat} {v : kF} {F : Int32 → kS → Prop} (h : rr_Q S M LT LM) (hi : LT[i]? = some v) (k : ∀ S', rr_Q S' (sp_numT M v).2 LT LM → rr_Fx S S' → F (sp_numT M v).1 S') : kK (d + 1) m_Mo_numberOfType [.inr 39, .inl (kn i)] S (kq F) := by
  have hl := h.1.1.2.2.2.2.2.1
  have hnd := h.1.1.1
  have hN := h.1.2.2.2.2.2.2.1
  have li : i < 50 := by have := rp_lt hi; omega
  have hlen := rp_N_len hN
  have hin : vp_in (kn i) 50 := kn_in li (by decide)
  refine g_Mo_numberOfType ?_
  rw [kn_tn (by omega), h.2.2.1]
  rcases hN.2.2 i v hi with ⟨j, hj, ej⟩ | ⟨hnot, ej⟩
  · have lj := rp_lt hj
    rw [ej]
    refine ⟨hin, fun _ => ⟨hin, ?_⟩, fun e => absurd (kn_ge (by omega)) e⟩
    unfold sp_numT at k
    rw [sp_nm_in hN.1 hj] at k
    exact k S h rr_Fx_rf
  · rw [ej]
    refine ⟨hin, fun e => absurd e (by decide), fun _ => ?_⟩
    have hlt : (sm_nT M).length < LT.length := by
      have h1 := fo_pg (sm_nT M ++ [v]) LT (fo_nd hN.1 hnot) (fun x hx => by
        rw [List.mem_append, List.mem_singleton] at hx
        rcases hx with hx | rfl
        · exact rp_N_sub hN x hx
        · exact rp_mem hi)
      rw [List.length_append, List.length_singleton] at h1
      omega
    rw [kn_tn (show (sm_nT M).length < 2147483648 by omega), ku_self]
    refine ⟨hin, kn_in (by omega) (by decide), hin, ?_⟩
    unfold sp_numT at k
    rw [sp_nm_new hnot] at k
    have fr : ∀ o j, ¬ (o = 45 ∨ o = 46 ∨ (o = 39 ∧ j = 8)) → ku (ku (ku S 45 i (kn (sm_nT M).length)) 46 (sm_nT M).length (kn i)) 39 8 (kn (sm_nT M).length + 1) o j = S o j := fun o j ho => by
      rw [ku_ne (by omega), ku_ne (by omega), ku_ne (by omega)]
    obtain ⟨⟨h1, h2, h3, h4, h5, h6, h7, h8⟩, hA, _, h17, hT, hM, hX⟩ := h
    refine k _ ⟨⟨h1, (fr _ _ (by omega)).trans h2, (fr _ _ (by omega)).trans h3, rp_T_congr h4 (fun o ho => funext fun i => fr o i (by omega)), rr_M_congr h5 (fun o a b => funext fun i => fr o i (by omega)), fun q hq => ?_, rp_N_new hN hnd hi hnot (fun j hj => ?_) (fun j hj hj2 => ?_) ?_ ?_, rp_N_congr h8 (fun _ => fr _ _ (by omega)) (fun _ => fr _ _ (by omega))⟩, rr_A_fr hA (fun o i ho => fr o i (by omega)), ?_, (fr _ _ (by omega)).trans h17, hT, hM, rr_X_fr hX (fun o i ho => fr o i (by omega))⟩ (fun o i ho => fr o i (by omega))
    · rw [fr 50 q (by omega)]; exact h6 q hq
    · rw [ku_ne (by omega), ku_ne (by omega), ku_ne (by omega)]
    · rw [ku_ne (by omega), ku_ne (by omega), ku_ne (by omega)]
    · rw [ku_ne (by omega), ku_self]
    · rw [ku_ne (by omega), ku_ne (by omega), ku_self]
    · rw [ku_self, kn_suc]
      show _ = kn (sm_nT M ++ [v]).length
      rw [List.length_append, List.length_singleton]
theorem rm_numM {i : Nat} {v : kF} {F : Int32 → kS → Prop} (h : rr_Q S M LT LM) (hi : LM[i]? = some v) (k : ∀ S', rr_Q S' (sp_numM M v).2 LT LM → rr_Fx S S' → F (sp_numM M v).1 S') : kK (d + 1) m_Mo_numberOf [.inr 39, .inl (kn i)] S (kq F) := by
  have hl := h.1.1.2.2.2.2.2.2.1
  have hnd := h.1.1.2.1
  have hN := h.1.2.2.2.2.2.2.2
  have li : i < 250 := by have := rp_lt hi; omega
  have hlen := rp_N_len hN
  have hin : vp_in (kn i) 250 := kn_in li (by decide)
  refine g_Mo_numberOf ?_
  rw [kn_tn (by omega), h.2.2.2.1]
  rcases hN.2.2 i v hi with ⟨j, hj, ej⟩ | ⟨hnot, ej⟩
  · have lj := rp_lt hj
    rw [ej]
    refine ⟨hin, fun _ => ⟨hin, ?_⟩, fun e => absurd (kn_ge (by omega)) e⟩
    unfold sp_numM at k
    rw [sp_nm_in hN.1 hj] at k
    exact k S h rr_Fx_rf
  · rw [ej]
    refine ⟨hin, fun e => absurd e (by decide), fun _ => ?_⟩
    have hlt : (sm_nM M).length < LM.length := by
      have h1 := fo_pg (sm_nM M ++ [v]) LM (fo_nd hN.1 hnot) (fun x hx => by
        rw [List.mem_append, List.mem_singleton] at hx
        rcases hx with hx | rfl
        · exact rp_N_sub hN x hx
        · exact rp_mem hi)
      rw [List.length_append, List.length_singleton] at h1
      omega
    rw [kn_tn (show (sm_nM M).length < 2147483648 by omega), ku_self]
    refine ⟨hin, kn_in (by omega) (by decide), hin, ?_⟩
    unfold sp_numM at k
    rw [sp_nm_new hnot] at k
    have fr : ∀ o j, ¬ (o = 52 ∨ o = 53 ∨ (o = 39 ∧ j = 17)) → ku (ku (ku S 52 i (kn (sm_nM M).length)) 53 (sm_nM M).length (kn i)) 39 17 (kn (sm_nM M).length + 1) o j = S o j := fun o j ho => by
      rw [ku_ne (by omega), ku_ne (by omega), ku_ne (by omega)]
    obtain ⟨⟨h1, h2, h3, h4, h5, h6, h7, h8⟩, hA, h8', _, hT, hM, hX⟩ := h
    refine k _ ⟨⟨h1, (fr _ _ (by omega)).trans h2, (fr _ _ (by omega)).trans h3, rp_T_congr h4 (fun o ho => funext fun i => fr o i (by omega)), rr_M_congr h5 (fun o a b => funext fun i => fr o i (by omega)), fun q hq => ?_, rp_N_congr h7 (fun _ => fr _ _ (by omega)) (fun _ => fr _ _ (by omega)), rp_N_new hN hnd hi hnot (fun j hj => ?_) (fun j hj hj2 => ?_) ?_ ?_⟩, rr_A_fr hA (fun o i ho => fr o i (by omega)), (fr _ _ (by omega)).trans h8', ?_, hT, hM, rr_X_fr hX (fun o i ho => fr o i (by omega))⟩ (fun o i ho => fr o i (by omega))
    · rw [fr 50 q (by omega)]; exact h6 q hq
    · rw [ku_ne (by omega), ku_ne (by omega), ku_ne (by omega)]
    · rw [ku_ne (by omega), ku_ne (by omega), ku_ne (by omega)]
    · rw [ku_ne (by omega), ku_self]
    · rw [ku_ne (by omega), ku_ne (by omega), ku_self]
    · rw [ku_self, kn_suc]
      show _ = kn (sm_nM M ++ [v]).length
      rw [List.length_append, List.length_singleton]
theorem rm_ansT {S2 : kS} {LT2 LM2 : List kF} {b : Bool} {v : kF} {r : Int32} {F : Int32 → kS → Prop} (h : rr_Q S M LT LM) (ho : rr_O S LT LM (sm_F M)) (J : rr_J S LT LM (sm_nT M) (sm_nM M) (sp_gT v) S2 LT2 LM2 b) (hv : rr_v LT2 50 b v r) (k : ∀ S', rr_R S' (sp_mkT M v).2 → rr_Fx S S' → F (sp_mkT M v).1 S') : kK (d + 2) m_Mo_answerType [.inr 39, .inl r] S2 (kq F) := by
  have fk : rr_Fk S S2 := rr_Fk_r (rr_FR_c J.2.2.2.2.1)
  have A2 := rr_A_fc h.2.1 J.2.2.2.1 J.2.2.2.2.1
  cases b with
  | true =>
    refine g_Mo_answerType (rm_stays_no h ho J.1 J.2.2.1 J.2.2.2.1 A2 (List.prefix_refl _) fk (by rw [J.2.1]; decide) (fun S3 q3 f3 => ⟨fun _ => ?_, fun e => absurd rfl e⟩))
    have := k S3
    unfold sp_mkT at this
    rw [sp_ite_neg (sp_no h.2.2.2.2.1 h.2.2.2.2.2.1 (J.2.2.2.2.2.2 rfl))] at this
    exact this ⟨LT, LM, q3⟩ f3
  | false =>
    obtain ⟨i, hi, rfl⟩ := hv.2 rfl
    obtain ⟨hfit, hcT, hcM⟩ := sp_yes h.2.2.2.2.1 h.2.2.2.2.2.1 J.1.1 (fun x hx => rp_sub J.2.2.1 hx) (fun x hx => rp_sub J.2.2.2.1 hx) (rp_mem hi) (J.2.2.2.2.2.1 rfl)
    refine g_Mo_answerType (rm_stays_yes J.2.1 ⟨fun e => absurd e (by decide), fun _ => ?_⟩)
    unfold sp_mkT at k
    rw [sp_ite_pos hfit] at k
    exact rm_numT (M := (sp_cT (sm_T M) (sm_M M) (sp_gT v), sp_cM (sm_T M) (sm_M M) (sp_gT v), sm_nT M, sm_nM M, sm_F M, sm_c M, sm_d M, sm_L M)) ⟨J.1, A2, (fk _ _ (by unfold rr_ck; omega)).trans h.2.2.1, (fk _ _ (by unfold rr_ck; omega)).trans h.2.2.2.1, hcT, hcM, rr_X_fr h.2.2.2.2.2.2 (fun o i ho => fk o i (by unfold rr_ck; omega))⟩ hi (fun S3 q3 f3 => k S3 ⟨_, _, q3⟩ (rr_Fx_tr (rr_Fk_x fk) f3))
theorem rm_ansM {S2 : kS} {LT2 LM2 : List kF} {b : Bool} {v : kF} {r : Int32} {F : Int32 → kS → Prop} (h : rr_Q S M LT LM) (ho : rr_O S LT LM (sm_F M)) (J : rr_J S LT LM (sm_nT M) (sm_nM M) (sp_gM v) S2 LT2 LM2 b) (hv : rr_v LM2 250 b v r) (k : ∀ S', rr_R S' (sp_mkM M v).2 → rr_Fx S S' → F (sp_mkM M v).1 S') : kK (d + 2) m_Mo_answer [.inr 39, .inl r] S2 (kq F) := by
  have fk : rr_Fk S S2 := rr_Fk_r (rr_FR_c J.2.2.2.2.1)
  have A2 := rr_A_fc h.2.1 J.2.2.2.1 J.2.2.2.2.1
  cases b with
  | true =>
    refine g_Mo_answer (rm_stays_no h ho J.1 J.2.2.1 J.2.2.2.1 A2 (List.prefix_refl _) fk (by rw [J.2.1]; decide) (fun S3 q3 f3 => ⟨fun _ => ?_, fun e => absurd rfl e⟩))
    have := k S3
    unfold sp_mkM at this
    rw [sp_ite_neg (sp_no h.2.2.2.2.1 h.2.2.2.2.2.1 (J.2.2.2.2.2.2 rfl))] at this
    exact this ⟨LT, LM, q3⟩ f3
  | false =>
    obtain ⟨i, hi, rfl⟩ := hv.2 rfl
    obtain ⟨hfit, hcT, hcM⟩ := sp_yes h.2.2.2.2.1 h.2.2.2.2.2.1 J.1.1 (fun x hx => rp_sub J.2.2.1 hx) (fun x hx => rp_sub J.2.2.2.1 hx) (rp_mem hi) (J.2.2.2.2.2.1 rfl)
    refine g_Mo_answer (rm_stays_yes J.2.1 ⟨fun e => absurd e (by decide), fun _ => ?_⟩)
    unfold sp_mkM at k
    rw [sp_ite_pos hfit] at k
    exact rm_numM (M := (sp_cT (sm_T M) (sm_M M) (sp_gM v), sp_cM (sm_T M) (sm_M M) (sp_gM v), sm_nT M, sm_nM M, sm_F M, sm_c M, sm_d M, sm_L M)) ⟨J.1, A2, (fk _ _ (by unfold rr_ck; omega)).trans h.2.2.1, (fk _ _ (by unfold rr_ck; omega)).trans h.2.2.2.1, hcT, hcM, rr_X_fr h.2.2.2.2.2.2 (fun o i ho => fk o i (by unfold rr_ck; omega))⟩ hi (fun S3 q3 f3 => k S3 ⟨_, _, q3⟩ (rr_Fx_tr (rr_Fk_x fk) f3))
end RRS
