/-! ===== THE CLASS AT REST: settle, numbers ===== -/
def rc_K (S : kS) (LT LM : List kF) (FS : List kQ) : Prop := S 1 7 = kn LT.length ∧ S 10 14 = kn LM.length ∧ S 25 7 = kn FS.length
def rc_L (S : kS) (TL : kTL) : Prop := S 34 4 = kn TL.length ∧ TL.length ≤ 12 ∧ ∀ i o a b c, TL[i]? = some (o, a, b, c) → S 35 i = o ∧ S 36 i = a ∧ S 37 i = b ∧ S 38 i = c
/-- what isn't a store's, a fact's or a number's -/
def rc_X (S : kS) (M : kO) : Prop := S 0 6 = kn (sm_c M) ∧ S 0 7 = kn (sm_d M) ∧ sm_c M ≤ 8 ∧ sm_d M ≤ 3 ∧ rc_L S (sm_L M)
def rc_Q (S : kS) (M : kO) (τ : Nat) (LT LM : List kF) : Prop := rc_W S LT LM (sm_F M) (sm_nT M) (sm_nM M) ∧ rc_K S LT LM (sm_F M) ∧ ch_Z S τ ∧ (∀ x, x ∈ LT ↔ sm_T M x) ∧ (∀ x, x ∈ LM ↔ sm_M M x) ∧ rc_X S M
def rc_R (S : kS) (M : kO) (τ : Nat) : Prop := ∃ LT LM, rc_Q S M τ LT LM
/-- nothing of the reference is touched -/
def rc_Fx (S S' : kS) : Prop := ∀ o i, 39 ≤ o → S' o i = S o i
theorem rc_X_fr {S S' : kS} {M : kO} (h : rc_X S M) (f : ∀ o i, o = 0 ∨ (34 ≤ o ∧ o ≤ 38) → S' o i = S o i) : rc_X S' M := by
  obtain ⟨h1, h2, h3, h4, h5, h6, h7⟩ := h
  refine ⟨(f _ _ (by omega)).trans h1, (f _ _ (by omega)).trans h2, h3, h4, (f _ _ (by omega)).trans h5, h6, fun i o a b c e => ?_⟩
  rw [f 35 i (by omega), f 36 i (by omega), f 37 i (by omega), f 38 i (by omega)]
  exact h7 i o a b c e
theorem rp_F_take {S : kS} {c1 c2 c3 : Nat} {LM LM' : List kF} {FS FS' : List kQ} (h : rp_F S c1 c2 c3 LM' FS') (p : LM <+: LM') (hn : LM'.Nodup) (q : FS <+: FS') (hc : ∀ f, f ∈ FS → f.1 ∈ LM ∧ ∀ z, z ∈ f.2 → z ∈ LM) : rp_F S c1 c2 c3 LM FS := by
  have hone : ∀ (i : Nat) (x : kF), x ∈ LM → LM'[i]? = some x → LM[i]? = some x := by
    intro i x hx hi
    obtain ⟨i', h9⟩ := rp_at hx
    have := fo_ix hn (rp_pre p h9) hi
    subst this
    exact h9
  intro k c hs hk
  obtain ⟨r, rfl⟩ := q
  obtain ⟨⟨j, g1, g2⟩, g3, g4, g5⟩ := h k c hs (by rw [List.getElem?_append_left (List.getElem?_eq_some_iff.mp hk).1]; exact hk)
  have hm := hc _ (List.mem_of_getElem? hk)
  refine ⟨⟨j, hone j c hm.1 g1, g2⟩, g3, g4, fun i x hi => ?_⟩
  obtain ⟨a, b1, b2⟩ := g5 i x hi
  exact ⟨a, hone a x (hm.2 x (rp_mem hi)) b1, b2⟩
theorem rc_N_take {S : kS} {cp cn co : Nat} {L L' N : List kF} {n : Nat} (h : rc_N S cp cn co L' N n) (p : L <+: L') (hn : L'.Nodup) (hN : ∀ x, x ∈ N → x ∈ L) : rc_N S cp cn co L N n := by
  refine ⟨rp_N_take h.1 p hn hN, h.2.1, fun k h1 h2 => ?_⟩
  by_cases hk : k < L'.length
  · have hu : L'[k]? = some L'[k] := List.getElem?_eq_getElem hk
    rcases h.1.2.2 k _ hu with ⟨j, hj, _⟩ | ⟨_, e⟩
    · obtain ⟨i, hi⟩ := rp_at (hN _ (rp_mem hj))
      have := fo_ix hn (rp_pre p hi) hu
      have := rp_lt hi
      omega
    · exact e
  · exact h.2.2 k (by omega) h2
theorem rc_A_mem {S : kS} {LM : List kF} {FS : List kQ} (hA : rc_A S LM FS) : ∀ f, f ∈ FS → f.1 ∈ LM ∧ ∀ z, z ∈ f.2 → z ∈ LM := by
  intro f hf
  obtain ⟨n, hn⟩ := List.getElem?_of_mem hf
  obtain ⟨⟨p, g1, _⟩, _⟩ := hA.2.2 n f.1 f.2 hn
  exact ⟨rp_mem g1, rc_A_hyp hA hf⟩
/-- the newest terms are taken back -/
theorem c_Te_settle_no {d : Nat} {S : kS} {n m : Nat} {F : kS → Prop} (h13 : S 10 13 = kn (n + m)) (h14 : S 10 14 = kn n) (hn : n + m ≤ 250) (hH : rc_H S (n + m)) (k : ∀ S', (∀ o i, ¬ ((o = 10 ∧ i = 13) ∨ o = 22) → S' o i = S o i) → S' 10 13 = kn n → rc_H S' n → F S') : kK (d + 1) m_Te_settle [.inr 10, .inl 0] S (kv F) := by
  refine g_Te_settle (fun G h => ⟨fun _ => ?_, fun e => absurd rfl e⟩)
  have loop : ∀ m, n + m ≤ 250 → ∀ S1 : kS, (∀ o i, ¬ ((o = 10 ∧ i = 13) ∨ o = 22) → S1 o i = S o i) → S1 10 13 = kn (n + m) → rc_H S1 (n + m) → G 12 [some (.inr 10), some (.inl 0)] [] S1 := by
    intro m
    induction m with
    | zero =>
      intro hm S1 f1 e1 h1
      have e14 : S1 10 14 = kn n := (f1 _ _ (by omega)).trans h14
      refine f_Te_settle_12 kspec_Mo h ⟨fun _ => k S1 f1 e1 h1, fun e => absurd ?_ e⟩
      rw [e1, e14]
      exact (kn_le (by omega) (by omega)).mpr (by omega)
    | succ m ih =>
      intro hm S1 f1 e1 h1
      have e14 : S1 10 14 = kn n := (f1 _ _ (by omega)).trans h14
      have es : kn (n + (m + 1)) - 1 = kn (n + m) := by
        rw [show (1 : Int32) = kn 1 from rfl, kn_sub (by omega)]
        congr 1
      obtain ⟨h0, hh0, e24⟩ := h1.1 (n + m) (by omega)
      refine f_Te_settle_12 kspec_Mo h ⟨fun e => ?_, fun _ => ?_⟩
      · rw [e1, e14] at e
        have := (kn_le (by omega) (by omega)).mp e
        omega
      · rw [e1, es, kn_tn (by omega), e24, kn_tn (by omega)]
        refine ⟨kn_in (by omega) (by decide), kn_in (by omega) (by decide), kn_in hh0 (by decide), ih (by omega) _ ?_ ?_ ?_⟩
        · intro o i ho
          rw [ku_ne (by omega), ku_ne (by omega)]
          exact f1 o i ho
        · rw [ku_ne (by omega), ku_self]
        · refine rc_H_pop (n := n + m) (h0 := h0) (S := S1) h1 (by omega) hh0 e24 ?_ ?_ ?_
          · intro o ho
            funext i
            rw [ku_ne (by omega), ku_ne (by omega)]
          · rw [ku_self]
          · intro i hi
            rw [ku_ne (by omega), ku_ne (by omega)]
  exact loop m hn S (fun _ _ _ => rfl) h13 hH
theorem c_Te_settle_yes {d : Nat} {S : kS} {F : kS → Prop} (k : F (ku S 10 14 (S 10 13))) : kK (d + 1) m_Te_settle [.inr 10, .inl 1] S (kv F) := by
  refine g_Te_settle (fun G h => ⟨fun e => absurd e (by decide), fun _ => f_Te_settle_12 kspec_Mo h ⟨fun _ => k, fun e => absurd ?_ e⟩⟩)
  rw [ku_self, ku_ne (by omega)]
  exact Int32.le_refl _
/-- a making is kept -/
theorem c_K_settled_yes {d : Nat} {S : kS} {r : Int32} {F : Int32 → kS → Prop} (hr : ¬ r < 0) (k : F r (ku (ku (ku S 1 7 (S 1 6)) 10 14 (S 10 13)) 25 7 (S 25 6))) : kK (d + 2) m_K_settled [.inr 0, .inl r] S (kq F) := by
  refine g_K_settled (fun G h => ⟨fun e => absurd e hr, fun _ => g_Ty_settle ⟨fun e => absurd e (by decide), fun _ => ⟨fun e => absurd e hr, fun _ => ?_⟩⟩⟩)
  refine f_K_settled_29 kspec_Mo h (c_Te_settle_yes ⟨fun e => absurd e hr, fun _ => g_Fa_settle ⟨fun e => absurd e (by decide), fun _ => ?_⟩⟩)
  have e1 : ku S 1 7 (S 1 6) 10 13 = S 10 13 := ku_ne (by omega)
  rw [e1]
  have e2 : ku (ku S 1 7 (S 1 6)) 10 14 (S 10 13) 25 6 = S 25 6 := by rw [ku_ne (by omega), ku_ne (by omega)]
  rw [e2]
  exact k
/-- a making is taken back -/
theorem c_K_settled_no {d : Nat} {S : kS} {LT LM LT' LM' : List kF} {FS FS' : List kQ} {NT NM : List kF} {r : Int32} {F : Int32 → kS → Prop} (hr : r < 0) (hW : rc_W S LT' LM' FS' NT NM) (hK : rc_K S LT LM FS) (p1 : LT <+: LT') (p2 : LM <+: LM') (p3 : FS <+: FS') (hL : fo_SL LT LM) (hNT : ∀ x, x ∈ NT → x ∈ LT) (hNM : ∀ x, x ∈ NM → x ∈ LM) (hF : ∀ f, f ∈ FS → f.1 ∈ LM ∧ ∀ z, z ∈ f.2 → z ∈ LM)
    (k : ∀ S', (∀ o i, ¬ ((o = 1 ∧ i = 6) ∨ (o = 10 ∧ i = 13) ∨ o = 22 ∨ (o = 25 ∧ i = 6)) → S' o i = S o i) → rc_W S' LT LM FS NT NM → rc_K S' LT LM FS → F r S') : kK (d + 2) m_K_settled [.inr 0, .inl r] S (kq F) := by
  obtain ⟨⟨hL', h16, h1013, hT, hM, hH⟩, ⟨h256, h60, hFa⟩, hN1, hN2⟩ := hW
  obtain ⟨k1, k2, k3⟩ := hK
  obtain ⟨m, hm⟩ : ∃ m, LM'.length = LM.length + m := ⟨LM'.length - LM.length, by have := p2.length_le; omega⟩
  have hl250 : LM'.length ≤ 250 := hL'.2.2.2.2.2.2.1
  refine g_K_settled (fun G h => ⟨fun _ => g_Ty_settle ⟨fun _ => ⟨fun _ => ?_, fun e => absurd hr e⟩, fun e => absurd rfl e⟩, fun e => absurd hr e⟩)
  have f0 : ∀ o i, ¬ (o = 1 ∧ i = 6) → ku S 1 6 (S 1 7) o i = S o i := fun o i h => ku_ne h
  refine f_K_settled_29 kspec_Mo h (c_Te_settle_no (n := LM.length) (m := m) ?_ ?_ (by omega) ?_ (fun S2 f2 e2 h2 => ⟨fun _ => g_Fa_settle ⟨fun _ => ?_, fun e => absurd rfl e⟩, fun e => absurd hr e⟩))
  · rw [f0 _ _ (by omega), h1013, hm]
  · rw [f0 _ _ (by omega)]; exact k2
  · rw [← hm]
    exact rc_H_congr hH (fun o ho => funext fun i => f0 o i (by omega))
  · have fr : ∀ o i, ¬ ((o = 1 ∧ i = 6) ∨ (o = 10 ∧ i = 13) ∨ o = 22 ∨ (o = 25 ∧ i = 6)) → ku S2 25 6 (S2 25 7) o i = S o i := by
      intro o i ho
      rw [ku_ne (by omega), f2 o i (by omega), f0 o i (by omega)]
    have e257 : S2 25 7 = kn FS.length := by rw [f2 _ _ (by omega), f0 _ _ (by omega)]; exact k3
    refine k _ fr ⟨⟨hL, ?_, ?_, rp_T_congr (rp_T_take hT p1) ?_, rc_M_congr (rc_M_take hM hL'.1 p1 p2 (fun x hx => hL.2.2.1.2.1 x hx)) ?_, rc_H_congr h2 ?_⟩, ⟨?_, ?_, ?_⟩, rc_N_gr (rc_N_take hN1 p1 hL'.1 hNT) (List.prefix_refl _) hL.1 hL.2.2.2.2.2.1 (fun _ => fr _ _ (by omega)) (fun _ => fr _ _ (by omega)) (fr _ _ (by omega)), rc_N_gr (rc_N_take hN2 p2 hL'.2.1 hNM) (List.prefix_refl _) hL.2.1 hL.2.2.2.2.2.2.1 (fun _ => fr _ _ (by omega)) (fun _ => fr _ _ (by omega)) (fr _ _ (by omega))⟩ ⟨(fr _ _ (by omega)).trans k1, (fr _ _ (by omega)).trans k2, (fr _ _ (by omega)).trans k3⟩
    · rw [ku_ne (by omega), f2 _ _ (by omega), ku_self]; exact k1
    · rw [ku_ne (by omega)]; exact e2
    · intro o ho; exact funext fun i => fr o i (by omega)
    · intro o h1 h2 h3; exact funext fun i => fr o i (by omega)
    · intro o ho
      funext i
      exact ku_ne (by omega)
    · rw [ku_self]; exact e257
    · have := p3.length_le; omega
    · exact rp_F_grow (rp_F_take hFa p2 hL'.2.1 p3 hF) (List.prefix_refl _) (funext fun i => fr _ _ (by omega)) (funext fun i => fr _ _ (by omega)) (funext fun i => fr _ _ (by omega))
/-- numbers -/
theorem c_Nu_numberOf_2 {d : Nat} {S : kS} {L N : List kF} {i : Nat} {t : kF} {F : Int32 → kS → Prop} (hN : rc_N S 3 4 2 L N 50) (hn : L.Nodup) (hl : L.length ≤ 50) (hi : L[i]? = some t) (k : ∀ S', (∀ o j, ¬ (o = 3 ∨ o = 4 ∨ (o = 2 ∧ j = 2)) → S' o j = S o j) → rc_N S' 3 4 2 L (sp_nm N t).2 50 → F (sp_nm N t).1 S') : kK (d + 1) m_Nu_numberOf [.inr 2, .inl (kn i)] S (kq F) := by
  have li : i < 50 := by have := rp_lt hi; omega
  have hlen := rp_N_len hN.1
  have hin : vp_in (kn i) 50 := kn_in li (by decide)
  refine g_Nu_numberOf_2 ⟨fun e => absurd e (kn_nn (by omega)), fun _ => ⟨fun _ => ⟨hin, ?_⟩, fun e => absurd ((kn_lt (n := i) (m := 50) (by omega) (by decide)).mpr li) e⟩⟩
  rw [kn_tn (by omega), hN.2.1]
  rcases hN.1.2.2 i t hi with ⟨j, hj, ej⟩ | ⟨hnot, ej⟩
  · have lj := rp_lt hj
    rw [ej]
    refine ⟨fun _ => ⟨hin, ?_⟩, fun e => absurd (kn_ge (by omega)) e⟩
    rw [sp_nm_in hN.1.1 hj] at k
    exact k S (fun _ _ _ => rfl) hN
  · rw [ej]
    refine ⟨fun e => absurd e (by decide), fun _ => ?_⟩
    have hlt : N.length < L.length := by
      have h1 := fo_pg (N ++ [t]) L (fo_nd hN.1.1 hnot) (fun x hx => by
        rw [List.mem_append, List.mem_singleton] at hx
        rcases hx with hx | rfl
        · exact rp_N_sub hN.1 x hx
        · exact rp_mem hi)
      rw [List.length_append, List.length_singleton] at h1
      omega
    rw [kn_tn (show N.length < 2147483648 by omega)]
    refine ⟨kn_in (by omega) (by decide), hin, hin, ?_⟩
    rw [sp_nm_new hnot] at k
    rw [ku_self]
    refine k _ (fun o j ho => ?_) ⟨rp_N_new hN.1 hn hi hnot (fun j hj => ?_) (fun j hj hj2 => ?_) ?_ ?_, ?_, fun j h1 h2 => ?_⟩
    · rw [ku_ne (by omega), ku_ne (by omega), ku_ne (by omega)]
    · rw [ku_ne (by omega), ku_ne (by omega), ku_ne (by omega)]
    · rw [ku_ne (by omega), ku_ne (by omega), ku_ne (by omega)]
    · rw [ku_ne (by omega), ku_ne (by omega), ku_self]
    · rw [ku_ne (by omega), ku_self]
    · rw [ku_self, kn_suc, List.length_append, List.length_singleton]
    · have := rp_lt hi
      rw [ku_ne (by omega), ku_ne (by omega), ku_ne (by omega)]
      exact hN.2.2 j h1 h2
theorem c_Nu_numberOf_11 {d : Nat} {S : kS} {L N : List kF} {i : Nat} {t : kF} {F : Int32 → kS → Prop} (hN : rc_N S 12 13 11 L N 250) (hn : L.Nodup) (hl : L.length ≤ 250) (hi : L[i]? = some t) (k : ∀ S', (∀ o j, ¬ (o = 12 ∨ o = 13 ∨ (o = 11 ∧ j = 2)) → S' o j = S o j) → rc_N S' 12 13 11 L (sp_nm N t).2 250 → F (sp_nm N t).1 S') : kK (d + 1) m_Nu_numberOf [.inr 11, .inl (kn i)] S (kq F) := by
  have li : i < 250 := by have := rp_lt hi; omega
  have hlen := rp_N_len hN.1
  have hin : vp_in (kn i) 250 := kn_in li (by decide)
  refine g_Nu_numberOf_11 ⟨fun e => absurd e (kn_nn (by omega)), fun _ => ⟨fun _ => ⟨hin, ?_⟩, fun e => absurd ((kn_lt (n := i) (m := 250) (by omega) (by decide)).mpr li) e⟩⟩
  rw [kn_tn (by omega), hN.2.1]
  rcases hN.1.2.2 i t hi with ⟨j, hj, ej⟩ | ⟨hnot, ej⟩
  · have lj := rp_lt hj
    rw [ej]
    refine ⟨fun _ => ⟨hin, ?_⟩, fun e => absurd (kn_ge (by omega)) e⟩
    rw [sp_nm_in hN.1.1 hj] at k
    exact k S (fun _ _ _ => rfl) hN
  · rw [ej]
    refine ⟨fun e => absurd e (by decide), fun _ => ?_⟩
    have hlt : N.length < L.length := by
      have h1 := fo_pg (N ++ [t]) L (fo_nd hN.1.1 hnot) (fun x hx => by
        rw [List.mem_append, List.mem_singleton] at hx
        rcases hx with hx | rfl
        · exact rp_N_sub hN.1 x hx
        · exact rp_mem hi)
      rw [List.length_append, List.length_singleton] at h1
      omega
    rw [kn_tn (show N.length < 2147483648 by omega)]
    refine ⟨kn_in (by omega) (by decide), hin, hin, ?_⟩
    rw [sp_nm_new hnot] at k
    rw [ku_self]
    refine k _ (fun o j ho => ?_) ⟨rp_N_new hN.1 hn hi hnot (fun j hj => ?_) (fun j hj hj2 => ?_) ?_ ?_, ?_, fun j h1 h2 => ?_⟩
    · rw [ku_ne (by omega), ku_ne (by omega), ku_ne (by omega)]
    · rw [ku_ne (by omega), ku_ne (by omega), ku_ne (by omega)]
    · rw [ku_ne (by omega), ku_ne (by omega), ku_ne (by omega)]
    · rw [ku_ne (by omega), ku_ne (by omega), ku_self]
    · rw [ku_ne (by omega), ku_self]
    · rw [ku_self, kn_suc, List.length_append, List.length_singleton]
    · have := rp_lt hi
      rw [ku_ne (by omega), ku_ne (by omega), ku_ne (by omega)]
      exact hN.2.2 j h1 h2
theorem c_Nu_numberOf_2n {d : Nat} {S : kS} {x : Int32} {F : Int32 → kS → Prop} (h : x < 0) (k : F (-1) S) : kK (d + 1) m_Nu_numberOf [.inr 2, .inl x] S (kq F) := g_Nu_numberOf_2 ⟨fun _ => k, fun e => absurd h e⟩
theorem c_Nu_numberOf_11n {d : Nat} {S : kS} {x : Int32} {F : Int32 → kS → Prop} (h : x < 0) (k : F (-1) S) : kK (d + 1) m_Nu_numberOf [.inr 11, .inl x] S (kq F) := g_Nu_numberOf_11 ⟨fun _ => k, fun e => absurd h e⟩
