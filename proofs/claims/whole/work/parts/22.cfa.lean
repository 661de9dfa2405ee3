/-! ===== THE CLASS: facts and numbers ===== -/
def rc_A (S : kS) (LM : List kF) (FS : List (kF × List kF)) : Prop := S 25 6 = kn FS.length ∧ FS.length ≤ 60 ∧ rp_F S 26 27 28 LM FS
def rc_D (S : kS) (LM D : List kF) (b : Bool) : Prop := S 25 4 = kn D.length ∧ S 25 5 = kb b ∧ rp_D S 29 LM D
def rc_N (S : kS) (cp cn co : Nat) (L N : List kF) (n : Nat) : Prop := rp_N S cp cn L N ∧ S co 2 = kn N.length ∧ ∀ k, L.length ≤ k → k < n → S cn k = -1
/-- the memories between changes: entries of this turn or earlier ones -/
def ch_Z (S : kS) (τ : Nat) : Prop := S 30 4 = kn τ ∧ (∀ u i, u < 20 → i < 250 → ∃ m p, m ≤ τ ∧ p < 256 ∧ S 31 (u * 250 + i) = kn (m * 256 + p)) ∧ (∀ i, i < 50 → ∃ m p, m ≤ τ ∧ p < 256 ∧ S 32 i = kn (m * 256 + p))
theorem ch_Z_of {S : kS} {LT LM : List kF} {st : kF → Nat → Option kF} {rt : kF → kF} {τ : Nat} (h : ch_M S LT LM st rt) (e : S 30 4 = kn τ) (hτ : τ < 8388608) : ch_Z S τ := by
  obtain ⟨σ, a1, a2, a3, a4⟩ := h
  have := kn_inj (by omega) (by omega) (a1.symm.trans e)
  subst this
  refine ⟨e, fun u i hu hi => ?_, fun i hi => ?_⟩
  · obtain ⟨m, p, b1, b2, b3, _⟩ := a3 u i hu hi
    exact ⟨m, p, b1, b2, b3⟩
  · obtain ⟨m, p, b1, b2, b3, _⟩ := a4 i hi
    exact ⟨m, p, b1, b2, b3⟩
theorem ch_Z_fr {S S' : kS} {τ : Nat} (h : ch_Z S τ) (h4 : S' 30 4 = S 30 4) (h31 : ∀ i, S' 31 i = S 31 i) (h32 : ∀ i, S' 32 i = S 32 i) : ch_Z S' τ := by
  refine ⟨h4.trans h.1, fun u i hu hi => ?_, fun i hi => ?_⟩
  · rw [h31]; exact h.2.1 u i hu hi
  · rw [h32]; exact h.2.2 i hi
/-- everything but the fact that is being made -/
def rc_W (S : kS) (LT LM : List kF) (FS : List (kF × List kF)) (NT NM : List kF) : Prop := rc_S S LT LM ∧ rc_A S LM FS ∧ rc_N S 3 4 2 LT NT 50 ∧ rc_N S 12 13 11 LM NM 250
theorem rc_ncc {o i : Nat} (h : o = 0 ∨ o = 2 ∨ o = 3 ∨ o = 4 ∨ (o = 1 ∧ i = 7) ∨ (o = 10 ∧ i = 14) ∨ (11 ≤ o ∧ o ≤ 13) ∨ o = 19 ∨ (25 ≤ o ∧ o ≤ 30) ∨ 33 ≤ o) : ¬ rc_cc o i := by
  unfold rc_cc rc_cm rc_ct; omega
theorem rc_A_gr {S S' : kS} {LM LM' : List kF} {FS : List (kF × List kF)} (h : rc_A S LM FS) (p : LM <+: LM') (f : rc_FC S S') : rc_A S' LM' FS :=
  ⟨(f _ _ (rc_ncc (by omega))).trans h.1, h.2.1, rp_F_grow h.2.2 p (funext fun _ => f _ _ (rc_ncc (by omega))) (funext fun _ => f _ _ (rc_ncc (by omega))) (funext fun _ => f _ _ (rc_ncc (by omega)))⟩
theorem rc_D_gr {S S' : kS} {LM LM' D : List kF} {b : Bool} (h : rc_D S LM D b) (p : LM <+: LM') (f : rc_FC S S') : rc_D S' LM' D b :=
  ⟨(f _ _ (rc_ncc (by omega))).trans h.1, (f _ _ (rc_ncc (by omega))).trans h.2.1, rp_D_grow h.2.2 p (funext fun _ => f _ _ (rc_ncc (by omega)))⟩
theorem rc_N_gr {S S' : kS} {cp cn co : Nat} {L L' N : List kF} {n : Nat} (h : rc_N S cp cn co L N n) (p : L <+: L') (hn : L'.Nodup) (hl : L'.length ≤ n) (f1 : ∀ j, S' cp j = S cp j) (f2 : ∀ j, S' cn j = S cn j) (f3 : S' co 2 = S co 2) : rc_N S' cp cn co L' N n := by
  refine ⟨rp_N_grow h.1 p hn (fun j _ => f1 j) (fun k _ => f2 k) (fun k h1 h2 => (f2 k).trans (h.2.2 k h1 (by omega))), f3.trans h.2.1, fun k h1 h2 => (f2 k).trans (h.2.2 k ?_ h2)⟩
  have := p.length_le
  omega
theorem rc_W_gr {S S' : kS} {LT LM LT' LM' : List kF} {FS : List (kF × List kF)} {NT NM : List kF} (h : rc_W S LT LM FS NT NM) (g : rc_S S' LT' LM') (p1 : LT <+: LT') (p2 : LM <+: LM') (f : rc_FC S S') : rc_W S' LT' LM' FS NT NM :=
  ⟨g, rc_A_gr h.2.1 p2 f, rc_N_gr h.2.2.1 p1 g.1.1 g.1.2.2.2.2.2.1 (fun _ => f _ _ (rc_ncc (by omega))) (fun _ => f _ _ (rc_ncc (by omega))) (f _ _ (rc_ncc (by omega))), rc_N_gr h.2.2.2 p2 g.1.2.1 g.1.2.2.2.2.2.2.1 (fun _ => f _ _ (rc_ncc (by omega))) (fun _ => f _ _ (rc_ncc (by omega))) (f _ _ (rc_ncc (by omega)))⟩
/-- numbers -/
theorem c_Nu_placeOf_2 {d : Nat} {S : kS} {L N : List kF} {x : Int32} {F : Int32 → kS → Prop} (hN : rc_N S 3 4 2 L N 50) (hl : L.length ≤ 50) (k1 : ∀ i t, sp_at N x = some t → L[i]? = some t → F (kn i) S) (k2 : sp_at N x = none → F (-1) S) : kK (d + 1) m_Nu_placeOf [.inr 2, .inl x] S (kq F) := by
  have hlen := rp_N_len hN.1
  refine g_Nu_placeOf_2 ⟨fun e => k2 (sp_at_neg e), fun e => ?_⟩
  obtain ⟨n, hn, rfl⟩ := (kn_of x).resolve_left e
  rw [hN.2.1, kn_tn hn]
  refine ⟨fun e2 => k2 ?_, fun e2 => ?_⟩
  · rw [sp_at_kn hn]
    exact List.getElem?_eq_none ((kn_le (by omega) hn).mp e2)
  · have hlt : n < N.length := Nat.not_le.mp (fun q => e2 ((kn_le (by omega) hn).mpr q))
    have ht : N[n]? = some N[n] := List.getElem?_eq_getElem hlt
    obtain ⟨i, hi, ei⟩ := hN.1.2.1 n _ ht
    refine ⟨kn_in (by omega) (by decide), ?_⟩
    rw [ei]
    exact k1 i _ (by rw [sp_at_kn hn, ht]) hi
theorem c_Nu_placeOf_11 {d : Nat} {S : kS} {L N : List kF} {x : Int32} {F : Int32 → kS → Prop} (hN : rc_N S 12 13 11 L N 250) (hl : L.length ≤ 250) (k1 : ∀ i t, sp_at N x = some t → L[i]? = some t → F (kn i) S) (k2 : sp_at N x = none → F (-1) S) : kK (d + 1) m_Nu_placeOf [.inr 11, .inl x] S (kq F) := by
  have hlen := rp_N_len hN.1
  refine g_Nu_placeOf_11 ⟨fun e => k2 (sp_at_neg e), fun e => ?_⟩
  obtain ⟨n, hn, rfl⟩ := (kn_of x).resolve_left e
  rw [hN.2.1, kn_tn hn]
  refine ⟨fun e2 => k2 ?_, fun e2 => ?_⟩
  · rw [sp_at_kn hn]
    exact List.getElem?_eq_none ((kn_le (by omega) hn).mp e2)
  · have hlt : n < N.length := Nat.not_le.mp (fun q => e2 ((kn_le (by omega) hn).mpr q))
    have ht : N[n]? = some N[n] := List.getElem?_eq_getElem hlt
    obtain ⟨i, hi, ei⟩ := hN.1.2.1 n _ ht
    refine ⟨kn_in (by omega) (by decide), ?_⟩
    rw [ei]
    exact k1 i _ (by rw [sp_at_kn hn, ht]) hi
theorem c_Ru_termAt {d : Nat} {S : kS} {LT LM : List kF} {FS : List (kF × List kF)} {NT NM : List kF} {x : Int32} {F : Int32 → kS → Prop} (h : rc_W S LT LM FS NT NM) (k1 : ∀ i t, sp_at NM x = some t → LM[i]? = some t → F (kn i) S) (k2 : sp_at NM x = none → F (-1) S) : kK (d + 2) m_Ru_termAt [.inr 33, .inl x] S (kq F) :=
  g_Ru_termAt (c_Nu_placeOf_11 h.2.2.2 h.1.1.2.2.2.2.2.2.1 k1 k2)
theorem c_Ru_typeAt {d : Nat} {S : kS} {LT LM : List kF} {FS : List (kF × List kF)} {NT NM : List kF} {x : Int32} {F : Int32 → kS → Prop} (h : rc_W S LT LM FS NT NM) (k1 : ∀ i t, sp_at NT x = some t → LT[i]? = some t → F (kn i) S) (k2 : sp_at NT x = none → F (-1) S) : kK (d + 2) m_Ru_typeAt [.inr 33, .inl x] S (kq F) :=
  g_Ru_typeAt (c_Nu_placeOf_2 h.2.2.1 h.1.1.2.2.2.2.2.1 k1 k2)
/-- facts -/
theorem c_Fa_isFact {d : Nat} {S : kS} {LM : List kF} {FS : List (kF × List kF)} {x : Int32} {F : Int32 → kS → Prop} (h : rc_A S LM FS) (k1 : ∀ i q, x = kn i → i < 60 → FS[i]? = some q → F 1 S) (k2 : sp_at FS x = none → F 0 S) : kK (d + 1) m_Fa_isFact [.inr 25, .inl x] S (kq F) := by
  refine g_Fa_isFact ⟨fun e => k2 (sp_at_neg e), fun e => ?_⟩
  obtain ⟨n, hn, rfl⟩ := (kn_of x).resolve_left e
  have h60 := h.2.1
  rw [h.1]
  refine ⟨fun e2 => k2 ?_, fun e2 => ?_⟩
  · rw [sp_at_kn hn]
    exact List.getElem?_eq_none ((kn_le (by omega) hn).mp e2)
  · have hlt : n < FS.length := Nat.not_le.mp (fun q => e2 ((kn_le (by omega) hn).mpr q))
    exact k1 n _ rfl (by omega) (List.getElem?_eq_getElem hlt)
theorem c_Fa_conclusionOf {d : Nat} {S : kS} {LM : List kF} {FS : List (kF × List kF)} {x : Int32} {F : Int32 → kS → Prop} (h : rc_A S LM FS) (k1 : ∀ q i, sp_at FS x = some q → LM[i]? = some q.1 → F (kn i) S) (k2 : sp_at FS x = none → F (-1) S) : kK (d + 2) m_Fa_conclusionOf [.inr 25, .inl x] S (kq F) := by
  refine g_Fa_conclusionOf (c_Fa_isFact h (fun i q e hi hq => ⟨fun e2 => absurd e2 (by decide), fun _ => ?_⟩) (fun e => ⟨fun _ => k2 e, fun e2 => absurd rfl e2⟩))
  subst e
  obtain ⟨⟨p, g1, g2⟩, _⟩ := h.2.2 i q.1 q.2 hq
  refine ⟨kn_in hi (by decide), ?_⟩
  rw [kn_tn (by omega), g2]
  exact k1 q p (by rw [sp_at_kn (by omega)]; exact hq) g1
theorem c_Fa_sizeOf {d : Nat} {S : kS} {LM : List kF} {FS : List (kF × List kF)} {x : Int32} {F : Int32 → kS → Prop} (h : rc_A S LM FS) (k1 : ∀ q, sp_at FS x = some q → q.2.length ≤ 12 → F (kn q.2.length) S) (k2 : sp_at FS x = none → F (-1) S) : kK (d + 2) m_Fa_sizeOf [.inr 25, .inl x] S (kq F) := by
  refine g_Fa_sizeOf (c_Fa_isFact h (fun i q e hi hq => ⟨fun e2 => absurd e2 (by decide), fun _ => ?_⟩) (fun e => ⟨fun _ => k2 e, fun e2 => absurd rfl e2⟩))
  subst e
  obtain ⟨_, g3, g4, _⟩ := h.2.2 i q.1 q.2 hq
  refine ⟨kn_in hi (by decide), ?_⟩
  rw [kn_tn (by omega), g4]
  exact k1 q (by rw [sp_at_kn (by omega)]; exact hq) g3
theorem c_Fa_hypothesis {d : Nat} {S : kS} {LM : List kF} {FS : List (kF × List kF)} {x : Int32} {j : Nat} {q : kF × List kF} {t : kF} {F : Int32 → kS → Prop} (h : rc_A S LM FS) (hq : sp_at FS x = some q) (hj : q.2[j]? = some t) (k : ∀ i, LM[i]? = some t → F (kn i) S) : kK (d + 1) m_Fa_hypothesis [.inr 25, .inl x, .inl (kn j)] S (kq F) := by
  have hx : ¬ x < 0 := fun e => by rw [sp_at_neg e] at hq; cases hq
  obtain ⟨n, hn, rfl⟩ := (kn_of x).resolve_left hx
  rw [sp_at_kn hn] at hq
  have hn60 : n < 60 := by have := (List.getElem?_eq_some_iff.mp hq).1; have := h.2.1; omega
  obtain ⟨_, g3, _, g5⟩ := h.2.2 n q.1 q.2 hq
  have hj12 := rp_lt hj
  obtain ⟨i, hi, ei⟩ := g5 j t hj
  have key : kn n * 12 + kn j = kn (12 * n + j) := by rw [show (12 : Int32) = kn 12 from rfl, kn_mul, kn_add, Nat.mul_comm]
  refine g_Fa_hypothesis ?_
  rw [key, kn_tn (by omega), ei]
  exact ⟨kn_in (by omega) (by decide), k i hi⟩
/-- cells of the fact that is being made -/
def rc_cd (o i : Nat) : Prop := (o = 25 ∧ (i = 4 ∨ i = 5)) ∨ o = 29
def rc_FD (S S' : kS) : Prop := ∀ o i, ¬ rc_cd o i → S' o i = S o i
theorem rc_FD_rf {S : kS} : rc_FD S S := fun _ _ _ => rfl
theorem rc_FD_tr {S S1 S2 : kS} (h1 : rc_FD S S1) (h2 : rc_FD S1 S2) : rc_FD S S2 := fun o i h => (h2 o i h).trans (h1 o i h)
theorem rc_A_fd {S S' : kS} {LM : List kF} {FS : List (kF × List kF)} (h : rc_A S LM FS) (f : rc_FD S S') : rc_A S' LM FS :=
  ⟨(f _ _ (by unfold rc_cd; omega)).trans h.1, h.2.1, rp_F_grow h.2.2 (List.prefix_refl _) (funext fun _ => f _ _ (by unfold rc_cd; omega)) (funext fun _ => f _ _ (by unfold rc_cd; omega)) (funext fun _ => f _ _ (by unfold rc_cd; omega))⟩
theorem rc_S_fd {S S' : kS} {LT LM : List kF} (h : rc_S S LT LM) (f : rc_FD S S') : rc_S S' LT LM := rc_S_fr h (fun o i hc => f o i (by unfold rc_cm rc_ct at hc; unfold rc_cd; omega))
theorem rc_W_fd {S S' : kS} {LT LM : List kF} {FS : List (kF × List kF)} {NT NM : List kF} (h : rc_W S LT LM FS NT NM) (f : rc_FD S S') : rc_W S' LT LM FS NT NM :=
  ⟨rc_S_fd h.1 f, rc_A_fd h.2.1 f, rc_N_gr h.2.2.1 (List.prefix_refl _) h.1.1.1 h.1.1.2.2.2.2.2.1 (fun _ => f _ _ (by unfold rc_cd; omega)) (fun _ => f _ _ (by unfold rc_cd; omega)) (f _ _ (by unfold rc_cd; omega)), rc_N_gr h.2.2.2 (List.prefix_refl _) h.1.1.2.1 h.1.1.2.2.2.2.2.2.1 (fun _ => f _ _ (by unfold rc_cd; omega)) (fun _ => f _ _ (by unfold rc_cd; omega)) (f _ _ (by unfold rc_cd; omega))⟩
theorem c_Fa_open {d : Nat} {S : kS} {LM : List kF} {F : kS → Prop} (k : ∀ S', rc_FD S S' → rc_D S' LM [] false → F S') : kK (d + 1) m_Fa_open [.inr 25] S (kv F) := by
  refine g_Fa_open (k _ (fun o i h => ?_) ⟨?_, ku_self, Nat.zero_le _, List.nodup_nil, fun i h e => by cases e⟩)
  · unfold rc_cd at h
    rw [ku_ne (by omega), ku_ne (by omega)]
  · rw [ku_ne (by omega), ku_self]
    rfl
theorem c_Fa_assume {d : Nat} {S : kS} {LT LM D : List kF} {b : Bool} {i : Nat} {t : kF} {F : kS → Prop} (hS : rc_S S LT LM) (hD : rc_D S LM D b) (hi : LM[i]? = some t) (k : ∀ S' D' b', rc_FD S S' → rc_D S' LM D' b' → (∀ l, sp_ds D b (t :: l) = sp_ds D' b' l) → F S') : kK (d + 1) m_Fa_assume [.inr 25, .inl (kn i)] S (kv F) := by
  have li := rc_lM hS hi
  obtain ⟨h4, h5, h12, hnd, hpl⟩ := hD
  have loop : ∀ G : kG, kCl kC (kK d) (kv F) 51 G → ∀ m j, j + m = D.length → (∀ q, q < j → D[q]? ≠ some t) → G 2 [some (.inr 25), some (.inl (kn i)), some (.inl (kn j))] [] S := by
    intro G h m
    induction m with
    | zero =>
      intro j hj hno
      have hnot : t ∉ D := by
        intro hx
        obtain ⟨q, hq⟩ := rp_at hx
        exact hno q (by have := rp_lt hq; omega) hq
      refine f_Fa_assume_2 kspec_Mo h ⟨fun _ => ⟨fun e => absurd e (kn_nn (by omega)), fun _ => ?_⟩, fun e => absurd (by rw [h4]; exact (kn_le (by omega) (by omega)).mpr (by omega)) e⟩
      rw [h4, kn_tn (by omega)]
      refine ⟨fun e => ⟨kn_in ((kn_lt (m := 12) (by omega) (by decide)).mp e) (by decide), ?_⟩, fun e => ?_⟩
      · have hlt := (kn_lt (m := 12) (by omega) (by decide)).mp e
        refine k _ (D ++ [t]) b (fun o a ho => ?_) ⟨?_, ?_, ?_, fo_nd hnd hnot, fun a x ha => ?_⟩ (fun l => sp_ds_new hnot hlt)
        · unfold rc_cd at ho
          rw [ku_ne (by omega), ku_ne (by omega)]
        · rw [ku_self, kn_suc, List.length_append, List.length_singleton]
        · rw [ku_ne (by omega), ku_ne (by omega)]; exact h5
        · rw [List.length_append, List.length_singleton]; omega
        · rw [ku_ne (by omega)]
          by_cases hl : a < D.length
          · rw [List.getElem?_append_left hl] at ha
            rw [ku_ne (by omega)]
            exact hpl a x ha
          · have ha2 := rp_lt ha
            rw [List.length_append, List.length_singleton] at ha2
            have : a = D.length := by omega
            subst this
            rw [List.getElem?_append_right (Nat.le_refl _), Nat.sub_self] at ha
            injection ha with ha
            subst ha
            rw [ku_self]
            exact ⟨i, hi, rfl⟩
      · have hge : ¬ D.length < 12 := fun q => e ((kn_lt (m := 12) (by omega) (by decide)).mpr q)
        refine k _ D true (fun o a ho => ?_) ⟨?_, ku_self, h12, hnd, fun a x ha => ?_⟩ (fun l => sp_ds_full hnot hge)
        · unfold rc_cd at ho
          rw [ku_ne (by omega)]
        · rw [ku_ne (by omega)]; exact h4
        · rw [ku_ne (by omega)]; exact hpl a x ha
    | succ m ih =>
      intro j hj hno
      have hjl : j < D.length := by omega
      have hu : D[j]? = some D[j] := List.getElem?_eq_getElem hjl
      obtain ⟨p, hp, ep⟩ := hpl j _ hu
      have lp := rc_lM hS hp
      refine f_Fa_assume_2 kspec_Mo h ⟨fun e => absurd ((kn_le (by omega) (by omega)).mp (h4 ▸ e)) (by omega), fun _ => ⟨kn_in (by omega) (by decide), ?_⟩⟩
      rw [kn_tn (by omega), ep, kn_suc]
      refine ⟨fun e => ih (j + 1) (by omega) (fun q hq => ?_), fun e => ?_⟩
      · by_cases hqj : q = j
        · subst hqj
          intro hc
          rw [hu] at hc
          injection hc with hc
          rw [hc] at hp
          exact e (by rw [fo_ix hS.1.2.1 hp hi])
        · exact hno q (by omega)
      · have := kn_inj (by omega) (by omega) (Classical.not_not.mp e)
        subst this
        rw [hi] at hp
        injection hp with hp
        exact k _ D b rc_FD_rf ⟨h4, h5, h12, hnd, hpl⟩ (fun l => sp_ds_in (by rw [hp]; exact rp_mem hu))
  exact g_Fa_assume (fun G h => loop G h D.length 0 (by omega) (fun q hq => absurd hq (by omega)))
theorem c_Fa_assume_no {d : Nat} {S : kS} {LT LM D : List kF} {b : Bool} {x : Int32} {F : kS → Prop} (hS : rc_S S LT LM) (hD : rc_D S LM D b) (hx : x < 0) (k : ∀ S', rc_FD S S' → rc_D S' LM D true → F S') : kK (d + 1) m_Fa_assume [.inr 25, .inl x] S (kv F) := by
  obtain ⟨h4, h5, h12, hnd, hpl⟩ := hD
  have loop : ∀ G : kG, kCl kC (kK d) (kv F) 51 G → ∀ m j, j + m = D.length → G 2 [some (.inr 25), some (.inl x), some (.inl (kn j))] [] S := by
    intro G h m
    induction m with
    | zero =>
      intro j hj
      refine f_Fa_assume_2 kspec_Mo h ⟨fun _ => ⟨fun _ => ?_, fun e => absurd hx e⟩, fun e => absurd (by rw [h4]; exact (kn_le (by omega) (by omega)).mpr (by omega)) e⟩
      refine k _ (fun o a ho => ?_) ⟨?_, ku_self, h12, hnd, fun a x ha => ?_⟩
      · unfold rc_cd at ho
        rw [ku_ne (by omega)]
      · rw [ku_ne (by omega)]; exact h4
      · rw [ku_ne (by omega)]; exact hpl a x ha
    | succ m ih =>
      intro j hj
      have hjl : j < D.length := by omega
      have hu : D[j]? = some D[j] := List.getElem?_eq_getElem hjl
      obtain ⟨p, hp, ep⟩ := hpl j _ hu
      have lp := rc_lM hS hp
      refine f_Fa_assume_2 kspec_Mo h ⟨fun e => absurd ((kn_le (by omega) (by omega)).mp (h4 ▸ e)) (by omega), fun _ => ⟨kn_in (by omega) (by decide), ?_⟩⟩
      rw [kn_tn (by omega), ep, kn_suc]
      refine ⟨fun e => ih (j + 1) (by omega), fun e => ?_⟩
      rw [← Classical.not_not.mp e] at hx
      exact absurd hx (kn_nn (by omega))
  exact g_Fa_assume (fun G h => loop G h D.length 0 (by omega))
