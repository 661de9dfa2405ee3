/-! ===== NUMBERS, FACTS, LINES ===== -/
/-- the numbers that the things of a store have: cp by number, cn by place -/
def rp_N (S : kS) (cp cn : Nat) (L N : List kF) : Prop := N.Nodup ∧ (∀ j t, N[j]? = some t → ∃ k, L[k]? = some t ∧ S cp j = kn k) ∧ (∀ k t, L[k]? = some t → (∃ j, N[j]? = some t ∧ S cn k = kn j) ∨ (t ∉ N ∧ S cn k = -1))
theorem rp_N_sub {S : kS} {cp cn : Nat} {L N : List kF} (h : rp_N S cp cn L N) : ∀ x, x ∈ N → x ∈ L := by
  intro x hx
  obtain ⟨j, hj⟩ := rp_at hx
  obtain ⟨k, hk, _⟩ := h.2.1 j x hj
  exact rp_mem hk
theorem rp_N_len {S : kS} {cp cn : Nat} {L N : List kF} (h : rp_N S cp cn L N) : N.length ≤ L.length := fo_pg N L h.1 (rp_N_sub h)
/-- the store grows by things without numbers -/
theorem rp_N_grow {S S' : kS} {cp cn : Nat} {L L' N : List kF} (h : rp_N S cp cn L N) (hp : L <+: L') (hn : L'.Nodup) (h1 : ∀ j, j < N.length → S' cp j = S cp j) (h2 : ∀ k, k < L.length → S' cn k = S cn k) (h3 : ∀ k, L.length ≤ k → k < L'.length → S' cn k = -1) : rp_N S' cp cn L' N := by
  refine ⟨h.1, fun j t hj => ?_, fun k t hk => ?_⟩
  · obtain ⟨k, hk, e⟩ := h.2.1 j t hj
    exact ⟨k, rp_pre hp hk, (h1 j (rp_lt hj)).trans e⟩
  · by_cases hl : k < L.length
    · obtain ⟨r, rfl⟩ := hp
      rw [List.getElem?_append_left hl] at hk
      rw [h2 k hl]
      exact h.2.2 k t hk
    · refine Or.inr ⟨fun hx => ?_, h3 k (by omega) (rp_lt hk)⟩
      obtain ⟨k', hk'⟩ := rp_at (rp_N_sub h t hx)
      have := fo_ix hn (rp_pre hp hk') hk
      have := rp_lt hk'
      omega
/-- the store shrinks to what it was -/
theorem rp_N_take {S : kS} {cp cn : Nat} {L L' N : List kF} (h : rp_N S cp cn L' N) (hp : L <+: L') (hn : L'.Nodup) (hN : ∀ x, x ∈ N → x ∈ L) : rp_N S cp cn L N := by
  refine ⟨h.1, fun j t hj => ?_, fun k t hk => h.2.2 k t (rp_pre hp hk)⟩
  obtain ⟨k, hk, e⟩ := h.2.1 j t hj
  obtain ⟨k', hk'⟩ := rp_at (hN t (rp_mem hj))
  have := fo_ix hn (rp_pre hp hk') hk
  subst this
  exact ⟨k', hk', e⟩
/-- one more number -/
theorem rp_N_new {S S' : kS} {cp cn : Nat} {L N : List kF} (h : rp_N S cp cn L N) (hn : L.Nodup) {k : Nat} {t : kF} (hk : L[k]? = some t) (ht : t ∉ N) (h1 : ∀ j, j < N.length → S' cp j = S cp j) (h2 : ∀ i, i ≠ k → i < L.length → S' cn i = S cn i) (h3 : S' cp N.length = kn k) (h4 : S' cn k = kn N.length) : rp_N S' cp cn L (N ++ [t]) := by
  refine ⟨fo_nd h.1 ht, fun j u hj => ?_, fun i u hi => ?_⟩
  · by_cases hl : j < N.length
    · rw [List.getElem?_append_left hl] at hj
      obtain ⟨i, hi, e⟩ := h.2.1 j u hj
      exact ⟨i, hi, (h1 j hl).trans e⟩
    · have hj2 := rp_lt hj
      rw [List.length_append, List.length_singleton] at hj2
      have : j = N.length := by omega
      subst this
      rw [List.getElem?_append_right (Nat.le_refl _), Nat.sub_self] at hj
      injection hj with hj
      subst hj
      exact ⟨k, hk, h3⟩
  · by_cases he : i = k
    · subst he
      rw [hk] at hi
      injection hi with hi
      subst hi
      exact Or.inl ⟨N.length, by rw [List.getElem?_append_right (Nat.le_refl _), Nat.sub_self]; rfl, h4⟩
    · rw [h2 i he (rp_lt hi)]
      rcases h.2.2 i u hi with ⟨j, hj, e⟩ | ⟨hu, e⟩
      · exact Or.inl ⟨j, by rw [List.getElem?_append_left (rp_lt hj)]; exact hj, e⟩
      · refine Or.inr ⟨fun hx => ?_, e⟩
        rw [List.mem_append, List.mem_singleton] at hx
        rcases hx with hx | rfl
        · exact hu hx
        · exact he (fo_ix hn hi hk)
/-- the facts: conclusion, number of hypotheses, hypotheses -/
def rp_F (S : kS) (c1 c2 c3 : Nat) (LM : List kF) (FS : List (kF × List kF)) : Prop := ∀ k c hs, FS[k]? = some (c, hs) → (∃ p, LM[p]? = some c ∧ S c1 k = kn p) ∧ hs.length ≤ 12 ∧ S c2 k = kn hs.length ∧ ∀ i h, hs[i]? = some h → ∃ p, LM[p]? = some h ∧ S c3 (12 * k + i) = kn p
/-- the fact that is being made -/
def rp_D (S : kS) (c : Nat) (LM : List kF) (D : List kF) : Prop := D.length ≤ 12 ∧ D.Nodup ∧ ∀ i h, D[i]? = some h → ∃ p, LM[p]? = some h ∧ S c i = kn p
theorem rp_F_grow {S S' : kS} {c1 c2 c3 : Nat} {LM LM' : List kF} {FS : List (kF × List kF)} (h : rp_F S c1 c2 c3 LM FS) (hp : LM <+: LM') (h1 : S' c1 = S c1) (h2 : S' c2 = S c2) (h3 : S' c3 = S c3) : rp_F S' c1 c2 c3 LM' FS := by
  intro k c hs hk
  obtain ⟨⟨p, g1, g2⟩, g3, g4, g5⟩ := h k c hs hk
  rw [h1, h2, h3]
  refine ⟨⟨p, rp_pre hp g1, g2⟩, g3, g4, fun i x hi => ?_⟩
  obtain ⟨q, g6, g7⟩ := g5 i x hi
  exact ⟨q, rp_pre hp g6, g7⟩
theorem rp_D_grow {S S' : kS} {c : Nat} {LM LM' D : List kF} (h : rp_D S c LM D) (hp : LM <+: LM') (h1 : S' c = S c) : rp_D S' c LM' D := by
  refine ⟨h.1, h.2.1, fun i x hi => ?_⟩
  obtain ⟨p, g1, g2⟩ := h.2.2 i x hi
  rw [h1]
  exact ⟨p, rp_pre hp g1, g2⟩
/-- the lines of the trace -/
abbrev kTL : Type := List (Int32 × Int32 × Int32 × Int32)
