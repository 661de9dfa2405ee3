/-! ===== WHAT A MAKING DOES TO THE STORES: least and none ===== -/
abbrev kU : Type := (kF → Prop) → (kF → Prop) → Prop
/-- the new stores hold nothing that a closed pair of sets with g needn't hold -/
def fo_mn (LT LM LT' LM' : List kF) (g : kU) : Prop := ∀ U V, fo_Cl U V → (∀ x, x ∈ LT → U x) → (∀ x, x ∈ LM → V x) → g U V → (∀ x, x ∈ LT' → U x) ∧ (∀ x, x ∈ LM' → V x)
/-- no closed pair of sets within the limits has g -/
def fo_no (LT LM : List kF) (g : kU) : Prop := ∀ U V, fo_Cl U V → fo_Li U V → (∀ x, x ∈ LT → U x) → (∀ x, x ∈ LM → V x) → g U V → False
theorem fo_mn_rf {LT LM : List kF} {g : kU} : fo_mn LT LM LT LM g := fun _ _ _ h1 h2 _ => ⟨h1, h2⟩
theorem fo_mn_tr {LT LM LT1 LM1 LT2 LM2 : List kF} {g g1 g2 : kU} (h1 : fo_mn LT LM LT1 LM1 g1) (h2 : fo_mn LT1 LM1 LT2 LM2 g2) (k1 : ∀ U V, fo_Cl U V → g U V → g1 U V) (k2 : ∀ U V, fo_Cl U V → g U V → g2 U V) : fo_mn LT LM LT2 LM2 g := by
  intro U V hc a1 a2 hg
  obtain ⟨b1, b2⟩ := h1 U V hc a1 a2 (k1 U V hc hg)
  exact h2 U V hc b1 b2 (k2 U V hc hg)
theorem fo_no_1 {LT LM : List kF} {g g1 : kU} (h : fo_no LT LM g1) (k1 : ∀ U V, fo_Cl U V → g U V → g1 U V) : fo_no LT LM g := fun U V hc hl a1 a2 hg => h U V hc hl a1 a2 (k1 U V hc hg)
theorem fo_no_2 {LT LM LT1 LM1 : List kF} {g g1 g2 : kU} (h1 : fo_mn LT LM LT1 LM1 g1) (h2 : fo_no LT1 LM1 g2) (k1 : ∀ U V, fo_Cl U V → g U V → g1 U V) (k2 : ∀ U V, fo_Cl U V → g U V → g2 U V) : fo_no LT LM g := by
  intro U V hc hl a1 a2 hg
  obtain ⟨b1, b2⟩ := h1 U V hc a1 a2 (k1 U V hc hg)
  exact h2 U V hc hl b1 b2 (k2 U V hc hg)
/-- a type that doesn't go in: too high, or no room -/
theorem fo_no_T {LT LM : List kF} {t : kF} (hn : LT.Nodup) (ht : t ∉ LT) (h : 10 < fo_th t ∨ 50 ≤ LT.length) : fo_no LT LM (fun U _ => U t) := by
  intro U V hc hl a1 a2 hg
  obtain ⟨⟨l, h1, h2⟩, _, h3, _⟩ := hl
  rcases h with h | h
  · have := h3 t hg
    omega
  · have := fo_pg (LT ++ [t]) l (fo_nd hn ht) (fun x hx => by
      rw [List.mem_append, List.mem_singleton] at hx
      rcases hx with hx | rfl
      · exact h2 x (a1 x hx)
      · exact h2 x hg)
    rw [List.length_append, List.length_singleton] at this
    omega
theorem fo_no_M {LT LM : List kF} {t : kF} (hn : LM.Nodup) (ht : t ∉ LM) (h : 20 < fo_ht t ∨ 250 ≤ LM.length) : fo_no LT LM (fun _ V => V t) := by
  intro U V hc hl a1 a2 hg
  obtain ⟨_, ⟨l, h1, h2⟩, _, h3⟩ := hl
  rcases h with h | h
  · have := h3 t hg
    omega
  · have := fo_pg (LM ++ [t]) l (fo_nd hn ht) (fun x hx => by
      rw [List.mem_append, List.mem_singleton] at hx
      rcases hx with hx | rfl
      · exact h2 x (a2 x hx)
      · exact h2 x hg)
    rw [List.length_append, List.length_singleton] at this
    omega
theorem fo_mn_T {LT LM : List kF} {t : kF} : fo_mn LT LM (LT ++ [t]) LM (fun U _ => U t) := by
  intro U V hc a1 a2 hg
  refine ⟨fun x hx => ?_, a2⟩
  rw [List.mem_append, List.mem_singleton] at hx
  rcases hx with hx | rfl
  · exact a1 x hx
  · exact hg
theorem fo_mn_M {LT LM : List kF} {t : kF} : fo_mn LT LM LT (LM ++ [t]) (fun _ V => V t) := by
  intro U V hc a1 a2 hg
  refine ⟨a1, fun x hx => ?_⟩
  rw [List.mem_append, List.mem_singleton] at hx
  rcases hx with hx | rfl
  · exact a2 x hx
  · exact hg
/-! ===== THE CLASS'S STORES ===== -/
/-- the buckets' chains of the first n terms -/
def rc_H (S : kS) (n : Nat) : Prop :=
  (∀ p, p < n → ∃ h, h < 64 ∧ S 24 p = kn h) ∧
  (∀ p, p < n → S 24 p = (S 14 p + 5 * S 15 p + 23 * S 16 p + 11 * S 17 p) &&& 63) ∧
  (∀ h, h < 64 → (S 22 h = -1 ∧ ∀ q, q < n → S 24 q ≠ kn h) ∨ ∃ p, p < n ∧ S 22 h = kn p ∧ S 24 p = kn h ∧ ∀ q, p < q → q < n → S 24 q ≠ kn h) ∧
  (∀ p, p < n → (S 23 p = -1 ∧ ∀ q, q < p → S 24 q ≠ S 24 p) ∨ ∃ r, r < p ∧ S 23 p = kn r ∧ S 24 r = S 24 p ∧ ∀ q, r < q → q < p → S 24 q ≠ S 24 p)
def rc_S (S : kS) (LT LM : List kF) : Prop := fo_SL LT LM ∧ S 1 6 = kn LT.length ∧ S 10 13 = kn LM.length ∧ rp_T S 5 6 7 9 8 3 rc_b LT ∧ rc_M S LT LM ∧ rc_H S LM.length
/-- the cells that a making of types may write; that a making of terms may write -/
def rc_ct (o i : Nat) : Prop := (o = 1 ∧ i = 6) ∨ (5 ≤ o ∧ o ≤ 9)
def rc_cm (o i : Nat) : Prop := rc_ct o i ∨ (o = 10 ∧ i = 13) ∨ (14 ≤ o ∧ o ≤ 24 ∧ o ≠ 19)
def rc_cc (o i : Nat) : Prop := rc_cm o i ∨ o = 31 ∨ o = 32
def rc_FT (S S' : kS) : Prop := ∀ o i, ¬ rc_ct o i → S' o i = S o i
def rc_FM (S S' : kS) : Prop := ∀ o i, ¬ rc_cm o i → S' o i = S o i
theorem rc_FT_rf {S : kS} : rc_FT S S := fun _ _ _ => rfl
theorem rc_FM_rf {S : kS} : rc_FM S S := fun _ _ _ => rfl
theorem rc_FT_tr {S S1 S2 : kS} (h1 : rc_FT S S1) (h2 : rc_FT S1 S2) : rc_FT S S2 := fun o i h => (h2 o i h).trans (h1 o i h)
theorem rc_FM_tr {S S1 S2 : kS} (h1 : rc_FM S S1) (h2 : rc_FM S1 S2) : rc_FM S S2 := fun o i h => (h2 o i h).trans (h1 o i h)
theorem rc_FM_of {S S' : kS} (h : rc_FT S S') : rc_FM S S' := fun o i q => h o i (fun e => q (Or.inl e))
def rc_FC (S S' : kS) : Prop := ∀ o i, ¬ rc_cc o i → S' o i = S o i
theorem rc_FC_rf {S : kS} : rc_FC S S := fun _ _ _ => rfl
theorem rc_FC_tr {S S1 S2 : kS} (h1 : rc_FC S S1) (h2 : rc_FC S1 S2) : rc_FC S S2 := fun o i h => (h2 o i h).trans (h1 o i h)
theorem rc_FC_of {S S' : kS} (h : rc_FM S S') : rc_FC S S' := fun o i q => h o i (fun e => q (Or.inl e))
