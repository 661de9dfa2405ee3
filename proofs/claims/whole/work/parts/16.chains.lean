/-! ===== THE CLASS'S BUCKETS ===== -/
theorem rc_H_congr {S S' : kS} {n : Nat} (h : rc_H S n) (h1 : ∀ o, o = 14 ∨ o = 15 ∨ o = 16 ∨ o = 17 ∨ o = 22 ∨ o = 23 ∨ o = 24 → S' o = S o) : rc_H S' n := by
  unfold rc_H at h ⊢
  rw [h1 14 (by simp), h1 15 (by simp), h1 16 (by simp), h1 17 (by simp), h1 22 (by simp), h1 23 (by simp), h1 24 (by simp)]
  exact h
theorem rc_H_add {S S' : kS} {n h0 : Nat} (h : rc_H S n) (hn : n < 250) (hh : h0 < 64)
    (ho : ∀ o k, (o = 14 ∨ o = 15 ∨ o = 16 ∨ o = 17 ∨ o = 23 ∨ o = 24) → k < n → S' o k = S o k)
    (e1 : S' 24 n = kn h0) (e2 : S' 24 n = (S' 14 n + 5 * S' 15 n + 23 * S' 16 n + 11 * S' 17 n) &&& 63) (e3 : S' 23 n = S 22 h0)
    (e4 : S' 22 h0 = kn n) (e5 : ∀ k, k ≠ h0 → S' 22 k = S 22 k) : rc_H S' (n + 1) := by
  obtain ⟨a1, a2, a3, a4⟩ := h
  have b24 : ∀ k, k < n → S' 24 k = S 24 k := fun k hk => ho 24 k (by simp) hk
  refine ⟨fun p hp => ?_, fun p hp => ?_, fun k hk => ?_, fun p hp => ?_⟩
  · by_cases hl : p < n
    · rw [b24 p hl]; exact a1 p hl
    · have : p = n := by omega
      subst this
      exact ⟨h0, hh, e1⟩
  · by_cases hl : p < n
    · rw [b24 p hl, ho 14 p (by simp) hl, ho 15 p (by simp) hl, ho 16 p (by simp) hl, ho 17 p (by simp) hl]; exact a2 p hl
    · have : p = n := by omega
      subst this
      exact e2
  · by_cases he : k = h0
    · subst he
      exact Or.inr ⟨n, by omega, e4, e1, fun q h1 h2 => absurd h2 (by omega)⟩
    · rw [e5 k he]
      have hne : S' 24 n ≠ kn k := by
        rw [e1]
        intro q
        exact he (kn_inj (by omega) (by omega) q).symm
      rcases a3 k hk with ⟨f1, f2⟩ | ⟨p, hp, f1, f2, f3⟩
      · refine Or.inl ⟨f1, fun q hq => ?_⟩
        by_cases hl : q < n
        · rw [b24 q hl]; exact f2 q hl
        · have : q = n := by omega
          subst this
          exact hne
      · refine Or.inr ⟨p, by omega, f1, by rw [b24 p hp]; exact f2, fun q h1 h2 => ?_⟩
        by_cases hl : q < n
        · rw [b24 q hl]; exact f3 q h1 hl
        · have : q = n := by omega
          subst this
          exact hne
  · by_cases hl : p < n
    · rw [ho 23 p (by simp) hl, b24 p hl]
      rcases a4 p hl with ⟨f1, f2⟩ | ⟨r, hr, f1, f2, f3⟩
      · exact Or.inl ⟨f1, fun q hq => by rw [b24 q (by omega)]; exact f2 q hq⟩
      · exact Or.inr ⟨r, hr, f1, by rw [b24 r (by omega)]; exact f2, fun q h1 h2 => by rw [b24 q (by omega)]; exact f3 q h1 h2⟩
    · have : p = n := by omega
      subst this
      rw [e3, e1]
      rcases a3 h0 hh with ⟨f1, f2⟩ | ⟨r, hr, f1, f2, f3⟩
      · exact Or.inl ⟨f1, fun q hq => by rw [b24 q hq]; exact f2 q hq⟩
      · exact Or.inr ⟨r, hr, f1, by rw [b24 r hr]; exact f2, fun q h1 h2 => by rw [b24 q h2]; exact f3 q h1 h2⟩
theorem rc_H_pop {S S' : kS} {n h0 : Nat} (h : rc_H S (n + 1)) (hn : n < 250) (hh : h0 < 64) (e0 : S 24 n = kn h0)
    (ho : ∀ o, (o = 14 ∨ o = 15 ∨ o = 16 ∨ o = 17 ∨ o = 23 ∨ o = 24) → S' o = S o)
    (e4 : S' 22 h0 = S 23 n) (e5 : ∀ k, k ≠ h0 → S' 22 k = S 22 k) : rc_H S' n := by
  obtain ⟨a1, a2, a3, a4⟩ := h
  unfold rc_H
  rw [ho 14 (by simp), ho 15 (by simp), ho 16 (by simp), ho 17 (by simp), ho 23 (by simp), ho 24 (by simp)]
  refine ⟨fun p hp => a1 p (by omega), fun p hp => a2 p (by omega), fun k hk => ?_, fun p hp => a4 p (by omega)⟩
  by_cases he : k = h0
  · subst he
    rw [e4]
    rcases a4 n (by omega) with ⟨f1, f2⟩ | ⟨r, hr, f1, f2, f3⟩
    · exact Or.inl ⟨f1, fun q hq => by rw [← e0]; exact f2 q hq⟩
    · exact Or.inr ⟨r, hr, f1, by rw [f2]; exact e0, fun q h1 h2 => by rw [← e0]; exact f3 q h1 h2⟩
  · rw [e5 k he]
    rcases a3 k hk with ⟨f1, f2⟩ | ⟨p, hp, f1, f2, f3⟩
    · exact Or.inl ⟨f1, fun q hq => f2 q (by omega)⟩
    · have hpn : p ≠ n := by
        intro q
        subst q
        rw [e0] at f2
        exact he (kn_inj (by omega) (by omega) f2).symm
      exact Or.inr ⟨p, by omega, f1, f2, fun q h1 h2 => f3 q h1 (by omega)⟩
