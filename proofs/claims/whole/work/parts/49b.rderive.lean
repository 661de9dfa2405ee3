/-! ===== THE REFERENCE: derive ===== -/
def rd_tk (op w : Int32) : Int32 := if op = 0 then 0 else if op = 4 then 0 else if op = 5 then 0 else if w = 2 then 0 else if w = 0 then (if op = 3 then 0 else 1) else if op = 8 then 0 else if op = 9 then 0 else 1
section RDV
variable {d : Nat} {S : kS} {LT LM NT NM : List kF} {FS : List kQ} {o : Option kQ} {F : Int32 → kS → Prop}
theorem rm_takes {op w : Int32} (k : F (rd_tk op w) S) : kK (d + 1) m_Mo_takesFact [.inl op, .inl w] S (kq F) := by
  unfold rd_tk at k
  refine g_Mo_takesFact ⟨fun e => ?_, fun e => ⟨fun e1 => ?_, fun e1 => ⟨fun e2 => ?_, fun e2 => ⟨fun e3 => ⟨fun e4 => ⟨fun e5 => ?_, fun e5 => ⟨fun e6 => ?_, fun e6 => ?_⟩⟩, fun e4 => ⟨fun e5 => ?_, fun e5 => ?_⟩⟩, fun e3 => ?_⟩⟩⟩⟩
  · rwa [if_pos e] at k
  · rwa [if_neg e, if_pos e1] at k
  · rwa [if_neg e, if_neg e1, if_pos e2] at k
  · rwa [if_neg e, if_neg e1, if_neg e2, if_neg e3, if_neg e4, if_pos e5] at k
  · rwa [if_neg e, if_neg e1, if_neg e2, if_neg e3, if_neg e4, if_neg e5, if_pos e6] at k
  · rwa [if_neg e, if_neg e1, if_neg e2, if_neg e3, if_neg e4, if_neg e5, if_neg e6] at k
  · rwa [if_neg e, if_neg e1, if_neg e2, if_neg e3, if_pos (Classical.not_not.mp e4), if_pos e5] at k
  · rwa [if_neg e, if_neg e1, if_neg e2, if_neg e3, if_pos (Classical.not_not.mp e4), if_neg e5] at k
  · rwa [if_neg e, if_neg e1, if_neg e2, if_pos (Classical.not_not.mp e3)] at k
theorem rd_is {α : Type} {L : List α} {x c : Int32} (hc : c = kn L.length) (hl : L.length < 1000) : (x < 0 → sp_at L x = none) ∧ (c ≤ x → sp_at L x = none) ∧ (¬ x < 0 → ¬ c ≤ x → ∃ n q, x = kn n ∧ L[n]? = some q ∧ sp_at L x = some q) := by
  refine ⟨sp_at_neg, fun e => ?_, fun e1 e2 => ?_⟩
  · rcases kn_of x with h | ⟨n, hn, rfl⟩
    · exact sp_at_neg h
    · rw [hc, kn_le (by omega) hn] at e
      rw [sp_at_kn hn, List.getElem?_eq_none e]
  · rcases kn_of x with h | ⟨n, hn, rfl⟩
    · exact absurd h e1
    · rw [hc, kn_le (by omega) hn] at e2
      have : n < L.length := by omega
      exact ⟨n, L[n], rfl, List.getElem?_eq_getElem this, by rw [sp_at_kn hn, List.getElem?_eq_getElem this]⟩
theorem rm_isFact {x : Int32} (hA : rr_A S LM FS) (k1 : ∀ n q, x = kn n → FS[n]? = some q → sp_at FS x = some q → F 1 S) (k0 : sp_at FS x = none → F 0 S) : kK (d + 1) m_Mo_isFact [.inr 39, .inl x] S (kq F) := by
  obtain ⟨h1, h2, h3⟩ := rd_is (L := FS) (x := x) hA.1 (by have := hA.2.1; omega)
  exact g_Mo_isFact ⟨fun e => k0 (h1 e), fun e => ⟨fun e2 => k0 (h2 e2), fun e2 => by obtain ⟨n, q, a, b, c⟩ := h3 e e2; exact k1 n q a b c⟩⟩
theorem rm_isTerm {x : Int32} (hS : rr_S S LT LM NT NM) (h17 : S 39 17 = kn NM.length) (k1 : ∀ n q, x = kn n → NM[n]? = some q → sp_at NM x = some q → F 1 S) (k0 : sp_at NM x = none → F 0 S) : kK (d + 1) m_Mo_isTerm [.inr 39, .inl x] S (kq F) := by
  obtain ⟨h1, h2, h3⟩ := rd_is (L := NM) (x := x) h17 (by have := rp_N_len hS.2.2.2.2.2.2.2; have := hS.1.2.2.2.2.2.2.1; omega)
  exact g_Mo_isTerm ⟨fun e => k0 (h1 e), fun e => ⟨fun e2 => k0 (h2 e2), fun e2 => by obtain ⟨n, q, a, b, c⟩ := h3 e e2; exact k1 n q a b c⟩⟩
theorem rm_isType {x : Int32} (hS : rr_S S LT LM NT NM) (h8 : S 39 8 = kn NT.length) (k1 : ∀ n q, x = kn n → NT[n]? = some q → sp_at NT x = some q → F 1 S) (k0 : sp_at NT x = none → F 0 S) : kK (d + 1) m_Mo_isType [.inr 39, .inl x] S (kq F) := by
  obtain ⟨h1, h2, h3⟩ := rd_is (L := NT) (x := x) h8 (by have := rp_N_len hS.2.2.2.2.2.2.1; have := hS.1.2.2.2.2.2.1; omega)
  exact g_Mo_isType ⟨fun e => k0 (h1 e), fun e => ⟨fun e2 => k0 (h2 e2), fun e2 => by obtain ⟨n, q, a, b, c⟩ := h3 e e2; exact k1 n q a b c⟩⟩
theorem rz_0 {g : kU} (hS : rr_S S LT LM NT NM) (h33 : S 39 33 = 0) (hA : rr_A S LM FS) : rz S LT LM NT NM g FS (ku S 39 24 0) LT LM false [] [] := by
  refine ⟨⟨rr_S_fr hS (fun o i ho => ku_ne (by omega)), (ku_ne (by omega)).trans h33, List.prefix_refl _, List.prefix_refl _, rr_FC_rf, fun _ => fo_mn_rf, fun e => by cases e⟩, fun o i ho => ku_ne (fun e => ho (by unfold rr_cr; omega)), ⟨(ku_ne (by omega)).trans hA.1, hA.2.1, rp_F_grow hA.2.2 (List.prefix_refl _) (funext fun _ => ku_ne (by omega)) (funext fun _ => ku_ne (by omega)) (funext fun _ => ku_ne (by omega))⟩, ⟨0, by omega, ku_self⟩, fun _ => ⟨ku_self, ⟨by simp, List.nodup_nil, fun i h e => by simp at e⟩, fun l => rfl⟩⟩
set_option maxHeartbeats 2000000 in
theorem rm_derive {op a b c : Int32} (hS : rr_S S LT LM NT NM) (h33 : S 39 33 = 0) (hA : rr_A S LM FS) (h17 : S 39 17 = kn NM.length) (h8 : S 39 8 = kn NT.length) (hok : sp_ok NM FS) (ho : o = if op < 0 then none else sp_rl id NT NM FS op.toNatClampNeg a b c) (k : ∀ r S', rd_Q S LT LM NT NM FS o r S' → F r S') : kK (d + 7) m_Mo_derive [.inr 39, .inl op, .inl a, .inl b, .inl c] S (kq F) := by
  have h0 : rz S LT LM NT NM (rd_g o FS.length) FS (ku S 39 24 0) LT LM false [] [] := rz_0 hS h33 hA
  have h17' : ku S 39 24 0 39 17 = kn NM.length := (ku_ne (by omega)).trans h17
  have h8' : ku S 39 24 0 39 8 = kn NT.length := (ku_ne (by omega)).trans h8
  have hS0 := h0.1.1
  have hA0 := h0.2.2.1
  refine g_Mo_derive (fun G hG => ?_)
  generalize ku S 39 24 0 = S0 at h0 h17' h8' hS0 hA0 ⊢
  have b155 : o = none → G 155 [some (.inr 39), some (.inl op), some (.inl a), some (.inl b), some (.inl c), some (.inl 0), none] [] S0 := fun e => f_Mo_derive_155 kspec_Mo hG ⟨fun z => absurd rfl z, fun _ => k _ _ (rd_bad h0 e)⟩
  have b120 : o = none → G 120 [some (.inr 39), some (.inl op), some (.inl a), some (.inl b), some (.inl c), some (.inl 0), none] [] S0 := fun e => f_Mo_derive_120 kspec_Mo hG ⟨fun _ => b155 e, fun z => absurd rfl z⟩
  have b85 : o = none → G 85 [some (.inr 39), some (.inl op), some (.inl a), some (.inl b), some (.inl c), some (.inl 0), none] [] S0 := fun e => f_Mo_derive_85 kspec_Mo hG ⟨fun _ => b120 e, fun z => absurd rfl z⟩
  have b52 : o = none → G 52 [some (.inr 39), some (.inl op), some (.inl a), some (.inl b), some (.inl c), none, none] [.inl 0] S0 := fun e => f_Mo_derive_52 kspec_Mo hG ⟨fun _ => b85 e, fun z => absurd rfl z⟩
  have g120 : ¬ op = 9 → G 155 [some (.inr 39), some (.inl op), some (.inl a), some (.inl b), some (.inl c), some (.inl 1), none] [] S0 → G 120 [some (.inr 39), some (.inl op), some (.inl a), some (.inl b), some (.inl c), some (.inl 1), none] [] S0 := fun e h => f_Mo_derive_120 kspec_Mo hG ⟨fun z => absurd z (by decide), fun _ => ⟨fun _ => h, fun z => absurd e z⟩⟩
  have g85 : ¬ op = 8 → G 120 [some (.inr 39), some (.inl op), some (.inl a), some (.inl b), some (.inl c), some (.inl 1), none] [] S0 → G 85 [some (.inr 39), some (.inl op), some (.inl a), some (.inl b), some (.inl c), some (.inl 1), none] [] S0 := fun e h => f_Mo_derive_85 kspec_Mo hG ⟨fun z => absurd z (by decide), fun _ => ⟨fun _ => h, fun z => absurd e z⟩⟩
  have s31n : rd_tk op 1 = 0 → G 52 [some (.inr 39), some (.inl op), some (.inl a), some (.inl b), some (.inl c), none, none] [.inl 1] S0 → G 31 [some (.inr 39), some (.inl op), some (.inl a), some (.inl b), some (.inl c), none, none] [] S0 := fun e h => f_Mo_derive_31 kspec_Mo hG (rm_takes ⟨fun _ => h, fun z => absurd e z⟩)
  have s31y : rd_tk op 1 = 1 → (∀ n q, b = kn n → FS[n]? = some q → sp_at FS b = some q → G 52 [some (.inr 39), some (.inl op), some (.inl a), some (.inl b), some (.inl c), none, none] [.inl 1] S0) → (sp_at FS b = none → o = none) → G 31 [some (.inr 39), some (.inl op), some (.inl a), some (.inl b), some (.inl c), none, none] [] S0 := fun e h1 h2 => f_Mo_derive_31 kspec_Mo hG (rm_takes ⟨fun z => absurd (e.symm.trans z) (by decide), fun _ => rm_isFact hA0 (fun n q x1 x2 x3 => ⟨fun z => absurd z (by decide), fun _ => h1 n q x1 x2 x3⟩) (fun e => ⟨fun _ => b52 (h2 e), fun z => absurd rfl z⟩)⟩)
  have s0n : rd_tk op 0 = 0 → G 31 [some (.inr 39), some (.inl op), some (.inl a), some (.inl b), some (.inl c), none, none] [] S0 → kK (d + 6) m_Mo_takesFact [.inl op, .inl 0] S0 (kq fun r2 S1 => (r2 = 0 → G 31 [some (.inr 39), some (.inl op), some (.inl a), some (.inl b), some (.inl c), none, none] [] S1) ∧ (¬ (r2 = 0) → kK (d + 6) m_Mo_isFact [.inr 39, .inl a] S1 (kq fun r4 S3 => (r4 = 0 → G 52 [some (.inr 39), some (.inl op), some (.inl a), some (.inl b), some (.inl c), none, none] [.inl 0] S3) ∧ (¬ (r4 = 0) → G 31 [some (.inr 39), some (.inl op), some (.inl a), some (.inl b), some (.inl c), none, none] [] S3)))) := fun e h => rm_takes ⟨fun _ => h, fun z => absurd e z⟩
  have s0y : rd_tk op 0 = 1 → (∀ n q, a = kn n → FS[n]? = some q → sp_at FS a = some q → G 31 [some (.inr 39), some (.inl op), some (.inl a), some (.inl b), some (.inl c), none, none] [] S0) → (sp_at FS a = none → o = none) → kK (d + 6) m_Mo_takesFact [.inl op, .inl 0] S0 (kq fun r2 S1 => (r2 = 0 → G 31 [some (.inr 39), some (.inl op), some (.inl a), some (.inl b), some (.inl c), none, none] [] S1) ∧ (¬ (r2 = 0) → kK (d + 6) m_Mo_isFact [.inr 39, .inl a] S1 (kq fun r4 S3 => (r4 = 0 → G 52 [some (.inr 39), some (.inl op), some (.inl a), some (.inl b), some (.inl c), none, none] [.inl 0] S3) ∧ (¬ (r4 = 0) → G 31 [some (.inr 39), some (.inl op), some (.inl a), some (.inl b), some (.inl c), none, none] [] S3)))) := fun e h1 h2 => rm_takes ⟨fun z => absurd (e.symm.trans z) (by decide), fun _ => rm_isFact hA0 (fun n q x1 x2 x3 => ⟨fun z => absurd z (by decide), fun _ => h1 n q x1 x2 x3⟩) (fun e => ⟨fun _ => b52 (h2 e), fun z => absurd rfl z⟩)⟩
  have t52 : (op = 0 ∨ op = 3 ∨ op = 4 ∨ op = 5) → (∀ n t, a = kn n → NM[n]? = some t → sp_at NM a = some t → G 85 [some (.inr 39), some (.inl op), some (.inl a), some (.inl b), some (.inl c), some (.inl 1), none] [] S0) → (sp_at NM a = none → o = none) → G 52 [some (.inr 39), some (.inl op), some (.inl a), some (.inl b), some (.inl c), none, none] [.inl 1] S0 := fun hop h1 h2 => by
    have T : kK (d + 6) m_Mo_isTerm [.inr 39, .inl a] S0 (kq fun r S' => G 85 [some (.inr 39), some (.inl op), some (.inl a), some (.inl b), some (.inl c), some (.inl r), none] [] S') := rm_isTerm hS0 h17' (fun n q x1 x2 x3 => h1 n q x1 x2 x3) (fun e => b85 (h2 e))
    exact f_Mo_derive_52 kspec_Mo hG ⟨fun z => absurd z (by decide), fun _ => ⟨fun _ => T, fun n0 => ⟨fun _ => T, fun n3 => ⟨fun _ => T, fun n4 => ⟨fun n5 => absurd hop (fun hop => by rcases hop with z | z | z | z <;> contradiction), fun _ => T⟩⟩⟩⟩⟩
  have o52 : ¬ op = 0 → ¬ op = 3 → ¬ op = 4 → ¬ op = 5 → G 85 [some (.inr 39), some (.inl op), some (.inl a), some (.inl b), some (.inl c), some (.inl 1), none] [] S0 → G 52 [some (.inr 39), some (.inl op), some (.inl a), some (.inl b), some (.inl c), none, none] [.inl 1] S0 := fun n0 n3 n4 n5 h => f_Mo_derive_52 kspec_Mo hG ⟨fun z => absurd z (by decide), fun _ => ⟨fun z => absurd z n0, fun _ => ⟨fun z => absurd z n3, fun _ => ⟨fun z => absurd z n4, fun _ => ⟨fun _ => h, fun z => absurd n5 z⟩⟩⟩⟩⟩
  have eq155 : ¬ 5 ≤ op → (∀ F' : Int32 → kS → Prop, (∀ r S', rd_P S LT LM NT NM FS o r S' → F' r S') → kK (d + 6) m_Mo_equal [.inr 39, .inl op, .inl a, .inl b] S0 (kq F')) → G 155 [some (.inr 39), some (.inl op), some (.inl a), some (.inl b), some (.inl c), some (.inl 1), none] [] S0 := fun h5 body => f_Mo_derive_155 kspec_Mo hG ⟨fun _ => ⟨fun z => absurd z h5, fun _ => body _ (fun r S' hP => rd_fin hP k)⟩, fun z => absurd (by decide) z⟩
  have lo155 : 5 ≤ op → ¬ 8 ≤ op → (∀ F' : Int32 → kS → Prop, (∀ r S', rd_P S LT LM NT NM FS o r S' → F' r S') → kK (d + 6) m_Mo_logical [.inr 39, .inl op, .inl a, .inl b] S0 (kq F')) → G 155 [some (.inr 39), some (.inl op), some (.inl a), some (.inl b), some (.inl c), some (.inl 1), none] [] S0 := fun h5 h8 body => f_Mo_derive_155 kspec_Mo hG ⟨fun _ => ⟨fun _ => ⟨fun z => absurd z h8, fun _ => body _ (fun r S' hP => rd_fin hP k)⟩, fun z => absurd h5 z⟩, fun z => absurd (by decide) z⟩
  have re155 : 5 ≤ op → 8 ≤ op → (∀ F' : Int32 → kS → Prop, (∀ r S', rd_P S LT LM NT NM FS o r S' → F' r S') → kK (d + 6) m_Mo_replacing [.inr 39, .inl op, .inl a, .inl b, .inl c] S0 (kq F')) → G 155 [some (.inr 39), some (.inl op), some (.inl a), some (.inl b), some (.inl c), some (.inl 1), none] [] S0 := fun h5 h8 body => f_Mo_derive_155 kspec_Mo hG ⟨fun _ => ⟨fun _ => ⟨fun _ => body _ (fun r S' hP => rd_fin hP k), fun z => absurd h8 z⟩, fun z => absurd h5 z⟩, fun z => absurd (by decide) z⟩
  rcases kn_of op with hneg | ⟨n, hn, rfl⟩
  · rw [if_pos hneg] at ho
    exact ⟨fun _ => b52 ho, fun z => absurd hneg z⟩
  · rw [if_neg (kn_nn hn), kn_tn hn] at ho
    refine ⟨fun z => absurd z (kn_nn hn), fun _ => ⟨fun z => b52 ?_, fun z => ?_⟩⟩
    · have z := (kn_lt (n := 10) (by decide) hn).mp z
      obtain ⟨m, rfl⟩ : ∃ m, n = m + 11 := ⟨n - 11, by omega⟩
      rw [ho]; rfl
    · have z : ¬ 10 < n := fun y => z ((kn_lt (n := 10) (by decide) hn).mpr y)
      have hcase : n = 0 ∨ n = 1 ∨ n = 2 ∨ n = 3 ∨ n = 4 ∨ n = 5 ∨ n = 6 ∨ n = 7 ∨ n = 8 ∨ n = 9 ∨ n = 10 := by omega
      rcases hcase with rfl | rfl | rfl | rfl | rfl | rfl | rfl | rfl | rfl | rfl | rfl
      · exact s0n (by decide) (s31n (by decide) (t52 (by decide) (fun m t ea hm hat => g85 (by decide) (g120 (by decide) (eq155 (by decide) (fun F' k' => by subst ea; exact re_0 h0 hok hm (by rw [ho]; show sp_r0 (sp_at NM (kn m)) = _; rw [hat]) k')))) (fun e => by rw [ho]; show sp_r0 (sp_at NM a) = none; rw [e]; rfl)))
      · exact s0y (by decide) (fun n1 p ea hp hpat => s31y (by decide) (fun n2 q eb hq hqat => o52 (by decide) (by decide) (by decide) (by decide) (g85 (by decide) (g120 (by decide) (eq155 (by decide) (fun F' k' => by
          have ho' : o = sp_r1 (some p) (some q) := by rw [ho]; show sp_r1 (sp_at FS a) (sp_at FS b) = _; rw [hpat, hqat]
          subst ea; subst eb; exact re_12 (Or.inl rfl) h0 hok hp hq (fun _ => ho') (fun z => absurd z (by decide)) k'))))) (fun e => by rw [ho]; show sp_r1 (sp_at FS a) (sp_at FS b) = none; rw [e]; cases sp_at FS a <;> rfl)) (fun e => by rw [ho]; show sp_r1 (sp_at FS a) (sp_at FS b) = none; rw [e]; rfl)
      · exact s0y (by decide) (fun n1 p ea hp hpat => s31y (by decide) (fun n2 q eb hq hqat => o52 (by decide) (by decide) (by decide) (by decide) (g85 (by decide) (g120 (by decide) (eq155 (by decide) (fun F' k' => by
          have ho' : o = sp_r2 (some p) (some q) := by rw [ho]; show sp_r2 (sp_at FS a) (sp_at FS b) = _; rw [hpat, hqat]
          subst ea; subst eb; exact re_12 (Or.inr rfl) h0 hok hp hq (fun z => absurd z (by decide)) (fun _ => ho') k'))))) (fun e => by rw [ho]; show sp_r2 (sp_at FS a) (sp_at FS b) = none; rw [e]; cases sp_at FS a <;> rfl)) (fun e => by rw [ho]; show sp_r2 (sp_at FS a) (sp_at FS b) = none; rw [e]; rfl)
      · exact s0n (by decide) (s31y (by decide) (fun n2 q eb hq hqat => t52 (by decide) (fun m t ea hm hat => g85 (by decide) (g120 (by decide) (eq155 (by decide) (fun F' k' => by
          have ho' : o = sp_r3 (some t) (some q) := by rw [ho]; show sp_r3 (sp_at NM a) (sp_at FS b) = _; rw [hat, hqat]
          subst ea; subst eb; exact re_3 h0 hok hm hq ho' k')))) (fun e => by rw [ho]; show sp_r3 (sp_at NM a) (sp_at FS b) = none; rw [e]; rfl)) (fun e => by rw [ho]; show sp_r3 (sp_at NM a) (sp_at FS b) = none; rw [e]; cases sp_at NM a <;> rfl))
      · exact s0n (by decide) (s31n (by decide) (t52 (by decide) (fun m t ea hm hat => g85 (by decide) (g120 (by decide) (eq155 (by decide) (fun F' k' => by subst ea; exact re_4 h0 hok hm (by rw [ho]; show sp_r4 (sp_at NM (kn m)) = _; rw [hat]) k')))) (fun e => by rw [ho]; show sp_r4 (sp_at NM a) = none; rw [e]; rfl)))
      · exact s0n (by decide) (s31n (by decide) (t52 (by decide) (fun m t ea hm hat => g85 (by decide) (g120 (by decide) (lo155 (by decide) (by decide) (fun F' k' => by subst ea; exact rl_5 h0 hm (by rw [ho]; show sp_r5 (sp_at NM (kn m)) = _; rw [hat]) k')))) (fun e => by rw [ho]; show sp_r5 (sp_at NM a) = none; rw [e]; rfl)))
      · exact s0y (by decide) (fun n1 p ea hp hpat => s31y (by decide) (fun n2 q eb hq hqat => o52 (by decide) (by decide) (by decide) (by decide) (g85 (by decide) (g120 (by decide) (lo155 (by decide) (by decide) (fun F' k' => by
          have ho' : o = sp_r6 (some p) (some q) := by rw [ho]; show sp_r6 (sp_at FS a) (sp_at FS b) = _; rw [hpat, hqat]
          subst ea; subst eb; exact rl_6 h0 hp hq ho' k'))))) (fun e => by rw [ho]; show sp_r6 (sp_at FS a) (sp_at FS b) = none; rw [e]; cases sp_at FS a <;> rfl)) (fun e => by rw [ho]; show sp_r6 (sp_at FS a) (sp_at FS b) = none; rw [e]; rfl)
      · exact s0y (by decide) (fun n1 p ea hp hpat => s31y (by decide) (fun n2 q eb hq hqat => o52 (by decide) (by decide) (by decide) (by decide) (g85 (by decide) (g120 (by decide) (lo155 (by decide) (by decide) (fun F' k' => by
          have ho' : o = sp_r7 (some p) (some q) := by rw [ho]; show sp_r7 (sp_at FS a) (sp_at FS b) = _; rw [hpat, hqat]
          subst ea; subst eb; exact rl_7 h0 hok hp hq ho' k'))))) (fun e => by rw [ho]; show sp_r7 (sp_at FS a) (sp_at FS b) = none; rw [e]; cases sp_at FS a <;> rfl)) (fun e => by rw [ho]; show sp_r7 (sp_at FS a) (sp_at FS b) = none; rw [e]; rfl)
      · refine s0y (by decide) (fun n1 p ea hp hpat => s31n (by decide) (o52 (by decide) (by decide) (by decide) (by decide) (f_Mo_derive_85 kspec_Mo hG ⟨fun z => absurd z (by decide), fun _ => ⟨fun z => absurd rfl z, fun _ => rm_isTerm hS0 h17' (fun m x eb hm hmat => ⟨fun z => absurd z (by decide), fun _ => rm_isTerm hS0 h17' (fun m2 y ec hm2 hm2at => ⟨fun z => absurd z (by decide), fun _ => g120 (by decide) (re155 (by decide) (by decide) (fun F' k' => ?_))⟩) (fun e => ⟨fun _ => b120 ?_, fun z => absurd rfl z⟩)⟩) (fun e => ⟨fun _ => b120 ?_, fun z => absurd rfl z⟩)⟩⟩))) (fun e => ?_)
        · have ho' : o = sp_r8 (some p) (some x) (some y) := by rw [ho]; show sp_r8 (sp_at FS a) (sp_at NM b) (sp_at NM c) = _; rw [hpat, hmat, hm2at]
          subst ea; subst eb; subst ec; exact rp_8 h0 hok hp hm hm2 ho' k'
        · rw [ho]; show sp_r8 (sp_at FS a) (sp_at NM b) (sp_at NM c) = none; rw [hpat, hmat, e]; rfl
        · rw [ho]; show sp_r8 (sp_at FS a) (sp_at NM b) (sp_at NM c) = none; rw [hpat, e]; rfl
        · rw [ho]; show sp_r8 (sp_at FS a) (sp_at NM b) (sp_at NM c) = none; rw [e]; rfl
      · refine s0y (by decide) (fun n1 p ea hp hpat => s31n (by decide) (o52 (by decide) (by decide) (by decide) (by decide) (g85 (by decide) (f_Mo_derive_120 kspec_Mo hG ⟨fun z => absurd z (by decide), fun _ => ⟨fun z => absurd rfl z, fun _ => rm_isType hS0 h8' (fun m x eb hm hmat => ⟨fun z => absurd z (by decide), fun _ => rm_isType hS0 h8' (fun m2 y ec hm2 hm2at => ⟨fun z => absurd z (by decide), fun _ => re155 (by decide) (by decide) (fun F' k' => ?_)⟩) (fun e => ⟨fun _ => b155 ?_, fun z => absurd rfl z⟩)⟩) (fun e => ⟨fun _ => b155 ?_, fun z => absurd rfl z⟩)⟩⟩)))) (fun e => ?_)
        · have ho' : o = sp_r9 (some p) (some x) (some y) := by rw [ho]; show sp_r9 (sp_at FS a) (sp_at NT b) (sp_at NT c) = _; rw [hpat, hmat, hm2at]
          subst ea; subst eb; subst ec; exact rp_9 h0 hok hp hm hm2 ho' k'
        · rw [ho]; show sp_r9 (sp_at FS a) (sp_at NT b) (sp_at NT c) = none; rw [hpat, hmat, e]; rfl
        · rw [ho]; show sp_r9 (sp_at FS a) (sp_at NT b) (sp_at NT c) = none; rw [hpat, e]; rfl
        · rw [ho]; show sp_r9 (sp_at FS a) (sp_at NT b) (sp_at NT c) = none; rw [e]; rfl
      · exact s0y (by decide) (fun n1 p ea hp hpat => s31y (by decide) (fun n2 q eb hq hqat => o52 (by decide) (by decide) (by decide) (by decide) (g85 (by decide) (g120 (by decide) (re155 (by decide) (by decide) (fun F' k' => by
          have ho' : o = sp_r10 (some p) (some q) := by rw [ho]; show sp_r10 (sp_at FS a) (sp_at FS b) = _; rw [hpat, hqat]
          subst ea; subst eb; exact rp_10 h0 hok hp hq ho' k'))))) (fun e => by rw [ho]; show sp_r10 (sp_at FS a) (sp_at FS b) = none; rw [e]; cases sp_at FS a <;> rfl)) (fun e => by rw [ho]; show sp_r10 (sp_at FS a) (sp_at FS b) = none; rw [e]; rfl)
end RDV
