/-! ===== THE CLASS: make ===== -/
theorem sp_ro_kn {fx : Int32 → Int32} {M : kO} {n : Nat} {a b c : Int32} (h : n < 2147483648) : sp_ro fx M (kn n) a b c = sp_rl fx (sm_nT M) (sm_nM M) (sm_F M) n a b c := by
  unfold sp_ro
  rw [if_neg (kn_nn h), kn_tn h]
theorem fo_so_0 {Γ : List kF} {x : kF} (hw : fo_wf Γ x) (e : fo_so x = 0) : ∃ n A, x = fo_lf 0 n A := by
  obtain ⟨n, A, e1, _⟩ := fo_so_l hw (by omega) (by omega)
  rw [e] at e1
  exact ⟨n, A, e1⟩
section MAKE
variable {d : Nat} {S : kS} {LT LM : List kF} {FS : List kQ} {NT NM : List kF} {τ : Nat} {S1 : kS} {F : Int32 → kS → Prop}
theorem sp_r8_n {p : Option kQ} {x y : Option kF} (h : x = none ∨ y = none ∨ (∃ a b, x = some a ∧ y = some b ∧ ¬ ((∃ k A, a = fo_lf 0 k A) ∧ fo_ty b = fo_ty a))) : sp_r8 p x y = none := by
  cases p with
  | none => rfl
  | some p =>
    rcases h with rfl | rfl | ⟨a, b, rfl, rfl, h⟩
    · rfl
    · cases x <;> rfl
    · exact sp_if_neg h
theorem ru_8 {x b c : Int32} (h : ru_at S LT LM FS NT NM τ S1 LT LM [] false τ) (hok : sp_ok NM FS) (hτ : τ + 2 < 8388608) (k : ∀ r S', ru_po S LT LM FS NT NM τ (sp_r8 (sp_at FS x) (sp_at NM b) (sp_at NM c)) r S' → F r S') :
    kK (d + 68) m_Ru_termAt [.inr 33, .inl b] S1 (kq fun r2 S2 => kK (d + 68) m_Ru_termAt [.inr 33, .inl c] S2 (kq fun r3 S3 => kK (d + 68) m_Ru_beginsWithTerm [.inr 33, .inl r2, .inl r3] S3 (kq fun r4 S4 => kK (d + 68) m_Ru_instance [.inr 33, .inl x, .inl r4] S4 (kq fun r5 S5 => F r5 S5)))) := by
  have hS := h.1.1
  refine c_Ru_termAt h.1 (fun i z ez hz => ?_) (fun ez => ?_)
  · have wz := hok.1 z (sp_at_mem ez)
    have h6 := fo_so_le wz
    have li := rc_lM hS hz
    refine c_Ru_termAt h.1 (fun j y ey hy => ?_) (fun ey => ?_)
    · have wy := hok.1 y (sp_at_mem ey)
      obtain ⟨_, _, _, ⟨t1, ht1, et1⟩, _⟩ := hS.2.2.2.2.1 i z hz
      refine g_Ru_beginsWithTerm (c_Te_sortAt hS hz ⟨fun e => ?_, fun e => c_Te_typeAt hS hy (fun t2 ht2 => ⟨kn_in li (by decide), ?_⟩)⟩)
      · exact ru_inst_n h (Or.inr rfl) (sp_r8_n (Or.inr (Or.inr ⟨z, y, ez, ey, fun ⟨⟨n, A, w⟩, _⟩ => e (by rw [w]; rfl)⟩))) k
      · have e0 := kn_inj (m := 0) (by omega) (by decide) (Classical.not_not.mp e)
        obtain ⟨n, A, rfl⟩ := fo_so_0 wz e0
        rw [kn_tn (by omega), et1]
        refine ⟨fun e2 => ?_, fun e2 => ?_⟩
        · have e2 := kn_inj (by have := rc_lT hS ht2; omega) (by have := rc_lT hS ht1; omega) e2
          subst e2
          rw [ht2] at ht1
          injection ht1 with ety
          refine c_Ch_begin hS h.2.2.2.2.2.1 (by omega) (fun S2 fr e4 e5 e6 e7 hM s2 f2 => ?_)
          have hC : rc_C S2 LT LM (fo_sR (fo_lf 0 n A) y) id := ⟨s2, Or.inl ⟨_, y, i, j, e5, hz, hy, e6, e7, rfl, rfl⟩, hM _ _⟩
          have z2 : ch_Z S2 (τ + 1) := ch_Z_of (hM fo_sN id) e4 (by omega)
          have h2 := ru_at_gb h s2 (List.prefix_refl _) (List.prefix_refl _) f2 z2 (by omega)
          cases hq : sp_at FS x with
          | none => exact ru_inst_n h2 (Or.inl hq) (by rw [hq]; rfl) k
          | some q =>
            refine ru_inst h2 hC e4 hτ (ch_E_R wy ety) trivial hok hq (by decide) ?_ k
            rw [hq, ez, ey]
            exact sp_if_pos ⟨⟨n, A, rfl⟩, ety⟩
        · refine ru_inst_n h (Or.inr rfl) (sp_r8_n (Or.inr (Or.inr ⟨_, y, ez, ey, fun ⟨_, w⟩ => e2 ?_⟩))) k
          rw [w] at ht2
          rw [fo_ix hS.1.1 ht2 ht1]
    · refine g_Ru_beginsWithTerm (c_Te_sortAt hS hz ⟨fun _ => ru_inst_n h (Or.inr rfl) (sp_r8_n (Or.inr (Or.inl ey))) k, fun _ => c_Te_typeAt_no kn_m1lt ⟨kn_in li (by decide), fun e2 => ?_, fun _ => ru_inst_n h (Or.inr rfl) (sp_r8_n (Or.inr (Or.inl ey))) k⟩⟩)
      obtain ⟨_, _, _, ⟨t1, ht1, et1⟩, _⟩ := hS.2.2.2.2.1 i z hz
      rw [kn_tn (by omega), et1] at e2
      exact absurd e2.symm (kn_m1 (by have := rc_lT hS ht1; omega))
  · have no : ∀ r3 S', F r3 S' → True := fun _ _ _ => trivial
    have fin : ∀ r3 : Int32, kK (d + 68) m_Ru_beginsWithTerm [.inr 33, .inl (-1), .inl r3] S1 (kq fun r4 S4 => kK (d + 68) m_Ru_instance [.inr 33, .inl x, .inl r4] S4 (kq fun r5 S5 => F r5 S5)) := fun r3 => g_Ru_beginsWithTerm (c_Te_sortAt_no kn_m1lt ⟨fun _ => ru_inst_n h (Or.inr rfl) (sp_r8_n (Or.inl ez)) k, fun e => absurd (by decide) e⟩)
    exact c_Ru_termAt h.1 (fun _ _ _ _ => fin _) (fun _ => fin _)
theorem sp_tv_some {j : Nat} (h : 2 ≤ j ∧ j < 6) : sp_tv (fo_tb j) = some j := sp_if_pos h
theorem sp_r9_n {p : Option kQ} {x y : Option kF} (h : x.bind sp_tv = none ∨ y = none) : sp_r9 p x y = none := by
  cases p with
  | none => rfl
  | some p =>
    cases x with
    | none => rfl
    | some x =>
      cases y with
      | none => rfl
      | some y =>
        rcases h with h | h
        · have h : sp_tv x = none := h
          show (sp_tv x).bind _ = none
          rw [h]; rfl
        · cases h
theorem rc_b_tv : ∀ j, j < 9 → ((rc_b j).1 = 1 ↔ 2 ≤ j ∧ j < 6) := by decide
theorem sp_tv_wf {t : kF} (h : fo_tw t) {S : kS} {LT LM : List kF} (hS : rc_S S LT LM) {i : Nat} (hi : LT[i]? = some t) : (S 5 i = 1 ∧ ∃ j, t = fo_tb j ∧ 2 ≤ j ∧ j < 6 ∧ sp_tv t = some j) ∨ (¬ S 5 i = 1 ∧ sp_tv t = none) := by
  obtain ⟨_, _, h3, h4⟩ := hS.2.2.2.1 i t hi
  rcases fo_tw_cases h with ⟨j, hj, rfl⟩ | ⟨a, b, rfl, _⟩
  · rw [(h3 j rfl).1]
    have hb := (rc_bc.2 j hj).1
    by_cases hv : 2 ≤ j ∧ j < 6
    · exact Or.inl ⟨by rw [(rc_b_tv j hj).mpr hv]; rfl, j, rfl, hv.1, hv.2, sp_tv_some hv⟩
    · exact Or.inr ⟨fun e => hv ((rc_b_tv j hj).mp (kn_inj (m := 1) (by omega) (by decide) e)), sp_if_neg hv⟩
  · rw [(h4 a b rfl).1]
    exact Or.inr ⟨by decide, rfl⟩
theorem ru_9 {x b c : Int32} (h : ru_at S LT LM FS NT NM τ S1 LT LM [] false τ) (hok : sp_ok NM FS) (hτ : τ + 2 < 8388608) (k : ∀ r S', ru_po S LT LM FS NT NM τ (sp_r9 (sp_at FS x) (sp_at NT b) (sp_at NT c)) r S' → F r S') :
    kK (d + 68) m_Ru_typeAt [.inr 33, .inl b] S1 (kq fun r2 S2 => kK (d + 68) m_Ru_typeAt [.inr 33, .inl c] S2 (kq fun r3 S3 => kK (d + 68) m_Ru_beginsWithType [.inr 33, .inl r2, .inl r3] S3 (kq fun r4 S4 => kK (d + 68) m_Ru_instance [.inr 33, .inl x, .inl r4] S4 (kq fun r5 S5 => F r5 S5)))) := by
  have hS := h.1.1
  refine c_Ru_typeAt h.1 (fun i z ez hz => ?_) (fun ez => ?_)
  · have li := rc_lT hS hz
    have wz := (hS.1.2.2.2.1 z (rp_mem hz)).1
    have tv := sp_tv_wf wz hS hz
    have fin : sp_r9 (sp_at FS x) (sp_at NT b) (sp_at NT c) = none → kK (d + 68) m_Ru_instance [.inr 33, .inl x, .inl 0] S1 (kq fun r5 S5 => F r5 S5) := fun e => ru_inst_n h (Or.inr rfl) e k
    have n1 : ¬ S1 5 i = 1 → sp_r9 (sp_at FS x) (sp_at NT b) (sp_at NT c) = none := by
      intro e
      rcases tv with ⟨w, _⟩ | ⟨_, w⟩
      · exact absurd w e
      · exact sp_r9_n (Or.inl (by rw [ez]; exact w))
    refine c_Ru_typeAt h.1 (fun j y ey hy => ?_) (fun ey => ?_)
    · have wy := (hS.1.2.2.2.1 y (rp_mem hy)).1
      refine g_Ru_beginsWithType (g_Ty_isVariable ⟨fun e => absurd e (kn_nn (by omega)), fun _ => ⟨kn_in li (by decide), ?_⟩⟩)
      rw [kn_tn (by omega)]
      refine ⟨fun e => ⟨fun _ => fin (n1 e), fun e => absurd rfl e⟩, fun e => ⟨fun e => absurd e (by decide), fun _ => ⟨fun _ => ?_, fun e => absurd (kn_ge (by have := rc_lT hS hy; omega)) e⟩⟩⟩
      rcases tv with ⟨_, v, rfl, hv1, hv2, ev⟩ | ⟨w, _⟩
      · refine c_Ch_begin hS h.2.2.2.2.2.1 (by omega) (fun S2 fr e4 e5 e6 e7 hM s2 f2 => ?_)
        have hC : rc_C S2 LT LM fo_sN (fo_rt v y) := ⟨s2, Or.inr (Or.inl ⟨v, y, i, j, e5, ⟨hv1, hv2⟩, hz, hy, e6, e7, rfl, rfl⟩), hM _ _⟩
        have z2 : ch_Z S2 (τ + 1) := ch_Z_of (hM fo_sN id) e4 (by omega)
        have h2 := ru_at_gb h s2 (List.prefix_refl _) (List.prefix_refl _) f2 z2 (by omega)
        cases hq : sp_at FS x with
        | none => exact ru_inst_n h2 (Or.inl hq) (by rw [hq]; rfl) k
        | some q =>
          refine ru_inst h2 hC e4 hτ (ch_E_T ⟨hv1, hv2⟩ wy) trivial hok hq (by decide) ?_ k
          rw [hq, ez, ey]
          show (sp_tv (fo_tb v)).bind _ = _
          rw [ev]; rfl
      · exact absurd (Classical.not_not.mp e) w
    · have nn : sp_r9 (sp_at FS x) (sp_at NT b) (sp_at NT c) = none := sp_r9_n (Or.inr ey)
      refine g_Ru_beginsWithType (g_Ty_isVariable ⟨fun e => absurd e (kn_nn (by omega)), fun _ => ⟨kn_in li (by decide), fun e => ⟨fun _ => fin nn, fun e => absurd rfl e⟩, fun e => ⟨fun e => absurd e (by decide), fun _ => ⟨fun e => absurd e (by decide), fun _ => fin nn⟩⟩⟩⟩)
  · have nn : sp_r9 (sp_at FS x) (sp_at NT b) (sp_at NT c) = none := sp_r9_n (Or.inl (by rw [ez]; rfl))
    have fin : ∀ r3 : Int32, kK (d + 68) m_Ru_beginsWithType [.inr 33, .inl (-1), .inl r3] S1 (kq fun r4 S4 => kK (d + 68) m_Ru_instance [.inr 33, .inl x, .inl r4] S4 (kq fun r5 S5 => F r5 S5)) := fun r3 => g_Ru_beginsWithType (g_Ty_isVariable ⟨fun _ => ⟨fun _ => ru_inst_n h (Or.inr rfl) nn k, fun e => absurd rfl e⟩, fun e => absurd kn_m1lt e⟩)
    exact c_Ru_typeAt h.1 (fun _ _ _ _ => fin _) (fun _ => fin _)
end MAKE
set_option maxHeartbeats 1000000 in
theorem c_Ru_make {d : Nat} {S : kS} {LT LM : List kF} {M : kO} {τ : Nat} {op a b c : Int32} {F : Int32 → kS → Prop} (hW : rc_W S LT LM (sm_F M) (sm_nT M) (sm_nM M)) (hZ : ch_Z S τ) (hτ : τ + 2 < 8388608) (hok : sp_ok (sm_nM M) (sm_F M)) (k : ∀ r S', ru_po S LT LM (sm_F M) (sm_nT M) (sm_nM M) τ (sp_ro (sp_fx (S 33 4) (S 33 5)) M op a b c) r S' → F r S') : kK (d + 69) m_Ru_make [.inr 33, .inl op, .inl a, .inl b, .inl c] S (kq F) := by
  refine g_Ru_make (c_Fa_open (LM := LM) (fun S1 f1 d1 => ?_))
  have h : ru_at S LT LM (sm_F M) (sm_nT M) (sm_nM M) τ S1 LT LM [] false τ := ⟨rc_W_fd hW f1, d1, List.prefix_refl _, List.prefix_refl _, rc_FR_d f1, ch_Z_cd hZ f1, by omega⟩
  have e4 : S1 33 4 = S 33 4 := f1 _ _ (by unfold rc_cd; omega)
  have e5 : S1 33 5 = S 33 5 := f1 _ _ (by unfold rc_cd; omega)
  have kk : ∀ n, n < 11 → op = kn n → ∀ r S', ru_po S LT LM (sm_F M) (sm_nT M) (sm_nM M) τ (sp_rl (sp_fx (S 33 4) (S 33 5)) (sm_nT M) (sm_nM M) (sm_F M) n a b c) r S' → F r S' := by
    intro n hn e r S' hp
    subst e
    rw [← sp_ro_kn (by omega)] at hp
    exact k r S' hp
  have fA : ∀ {z : Int32} {G : Int32 → kS → Prop}, (∀ x, sp_at (sm_F M) x = sp_at (sm_F M) (sp_fx (S 33 4) (S 33 5) z) → G x S1) → kK (d + 68) m_Ru_factAt [.inr 33, .inl z] S1 (kq G) := fun hG => c_Ru_factAt h.1.2.1 (fun x hx => hG x (by rw [e4, e5] at hx; exact hx))
  refine ⟨fun e => ?_, fun e => ?_, fun e => ?_, fun e => ?_, fun e => ?_, fun e => ?_, fun e => ?_, fun e => ?_, fun e => ?_, fun e => ?_, fun e => ?_, fun e => ?_⟩
  · have k0 := kk 0 (by decide) e
    refine c_Ru_termAt h.1 (fun i t et hi => ru_0 h hi (hok.1 t (sp_at_mem et)) (fun r S' hp => k0 r S' ?_)) (fun et => ru_0n h kn_m1lt (fun r S' hp => k0 r S' ?_))
    · show ru_po _ _ _ _ _ _ _ (sp_r0 (sp_at (sm_nM M) a)) r S'
      rw [et]; exact hp
    · show ru_po _ _ _ _ _ _ _ (sp_r0 (sp_at (sm_nM M) a)) r S'
      rw [et]; exact hp
  · have k0 := kk 1 (by decide) e
    refine fA (fun x hx => fA (fun y hy => ru_1 h hok (fun r S' hp => k0 r S' ?_)))
    rw [hx, hy] at hp; exact hp
  · have k0 := kk 2 (by decide) e
    refine fA (fun x hx => fA (fun y hy => ru_2 h hok (fun r S' hp => k0 r S' ?_)))
    rw [hx, hy] at hp; exact hp
  · have k0 := kk 3 (by decide) e
    refine c_Ru_termAt h.1 (fun i t et hi => fA (fun y hy => ru_3 h hok hτ hi (fun r S' hp => k0 r S' ?_))) (fun et => fA (fun y hy => ru_3n h kn_m1lt (fun r S' hp => k0 r S' ?_)))
    · show ru_po _ _ _ _ _ _ _ (sp_r3 (sp_at (sm_nM M) a) (sp_at (sm_F M) (sp_fx (S 33 4) (S 33 5) b))) r S'
      rw [hy] at hp; rw [et]; exact hp
    · show ru_po _ _ _ _ _ _ _ (sp_r3 (sp_at (sm_nM M) a) (sp_at (sm_F M) (sp_fx (S 33 4) (S 33 5) b))) r S'
      rw [et]; exact hp
  · have k0 := kk 4 (by decide) e
    refine c_Ru_termAt h.1 (fun i t et hi => ru_4 h hτ hi (hok.1 t (sp_at_mem et)) (fun r S' hp => k0 r S' ?_)) (fun et => ru_4n h kn_m1lt (fun r S' hp => k0 r S' ?_))
    · show ru_po _ _ _ _ _ _ _ (sp_r4 (sp_at (sm_nM M) a)) r S'
      rw [et]; exact hp
    · show ru_po _ _ _ _ _ _ _ (sp_r4 (sp_at (sm_nM M) a)) r S'
      rw [et]; exact hp
  · have k0 := kk 5 (by decide) e
    refine c_Ru_termAt h.1 (fun i t et hi => ru_5 h hi (fun r S' hp => k0 r S' ?_)) (fun et => ru_5n h kn_m1lt (fun r S' hp => k0 r S' ?_))
    · show ru_po _ _ _ _ _ _ _ (sp_r5 (sp_at (sm_nM M) a)) r S'
      rw [et]; exact hp
    · show ru_po _ _ _ _ _ _ _ (sp_r5 (sp_at (sm_nM M) a)) r S'
      rw [et]; exact hp
  · have k0 := kk 6 (by decide) e
    refine fA (fun x hx => fA (fun y hy => ru_6 h (fun r S' hp => k0 r S' ?_)))
    rw [hx, hy] at hp; exact hp
  · have k0 := kk 7 (by decide) e
    refine fA (fun x hx => fA (fun y hy => ru_7 h hok (fun r S' hp => k0 r S' ?_)))
    rw [hx, hy] at hp; exact hp
  · have k0 := kk 8 (by decide) e
    refine fA (fun x hx => ru_8 h hok hτ (fun r S' hp => k0 r S' ?_))
    rw [hx] at hp; exact hp
  · have k0 := kk 9 (by decide) e
    refine fA (fun x hx => ru_9 h hok hτ (fun r S' hp => k0 r S' ?_))
    rw [hx] at hp; exact hp
  · have k0 := kk 10 (by decide) e
    refine fA (fun x hx => fA (fun y hy => ru_10 h hok hτ (fun r S' hp => k0 r S' ?_)))
    rw [hx, hy] at hp; exact hp
  · refine k _ _ (ru_fail h (Or.inl ?_))
    rcases e with e | e
    · unfold sp_ro
      rw [if_pos e]
    · by_cases hz : op < 0
      · unfold sp_ro
        rw [if_pos hz]
      · obtain ⟨n, hn, rfl⟩ := (kn_of op).resolve_left hz
        rw [sp_ro_kn hn]
        have hge := (kn_le (n := 11) (by decide) hn).mp e
        obtain ⟨m, rfl⟩ : ∃ m, n = m + 11 := ⟨n - 11, by omega⟩
        rfl
