/-! ===== THE REFERENCE: replay ===== -/
theorem rd_ro {fx : Int32 → Int32} {M : kO} {op a b c x y z : Int32} (h0 : rd_tk op 0 = 0 → x = a) (g0 : ¬ rd_tk op 0 = 0 → sp_at (sm_F M) x = sp_at (sm_F M) (fx a)) (h1 : rd_tk op 1 = 0 → y = b) (g1 : ¬ rd_tk op 1 = 0 → sp_at (sm_F M) y = sp_at (sm_F M) (fx b)) (h2 : rd_tk op 2 = 0 → z = c) : sp_ro id M op x y z = sp_ro fx M op a b c := by
  unfold sp_ro
  rcases kn_of op with hneg | ⟨n, hn, rfl⟩
  · rw [if_pos hneg, if_pos hneg]
  · rw [if_neg (kn_nn hn), if_neg (kn_nn hn), kn_tn hn]
    by_cases h10 : n ≤ 10
    · have hcase : n = 0 ∨ n = 1 ∨ n = 2 ∨ n = 3 ∨ n = 4 ∨ n = 5 ∨ n = 6 ∨ n = 7 ∨ n = 8 ∨ n = 9 ∨ n = 10 := by omega
      rcases hcase with rfl | rfl | rfl | rfl | rfl | rfl | rfl | rfl | rfl | rfl | rfl
      · show sp_r0 (sp_at (sm_nM M) x) = sp_r0 (sp_at (sm_nM M) a)
        rw [h0 (by decide)]
      · show sp_r1 (sp_at (sm_F M) x) (sp_at (sm_F M) y) = sp_r1 (sp_at (sm_F M) (fx a)) (sp_at (sm_F M) (fx b))
        rw [g0 (by decide), g1 (by decide)]
      · show sp_r2 (sp_at (sm_F M) x) (sp_at (sm_F M) y) = sp_r2 (sp_at (sm_F M) (fx a)) (sp_at (sm_F M) (fx b))
        rw [g0 (by decide), g1 (by decide)]
      · show sp_r3 (sp_at (sm_nM M) x) (sp_at (sm_F M) y) = sp_r3 (sp_at (sm_nM M) a) (sp_at (sm_F M) (fx b))
        rw [h0 (by decide), g1 (by decide)]
      · show sp_r4 (sp_at (sm_nM M) x) = sp_r4 (sp_at (sm_nM M) a)
        rw [h0 (by decide)]
      · show sp_r5 (sp_at (sm_nM M) x) = sp_r5 (sp_at (sm_nM M) a)
        rw [h0 (by decide)]
      · show sp_r6 (sp_at (sm_F M) x) (sp_at (sm_F M) y) = sp_r6 (sp_at (sm_F M) (fx a)) (sp_at (sm_F M) (fx b))
        rw [g0 (by decide), g1 (by decide)]
      · show sp_r7 (sp_at (sm_F M) x) (sp_at (sm_F M) y) = sp_r7 (sp_at (sm_F M) (fx a)) (sp_at (sm_F M) (fx b))
        rw [g0 (by decide), g1 (by decide)]
      · show sp_r8 (sp_at (sm_F M) x) (sp_at (sm_nM M) y) (sp_at (sm_nM M) z) = sp_r8 (sp_at (sm_F M) (fx a)) (sp_at (sm_nM M) b) (sp_at (sm_nM M) c)
        rw [g0 (by decide), h1 (by decide), h2 (by decide)]
      · show sp_r9 (sp_at (sm_F M) x) (sp_at (sm_nT M) y) (sp_at (sm_nT M) z) = sp_r9 (sp_at (sm_F M) (fx a)) (sp_at (sm_nT M) b) (sp_at (sm_nT M) c)
        rw [g0 (by decide), h1 (by decide), h2 (by decide)]
      · show sp_r10 (sp_at (sm_F M) x) (sp_at (sm_F M) y) = sp_r10 (sp_at (sm_F M) (fx a)) (sp_at (sm_F M) (fx b))
        rw [g0 (by decide), g1 (by decide)]
    · obtain ⟨m, rfl⟩ : ∃ m, n = m + 11 := ⟨n - 11, by omega⟩
      have e : ∀ (f : Int32 → Int32) (u v w : Int32), sp_rl f (sm_nT M) (sm_nM M) (sm_F M) (m + 11) u v w = none := fun _ _ _ _ => rfl
      rw [e, e]
section JPUB4
variable {d : Nat} {S : kS} {M : kO} {F : Int32 → kS → Prop}
theorem rm_meant {i w n0 : Nat} {op x : Int32} {FS : List kQ} (hw : w ≤ 2) (hi : i < 12) (e59 : S 59 (3 * i + w) = x) (e58 : S 58 i = op) (hn : n0 + i ≤ 60) (inv : ∀ q, q < i → S 60 q = kn (n0 + q)) (k : ∀ y, (rd_tk op (kn w) = 0 → y = x) → (¬ rd_tk op (kn w) = 0 → sp_at FS y = sp_at FS (sp_fx (kn n0) (kn i) x)) → F y S) : kK (d + 2) m_Mo_meant [.inr 39, .inl (kn i), .inl (kn w)] S (kq F) := by
  refine g_Mo_meant ?_
  rw [kn_3, kn_add, kn_tn (by omega), e59, kn_tn (by omega), e58]
  refine ⟨kn_in (by omega) (by decide), fun e => k x (fun _ => rfl) (fun _ => ?_), fun e => ?_⟩
  · have : ¬ x < 0 := fun z => by
      have h1 := Int32.lt_iff_toInt_lt.mp z
      have h2 := Int32.le_iff_toInt_le.mp e
      omega
    unfold sp_fx
    rw [if_neg this]
  · have hx : x < 0 := by
      rcases kn_of x with z | ⟨n, hn, rfl⟩
      · exact z
      · exact absurd (kn_ge hn) e
    obtain ⟨n, hn', en, ex⟩ := kn_ng hx
    have hneg : (-(kn i)).toInt = -(i : Int) := by
      rw [Int32.toInt_neg, kn_ti (by omega)]
      apply Int.bmod_eq_of_le <;> omega
    have hlt : x < -(kn i) ↔ i ≤ n := by
      rw [Int32.lt_iff_toInt_lt, hneg, ex]
      omega
    refine ⟨fun e2 => k x (fun _ => rfl) (fun _ => ?_), fun e2 => ⟨kn_in hi (by decide), rm_takes ⟨fun e3 => k x (fun _ => rfl) (fun z => absurd e3 z), fun e3 => ?_⟩⟩⟩
    · have := hlt.mp e2
      unfold sp_fx
      rw [if_pos hx, en, if_neg (fun z => by have := (kn_lt (by omega) (by omega)).mp z; omega), sp_at_neg hx, sp_at_neg kn_m1lt]
    · have hni : n < i := by
        have : ¬ i ≤ n := fun z => e2 (hlt.mpr z)
        omega
      rw [en, kn_tn (by omega), inv n hni]
      refine ⟨kn_in (by omega) (by decide), k _ (fun z => absurd z e3) (fun _ => ?_)⟩
      unfold sp_fx
      rw [if_pos hx, en, if_pos ((kn_lt (by omega) (by omega)).mpr hni), kn_add]
set_option maxHeartbeats 1000000 in
theorem j_replay (h : rr_R S M) (hok : sp_kM M) (k : ∀ S', rr_R S' (sp_replay M).2 → rr_Fx S S' → F (sp_replay M).1 S') : kK (d + 8) m_Mo_replay [.inr 39] S (kq F) := by
  obtain ⟨LT, LM, hQ⟩ := h
  refine g_Mo_replay (fun G hG => rm_begin hQ (fun S0 q0 z0 o0 f0 => ?_))
  have fx0 : rr_Fx S S0 := fun o i ho => f0 o i (by omega)
  obtain ⟨h26, h12, hL⟩ := q0.2.2.2.2.2.2.2.2.2.2
  have loop : ∀ m i, i + m = (sm_L M).length → ∀ (S1 : kS) (M1 : kO) (LT1 LM1 : List kF), rr_Q S1 M1 LT1 LM1 → S1 39 33 = 0 → LT <+: LT1 → LM <+: LM1 → sm_F M <+: sm_F M1 → (sm_F M1).length = (sm_F M).length + i → (∀ q, q < i → S1 60 q = kn ((sm_F M).length + q)) → rr_Fk S0 S1 → sp_kM M1 → sm_nT M1 = sm_nT M → sm_nM M1 = sm_nM M → sm_c M1 = sm_c M → sm_d M1 = sm_d M → sm_L M1 = sm_L M →
      sp_rep (sm_F M).length (sm_L M) 0 M = sp_rep (sm_F M).length ((sm_L M).drop i) i M1 → G 6 [some (.inr 39), some (.inl (kn i))] [] S1 := by
    intro m
    induction m with
    | zero =>
      intro i hi S1 M1 LT1 LM1 h1 z1 p1 p2 p3 hl inv f1 ok1 q1 q2 q3 q4 q5 er
      have e26 : S1 39 26 = kn (sm_L M).length := (f1 _ _ (by unfold rr_ck; omega)).trans h26
      refine f_Mo_replay_6 kspec_Mo hG ⟨fun _ => ?_, fun e => absurd (by rw [e26]; exact (kn_le (by omega) (by omega)).mpr (by omega)) e⟩
      rw [e26]
      rw [List.drop_of_length_le (by omega)] at er
      unfold sp_replay at k
      rw [er] at k
      exact k S1 ⟨LT1, LM1, h1⟩ (rr_Fx_tr fx0 (rr_Fk_x f1))
    | succ m ih =>
      intro i hi S1 M1 LT1 LM1 h1 z1 p1 p2 p3 hl inv f1 ok1 q1 q2 q3 q4 q5 er
      have hil : i < (sm_L M).length := by omega
      have h60 := h1.2.1.2.1
      have e26 : S1 39 26 = kn (sm_L M).length := (f1 _ _ (by unfold rr_ck; omega)).trans h26
      have hin : vp_in (kn i) 12 := kn_in (by omega) (by decide)
      obtain ⟨op, a, b, c, hline⟩ : ∃ op a b c, (sm_L M)[i]? = some (op, a, b, c) := ⟨_, _, _, _, List.getElem?_eq_getElem hil⟩
      obtain ⟨g1, g2, g3, g4⟩ := hL i op a b c hline
      have hdrop : (sm_L M).drop i = (op, a, b, c) :: (sm_L M).drop (i + 1) := by
        rw [List.drop_eq_getElem_cons hil]
        congr 1
        have := List.getElem?_eq_getElem hil
        rw [hline] at this
        injection this with this
        exact this.symm
      have e58 : S1 58 i = op := (f1 _ _ (by unfold rr_ck; omega)).trans g1
      have ea : S1 59 (3 * i + 0) = a := (f1 _ _ (by unfold rr_ck; omega)).trans g2
      have eb : S1 59 (3 * i + 1) = b := (f1 _ _ (by unfold rr_ck; omega)).trans g3
      have ec : S1 59 (3 * i + 2) = c := (f1 _ _ (by unfold rr_ck; omega)).trans g4
      refine f_Mo_replay_6 kspec_Mo hG ⟨fun e => absurd ((kn_le (by omega) (by omega)).mp (e26 ▸ e)) (by omega), fun _ => ⟨hin, ?_⟩⟩
      rw [kn_tn (by omega), e58]
      refine rm_meant (w := 0) (FS := sm_F M1) (by omega) (by omega) ea e58 (by omega) inv (fun x x1 x2 => ?_)
      refine rm_meant (w := 1) (FS := sm_F M1) (by omega) (by omega) eb e58 (by omega) inv (fun y y1 y2 => ?_)
      refine rm_meant (w := 2) (FS := sm_F M1) (by omega) (by omega) ec e58 (by omega) inv (fun z w1 w2 => ?_)
      have hro : sp_ro id M1 op x y z = sp_ro (sp_fx (kn (sm_F M).length) (kn i)) M1 op a b c := rd_ro x1 x2 y1 y2 w1
      refine rm_derive (o := sp_ro (sp_fx (kn (sm_F M).length) (kn i)) M1 op a b c) h1.1 z1 h1.2.1 h1.2.2.2.1 h1.2.2.1 ok1.1 hro.symm (fun r S7 hP => ⟨hin, ?_⟩)
      obtain ⟨fr, res⟩ := rd_step h1 hP
      have f7 : rr_Fk S0 (ku S7 60 i r) := fun o j ho => (ku_ne (by unfold rr_ck at ho; omega)).trans ((rr_Fk_r fr o j ho).trans (f1 o j ho))
      rcases res with ⟨cc, raw, LT2, LM2, e3, hr, h33, h2, p4, p5⟩ | ⟨e3, hr, h33, LT2, LM2, s2, p4, p5, A2⟩
      · refine rm_stays_yes ((ku_ne (by omega)).trans h33) ⟨fun _ => ?_, fun e => absurd (by decide) e⟩
        rw [kn_suc]
        obtain ⟨o1, o2, o3, o4, o5, o6⟩ := sp_ru_ok ok1 e3
        refine ih (i + 1) (by omega) _ (sp_rm M1 cc raw) LT2 LM2 (rr_Q_fr h2 (fun o j ho => ku_ne (by omega))) ((ku_ne (by omega)).trans h33) (p1.trans p4) (p2.trans p5) (p3.trans ⟨_, rfl⟩) ?_ (fun q hq => ?_) f7 o1 (o2.trans q1) (o3.trans q2) (o4.trans q3) (o5.trans q4) (o6.trans q5) ?_
        · show (sm_F M1 ++ [_]).length = _
          rw [List.length_append, List.length_singleton, hl]; omega
        · by_cases ee : q = i
          · subst ee
            rw [ku_self, hr, hl]
          · rw [ku_ne (by omega), fr 60 q (by unfold rr_cr rr_cm; omega)]
            exact inv q (by omega)
        · rw [er, hdrop]
          show (match sp_ru M1 (sp_ro (sp_fx (kn (sm_F M).length) (kn i)) M1 op a b c) with
            | some M' => sp_rep (sm_F M).length ((sm_L M).drop (i + 1)) (i + 1) M'
            | none => .inr i) = _
          rw [e3]
      · rw [q1, q2] at s2
        refine rm_stays_no q0 o0 (rr_S_fr s2 (fun o j ho => ku_ne (by omega))) (p1.trans p4) (p2.trans p5) (rr_A_fr A2 (fun o j ho => ku_ne (by omega))) p3 f7 (by rw [ku_ne (by omega)]; exact h33) (fun S9 h9 f9 => ⟨fun e => absurd rfl e, fun _ => ?_⟩)
        have er2 : sp_rep (sm_F M).length (sm_L M) 0 M = .inr i := by
          rw [er, hdrop]
          show (match sp_ru M1 (sp_ro (sp_fx (kn (sm_F M).length) (kn i)) M1 op a b c) with
            | some M' => sp_rep (sm_F M).length ((sm_L M).drop (i + 1)) (i + 1) M'
            | none => .inr i) = _
          rw [e3]
        unfold sp_replay at k
        rw [er2] at k
        exact k S9 ⟨LT, LM, h9⟩ (rr_Fx_tr fx0 f9)
  exact loop (sm_L M).length 0 (by omega) S0 M LT LM q0 z0 (List.prefix_refl _) (List.prefix_refl _) (List.prefix_refl _) rfl (fun q hq => absurd hq (by omega)) (fun _ _ _ => rfl) hok rfl rfl rfl rfl rfl rfl
end JPUB4
