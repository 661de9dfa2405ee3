/-! ===== THE CLASS: types ===== -/
theorem ku_at {S : kS} {o i o' i' : Nat} {x : Int32} : ku S o i x o' i' = if o' = o ∧ i' = i then x else S o' i' := by
  by_cases h : o' = o ∧ i' = i
  · obtain ⟨rfl, rfl⟩ := h
    rw [ku_self, if_pos ⟨rfl, rfl⟩]
  · rw [if_neg h]
    by_cases h1 : o' = o
    · rw [ku_i (fun e => h ⟨h1, e⟩)]
    · rw [ku_o h1]
theorem ku_ne {S : kS} {o i o' i' : Nat} {x : Int32} (h : ¬ (o' = o ∧ i' = i)) : ku S o i x o' i' = S o' i' := by rw [ku_at, if_neg h]
theorem rc_b_gt : ∀ j, j < 9 → ((rc_b j).1 = 1 → fo_gt (fo_tb j) = true) ∧ ((rc_b j).1 ≠ 1 → fo_gt (fo_tb j) = false) := by decide
set_option maxHeartbeats 1000000 in
/-- store: the type t with record s, a, b -/
theorem c_Ty_store {d : Nat} {S : kS} {LT LM : List kF} {t : kF} {s a b : Nat} {F : Int32 → kS → Prop} (hS : rc_S S LT LM) (hq : rp_q 3 rc_b LT t s a b) (hw : fo_tw t)
    (k : ∀ r S' LT', rc_S S' LT' LM → LT <+: LT' → rc_FT S S' → ((∃ i, LT'[i]? = some t ∧ r = kn i ∧ fo_mn LT LM LT' LM (fun U _ => U t)) ∨ (r = -1 ∧ fo_no LT LM (fun U _ => U t))) → F r S') :
    kK (d + 1) m_Ty_store [.inr 1, .inl (kn s), .inl (kn a), .inl (kn b)] S (kq F) := by
  obtain ⟨hL, hc, hcm, hT, hM, hH⟩ := hS
  have hn : LT.length ≤ 50 := hL.2.2.2.2.2.1
  have hsm : s < 9 ∧ a < 50 ∧ b < 50 := by
    rcases hq with ⟨j, hj, _, rfl, rfl, rfl⟩ | ⟨x, y, _, rfl, ha, hb⟩
    · have := rc_bc.2 j hj
      have := rc_bc.1
      omega
    · have := rp_lt ha
      have := rp_lt hb
      omega
  obtain ⟨hs9, ha, hb⟩ := hsm
  -- the end: a new place
  have fin : t ∉ LT → fo_th t ≤ 10 → LT.length < 50 → ∀ g : Int32, g = kb (fo_gt t) → F (kn LT.length) (ku (ku (ku (ku (ku (ku S 5 LT.length (kn s)) 6 LT.length (kn a)) 7 LT.length (kn b)) 9 LT.length (kn (fo_th t))) 8 LT.length g) 1 6 (kn LT.length + 1)) := by
    intro hnot hh hlt g hg
    refine k _ _ (LT ++ [t]) ⟨fo_SL_T hL hnot hw ?_ hh hlt, ?_, ?_, ?_, ?_, ?_⟩ ⟨[t], rfl⟩ ?_ (Or.inl ⟨LT.length, ?_, rfl, fo_mn_T⟩)
    · intro x y e
      rcases hq with ⟨j, hj, rfl, _⟩ | ⟨x', y', rfl, _, h1, h2⟩
      · exact absurd e.symm fo_ar_tb
      · obtain ⟨rfl, rfl⟩ := fo_ar_inj e
        exact ⟨rp_mem h1, rp_mem h2⟩
    · simp [ku_at, kn_suc]
    · simp [ku_at]; exact hcm
    · refine rp_add hT hq ?_ ?_ ?_ ?_ ?_ ?_
      · intro o i ho hi
        have hne : i ≠ LT.length := by omega
        rcases ho with rfl | rfl | rfl | rfl | rfl <;> simp [ku_at, hne]
      · simp [ku_at]
      · simp [ku_at]
      · simp [ku_at]
      · simp [ku_at]
      · simp [ku_at, hg]
    · refine rc_M_T (rc_M_congr hM ?_) ⟨[t], rfl⟩
      intro o h1 h2 h3
      rw [ku_o (by omega), ku_o (by omega), ku_o (by omega), ku_o (by omega), ku_o (by omega), ku_o (by omega)]
    · refine rc_H_congr hH ?_
      intro o ho
      rw [ku_o (by omega), ku_o (by omega), ku_o (by omega), ku_o (by omega), ku_o (by omega), ku_o (by omega)]
    · intro o i hoi
      unfold rc_ct at hoi
      rw [ku_ne (by omega), ku_ne (by omega), ku_ne (by omega), ku_ne (by omega), ku_ne (by omega), ku_ne (by omega)]
    · simp
  have no : t ∉ LT → (10 < fo_th t ∨ 50 ≤ LT.length) → F (-1) S := fun hnot h => k _ _ LT ⟨hL, hc, hcm, hT, hM, hH⟩ (List.prefix_refl _) rc_FT_rf (Or.inr ⟨rfl, fo_no_T hL.1 hnot h⟩)
  have hg1 : s ≠ 3 → fo_th t = 1 ∧ (s = 1 → fo_gt t = true) ∧ (s ≠ 1 → fo_gt t = false) := by
    intro h3
    rcases hq with ⟨j, hj, rfl, rfl, _⟩ | ⟨x, y, _, h, _⟩
    · exact ⟨rfl, (rc_b_gt j hj).1, (rc_b_gt j hj).2⟩
    · exact absurd h h3
  have hg3 : s = 3 → ∃ x y, t = fo_ar x y ∧ S 8 a = kb (fo_gt x) ∧ S 8 b = kb (fo_gt y) ∧ S 9 a = kn (fo_th x) ∧ S 9 b = kn (fo_th y) ∧ fo_th x ≤ 10 ∧ fo_th y ≤ 10 := by
    intro h3
    rcases hq with ⟨j, hj, rfl, h, _⟩ | ⟨x, y, e, _, h1, h2⟩
    · have := (rc_bc.2 j hj).1
      omega
    · exact ⟨x, y, e, (hT a x h1).2.1, (hT b y h2).2.1, (hT a x h1).1, (hT b y h2).1, (hL.2.2.2.1 x (rp_mem h1)).2, (hL.2.2.2.1 y (rp_mem h2)).2⟩
  have hth : fo_th t ≤ 11 := by
    by_cases h3 : s = 3
    · obtain ⟨x, y, rfl, _, _, _, _, h1, h2⟩ := hg3 h3
      rw [fo_th_ar]; omega
    · rw [(hg1 h3).1]; decide
  refine g_Ty_store (fun G h => ⟨fun e => absurd e (kn_nn (by omega)), fun _ => ⟨fun _ => ?_, fun e => absurd (kn_ge (by omega)) e⟩⟩)
  have end2 : t ∉ LT → ∀ (w : Int32), (w = 0 ∧ s ≠ 3 ∨ w = 1 ∧ s = 3) → G 102 [some (.inr 1), some (.inl (kn s)), some (.inl (kn a)), some (.inl (kn b)), some (.inl w), none] [.inl (kn (fo_th t))] S := by
    intro hnot w hw2
    refine f_Ty_store_102 kspec_Mo h ⟨fun e => ?_, fun e => ⟨fun e2 => ?_, fun e2 => ?_⟩⟩
    · exact no hnot (Or.inl ((kn_lt (n := 10) (by decide) (by omega)).mp e))
    · have hh : fo_th t ≤ 10 := Nat.not_lt.mp (fun q => e ((kn_lt (n := 10) (by decide) (by omega)).mpr q))
      rw [hc] at e2
      have hlt : LT.length < 50 := (kn_lt (m := 50) (by omega) (by decide)).mp e2
      have hin : vp_in (kn LT.length) 50 := kn_in hlt (by decide)
      simp only [hc, kn_tn (show LT.length < 2147483648 by omega), kn_tn (show a < 2147483648 by omega), kn_tn (show b < 2147483648 by omega)]
      have fin := fin hnot hh hlt
      refine ⟨hin, hin, hin, hin, fun e3 => ⟨hin, ?_⟩, fun e3 => ⟨fun e4 => ⟨hin, ?_⟩, fun e4 => ⟨kn_in ha (by decide), fun e5 => ⟨hin, ?_⟩, fun e5 => ⟨kn_in hb (by decide), fun e6 => ⟨hin, ?_⟩, fun e6 => ⟨hin, ?_⟩⟩⟩⟩⟩
      · have hs1 : s = 1 := kn_inj (m := 1) (by omega) (by decide) e3
        exact fin _ (by rw [(hg1 (by omega)).2.1 hs1]; exact kb_nar true)
      · have hs1 : s ≠ 1 := fun q => e3 (by rw [q]; rfl)
        have hs3 : s ≠ 3 := by
          rcases hw2 with h | h
          · exact h.2
          · rw [h.1] at e4; exact absurd e4 (by decide)
        exact fin _ (by rw [(hg1 hs3).2.2 hs1]; exact kb_nar false)
      · have hs3 : s = 3 := by
          rcases hw2 with h | h
          · exact absurd h.1 e4
          · exact h.2
        obtain ⟨x, y, rfl, g1, g2, _⟩ := hg3 hs3
        rw [g1, kb_nz] at e5
        exact fin _ (by rw [fo_gt_ar, e5]; exact kb_nar true)
      · have hs3 : s = 3 := by
          rcases hw2 with h | h
          · exact absurd h.1 e4
          · exact h.2
        obtain ⟨x, y, rfl, g1, g2, _⟩ := hg3 hs3
        rw [g1] at e5
        rw [g2, kb_zero] at e6
        have e5 : fo_gt x = false := kb_zero.mp (Classical.not_not.mp e5)
        exact fin _ (by rw [fo_gt_ar, e5, e6]; exact kb_nar false)
      · have hs3 : s = 3 := by
          rcases hw2 with h | h
          · exact absurd h.1 e4
          · exact h.2
        obtain ⟨x, y, rfl, g1, g2, _⟩ := hg3 hs3
        rw [g2, kb_nz] at e6
        exact fin _ (by rw [fo_gt_ar, e6, Bool.or_true]; exact kb_nar true)
    · rw [hc] at e2
      exact no hnot (Or.inr (Nat.not_lt.mp (fun q => e2 ((kn_lt (m := 50) (by omega) (by decide)).mpr q))))
  have loop : ∀ m j, j + m = LT.length → (∀ i, i < j → LT[i]? ≠ some t) → G 13 [some (.inr 1), some (.inl (kn s)), some (.inl (kn a)), some (.inl (kn b)), some (.inl (kn j)), none] [] S := by
    intro m
    induction m with
    | zero =>
      intro j hj hno
      have hnot : t ∉ LT := by
        intro hx
        obtain ⟨i, hi⟩ := rp_at hx
        exact hno i (by have := rp_lt hi; omega) hi
      refine f_Ty_store_13 kspec_Mo h ⟨fun _ => ⟨fun e => ?_, fun e => ?_⟩, fun e => absurd (by rw [hc]; exact (kn_le (by omega) (by omega)).mpr (by omega)) e⟩
      · have hs3 : s ≠ 3 := fun q => e (by rw [q]; rfl)
        refine f_Ty_store_74 kspec_Mo h ⟨fun _ => ?_, fun e => absurd rfl e⟩
        have := end2 hnot 0 (Or.inl ⟨rfl, hs3⟩)
        rw [(hg1 hs3).1] at this
        exact this
      · have hs3 : s = 3 := kn_inj (m := 3) (by omega) (by decide) (Classical.not_not.mp e)
        refine f_Ty_store_74 kspec_Mo h ⟨fun e => absurd e (by decide), fun _ => ⟨kn_in ha (by decide), kn_in hb (by decide), ?_⟩⟩
        rw [kn_tn (show a < 2147483648 by omega), kn_tn (show b < 2147483648 by omega)]
        have hh := end2 hnot 1 (Or.inr ⟨rfl, hs3⟩)
        obtain ⟨x, y, rfl, _, _, g3, g4, g5, g6⟩ := hg3 hs3
        rw [g3, g4, kn_max (by omega) (by omega), show (1 : Int32) = kn 1 from rfl, kn_add]
        rw [fo_th_ar] at hh
        exact hh
    | succ m ih =>
      intro j hj hno
      have hjl : j < LT.length := by omega
      have hu : LT[j]? = some LT[j] := List.getElem?_eq_getElem hjl
      have hin : vp_in (kn j) 50 := kn_in (by omega) (by decide)
      have next : LT[j]? ≠ some t → G 13 [some (.inr 1), some (.inl (kn s)), some (.inl (kn a)), some (.inl (kn b)), some (.inl (kn j + 1)), none] [] S := by
        intro hne
        rw [kn_suc]
        refine ih (j + 1) (by omega) (fun i hi => ?_)
        by_cases he : i = j
        · rw [he]; exact hne
        · exact hno i (by omega)
      refine f_Ty_store_13 kspec_Mo h ⟨fun e => absurd ((kn_le (by omega) (by omega)).mp (hc ▸ e)) (by omega), fun _ => ?_⟩
      rw [kn_tn (show j < 2147483648 by omega)]
      refine ⟨hin, fun e => next fun hk => e (rp_hit hL.1 hT hk hq).1, fun e1 => ⟨hin, fun e => next fun hk => e (rp_hit hL.1 hT hk hq).2.1, fun e2 => ⟨hin, fun e => next fun hk => e (rp_hit hL.1 hT hk hq).2.2, fun e3 => ?_⟩⟩⟩
      have e := rp_found rc_bc hn hT hu (hL.2.2.2.1 _ (rp_mem hu)).1 hq (Classical.not_not.mp e1) (Classical.not_not.mp e2) (Classical.not_not.mp e3)
      exact k _ _ LT ⟨hL, hc, hcm, hT, hM, hH⟩ (List.prefix_refl _) rc_FT_rf (Or.inl ⟨j, by rw [hu, e], rfl, fo_mn_rf⟩)
  exact loop LT.length 0 (by omega) (fun i hi => absurd hi (by omega))
/-- store: handed a refusal -/
theorem c_Ty_store_no {d : Nat} {S : kS} {s x y : Int32} {F : Int32 → kS → Prop} (h : x < 0 ∨ y < 0) (k : F (-1) S) : kK (d + 1) m_Ty_store [.inr 1, .inl s, .inl x, .inl y] S (kq F) := by
  refine g_Ty_store (fun G _ => ⟨fun _ => k, fun e => ⟨fun e2 => ?_, fun _ => k⟩⟩)
  rcases h with h | h
  · exact absurd h e
  · exact absurd h (Int32.not_lt.mpr e2)
