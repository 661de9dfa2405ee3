/-! ===== THE REFERENCE: its stores ===== -/
theorem kn_pm (n : Nat) : kn n + 1 - 1 = kn n := by
  rw [kn_suc, show (1 : Int32) = kn 1 from rfl, kn_sub (by omega)]
  congr 1
def rr_B (S : kS) : Prop := ∀ k, k < 250 → ∃ y, y < 50 ∧ S 50 k = kn y
def rr_S (S : kS) (LT LM NT NM : List kF) : Prop := fo_SL LT LM ∧ S 39 0 = kn LT.length ∧ S 39 9 = kn LM.length ∧ rp_T S 40 41 42 43 44 4 rr_b LT ∧ rr_M S LT LM ∧ rr_B S ∧ rp_N S 46 45 LT NT ∧ rp_N S 53 52 LM NM
def rr_cm (o i : Nat) : Prop := (o = 39 ∧ (i = 0 ∨ i = 9 ∨ i = 33)) ∨ (40 ≤ o ∧ o ≤ 45) ∨ (47 ≤ o ∧ o ≤ 52) ∨ (61 ≤ o ∧ o ≤ 64)
def rr_FC (S S' : kS) : Prop := ∀ o i, ¬ rr_cm o i → S' o i = S o i
theorem rr_FC_rf {S : kS} : rr_FC S S := fun _ _ _ => rfl
theorem rr_FC_tr {S S1 S2 : kS} (h1 : rr_FC S S1) (h2 : rr_FC S1 S2) : rr_FC S S2 := fun o i h => (h2 o i h).trans (h1 o i h)
theorem rp_N_congr {S S' : kS} {cp cn : Nat} {L N : List kF} (h : rp_N S cp cn L N) (h1 : ∀ j, S' cp j = S cp j) (h2 : ∀ j, S' cn j = S cn j) : rp_N S' cp cn L N := by
  refine ⟨h.1, fun j t hj => ?_, fun k t hk => ?_⟩
  · rw [h1]; exact h.2.1 j t hj
  · rw [h2]; exact h.2.2 k t hk
theorem rr_S_fr {S S' : kS} {LT LM NT NM : List kF} (h : rr_S S LT LM NT NM) (f : ∀ o i, (o = 39 ∧ (i = 0 ∨ i = 9)) ∨ (40 ≤ o ∧ o ≤ 53) → S' o i = S o i) : rr_S S' LT LM NT NM := by
  obtain ⟨h1, h2, h3, h4, h5, h6, h7, h8⟩ := h
  refine ⟨h1, (f _ _ (by omega)).trans h2, (f _ _ (by omega)).trans h3, rp_T_congr h4 (fun o ho => funext fun i => f o i (by omega)), rr_M_congr h5 (fun o a b => funext fun i => f o i (by omega)), fun k hk => ?_, rp_N_congr h7 (fun _ => f _ _ (by omega)) (fun _ => f _ _ (by omega)), rp_N_congr h8 (fun _ => f _ _ (by omega)) (fun _ => f _ _ (by omega))⟩
  rw [f 50 k (by omega)]
  exact h6 k hk
/-- from the stores LT, LM, on the way to g, now at S1; b: something was refused -/
def rr_J (S : kS) (LT LM NT NM : List kF) (g : kU) (S1 : kS) (LT1 LM1 : List kF) (b : Bool) : Prop := rr_S S1 LT1 LM1 NT NM ∧ S1 39 33 = kb b ∧ LT <+: LT1 ∧ LM <+: LM1 ∧ rr_FC S S1 ∧ (b = false → fo_mn LT LM LT1 LM1 g) ∧ (b = true → fo_no LT LM g)
/-- a place below n; where nothing was refused, the place of v -/
def rr_v (L : List kF) (n : Nat) (b : Bool) (v : kF) (r : Int32) : Prop := (∃ i, i < n ∧ r = kn i) ∧ (b = false → ∃ i, L[i]? = some v ∧ r = kn i)
theorem rr_v_gr {L L2 : List kF} {n : Nat} {b b2 : Bool} {v : kF} {r : Int32} (h : rr_v L n b v r) (p : L <+: L2) (hb : b2 = false → b = false) : rr_v L2 n b2 v r := by
  refine ⟨h.1, fun e => ?_⟩
  obtain ⟨i, hi, e2⟩ := h.2 (hb e)
  exact ⟨i, rp_pre p hi, e2⟩
theorem rr_v_of {L : List kF} {n : Nat} {b : Bool} {v : kF} {i : Nat} (h : L[i]? = some v) (hl : L.length ≤ n) : rr_v L n b v (kn i) := ⟨⟨i, by have := rp_lt h; omega, rfl⟩, fun _ => ⟨i, h, rfl⟩⟩
theorem rr_b_gt : ∀ j, j < 9 → ((rr_b j).1 = 2 → fo_gt (fo_tb j) = true) ∧ ((rr_b j).1 ≠ 2 → fo_gt (fo_tb j) = false) := by decide
theorem rr_J_bad {S : kS} {LT LM NT NM : List kF} {g : kU} {S1 : kS} {LT1 LM1 : List kF} {b : Bool} (h : rr_J S LT LM NT NM g S1 LT1 LM1 b) (n : fo_no LT LM g) : rr_J S LT LM NT NM g (ku S1 39 33 1) LT1 LM1 true :=
  ⟨rr_S_fr h.1 (fun o i ho => ku_ne (by omega)), ku_self, h.2.2.1, h.2.2.2.1, rr_FC_tr h.2.2.2.2.1 (fun o i ho => ku_ne (fun e => ho (by unfold rr_cm; omega))), (fun e => by cases e), fun _ => n⟩
set_option maxHeartbeats 2000000 in
theorem rm_type {d : Nat} {S : kS} {LT LM NT NM : List kF} {g : kU} {S1 : kS} {LT1 LM1 : List kF} {b : Bool} {t : kF} {s a c : Nat} {F : Int32 → kS → Prop} (h : rr_J S LT LM NT NM g S1 LT1 LM1 b) (hs : s < 9) (ha : a < 50) (hc : c < 50) (hq : b = false → rp_q 4 rr_b LT1 t s a c ∧ fo_tw t) (need : ∀ U V, fo_Cl U V → g U V → U t)
    (k : ∀ r S2 LT2 b2, rr_J S LT LM NT NM g S2 LT2 LM1 b2 → LT1 <+: LT2 → rr_FC S1 S2 → (∀ o i, 46 ≤ o → S2 o i = S1 o i) → (b2 = false → b = false) → rr_v LT2 50 b2 t r → F r S2) :
    kK (d + 1) m_Mo_type [.inr 39, .inl (kn s), .inl (kn a), .inl (kn c)] S1 (kq F) := by
  have hJ := h
  obtain ⟨⟨hL, h0, h9, hT, hM, hB, hN1, hN2⟩, hb, p1, p2, fr, hmn, hno⟩ := h
  have hn : LT1.length ≤ 50 := hL.2.2.2.2.2.1
  have bad : (b = true ∨ (b = false ∧ fo_no LT1 LM1 (fun U _ => U t))) → F 0 (ku S1 39 33 1) := by
    intro e
    have nn : fo_no LT LM g := by
      rcases e with e | ⟨e, n⟩
      · exact hno e
      · exact fo_no_2 (hmn e) n (fun _ _ _ q => q) need
    exact k _ _ LT1 true (rr_J_bad hJ nn) (List.prefix_refl _) (fun o i ho => ku_ne (fun e => ho (by unfold rr_cm; omega))) (fun o i ho => ku_ne (by omega)) (fun e => by cases e) ⟨⟨0, by decide, rfl⟩, fun e => by cases e⟩
  have same : ∀ i, i < 50 → (b = false → LT1[i]? = some t) → F (kn i) S1 := fun i hi e => k _ _ LT1 b hJ (List.prefix_refl _) rr_FC_rf (fun _ _ _ => rfl) id ⟨⟨i, hi, rfl⟩, fun q => ⟨i, e q, rfl⟩⟩
  refine g_Mo_type (fun G hG => ?_)
  -- a new place
  have e209 : b = false → t ∉ LT1 → fo_th t ≤ 10 → LT1.length < 50 → ∀ v4 w : Int32, w = kb (fo_gt t) → ∀ S2 : kS, (∀ o i, ¬ (i = LT1.length ∧ (40 ≤ o ∧ o ≤ 43)) → S2 o i = S1 o i) → S2 40 LT1.length = kn s → S2 41 LT1.length = kn a → S2 42 LT1.length = kn c → S2 43 LT1.length = kn (fo_th t) →
      G 209 [some (.inr 39), some (.inl (kn s)), some (.inl (kn a)), some (.inl (kn c)), some (.inl v4)] [.inl w, .inl (kn LT1.length), .inr 44] S2 := by
    intro hbf hnot hh hlt v4 w ew S2 f2 e40 e41 e42 e43
    subst ew
    obtain ⟨hq, hw⟩ := hq hbf
    have e0 : S2 39 0 = kn LT1.length := (f2 _ _ (by omega)).trans h0
    have hin : vp_in (kn LT1.length) 50 := kn_in hlt (by decide)
    refine f_Mo_type_209 kspec_Mo hG ?_
    rw [e0, kn_tn (by omega), kb_nar, kn_pm, kn_suc]
    refine ⟨hin, hin, ?_⟩
    have fr2 : ∀ o i, ¬ ((i = LT1.length ∧ (40 ≤ o ∧ o ≤ 45)) ∨ (o = 39 ∧ i = 0)) → ku (ku (ku S2 44 LT1.length (kb (fo_gt t))) 45 LT1.length (-1)) 39 0 (kn (LT1.length + 1)) o i = S1 o i := by
      intro o i ho
      rw [ku_ne (by omega), ku_ne (by omega), ku_ne (by omega), f2 o i (by omega)]
    have hLn : fo_SL (LT1 ++ [t]) LM1 := fo_SL_T hL hnot hw (by
      intro x y e
      rcases hq with ⟨j, hj, rfl, _⟩ | ⟨x', y', rfl, _, g1, g2⟩
      · exact absurd e.symm fo_ar_tb
      · obtain ⟨rfl, rfl⟩ := fo_ar_inj e
        exact ⟨rp_mem g1, rp_mem g2⟩) hh hlt
    refine k _ _ (LT1 ++ [t]) false ⟨⟨hLn, ?_, ?_, ?_, ?_, ?_, ?_, ?_⟩, ?_, p1.trans ⟨[t], rfl⟩, p2, ?_, fun _ => fo_mn_tr (hmn hbf) fo_mn_T (fun _ _ _ q => q) need, fun e => by cases e⟩ ⟨[t], rfl⟩ (fun o i ho => fr2 o i (fun e => ho (by unfold rr_cm; omega))) (fun o i ho => fr2 o i (by omega)) (fun _ => hbf) ⟨⟨LT1.length, hlt, rfl⟩, fun _ => ⟨LT1.length, by simp, rfl⟩⟩
    · rw [ku_self, List.length_append, List.length_singleton]
    · rw [fr2 _ _ (by omega)]; exact h9
    · refine rp_add hT hq ?_ ?_ ?_ ?_ ?_ ?_
      · intro o i ho hi
        exact fr2 o i (by omega)
      · rw [ku_ne (by omega), ku_ne (by omega), ku_ne (by omega)]; exact e40
      · rw [ku_ne (by omega), ku_ne (by omega), ku_ne (by omega)]; exact e41
      · rw [ku_ne (by omega), ku_ne (by omega), ku_ne (by omega)]; exact e42
      · rw [ku_ne (by omega), ku_ne (by omega), ku_ne (by omega)]; exact e43
      · rw [ku_ne (by omega), ku_ne (by omega), ku_self]
    · exact rr_M_T (rr_M_congr hM (fun o q1 q2 => funext fun i => fr2 o i (by omega))) ⟨[t], rfl⟩
    · intro i hi
      rw [fr2 _ _ (by omega)]; exact hB i hi
    · refine rp_N_grow hN1 ⟨[t], rfl⟩ hLn.1 (fun j _ => fr2 _ _ (by omega)) (fun j hj => fr2 _ _ (by omega)) (fun j q1 q2 => ?_)
      rw [List.length_append, List.length_singleton] at q2
      have : j = LT1.length := by omega
      subst this
      rw [ku_ne (by omega), ku_self]
    · exact rp_N_congr hN2 (fun _ => fr2 _ _ (by omega)) (fun _ => fr2 _ _ (by omega))
    · rw [fr2 _ _ (by omega), hb, hbf]
    · exact rr_FC_tr fr (fun o i ho => fr2 o i (fun e => ho (by unfold rr_cm; omega)))
  have hg1 : b = false → s ≠ 4 → fo_th t = 1 ∧ (s = 2 → fo_gt t = true) ∧ (s ≠ 2 → fo_gt t = false) := by
    intro hbf h4
    rcases (hq hbf).1 with ⟨j, hj, rfl, rfl, _⟩ | ⟨x, y, _, q, _⟩
    · exact ⟨rfl, (rr_b_gt j hj).1, (rr_b_gt j hj).2⟩
    · exact absurd q h4
  have hg4 : b = false → s = 4 → ∃ x y, t = fo_ar x y ∧ S1 44 a = kb (fo_gt x) ∧ S1 44 c = kb (fo_gt y) ∧ S1 43 a = kn (fo_th x) ∧ S1 43 c = kn (fo_th y) ∧ fo_th x ≤ 10 ∧ fo_th y ≤ 10 := by
    intro hbf h4
    rcases (hq hbf).1 with ⟨j, hj, rfl, q, _⟩ | ⟨x, y, e, _, q1, q2⟩
    · have := (rr_bc.2 j hj).1
      omega
    · exact ⟨x, y, e, (hT a x q1).2.1, (hT c y q2).2.1, (hT a x q1).1, (hT c y q2).1, (hL.2.2.2.1 x (rp_mem q1)).2, (hL.2.2.2.1 y (rp_mem q2)).2⟩
  have hth : b = false → fo_th t ≤ 11 := by
    intro hbf
    by_cases h4 : s = 4
    · obtain ⟨x, y, rfl, _, _, _, _, q1, q2⟩ := hg4 hbf h4
      rw [fo_th_ar]; omega
    · rw [(hg1 hbf h4).1]; decide
  have e95 : (b = false → t ∉ LT1) → ∀ v4 w : Int32, (b = false → w = kn (fo_th t)) → G 95 [some (.inr 39), some (.inl (kn s)), some (.inl (kn a)), some (.inl (kn c)), some (.inl v4)] [.inl w] S1 := by
    intro hnot v4 w hw
    refine f_Mo_type_95 kspec_Mo hG ⟨fun e => bad (Or.inl (by rw [hb] at e; exact kb_nz.mp e)), fun e => ?_⟩
    have hbf : b = false := by rw [hb] at e; exact kb_zero.mp (Classical.not_not.mp e)
    have hnot := hnot hbf
    have hw := hw hbf
    have hth := hth hbf
    subst hw
    refine ⟨fun e2 => bad (Or.inr ⟨hbf, fo_no_T hL.1 hnot (Or.inl ((kn_lt (n := 10) (by decide) (by omega)).mp e2))⟩), fun e2 => ?_⟩
    have hh : fo_th t ≤ 10 := Nat.not_lt.mp (fun q => e2 ((kn_lt (n := 10) (by decide) (by omega)).mpr q))
    rw [h0, kn_tn (by omega), kn_tn (by omega), kn_tn (by omega)]
    refine ⟨fun e3 => ?_, fun e3 => ?_⟩
    · have hlt : LT1.length < 50 := by
        have : LT1.length ≠ 50 := fun q => e3 (by rw [q]; rfl)
        omega
      have hin : vp_in (kn LT1.length) 50 := kn_in hlt (by decide)
      have go : ∀ w : Int32, w = kb (fo_gt t) → G 209 [some (.inr 39), some (.inl (kn s)), some (.inl (kn a)), some (.inl (kn c)), some (.inl (kn (fo_th t)))] [.inl w, .inl (kn LT1.length), .inr 44] (ku (ku (ku (ku S1 40 LT1.length (kn s)) 41 LT1.length (kn a)) 42 LT1.length (kn c)) 43 LT1.length (kn (fo_th t))) := by
        intro w ew
        refine e209 hbf hnot hh hlt _ w ew _ (fun o i ho => ?_) ?_ ?_ ?_ ?_
        · rw [ku_ne (by omega), ku_ne (by omega), ku_ne (by omega), ku_ne (by omega)]
        · rw [ku_ne (by omega), ku_ne (by omega), ku_ne (by omega), ku_self]
        · rw [ku_ne (by omega), ku_ne (by omega), ku_self]
        · rw [ku_ne (by omega), ku_self]
        · rw [ku_self]
      refine ⟨hin, hin, hin, hin, fun e4 => go _ ?_, fun e4 => ⟨fun e5 => go _ ?_, fun e5 => ⟨kn_in ha (by decide), ?_⟩⟩⟩
      · have h2 := kn_inj (m := 2) (by omega) (by decide) e4
        rw [(hg1 hbf (by omega)).2.1 h2]; rfl
      · have h4 : s ≠ 4 := fun q => e5 (by rw [q]; rfl)
        have h2 : s ≠ 2 := fun q => e4 (by rw [q]; rfl)
        rw [(hg1 hbf h4).2.2 h2]; rfl
      · have h4 := kn_inj (m := 4) (by omega) (by decide) (Classical.not_not.mp e5)
        obtain ⟨x, y, rfl, g1, g2, _⟩ := hg4 hbf h4
        rw [g1, g2]
        refine ⟨fun e6 => go _ ?_, fun e6 => ⟨kn_in hc (by decide), fun e7 => go _ ?_, fun e7 => go _ ?_⟩⟩
        · rw [fo_gt_ar, kb_nz.mp e6]; rfl
        · rw [fo_gt_ar, kb_zero.mp (Classical.not_not.mp e6), kb_zero.mp e7]; rfl
        · rw [fo_gt_ar, kb_nz.mp e7, Bool.or_true]; rfl
    · refine bad (Or.inr ⟨hbf, fo_no_T hL.1 hnot (Or.inr ?_)⟩)
      have := kn_inj (m := 50) (by omega) (by decide) (Classical.not_not.mp e3)
      omega
  have loop : ∀ m j, j + m = LT1.length → (b = false → ∀ i, i < j → LT1[i]? ≠ some t) → G 3 [some (.inr 39), some (.inl (kn s)), some (.inl (kn a)), some (.inl (kn c)), some (.inl (kn j))] [] S1 := by
    intro m
    induction m with
    | zero =>
      intro j hj hnn
      have hnot : b = false → t ∉ LT1 := fun hbf hx => by
        obtain ⟨i, hi⟩ := rp_at hx
        exact hnn hbf i (by have := rp_lt hi; omega) hi
      refine f_Mo_type_3 kspec_Mo hG ⟨fun _ => ⟨fun e => e95 hnot _ _ (fun hbf => ?_), fun e => ⟨kn_in ha (by decide), kn_in hc (by decide), ?_⟩⟩, fun e => absurd (by rw [h0]; exact (kn_le (by omega) (by omega)).mpr (by omega)) e⟩
      · rw [(hg1 hbf (fun q => e (by rw [q]; rfl))).1]; rfl
      · have h4 : s = 4 := kn_inj (m := 4) (by omega) (by decide) (Classical.not_not.mp e)
        rw [kn_tn (by omega), kn_tn (by omega)]
        refine ⟨fun e2 => ⟨kn_in hc (by decide), e95 hnot _ _ (fun hbf => ?_)⟩, fun e2 => ⟨kn_in ha (by decide), e95 hnot _ _ (fun hbf => ?_)⟩⟩
        · obtain ⟨x, y, rfl, _, _, g3, g4, g5, g6⟩ := hg4 hbf h4
          rw [g3, g4] at e2
          have := (kn_le (by omega) (by omega)).mp e2
          rw [g4, show (1 : Int32) = kn 1 from rfl, kn_add, fo_th_ar, Nat.max_eq_right (by omega)]
        · obtain ⟨x, y, rfl, _, _, g3, g4, g5, g6⟩ := hg4 hbf h4
          rw [g3, g4] at e2
          have : ¬ fo_th x ≤ fo_th y := fun q => e2 ((kn_le (by omega) (by omega)).mpr q)
          rw [g3, show (1 : Int32) = kn 1 from rfl, kn_add, fo_th_ar, Nat.max_eq_left (by omega)]
    | succ m ih =>
      intro j hj hnn
      have hjl : j < LT1.length := by omega
      have hu : LT1[j]? = some LT1[j] := List.getElem?_eq_getElem hjl
      have hin : vp_in (kn j) 50 := kn_in (by omega) (by decide)
      have next : (b = false → LT1[j]? ≠ some t) → G 3 [some (.inr 39), some (.inl (kn s)), some (.inl (kn a)), some (.inl (kn c)), some (.inl (kn j + 1))] [] S1 := by
        intro hne
        rw [kn_suc]
        refine ih (j + 1) (by omega) (fun hbf i hi => ?_)
        by_cases he : i = j
        · rw [he]; exact hne hbf
        · exact hnn hbf i (by omega)
      refine f_Mo_type_3 kspec_Mo hG ⟨fun e => absurd ((kn_le (by omega) (by omega)).mp (h0 ▸ e)) (by omega), fun _ => ?_⟩
      rw [kn_tn (show j < 2147483648 by omega)]
      refine ⟨hin, fun e => next fun hbf hk => e (rp_hit hL.1 hT hk (hq hbf).1).1, fun e1 => ⟨hin, fun e => next fun hbf hk => e (rp_hit hL.1 hT hk (hq hbf).1).2.1, fun e2 => ⟨hin, fun e => next fun hbf hk => e (rp_hit hL.1 hT hk (hq hbf).1).2.2, fun e3 => same j (by omega) (fun hbf => ?_)⟩⟩⟩
      have e := rp_found rr_bc hn hT hu (hL.2.2.2.1 _ (rp_mem hu)).1 (hq hbf).1 (Classical.not_not.mp e1) (Classical.not_not.mp e2) (Classical.not_not.mp e3)
      rw [hu, e]
  exact loop LT1.length 0 (by omega) (fun _ i hi => absurd hi (by omega))
