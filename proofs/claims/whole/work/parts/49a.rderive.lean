/-! ===== THE REFERENCE: rules 8 and 9, and a rule as a whole ===== -/
section RRU4
variable {d : Nat} {S : kS} {LT LM NT NM : List kF} {FS : List kQ} {S1 : kS} {o : Option kQ} {F : Int32 → kS → Prop}
theorem rp_loop {G : kG} {a hw : Nat} {q : kQ} {x c v1 v3 v4 : Int32} {st : kF → Nat → Option kF} {rt : kF → kF} {E : List kF → Nat → Prop} {u9 : Option kV} (hG : kCl kC (kK (d + 5)) (kq F) 129 G) (h : rz S LT LM NT NM (rd_g o FS.length) FS S1 LT LM false [] []) (hok : sp_ok NM FS) (hq : FS[a]? = some q) (hW : rw_W LT LM hw x c st rt) (hE : rm_E st rt (rm_inc hw) E) (he : E [] 0) (ho : o = some (fo_im st rt q.1 0, q.2.map (fun z => fo_im st rt z 0))) (k : ∀ r S', rd_P S LT LM NT NM FS o r S' → F r S') : G 178 [some (.inr 39), some (.inl v1), some (.inl (kn a)), some (.inl v3), some (.inl v4), some (.inl (kn hw)), some (.inl x), some (.inl c), some (.inl 0), u9] [] S1 := by
  have wq := hok.2 q (List.mem_of_getElem? hq)
  have loop : ∀ m j, j + m = q.2.length → ∀ (S2 : kS) (LT2 LM2 : List kF) (b2 : Bool) (D2 : List kF) (u : Option kV), rz S LT LM NT NM (rd_g o FS.length) FS S2 LT2 LM2 b2 D2 ((q.2.take j).map (fun z => fo_im st rt z 0)) → G 178 [some (.inr 39), some (.inl v1), some (.inl (kn a)), some (.inl v3), some (.inl v4), some (.inl (kn hw)), some (.inl x), some (.inl c), some (.inl (kn j)), u] [] S2 := by
    intro m
    induction m with
    | zero =>
      intro j hj S2 LT2 LM2 b2 D2 u h2
      obtain ⟨la, ⟨p, hp, ep⟩, h12, e55, e56⟩ := rr_fact h2.2.2.1 hq
      have htake : q.2.take j = q.2 := List.take_of_length_le (by omega)
      rw [htake] at h2
      refine f_Mo_replacing_178 kspec_Mo hG ?_
      rw [kn_tn (by omega), e55, ep]
      refine ⟨kn_in la (by decide), fun _ => ⟨kn_in la (by decide), ?_⟩, fun e => absurd ((kn_le (by omega) (by omega)).mpr (by omega)) e⟩
      refine rm_changed h2.1 (rw_W_gr hW h2.1.2.2.1 h2.1.2.2.2.1) hE hp wq.1 he (fun U V hc hg => (rd_gi ho hg).1) (fun r3 S3 LT3 LM3 b3 J3 p3 p3' f3 q3 i3 v3 => ?_)
      exact k _ _ ⟨LT3, LM3, b3, D2, _, rz_mk h2 J3 p3' f3 i3, Or.inr ⟨_, ho, v3⟩⟩
    | succ m ih =>
      intro j hj S2 LT2 LM2 b2 D2 u h2
      have hjl : j < q.2.length := by omega
      have hu : q.2[j]? = some q.2[j] := List.getElem?_eq_getElem hjl
      have hdrop : q.2.drop j = q.2[j] :: q.2.drop (j + 1) := List.drop_eq_getElem_cons hjl
      have htake : (q.2.take j).map (fun z => fo_im st rt z 0) ++ [fo_im st rt q.2[j] 0] = (q.2.take (j + 1)).map (fun z => fo_im st rt z 0) := by
        rw [List.take_add_one, hu, List.map_append]; rfl
      have hall : (q.2.take j).map (fun z => fo_im st rt z 0) ++ fo_im st rt q.2[j] 0 :: (q.2.drop (j + 1)).map (fun z => fo_im st rt z 0) = q.2.map (fun z => fo_im st rt z 0) := by
        have : q.2.map (fun z => fo_im st rt z 0) = (q.2.take j ++ q.2.drop j).map (fun z => fo_im st rt z 0) := by rw [List.take_append_drop]
        rw [this, hdrop, List.map_append]; rfl
      obtain ⟨la, _, h12, e55, e56⟩ := rr_fact h2.2.2.1 hq
      obtain ⟨y, hy, ey⟩ := e56 j _ hu
      refine f_Mo_replacing_178 kspec_Mo hG ?_
      rw [kn_tn (by omega), e55, kn_12, kn_tn (n := 12 * a + j) (by omega), ey, kn_suc j]
      refine ⟨kn_in la (by decide), fun e => absurd ((kn_le (by omega) (by omega)).mp e) (by omega), fun _ => ⟨kn_in (by omega) (by decide), ?_⟩⟩
      refine rm_changed h2.1 (rw_W_gr hW h2.1.2.2.1 h2.1.2.2.2.1) hE hy (wq.2.2 _ (rp_mem hu)) he (fun U V hc hg => (rd_gi ho hg).2.1 _ (List.mem_map.mpr ⟨_, rp_mem hu, rfl⟩)) (fun r3 S3 LT3 LM3 b3 J3 p3 p3' f3 q3 i3 v3 => ?_)
      refine rm_assume (rz_mk h2 J3 p3' f3 i3) v3 (fun U V hg => ⟨_, by rw [hall]; exact (rd_gi ho hg).2.2.1⟩) (fun S5 b5 D5 h5 i5 f5 => ?_)
      rw [htake] at h5
      exact ih (j + 1) (by omega) S5 LT3 LM3 b5 D5 _ h5
  exact loop q.2.length 0 (by omega) S1 LT LM false [] u9 h
theorem rp_8 {a m n : Nat} {p : kQ} {x y : kF} (h : rz S LT LM NT NM (rd_g o FS.length) FS S1 LT LM false [] []) (hok : sp_ok NM FS) (hp : FS[a]? = some p) (hm : NM[m]? = some x) (hn : NM[n]? = some y) (ho : o = sp_r8 (some p) (some x) (some y)) (k : ∀ r S', rd_P S LT LM NT NM FS o r S' → F r S') : kK (d + 6) m_Mo_replacing [.inr 39, .inl 8, .inl (kn a), .inl (kn m), .inl (kn n)] S1 (kq F) := by
  have hS := h.1.1
  have hl := hS.1.2.2.2.2.2.2.1
  have hlT := hS.1.2.2.2.2.2.1
  obtain ⟨lm, i, li, hi, ei⟩ := rr_nM hS hm
  obtain ⟨ln, j, lj, hj, ej⟩ := rr_nM hS hn
  have wx := hok.1 x (rp_mem hm)
  have wy := hok.1 y (rp_mem hn)
  have eo : o = sp_if ((∃ k A, x = fo_lf 0 k A) ∧ fo_ty y = fo_ty x) (some (sp_iR x y p.1, p.2.map (sp_iR x y))) := ho
  have fail : o = none → F (-1) S1 := fun e => k _ _ ⟨LT, LM, false, [], [], h, Or.inl ⟨rfl, e⟩⟩
  obtain ⟨_, ⟨t1, ht1, et1⟩, _⟩ := hS.2.2.2.2.1 i _ hi
  obtain ⟨_, ⟨t2, ht2, et2⟩, _⟩ := hS.2.2.2.2.1 j _ hj
  have l1 := rp_lt ht1
  have l2 := rp_lt ht2
  refine g_Mo_replacing (fun G hG => ⟨fun _ => ⟨fun e => absurd rfl e, fun _ => ?_⟩, fun e => absurd (by decide) e⟩)
  refine f_Mo_replacing_73 kspec_Mo hG ⟨fun e => absurd rfl e, fun _ => ⟨kn_in lm (by decide), ?_⟩⟩
  rw [kn_tn (by omega), ei]
  refine f_Mo_replacing_96 kspec_Mo hG ⟨fun e => absurd rfl e, fun _ => ⟨kn_in ln (by decide), ?_⟩⟩
  rw [kn_tn (by omega), ej]
  refine f_Mo_replacing_121 kspec_Mo hG ⟨fun e => absurd rfl e, fun _ => ?_⟩
  rw [kn_tn (by omega), kn_tn (by omega), et1, et2, (rr_so hS hi).1]
  have h6 := (rr_so hS hi).2.1
  refine ⟨kn_in li (by decide), fun e => fail ?_, fun e => ⟨kn_in li (by decide), kn_in lj (by decide), fun e2 => fail ?_, fun e2 => ?_⟩⟩
  · rw [eo, sp_if_neg]
    rintro ⟨⟨kk, A, rfl⟩, _⟩
    exact e rfl
  · rw [eo, sp_if_neg]
    rintro ⟨_, z⟩
    rw [z] at ht2
    exact e2 (by rw [fo_ix hS.1.1 ht1 ht2])
  · have e0 := kn_inj (m := 0) (by omega) (by decide) (Classical.not_not.mp e)
    obtain ⟨nn, A, e1, _⟩ := fo_so_l wx (by omega) (by omega)
    rw [e0] at e1
    have et := kn_inj (by omega) (by omega) (Classical.not_not.mp e2)
    rw [et, ht2] at ht1
    injection ht1 with ht1
    rw [sp_if_pos ⟨⟨nn, A, e1⟩, ht1⟩] at eo
    exact f_Mo_replacing_156 kspec_Mo hG ⟨fun _ => rp_loop (hw := 2) hG h hok hp (Or.inr (Or.inr (Or.inl ⟨Or.inl rfl, rfl, i, j, x, y, hi, hj, rfl, rfl, rfl, fun _ => ⟨nn, A, e1⟩⟩))) (rm_E_R wy ht1) trivial eo k, fun e => absurd (by decide) e⟩
theorem rr_tv {X : kF} (hS : rr_S S LT LM NT NM) {i : Nat} (hi : LT[i]? = some X) : (S 40 i = 2 ∧ ∃ j, X = fo_tb j ∧ 2 ≤ j ∧ j < 6 ∧ sp_tv X = some j) ∨ (¬ S 40 i = 2 ∧ sp_tv X = none) := by
  have hb : ∀ j, j < 9 → ((2 ≤ j ∧ j < 6) ↔ (rr_b j).1 = 2) := by decide
  obtain ⟨_, _, h3, h4⟩ := hS.2.2.2.1 i _ hi
  rcases fo_tw_cases (hS.1.2.2.2.1 _ (rp_mem hi)).1 with ⟨q, hq, rfl⟩ | ⟨a, b, rfl, _⟩
  · by_cases hv : 2 ≤ q ∧ q < 6
    · exact Or.inl ⟨by rw [(h3 q rfl).1, (hb q hq).mp hv]; rfl, q, rfl, hv.1, hv.2, sp_tv_some hv⟩
    · refine Or.inr ⟨fun e => hv ((hb q hq).mpr ?_), sp_if_neg hv⟩
      rw [(h3 q rfl).1] at e
      exact kn_inj (m := 2) (by have := (rr_bc.2 q hq).1; omega) (by decide) e
  · refine Or.inr ⟨fun e => ?_, rfl⟩
    rw [(h4 a b rfl).1] at e
    exact absurd e (by decide)
theorem rp_9 {a m n : Nat} {p : kQ} {X Y : kF} (h : rz S LT LM NT NM (rd_g o FS.length) FS S1 LT LM false [] []) (hok : sp_ok NM FS) (hp : FS[a]? = some p) (hm : NT[m]? = some X) (hn : NT[n]? = some Y) (ho : o = sp_r9 (some p) (some X) (some Y)) (k : ∀ r S', rd_P S LT LM NT NM FS o r S' → F r S') : kK (d + 6) m_Mo_replacing [.inr 39, .inl 9, .inl (kn a), .inl (kn m), .inl (kn n)] S1 (kq F) := by
  have hS := h.1.1
  obtain ⟨lm, i, li, hi, ei⟩ := rr_nT hS hm
  obtain ⟨ln, j, lj, hj, ej⟩ := rr_nT hS hn
  have wY : fo_tw Y := (hS.1.2.2.2.1 _ (rp_mem hj)).1
  have fail : o = none → F (-1) S1 := fun e => k _ _ ⟨LT, LM, false, [], [], h, Or.inl ⟨rfl, e⟩⟩
  refine g_Mo_replacing (fun G hG => ⟨fun _ => ⟨fun _ => ?_, fun e => absurd (by decide) e⟩, fun e => absurd (by decide) e⟩)
  refine f_Mo_replacing_73 kspec_Mo hG ⟨fun _ => ⟨kn_in lm (by decide), ?_⟩, fun e => absurd (by decide) e⟩
  rw [kn_tn (by omega), ei]
  refine f_Mo_replacing_96 kspec_Mo hG ⟨fun _ => ⟨kn_in ln (by decide), ?_⟩, fun e => absurd (by decide) e⟩
  rw [kn_tn (by omega), ej]
  refine f_Mo_replacing_121 kspec_Mo hG ⟨fun _ => ?_, fun e => absurd (by decide) e⟩
  refine f_Mo_replacing_156 kspec_Mo hG ⟨fun e => absurd rfl e, fun _ => ?_⟩
  rw [kn_tn (by omega)]
  rcases rr_tv hS hi with ⟨e2, v, eX, v1, v2, tv⟩ | ⟨e2, tv⟩
  · refine ⟨kn_in li (by decide), fun _ => ?_, fun e => absurd e2 e⟩
    have eo : o = some (sp_iT v Y p.1, p.2.map (sp_iT v Y)) := by
      rw [ho]
      show (sp_tv X).bind _ = _
      rw [tv]; rfl
    rw [eX] at hi
    exact rp_loop (hw := 3) hG h hok hp (Or.inr (Or.inr (Or.inr ⟨rfl, i, j, v, Y, hi, ⟨v1, v2⟩, hj, rfl, rfl, rfl, rfl⟩))) (rm_E_T ⟨v1, v2⟩ wY) trivial eo k
  · refine ⟨kn_in li (by decide), fun e => absurd e e2, fun _ => fail ?_⟩
    rw [ho]
    show (sp_tv X).bind _ = _
    rw [tv]; rfl
/-- what a rule leaves -/
def rd_Q (S : kS) (LT LM NT NM : List kF) (FS : List kQ) (o : Option kQ) (r : Int32) (S2 : kS) : Prop := ∃ LT2 LM2, rr_S S2 LT2 LM2 NT NM ∧ LT <+: LT2 ∧ LM <+: LM2 ∧ rr_FR S S2 ∧
  ((∃ c raw hs, o = some (c, raw) ∧ sp_ds [] false raw = (hs, false) ∧ FS.length < 60 ∧ r = kn FS.length ∧ rr_A S2 LM2 (FS ++ [(c, hs)]) ∧ c ∈ LM2 ∧ (∀ z, z ∈ raw → z ∈ LM2) ∧ fo_mn LT LM LT2 LM2 (sp_g c raw) ∧ S2 39 33 = 0) ∨ (r = -1 ∧ rr_A S2 LM2 FS ∧ fo_no LT LM (rd_g o FS.length) ∧ S2 39 33 = 1))
theorem sp_ds_mo : ∀ (l D : List kF) (b : Bool) (z : kF), z ∈ D → z ∈ (sp_ds D b l).1
  | [], D, b, z, h => h
  | a :: l, D, b, z, h => by
    by_cases e : a ∈ D
    · rw [sp_ds_in e]; exact sp_ds_mo l D b z h
    · by_cases n : D.length < 12
      · rw [sp_ds_new e n]; exact sp_ds_mo l _ b z (List.mem_append_left _ h)
      · rw [sp_ds_full e n]; exact sp_ds_mo l D true z h
theorem sp_ds_al : ∀ (l D : List kF) (b : Bool), (sp_ds D b l).2 = false → ∀ z, z ∈ l → z ∈ (sp_ds D b l).1
  | [], D, b, _, z, h => by cases h
  | a :: l, D, b, h0, z, h => by
    by_cases e : a ∈ D
    · rw [sp_ds_in e] at h0 ⊢
      rcases List.mem_cons.mp h with h | h
      · rw [h]; exact sp_ds_mo l D b a e
      · exact sp_ds_al l D b h0 z h
    · by_cases n : D.length < 12
      · rw [sp_ds_new e n] at h0 ⊢
        rcases List.mem_cons.mp h with h | h
        · rw [h]; exact sp_ds_mo l _ b a (List.mem_append_right _ (List.mem_singleton.mpr rfl))
        · exact sp_ds_al l _ b h0 z h
      · rw [sp_ds_full e n, sp_ds_bad] at h0
        cases h0
theorem rd_bad {LT2 LM2 : List kF} {b2 : Bool} {D2 don2 : List kF} {S2 : kS} (h : rz S LT LM NT NM (rd_g o FS.length) FS S2 LT2 LM2 b2 D2 don2) (e : o = none) : rd_Q S LT LM NT NM FS o (-1) (ku S2 39 33 1) := by
  have J := rr_J_bad h.1 (rd_gn e)
  refine ⟨LT2, LM2, J.1, J.2.2.1, J.2.2.2.1, rr_FR_tr h.2.1 (fun o i ho => ku_ne (fun e => ho (by unfold rr_cr rr_cm; omega))), Or.inr ⟨rfl, ?_, rd_gn e, ku_self⟩⟩
  have hA := h.2.2.1
  exact ⟨(ku_ne (by omega)).trans hA.1, hA.2.1, rp_F_grow hA.2.2 (List.prefix_refl _) (funext fun _ => ku_ne (by omega)) (funext fun _ => ku_ne (by omega)) (funext fun _ => ku_ne (by omega))⟩
theorem rd_fin {r : Int32} {S2 : kS} (hP : rd_P S LT LM NT NM FS o r S2) (k : ∀ r' S', rd_Q S LT LM NT NM FS o r' S' → F r' S') :
    (0 ≤ r → ((S2 39 33) = 0 → kK (d + 1) m_Mo_fact [.inr 39, .inl r] S2 (kq fun r4 S3 => F r4 S3)) ∧ (¬ ((S2 39 33) = 0) → F ((-1)) S2)) ∧ (¬ (0 ≤ r) → F ((-1)) (ku S2 39 33 1)) := by
  obtain ⟨LT2, LM2, b2, D2, don2, h, ⟨rfl, e⟩ | ⟨c, e, v⟩⟩ := hP
  · exact ⟨fun z => absurd z (by decide), fun _ => k _ _ (rd_bad h e)⟩
  · obtain ⟨i, li, ri⟩ := v.1
    refine ⟨fun _ => ⟨fun e33 => ?_, fun e33 => ?_⟩, fun z => absurd (by rw [ri]; exact kn_ge (by omega)) z⟩
    · have hb : b2 = false := kb_zero.mp (h.1.2.1.symm.trans e33)
      have hd := (h.2.2.2.2 hb).2.2 []
      rw [List.append_nil] at hd
      have hd : sp_ds [] false don2 = (D2, false) := hd
      obtain ⟨j, hj, _⟩ := v.2 hb
      refine rm_fact h v (fun U V hg => (rd_gi e hg).2.2.2) (fun _ h60 S3 J3 f3 A3 D3 => k _ _ ⟨LT2, LM2, J3.1, J3.2.2.1, J3.2.2.2.1, f3, Or.inl ⟨c, don2, D2, e, hd, h60, rfl, A3, rp_mem hj, fun z hz => ?_, ?_, J3.2.1⟩⟩) (fun S3 n3 J3 f3 A3 => k _ _ ⟨LT2, LM2, J3.1, J3.2.2.1, J3.2.2.2.1, f3, Or.inr ⟨rfl, A3, n3, J3.2.1⟩⟩)
      · have := sp_ds_al don2 [] false (by rw [hd]) z hz
        rw [hd] at this
        obtain ⟨y, hy⟩ := rp_at this
        obtain ⟨p, hp, _⟩ := D3.2.2.2 y z hy
        exact rp_mem hp
      · exact fo_mn_1 (h.1.2.2.2.2.2.1 hb) (fun U V hc hg => ⟨_, e, hg, by rw [hd], h60⟩)
    · have hb : b2 = true := kb_nz.mp (by rw [← h.1.2.1]; exact e33)
      subst hb
      exact k _ _ ⟨LT2, LM2, h.1.1, h.1.2.2.1, h.1.2.2.2.1, h.2.1, Or.inr ⟨rfl, h.2.2.1, h.1.2.2.2.2.2.2 rfl, h.1.2.1⟩⟩
end RRU4
