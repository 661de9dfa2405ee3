/-! ===== THE REFERENCE: a term with a change ===== -/
def rw_W (LT LM : List kF) (hw : Nat) (x c : Int32) (st : kF → Nat → Option kF) (rt : kF → kF) : Prop :=
  (hw = 0 ∧ rt = id ∧ ∃ i xt, LM[i]? = some xt ∧ x = kn i ∧ st = fo_sA xt ∧ ∃ n A, xt = fo_lf 0 n A) ∨
  (hw = 1 ∧ rt = id ∧ ∃ j p, LM[j]? = some p ∧ c = kn j ∧ st = fo_sO p) ∨
  ((hw = 2 ∨ hw = 4) ∧ rt = id ∧ ∃ i j o p, LM[i]? = some o ∧ LM[j]? = some p ∧ x = kn i ∧ c = kn j ∧ st = fo_sR o p ∧ (hw = 2 → ∃ n A, o = fo_lf 0 n A)) ∨
  (hw = 3 ∧ ∃ i j v C, LT[i]? = some (fo_tb v) ∧ (2 ≤ v ∧ v < 6) ∧ LT[j]? = some C ∧ x = kn i ∧ c = kn j ∧ st = fo_sN ∧ rt = fo_rt v C)
theorem rw_W_gr {LT LM LT' LM' : List kF} {hw : Nat} {x c : Int32} {st : kF → Nat → Option kF} {rt : kF → kF} (h : rw_W LT LM hw x c st rt) (p1 : LT <+: LT') (p2 : LM <+: LM') : rw_W LT' LM' hw x c st rt := by
  rcases h with ⟨h1, h2, i, xt, h3, h4⟩ | ⟨h1, h2, j, p, h3, h4⟩ | ⟨h1, h2, i, j, o, p, h3, h4, h5⟩ | ⟨h1, i, j, v, C, h3, h4, h5, h6⟩
  · exact Or.inl ⟨h1, h2, i, xt, rp_pre p2 h3, h4⟩
  · exact Or.inr (Or.inl ⟨h1, h2, j, p, rp_pre p2 h3, h4⟩)
  · exact Or.inr (Or.inr (Or.inl ⟨h1, h2, i, j, o, p, rp_pre p2 h3, rp_pre p2 h4, h5⟩))
  · exact Or.inr (Or.inr (Or.inr ⟨h1, i, j, v, C, rp_pre p1 h3, h4, rp_pre p1 h5, h6⟩))
def rm_E (st : kF → Nat → Option kF) (rt : kF → kF) (inc : Nat) (E : List kF → Nat → Prop) : Prop := (∀ Γ u A, E Γ u → E (A :: Γ) (u + inc)) ∧ (∀ Γ t u, fo_wf Γ t → E Γ u → ∃ Γ', fo_wf Γ' (fo_im st rt t u)) ∧ (inc = 0 → ∀ t d e, st t d = st t e)
theorem rm_im_ab {st : kF → Nat → Option kF} {rt : kF → kF} {inc : Nat} {E : List kF → Nat → Prop} (hE : rm_E st rt inc E) (hi : inc ≤ 1) {Γ : List kF} {A y : kF} (hw : fo_wf Γ (fo_ab A y)) (e : Nat) (hs : st (fo_ab A y) e = none) : fo_im st rt (fo_ab A y) e = fo_ab (rt A) (fo_im st rt y (e + inc)) := by
  rw [fo_im_ab, hs]
  show fo_ab (rt A) (fo_im st rt y (e + 1)) = _
  by_cases h : inc = 0
  · rw [h, fo_im_d (hE.2.2 h) (fo_wf_iab hw).2 (e + 1) (e + 0)]
  · have : inc = 1 := by omega
    rw [this]
theorem rw_W_ns {LT LM : List kF} {hw : Nat} {x c : Int32} {st : kF → Nat → Option kF} {rt : kF → kF} (h : rw_W LT LM hw x c st rt) (hl : LM.length ≤ 250) {u e : Nat} {t : kF} (hu : LM[u]? = some t) (hs : st t e = none) : ¬ rm_st hw x u := by
  rintro ⟨z1, z2⟩
  have lu := rp_lt hu
  rcases h with ⟨h1, _⟩ | ⟨h1, _⟩ | ⟨h1, h2, i, j, o, p, h3, h4, h5, h6, h7, _⟩ | ⟨h1, _⟩
  · omega
  · omega
  · have li := rp_lt h3
    have := kn_inj (by omega) (by omega) (z2.trans h5)
    subst this
    rw [hu] at h3
    injection h3 with h3
    subst h3
    subst h7
    rcases fo_sR_eq (old := t) (put := p) (t := t) (d := e) with ⟨q, _⟩ | ⟨_, q⟩
    · rw [q] at hs; cases hs
    · exact q rfl
  · omega
theorem rw_W_st {LT LM : List kF} {hw : Nat} {x c : Int32} {st : kF → Nat → Option kF} {rt : kF → kF} (h : rw_W LT LM hw x c st rt) {u e : Nat} {t : kF} (hn : LM.Nodup) (hu : LM[u]? = some t) (hns : ¬ rm_st hw x u) (ht : (∃ f y, t = fo_ap f y) ∨ (∃ A y, t = fo_ab A y)) : st t e = none := by
  have nl : ∀ s n A, t ≠ fo_lf s n A := by
    rintro s n A rfl
    rcases ht with ⟨f, y, z⟩ | ⟨A', y, z⟩
    · exact fo_ap_lf z.symm
    · exact fo_ab_lf z.symm
  rcases h with ⟨h1, h2, i, xt, h3, h4, rfl, n, A, h5⟩ | ⟨h1, h2, j, p, h3, h4, rfl⟩ | ⟨h1, h2, i, j, o, p, h3, h4, h5, h6, rfl, h8⟩ | ⟨h1, i, j, v, C, _, _, _, _, _, rfl, _⟩
  · rcases fo_sA_eq (x := xt) (t := t) (d := e) with ⟨_, q⟩ | ⟨q, _⟩
    · exact absurd (q.trans h5) (nl _ _ _)
    · exact q
  · rcases fo_sO_eq (put := p) (t := t) (d := e) with ⟨_, A, q⟩ | ⟨q, _⟩
    · exact absurd q (nl _ _ _)
    · exact q
  · rcases fo_sR_eq (old := o) (put := p) (t := t) (d := e) with ⟨_, q⟩ | ⟨q, _⟩
    · rcases h1 with h1 | h1
      · obtain ⟨n, A, z⟩ := h8 h1
        exact absurd (q.trans z) (nl _ _ _)
      · subst q
        exact absurd ⟨h1, by rw [fo_ix hn hu h3, h5]⟩ hns
    · exact q
  · rfl
section RCH
variable {d : Nat} {S : kS} {LT LM NT NM : List kF} {g : kU} {F : Int32 → kS → Prop}
set_option maxHeartbeats 2000000 in
theorem rm_become {S2 : kS} {LT2 LM2 LM0 : List kF} {b2 : Bool} {hw u e : Nat} {x c : Int32} {st : kF → Nat → Option kF} {rt : kF → kF} {E : List kF → Nat → Prop} {t : kF} (h : rr_J S LT LM NT NM g S2 LT2 LM2 b2) (hW : rw_W LT2 LM2 hw x c st rt) (hE : rm_E st rt (rm_inc hw) E) (p0 : LM0 <+: LM2) (hu : LM0[u]? = some t) (he : e ≤ 20) (hR : ∃ Γ, fo_wf Γ t ∧ E Γ e) (hdep : e + fo_ht t ≤ 20)
    (need : ∀ U V, fo_Cl U V → g U V → V (fo_im st rt t e))
    (h1 : ∀ f y, t = fo_ap f y → st t e = none → ∀ a q, LM0[a]? = some f → LM0[q]? = some y → rr_v LM2 250 b2 (fo_im st rt f e) (S2 62 (21 * a + e)) ∧ rr_v LM2 250 b2 (fo_im st rt y e) (S2 62 (21 * q + e)))
    (h2 : ∀ A y, t = fo_ab A y → st t e = none → ∀ q, LM0[q]? = some y → rr_v LM2 250 b2 (fo_im st rt y (e + rm_inc hw)) (S2 62 (21 * q + (e + rm_inc hw))))
    (k : ∀ r S3 LT3 LM3 b3, rr_J S LT LM NT NM g S3 LT3 LM3 b3 → LT2 <+: LT3 → LM2 <+: LM3 → rr_FC S2 S3 → (∀ o j, 53 ≤ o → o ≠ 63 → o ≠ 64 → S3 o j = S2 o j) → (b3 = false → b2 = false) → rr_v LM3 250 b3 (fo_im st rt t e) r → F r S3) :
    kK (d + 3) m_Mo_become [.inr 39, .inl (kn u), .inl (kn e), .inl (kn hw), .inl x, .inl c] S2 (kq F) := by
  have hLu := rp_pre p0 hu
  have hl : LM2.length ≤ 250 := h.1.1.2.2.2.2.2.2.1
  have hlT : LT2.length ≤ 50 := h.1.1.2.2.2.2.2.1
  have lu := rp_lt hLu
  have hin : vp_in (kn u) 250 := kn_in (by omega) (by decide)
  obtain ⟨Γ, wt, eΓ⟩ := hR
  have hwi := hE.2.1 Γ t e wt eΓ
  obtain ⟨_, ⟨yt, hyt, eyt⟩, r3, r3e, r4, r5⟩ := h.1.2.2.2.2.1 u t hLu
  have lyt := rp_lt hyt
  have hwle : hw ≤ 4 := by rcases hW with z | z | z | z <;> omega
  have hincle : rm_inc hw ≤ 1 := by unfold rm_inc; split <;> omega
  have hput : ∀ j p, LM2[j]? = some p → fo_im st rt t e = p → F (kn j) S2 := fun j p hj ep => k _ S2 LT2 LM2 b2 h (List.prefix_refl _) (List.prefix_refl _) rr_FC_rf (fun _ _ _ _ _ => rfl) id (by rw [ep]; exact rr_v_of hj hl)
  -- parts stand in LM0 too
  have down : ∀ (q : Nat) (z : kF), q < u → LM2[q]? = some z → LM0[q]? = some z := fun q z hq hz => by
    have lu0 := rp_lt hu
    obtain ⟨r, rfl⟩ := p0
    rw [List.getElem?_append_left (by omega)] at hz; exact hz
  refine g_Mo_become (fun G hG => ?_)
  -- from 71 on: nothing is put in
  have e71 : st t e = none → G 71 [some (.inr 39), some (.inl (kn u)), some (.inl (kn e)), some (.inl (kn hw)), some (.inl x), some (.inl c), none, none] [] S2 := by
    intro hs
    refine f_Mo_become_71 kspec_Mo hG ⟨hin, ?_⟩
    rw [kn_tn (by omega)]
    rcases fo_wf_cases wt with ⟨s, n, A, et, ho⟩ | ⟨f, y, B, et, _⟩ | ⟨A, y, et, _⟩
    · -- a leaf
      have hso := fo_lo_s ho
      have eim : fo_im st rt t e = fo_lf s n (rt A) := by
        rw [et] at hs ⊢
        rw [fo_im_lf, hs]; rfl
      have e47 : S2 47 u = kn s := by
        rcases ho.2 with z | ⟨z, _, a, ea⟩ | z | z
        · exact (r3 s n A et (by omega)).1
        · rw [ea, z] at et
          rw [z]
          exact (r3e n _ _ et).1
        · exact (r3 s n A et (by omega)).1
        · exact (r3 s n A et (by omega)).1
      rw [e47]
      have s34 : ∀ {P : Prop} (m : Nat), m = 3 ∨ m = 4 → kn s = kn m → P := fun m hm z => by
        have := kn_inj (by omega) (by omega) z
        omega
      refine ⟨fun _ => ⟨hin, fun _ => ⟨fun e3 => hput u t hLu ?_, fun e3 => ⟨hin, fun e4 => ⟨hin, fun e5 => ⟨hin, ?_⟩, fun e5 => ⟨hin, ?_⟩⟩, fun e4 => hput u t hLu ?_⟩⟩, fun z => s34 4 (Or.inr rfl) (Classical.not_not.mp z)⟩, fun z => s34 3 (Or.inl rfl) (Classical.not_not.mp z)⟩
      · have hrt : rt = id := by
          rcases hW with z | z | z | z
          · exact z.2.1
          · exact z.2.1
          · exact z.2.1
          · exact absurd (by rw [z.1]; rfl) e3
        rw [eim, hrt, et]; rfl
      · -- retyped, a variable or a bound one
        have hw3 := kn_inj (m := 3) (by omega) (by decide) (Classical.not_not.mp e3)
        have hs1 : s ≠ 1 := fun z => e5 (by rw [z]; rfl)
        rcases hW with z | z | z | ⟨_, i, j, v, C, hxi, hv, hcj, rfl, rfl, rfl, rfl⟩
        · omega
        · omega
        · omega
        rw [eim] at need k hwi
        have hyA : LT2[yt]? = some A := by rw [et, fo_ty_lf] at hyt; exact hyt
        obtain ⟨q1, q2, q3⟩ := r3 s n A et hs1
        have n250 := (h.1.1.2.2.2.2.1 t (rp_mem hLu)).2.2 s n A et
        rw [eyt]
        refine f_Mo_become_239 kspec_Mo hG (rm_retyped h hyA hxi hv hcj (fun U V hc hg => by have := hc.2.1 _ (need U V hc hg); exact this) (fun r S3 LT3 b3 J3 p3 f3 o3 i3 v3 => ⟨hin, ?_⟩))
        have n47 : S3 47 u = kn s := (o3 _ _ (by decide) (by decide) (by decide)).trans q1
        have n48 : S3 48 u = kn n := (o3 _ _ (by decide) (by decide) (by decide)).trans q2
        rw [kn_tn (by omega), n47, n48]
        refine ⟨fun _ => ⟨hin, hin, ?_⟩, fun z => absurd (kn_inj (m := 1) (by omega) (by decide) (Classical.not_not.mp z)) hs1⟩
        refine rm_term (t := fo_lf s n (fo_rt v C A)) (s := s) (a := n) (c := 0) J3 (by omega) n250 (by decide) (fun hb => ?_) need (fun r4 S4 LM4 b4 J4 p4 f4 o4 i4 v4 => k r4 S4 LT3 LM4 b4 J4 p3 p4 (rr_FC_tr f3 f4) (fun o j a1 a2 a3 => (o4 o j a1).trans (o3 o j (by omega) a2 a3)) (fun z => i3 (i4 z)) v4)
        obtain ⟨w, hw1, hw2⟩ := v3.2 hb
        refine ⟨w, hw2, ⟨hw1, Or.inl ⟨_, rfl, rfl, ?_, n250⟩⟩, hwi⟩
        have hs2 : s ≠ 2 := fun z => e4 (by rw [z]; rfl)
        omega
      · -- retyped, an equality
        have hw3 := kn_inj (m := 3) (by omega) (by decide) (Classical.not_not.mp e3)
        have hs1 : s = 1 := kn_inj (m := 1) (by omega) (by decide) (Classical.not_not.mp e5)
        rcases hW with z | z | z | ⟨_, i, j, v, C, hxi, hv, hcj, rfl, rfl, rfl, rfl⟩
        · omega
        · omega
        · omega
        rw [eim] at need k hwi
        rcases ho.2 with z | ⟨_, hn0, a, ea⟩ | z | z
        · omega
        · subst hn0; subst hs1; subst ea
          obtain ⟨q1, ⟨ia, hia, eia⟩, _⟩ := r3e 0 _ _ et
          have ert : fo_rt v C (fo_ar a (fo_ar a (fo_tb 0))) = fo_ar (fo_rt v C a) (fo_ar (fo_rt v C a) (fo_tb 0)) := by
            rw [fo_rt_ar, fo_rt_ar, fo_rt_tb, if_neg (by omega)]
          rw [ert] at need k
          rw [eia]
          refine f_Mo_become_239 kspec_Mo hG (rm_retyped h hia hxi hv hcj (fun U V hc hg => ?_) (fun r S3 LT3 b3 J3 p3 f3 o3 i3 v3 => ⟨hin, ?_⟩))
          · exact (hc.1 _ _ (fo_eq_sub hc (need U V hc hg)).1).1
          · have n47 : S3 47 u = kn 1 := (o3 _ _ (by decide) (by decide) (by decide)).trans q1
            rw [kn_tn (by omega), n47]
            refine ⟨fun z => absurd rfl z, fun _ => rm_same J3 v3 need (fun r4 S4 LT4 LM4 b4 J4 p4 p4' f4 o4 i4 v4 => k r4 S4 LT4 LM4 b4 J4 (p3.trans p4) p4' (rr_FC_tr f3 f4) (fun o j a1 a2 a3 => (o4 o j a1).trans (o3 o j (by omega) a2 a3)) (fun z => i3 (i4 z)) v4)⟩
        · omega
        · omega
      · -- retyped, a constant
        have hs2 : s = 2 := kn_inj (m := 2) (by omega) (by decide) (Classical.not_not.mp e4)
        have hw3 := kn_inj (m := 3) (by omega) (by decide) (Classical.not_not.mp e3)
        rcases hW with z | z | z | ⟨_, i, j, v, C, hxi, hv, hcj, _, _, _, hrt⟩
        · omega
        · omega
        · omega
        have hg : fo_gt A = false := by
          rcases ho.2 with z | z | z | z
          · omega
          · omega
          · exact z.2.2
          · omega
        rw [eim, hrt, fo_rt_id hv ho.1 hg, et]
    · -- an application
      obtain ⟨e47, a, q, la, lq, ha, hq, e48, e49⟩ := r4 f y et
      have eim : fo_im st rt t e = fo_ap (fo_im st rt f e) (fo_im st rt y e) := by
        rw [et] at hs ⊢
        rw [fo_im_ap, hs]; rfl
      obtain ⟨v1, v2⟩ := h1 f y et hs a q (down a f la ha) (down q y lq hq)
      rw [eim] at need k hwi
      rw [e47, e48, e49, kn_21, kn_21, kn_tn (by omega), kn_tn (by omega)]
      refine ⟨fun z => absurd rfl z, fun _ => ⟨hin, kn_in (by omega) (by decide), hin, kn_in (by omega) (by decide), rm_app h v1 v2 (fun _ => hwi) need (fun r3 S3 LM3 b3 J3 p3 f3 o3 i3 v3 => k r3 S3 LT2 LM3 b3 J3 (List.prefix_refl _) p3 f3 (fun o j a1 _ _ => o3 o j a1) i3 v3)⟩⟩
    · -- an abstraction
      obtain ⟨e47, a, q, ha, lq, hq, e48, e49⟩ := r5 A y et
      have eim : fo_im st rt t e = fo_ab (rt A) (fo_im st rt y (e + rm_inc hw)) := by
        rw [et] at hs wt ⊢
        exact rm_im_ab hE hincle wt e hs
      have v2 := h2 A y et hs q (down q y lq hq)
      have la := rp_lt ha
      rw [eim] at need k hwi
      have hdep2 : e + rm_inc hw ≤ 20 := by
        rw [et, fo_ht_ab] at hdep
        have := fo_ht_pos y
        omega
      have e153 : ∀ w0 : Int32, w0 = kn (e + rm_inc hw) → G 153 [some (.inr 39), some (.inl (kn u)), some (.inl (kn e)), some (.inl (kn hw)), some (.inl x), some (.inl c), none, none] [.inl w0, .inl (21 * kn q), .inr 62] S2 := by
        intro w0 ew
        subst ew
        refine f_Mo_become_153 kspec_Mo hG ?_
        rw [kn_21, kn_tn (by omega), kn_tn (by omega), e48]
        refine ⟨kn_in (by omega) (by decide), fun z => ⟨hin, ?_⟩, fun z => ⟨hin, ?_⟩⟩
        · have hrt : rt = id := by
            rcases hW with w | w | w | w
            · exact w.2.1
            · exact w.2.1
            · exact w.2.1
            · exact absurd (by rw [w.1]; rfl) z
          subst hrt
          exact rm_abs h (rr_v_of ha hlT) v2 (fun _ => hwi) need (fun r3 S3 LT3 LM3 b3 J3 p3 p3' f3 o3 i3 v3 => k r3 S3 LT3 LM3 b3 J3 p3 p3' f3 (fun o j a1 _ _ => o3 o j a1) i3 v3)
        · have hw3 := kn_inj (m := 3) (by omega) (by decide) (Classical.not_not.mp z)
          rcases hW with w | w | w | ⟨_, i, j, v, C, hxi, hv, hcj, rfl, rfl, rfl, rfl⟩
          · omega
          · omega
          · omega
          refine rm_retyped h ha hxi hv hcj (fun U V hc hg => (hc.1 _ _ (hc.2.1 _ (need U V hc hg))).1) (fun r S3 LT3 b3 J3 p3 f3 o3 i3 v3 => ?_)
          exact rm_abs J3 v3 (rr_v_gr v2 (List.prefix_refl _) i3) (fun _ => hwi) need (fun r4 S4 LT4 LM4 b4 J4 p4 p4' f4 o4 i4 v4 => k r4 S4 LT4 LM4 b4 J4 (p3.trans p4) p4' (rr_FC_tr f3 f4) (fun o j a1 a2 a3 => (o4 o j a1).trans (o3 o j (by omega) a2 a3)) (fun z => i3 (i4 z)) v4)
      rw [e47, e49]
      refine ⟨fun _ => ⟨hin, fun z => absurd rfl z, fun _ => ⟨hin, fun z => e153 _ ?_, fun z => e153 _ ?_⟩⟩, fun z => absurd (Classical.not_not.mp z) (by decide)⟩
      · have : ¬ hw ≤ 1 := by have := (kn_lt (n := 1) (m := hw) (by decide) (by omega)).mp z; omega
        have hi0 : rm_inc hw = 0 := if_neg this
        rw [hi0]; rfl
      · have : hw ≤ 1 := by
          have : ¬ 1 < hw := fun w => z ((kn_lt (n := 1) (m := hw) (by decide) (by omega)).mpr w)
          omega
        have hi1 : rm_inc hw = 1 := if_pos this
        rw [hi1, kn_suc]
  have kk : ∀ m, m ≤ 4 → kn hw = kn m → hw = m := fun m hm z => kn_inj (by omega) (by omega) z
  -- 52: what is put in place of a term
  have e52 : (hw = 0 ∨ hw = 1 ∨ hw = 3 → st t e = none) → G 52 [some (.inr 39), some (.inl (kn u)), some (.inl (kn e)), some (.inl (kn hw)), some (.inl x), some (.inl c), none, none] [] S2 := by
    intro hns
    have both : hw = 2 ∨ hw = 4 → (¬ kn u = x → G 71 [some (.inr 39), some (.inl (kn u)), some (.inl (kn e)), some (.inl (kn hw)), some (.inl x), some (.inl c), none, none] [] S2) ∧ (¬ (¬ kn u = x) → F c S2) := by
      intro h24
      rcases hW with z | z | ⟨_, _, i, j, o, p, hi, hj, rfl, rfl, rfl, _⟩ | z
      · omega
      · omega
      · refine ⟨fun z => e71 ?_, fun z => hput j p hj ?_⟩
        · rcases fo_sR_eq (old := o) (put := p) (t := t) (d := e) with ⟨_, q⟩ | ⟨q, _⟩
          · subst q
            exact absurd (by rw [fo_ix h.1.1.2.1 hLu hi]) z
          · exact q
        · have li := rp_lt hi
          have := kn_inj (by omega) (by omega) (Classical.not_not.mp z)
          subst this
          rw [hLu] at hi
          injection hi with hi
          rcases fo_sR_eq (old := o) (put := p) (t := t) (d := e) with ⟨q, _⟩ | ⟨_, q⟩
          · exact fo_im_st wt q
          · exact absurd hi q
      · omega
    refine f_Mo_become_52 kspec_Mo hG ⟨fun z => both (Or.inl (kk 2 (by decide) z)), fun z => ⟨fun z2 => e71 (hns ?_), fun z2 => both (Or.inr (kk 4 (by decide) (Classical.not_not.mp z2)))⟩⟩
    have a2 : hw ≠ 2 := fun w => z (by rw [w]; rfl)
    have a4 : hw ≠ 4 := fun w => z2 (by rw [w]; rfl)
    omega
  have e24 : (hw = 0 → st t e = none) → G 24 [some (.inr 39), some (.inl (kn u)), some (.inl (kn e)), some (.inl (kn hw)), some (.inl x), some (.inl c), none, none] [] S2 := by
    intro hn0
    refine f_Mo_become_24 kspec_Mo hG ⟨fun z => e52 (fun w => ?_), fun z => ?_⟩
    · rcases w with w | w | w
      · exact hn0 w
      · exact absurd (by rw [w]; rfl) z
      · rcases hW with v | v | v | ⟨_, i, j, v, C, _, _, _, _, _, rfl, _⟩
        · omega
        · omega
        · omega
        · rfl
    · have hw1 := kk 1 (by decide) (Classical.not_not.mp z)
      rcases hW with v | ⟨_, _, j, p, hj, rfl, rfl⟩ | v | v
      · omega
      · rw [kn_tn (by omega)]
        have none5 : (¬ ∃ A, t = fo_lf 5 e A) → fo_sO p t e = none := by
          intro hq
          rcases fo_sO_eq (put := p) (t := t) (d := e) with ⟨_, q⟩ | ⟨q, _⟩
          · exact absurd q hq
          · exact q
        refine ⟨hin, fun z5 => e52 (fun _ => none5 (fun ⟨A, q⟩ => z5 (r3 5 e A q (by decide)).1)), fun z5 => ⟨hin, fun z6 => e52 (fun _ => none5 (fun ⟨A, q⟩ => z6 (r3 5 e A q (by decide)).2.1)), fun z6 => hput j p hj ?_⟩⟩
        rcases fo_wf_cases wt with ⟨s, n, A, et, ho⟩ | ⟨f, y, B, et, _⟩ | ⟨A, y, et, _⟩
        · have hso := fo_lo_s ho
          have hs5 : s = 5 := by
            rcases hso with z | z | z | z
            · rw [(r3 s n A et (by omega)).1, z] at z5; exact absurd (Classical.not_not.mp z5) (by decide)
            · rcases ho.2 with w | ⟨_, _, a, ea⟩ | w | w
              · omega
              · rw [ea, z] at et
                rw [(r3e n _ _ et).1] at z5
                exact absurd (Classical.not_not.mp z5) (by decide)
              · omega
              · omega
            · rw [(r3 s n A et (by omega)).1, z] at z5; exact absurd (Classical.not_not.mp z5) (by decide)
            · exact z
          subst hs5
          have n250 := (h.1.1.2.2.2.2.1 t (rp_mem hLu)).2.2 5 n A et
          rw [(r3 5 n A et (by decide)).2.1] at z6
          have := kn_inj (by omega) (by omega) (Classical.not_not.mp z6)
          subst this
          rcases fo_sO_eq (put := p) (t := t) (d := n) with ⟨q, _⟩ | ⟨_, q⟩
          · exact fo_im_st wt q
          · exact absurd ⟨A, et⟩ q
        · rw [(r4 f y et).1] at z5; exact absurd (Classical.not_not.mp z5) (by decide)
        · rw [(r5 A y et).1] at z5; exact absurd (Classical.not_not.mp z5) (by decide)
      · omega
      · omega
  refine ⟨fun z => e24 (fun w => absurd (by rw [w]; rfl) z), fun z => ?_⟩
  have hw0 := kk 0 (by decide) (Classical.not_not.mp z)
  rcases hW with ⟨_, _, i, xt, hxi, rfl, rfl, n, A, hxt⟩ | v | v | v
  · refine ⟨fun z2 => e24 (fun _ => ?_), fun z2 => ⟨hin, ?_⟩⟩
    · rcases fo_sA_eq (x := xt) (t := t) (d := e) with ⟨_, q⟩ | ⟨q, _⟩
      · subst q
        exact absurd (by rw [fo_ix h.1.1.2.1 hLu hxi]) z2
      · exact q
    · have li := rp_lt hxi
      have := kn_inj (by omega) (by omega) (Classical.not_not.mp z2)
      subst this
      rw [hLu] at hxi
      injection hxi with hxi
      subst hxi
      have eim : fo_im (fo_sA t) rt t e = fo_lf 5 e (fo_ty t) := by
        rcases fo_sA_eq (x := t) (t := t) (d := e) with ⟨q, _⟩ | ⟨_, q⟩
        · exact fo_im_st wt q
        · exact absurd rfl q
      rw [eim] at need k hwi
      rw [kn_tn (by omega), eyt]
      exact rm_term (t := fo_lf 5 e (fo_ty t)) (s := 5) (a := e) (c := 0) h (by decide) (by omega) (by decide) (fun _ => ⟨yt, rfl, ⟨hyt, Or.inl ⟨_, rfl, rfl, by omega, by omega⟩⟩, hwi⟩) need (fun r3 S3 LM3 b3 J3 p3 f3 o3 i3 v3 => k r3 S3 LT2 LM3 b3 J3 (List.prefix_refl _) p3 f3 (fun o j a1 _ _ => o3 o j a1) i3 v3)
  · omega
  · omega
  · omega
set_option maxHeartbeats 1000000 in
theorem rm_changed {S1 : kS} {LT1 LM1 : List kF} {b : Bool} {hw i : Nat} {x c : Int32} {st : kF → Nat → Option kF} {rt : kF → kF} {E : List kF → Nat → Prop} {T : kF} {Γ : List kF} (h : rr_J S LT LM NT NM g S1 LT1 LM1 b) (hW : rw_W LT1 LM1 hw x c st rt) (hE : rm_E st rt (rm_inc hw) E) (hi : LM1[i]? = some T) (wT : fo_wf Γ T) (eT : E Γ 0)
    (need : ∀ U V, fo_Cl U V → g U V → V (fo_im st rt T 0))
    (k : ∀ r S3 LT3 LM3 b3, rr_J S LT LM NT NM g S3 LT3 LM3 b3 → LT1 <+: LT3 → LM1 <+: LM3 → rr_FC S1 S3 → (∀ o j, 53 ≤ o → ¬ (61 ≤ o ∧ o ≤ 64) → S3 o j = S1 o j) → (b3 = false → b = false) → rr_v LM3 250 b3 (fo_im st rt T 0) r → F r S3) :
    kK (d + 4) m_Mo_changed [.inr 39, .inl (kn i), .inl (kn hw), .inl x, .inl c] S1 (kq F) := by
  have hl : LM1.length ≤ 250 := h.1.1.2.2.2.2.2.2.1
  have li := rp_lt hi
  have hwle : hw ≤ 4 := by rcases hW with z | z | z | z <;> omega
  have hincle : rm_inc hw ≤ 1 := by unfold rm_inc; split <;> omega
  have hT20 : fo_ht T ≤ 20 := (h.1.1.2.2.2.2.1 T (rp_mem hi)).2.1
  have hnd := h.1.1.2.1
  have RE : rm_R LM1 (rm_st hw x) (rm_inc hw) (fun t e => ∃ Γ, fo_wf Γ t ∧ E Γ e) := by
    rintro u t e hu ⟨Γ, w1, w2⟩ hns
    refine ⟨fun f y et => ?_, fun A y et => ?_⟩
    · rw [et] at w1
      obtain ⟨a1, a2, _⟩ := fo_wf_iap w1
      exact ⟨⟨Γ, a1, w2⟩, ⟨Γ, a2, w2⟩⟩
    · rw [et] at w1
      exact ⟨A :: Γ, (fo_wf_iab w1).2, hE.1 Γ e A w2⟩
  have RV : rm_R LM1 (rm_st hw x) (rm_inc hw) (fun t e => (∃ Γ, fo_wf Γ t ∧ E Γ e) ∧ ∀ U V, fo_Cl U V → g U V → V (fo_im st rt t e)) := by
    rintro u t e hu ⟨⟨Γ, w1, w2⟩, w3⟩ hns
    have RE' := RE u t e hu ⟨Γ, w1, w2⟩ hns
    refine ⟨fun f y et => ?_, fun A y et => ?_⟩
    · have hs := rw_W_st hW (e := e) hnd hu hns (Or.inl ⟨f, y, et⟩)
      have eim : fo_im st rt t e = fo_ap (fo_im st rt f e) (fo_im st rt y e) := by
        rw [et] at hs ⊢
        rw [fo_im_ap, hs]; rfl
      rw [eim] at w3
      exact ⟨⟨(RE'.1 f y et).1, fun U V hc hg => (hc.2.2.1 _ _ (w3 U V hc hg)).1⟩, ⟨(RE'.1 f y et).2, fun U V hc hg => (hc.2.2.1 _ _ (w3 U V hc hg)).2⟩⟩
    · have hs := rw_W_st hW (e := e) hnd hu hns (Or.inr ⟨A, y, et⟩)
      have eim : fo_im st rt t e = fo_ab (rt A) (fo_im st rt y (e + rm_inc hw)) := by
        rw [et] at hs w1 ⊢
        exact rm_im_ab hE hincle w1 e hs
      rw [eim] at w3
      exact ⟨RE'.2 A y et, fun U V hc hg => hc.2.2.2 _ _ (w3 U V hc hg)⟩
  refine g_Mo_changed (fun G hG => rm_mark h.1 hi hwle (fun S2 o2 D => ?_))
  obtain ⟨D1, D2, D3⟩ := D
  have k21 : 21 * kn i + 21 = kn (21 * i + 21) := by rw [show (21 : Int32) = kn 21 from rfl, kn_mul, kn_add]
  have k00 : 21 * kn i = kn (21 * i) := by rw [show (21 : Int32) = kn 21 from rfl, kn_mul]
  have up : ∀ m q, q + m = 21 * i + 21 → ∀ (S3 : kS) (LT3 LM3 : List kF) (b3 : Bool), rr_J S LT LM NT NM g S3 LT3 LM3 b3 → LT1 <+: LT3 → LM1 <+: LM3 → rr_FC S1 S3 → (∀ o j, 53 ≤ o → ¬ (61 ≤ o ∧ o ≤ 64) → S3 o j = S1 o j) → (b3 = false → b = false) → (∀ j, S3 61 j = S2 61 j) →
      (∀ n t, n < q → S2 61 n ≠ 0 → LM1[n / 21]? = some t → rr_v LM3 250 b3 (fo_im st rt t (n % 21)) (S3 62 n)) →
      G 10 [some (.inr 39), some (.inl (kn i)), some (.inl (kn hw)), some (.inl x), some (.inl c), some (.inl (kn q))] [] S3 := by
    intro m
    induction m with
    | zero =>
      intro q hq S3 LT3 LM3 b3 J3 p3 p3' f3 o3 i3 e61 im
      have hqe : q = 21 * i + 21 := by omega
      refine f_Mo_changed_10 kspec_Mo hG ⟨fun _ => ?_, fun z => absurd (by rw [k21, hqe]; exact (kn_le (by omega) (by omega)).mpr (Nat.le_refl _)) z⟩
      rw [k00, kn_tn (by omega)]
      have e1 : 21 * i / 21 = i := by omega
      have e2 : 21 * i % 21 = 0 := by omega
      have := im (21 * i) T (by omega) D1 (by rw [e1]; exact hi)
      rw [e2] at this
      exact ⟨kn_in (by omega) (by decide), k _ S3 LT3 LM3 b3 J3 p3 p3' f3 o3 i3 this⟩
    | succ m ih =>
      intro q hq S3 LT3 LM3 b3 J3 p3 p3' f3 o3 i3 e61 im
      have lu : q / 21 < LM1.length := by omega
      have hu : LM1[q / 21]? = some LM1[q / 21] := List.getElem?_eq_getElem lu
      have hqin : vp_in (kn q) 5250 := kn_in (by omega) (by decide)
      refine f_Mo_changed_10 kspec_Mo hG ⟨fun z => absurd ((kn_le (by omega) (by omega)).mp (k21 ▸ z)) (by omega), fun _ => ⟨hqin, ?_⟩⟩
      rw [kn_tn (by omega), e61, kn_suc, kn_d21 (by omega)]
      have em : kn q - kn (q / 21) * 21 = kn (q % 21) := by
        have := kn_m21 (q := q) (by omega)
        rw [kn_d21 (by omega)] at this
        exact this
      rw [em]
      refine ⟨fun z => ih (q + 1) (by omega) S3 LT3 LM3 b3 J3 p3 p3' f3 o3 i3 e61 (fun n t hn nn hnt => ?_), fun z => ?_⟩
      · by_cases e : n = q
        · subst e; exact absurd z nn
        · exact im n t (by omega) nn hnt
      · obtain ⟨hRE, hRV⟩ := D2 q _ (by omega) z hu _ RV ⟨⟨Γ, wT, eT⟩, need⟩
        have hdep : q % 21 + fo_ht LM1[q / 21] ≤ 20 := D2 q _ (by omega) z hu _ (rm_dep hincle) (show 0 + fo_ht T ≤ 20 by omega)
        obtain ⟨⟨Γu, hwu⟩, _, _⟩ := h.1.1.2.2.2.2.1 _ (rp_mem hu)
        obtain ⟨_, _, _, _, r4, r5⟩ := h.1.2.2.2.2.1 (q / 21) _ hu
        refine rm_become (t := LM1[q / 21]) J3 (rw_W_gr hW p3 p3') hE p3' hu (by omega) hRE hdep hRV (fun f y et hs a c ha hc => ?_) (fun A y et hs c hc => ?_) (fun r S4 LT4 LM4 b4 J4 p4 p4' f4 o4 i4 v4 => ⟨hqin, ?_⟩)
        · have hns := rw_W_ns hW hl hu hs
          obtain ⟨n1, n2⟩ := (D3 q _ (Nat.zero_le _) (by omega) z hu hns).1 f y et a c ha hc
          obtain ⟨_, a', c', la, lc, ha', hc', _⟩ := r4 f y et
          have ea := fo_ix hnd ha ha'
          have ec := fo_ix hnd hc hc'
          subst ea; subst ec
          have x1 : (21 * a + q % 21) / 21 = a := by omega
          have x2 : (21 * a + q % 21) % 21 = q % 21 := by omega
          have y1 : (21 * c + q % 21) / 21 = c := by omega
          have y2 : (21 * c + q % 21) % 21 = q % 21 := by omega
          have v1 := im (21 * a + q % 21) f (by omega) n1 (by rw [x1]; exact ha)
          have v2 := im (21 * c + q % 21) y (by omega) n2 (by rw [y1]; exact hc)
          rw [x2] at v1
          rw [y2] at v2
          exact ⟨v1, v2⟩
        · have hns := rw_W_ns hW hl hu hs
          have n1 := (D3 q _ (Nat.zero_le _) (by omega) z hu hns).2 A y et c hc
          obtain ⟨_, _, c', _, lc, hc', _⟩ := r5 A y et
          have ec := fo_ix hnd hc hc'
          subst ec
          have hd2 : q % 21 + rm_inc hw ≤ 20 := by
            rw [et, fo_ht_ab] at hdep
            have := fo_ht_pos y
            omega
          have x1 : (21 * c + (q % 21 + rm_inc hw)) / 21 = c := by omega
          have x2 : (21 * c + (q % 21 + rm_inc hw)) % 21 = q % 21 + rm_inc hw := by omega
          have v1 := im (21 * c + (q % 21 + rm_inc hw)) y (by omega) n1 (by rw [x1]; exact hc)
          rw [x2] at v1
          exact v1
        · have fu : ∀ o j, ¬ (o = 62 ∧ j = q) → ku S4 62 q r o j = S4 o j := fun o j ho => ku_ne ho
          refine ih (q + 1) (by omega) _ LT4 LM4 b4 (rr_J_fr J4 (fun o j ho => fu o j (by omega))) (p3.trans p4) (p3'.trans p4') (rr_FC_tr f3 (rr_FC_tr f4 (fun o j ho => fu o j (fun e => ho (by unfold rr_cm; omega))))) (fun o j a1 a2 => (fu o j (by omega)).trans ((o4 o j a1 (by omega) (by omega)).trans (o3 o j a1 a2))) (fun e => i3 (i4 e)) (fun j => (fu _ _ (by omega)).trans ((o4 _ _ (by decide) (by decide) (by decide)).trans (e61 j))) (fun n t hn nn hnt => ?_)
          by_cases e : n = q
          · subst e
            rw [hu] at hnt
            injection hnt with hnt
            subst hnt
            rw [ku_self]
            exact v4
          · rw [fu _ _ (by omega), o4 _ _ (by decide) (by decide) (by decide)]
            exact rr_v_gr (im n t (by omega) nn hnt) p4' i4
  exact up (21 * i + 21) 0 (by omega) S2 LT1 LM1 b (rr_J_fr h (fun o j ho => o2 o j (by omega))) (List.prefix_refl _) (List.prefix_refl _) (fun o j ho => o2 o j (fun e => ho (by unfold rr_cm; omega))) (fun o j a1 a2 => o2 o j (by omega)) id (fun _ => rfl) (fun n t hn => absurd hn (by omega))
end RCH
