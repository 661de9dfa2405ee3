/-! ===== THE REFERENCE: retyped ===== -/
theorem kn_dec (k : Nat) : kn (k + 1) + (-1) = kn k := by
  have h : kn (k + 1) - 1 = kn k := by
    rw [show (1 : Int32) = kn 1 from rfl, kn_sub (by omega)]
    congr 1
  rw [← h, Int32.sub_eq_add_neg]
theorem kn_dec0 : kn 0 + (-1) = -1 := by decide
/-- other cells changed: what stays -/
theorem rr_J_fr {S : kS} {LT LM NT NM : List kF} {g : kU} {S1 S2 : kS} {LT1 LM1 : List kF} {b : Bool} (h : rr_J S LT LM NT NM g S1 LT1 LM1 b) (f : ∀ o i, ¬ (61 ≤ o ∧ o ≤ 64) → S2 o i = S1 o i) : rr_J S LT LM NT NM g S2 LT1 LM1 b :=
  ⟨rr_S_fr h.1 (fun o i ho => f o i (by omega)), (f _ _ (by omega)).trans h.2.1, h.2.2.1, h.2.2.2.1, rr_FC_tr h.2.2.2.2.1 (fun o i ho => f o i (fun e => ho (by unfold rr_cm; omega))), h.2.2.2.2.2⟩
set_option maxHeartbeats 2000000 in
theorem rm_retyped {d : Nat} {S : kS} {LT LM NT NM : List kF} {g : kU} {S1 : kS} {LT1 LM1 : List kF} {b : Bool} {i ix ic v : Nat} {A C : kF} {F : Int32 → kS → Prop} (h : rr_J S LT LM NT NM g S1 LT1 LM1 b) (hi : LT1[i]? = some A) (hx : LT1[ix]? = some (fo_tb v)) (hv : 2 ≤ v ∧ v < 6) (hC : LT1[ic]? = some C) (need : ∀ U V, fo_Cl U V → g U V → U (fo_rt v C A))
    (k : ∀ r S2 LT2 b2, rr_J S LT LM NT NM g S2 LT2 LM1 b2 → LT1 <+: LT2 → rr_FC S1 S2 → (∀ o j, 46 ≤ o → o ≠ 63 → o ≠ 64 → S2 o j = S1 o j) → (b2 = false → b = false) → rr_v LT2 50 b2 (fo_rt v C A) r → F r S2) :
    kK (d + 2) m_Mo_retyped [.inr 39, .inl (kn i), .inl (kn ix), .inl (kn ic)] S1 (kq F) := by
  have hl : LT1.length ≤ 50 := h.1.1.2.2.2.2.2.1
  have li := rp_lt hi
  have lx := rp_lt hx
  have lc := rp_lt hC
  have hin : vp_in (kn i) 50 := kn_in (by omega) (by decide)
  refine g_Mo_retyped (fun G hG => ?_)
  have tyv : ∀ (S2 : kS) (LT2 : List kF) (b2 : Bool), rr_J S LT LM NT NM g S2 LT2 LM1 b2 → LT1 <+: LT2 → ∀ (q : Nat) (B : kF), LT1[q]? = some B → rr_v LT2 50 b2 B (kn q) := fun S2 LT2 b2 J2 p2 q B hB => rr_v_of (rp_pre p2 hB) J2.1.1.2.2.2.2.2.1
  -- going up
  have up : ∀ m q, q + m = i + 1 → ∀ (S2 : kS) (LT2 : List kF) (b2 : Bool), rr_J S LT LM NT NM g S2 LT2 LM1 b2 → LT1 <+: LT2 → rr_FC S1 S2 → (∀ o j, 46 ≤ o → o ≠ 63 → o ≠ 64 → S2 o j = S1 o j) → (b2 = false → b = false) →
      (∀ j B, j ≤ i → S2 63 j ≠ 0 → LT1[j]? = some B → (∀ U V, fo_Cl U V → g U V → U (fo_rt v C B)) ∧ (∀ x y, B = fo_ar x y → ∀ a c, LT1[a]? = some x → LT1[c]? = some y → S2 63 a ≠ 0 ∧ S2 63 c ≠ 0)) → S2 63 i ≠ 0 →
      (∀ j B, j < q → S2 63 j ≠ 0 → LT1[j]? = some B → rr_v LT2 50 b2 (fo_rt v C B) (S2 64 j)) →
      G 94 [some (.inr 39), some (.inl (kn i)), some (.inl (kn ix)), some (.inl (kn ic)), some (.inl (kn q))] [] S2 := by
    intro m
    induction m with
    | zero =>
      intro q hq S2 LT2 b2 J2 p2 f2 o2 i2 nd ni im
      refine f_Mo_retyped_94 kspec_Mo hG ⟨fun _ => ⟨hin, ?_⟩, fun e => absurd ((kn_lt (by omega) (by omega)).mpr (by omega)) e⟩
      rw [kn_tn (by omega)]
      exact k _ S2 LT2 b2 J2 p2 f2 o2 i2 (im i A (by omega) ni hi)
    | succ m ih =>
      intro q hq S2 LT2 b2 J2 p2 f2 o2 i2 nd ni im
      have lq : q < LT1.length := by omega
      have hB : LT1[q]? = some LT1[q] := List.getElem?_eq_getElem lq
      have hqin : vp_in (kn q) 50 := kn_in (by omega) (by decide)
      refine f_Mo_retyped_94 kspec_Mo hG ⟨fun e => absurd ((kn_lt (by omega) (by omega)).mp e) (by omega), fun _ => ⟨hqin, ?_⟩⟩
      rw [kn_tn (by omega), kn_suc]
      -- the store of an image and on
      have sto : ∀ (S3 : kS) (LT3 : List kF) (b3 : Bool) (r : Int32), rr_J S LT LM NT NM g S3 LT3 LM1 b3 → LT2 <+: LT3 → rr_FC S1 S3 → (∀ o j, 46 ≤ o → o ≠ 63 → o ≠ 64 → S3 o j = S1 o j) → (∀ j, S3 63 j = S2 63 j) → (∀ j, j ≠ q → S3 64 j = S2 64 j) → (b3 = false → b2 = false) → rr_v LT3 50 b3 (fo_rt v C LT1[q]) r → G 94 [some (.inr 39), some (.inl (kn i)), some (.inl (kn ix)), some (.inl (kn ic)), some (.inl (kn (q + 1)))] [] (ku S3 64 q r) := by
        intro S3 LT3 b3 r J3 p3 f3 o3 e63 e64 i3 vr
        have fu : ∀ o j, ¬ (o = 64 ∧ j = q) → ku S3 64 q r o j = S3 o j := fun o j ho => ku_ne ho
        refine ih (q + 1) (by omega) _ LT3 b3 (rr_J_fr J3 (fun o j ho => fu o j (by omega))) (p2.trans p3) (rr_FC_tr f3 (fun o j ho => fu o j (fun e => ho (by unfold rr_cm; omega)))) (fun o j a1 a2 a3 => (fu o j (by omega)).trans (o3 o j a1 a2 a3)) (fun e => i2 (i3 e)) ?_ ?_ ?_
        · intro j B hj nj hjB
          rw [fu _ _ (by omega), e63] at nj
          obtain ⟨g1, g2⟩ := nd j B hj nj hjB
          refine ⟨g1, fun x y e a c ha hc => ?_⟩
          rw [fu _ _ (by omega), fu _ _ (by omega), e63, e63]
          exact g2 x y e a c ha hc
        · rw [fu _ _ (by omega), e63]; exact ni
        · intro j B hj nj hjB
          rw [fu _ _ (by omega), e63] at nj
          by_cases e : j = q
          · subst e
            rw [ku_self]
            rw [hB] at hjB
            injection hjB with hjB
            subst hjB
            exact vr
          · rw [fu _ _ (by omega), e64 j e]
            exact rr_v_gr (im j B (by omega) nj hjB) p3 i3
      refine ⟨fun hn => ?_, fun hn => ?_⟩
      · -- needed
        obtain ⟨nq1, nq2⟩ := nd q _ (by omega) hn hB
        have wB := (h.1.1.2.2.2.1 _ (rp_mem hB)).1
        have hrec := J2.1.2.2.2.1 q _ (rp_pre p2 hB)
        have leaf : ∀ w0 : Int32, (∃ z, z < 9 ∧ LT1[q] = fo_tb z) → rr_v LT2 50 b2 (fo_rt v C LT1[q]) w0 → G 131 [some (.inr 39), some (.inl (kn i)), some (.inl (kn ix)), some (.inl (kn ic)), some (.inl (kn q))] [.inl w0, .inl (kn q), .inr 64] S2 := by
          intro w0 ⟨z, hz, ez⟩ vr
          refine f_Mo_retyped_131 kspec_Mo hG ⟨hqin, hqin, ?_⟩
          rw [kn_tn (by omega), kn_suc]
          refine ⟨fun _ => sto S2 LT2 b2 w0 J2 (List.prefix_refl _) f2 o2 (fun _ => rfl) (fun _ _ => rfl) id vr, fun e => ?_⟩
          rw [(hrec.2.2.1 z ez).1] at e
          have hb := (rr_bc.2 z hz).1
          have := kn_inj (m := 4) (by omega) (by decide) (Classical.not_not.mp e)
          omega
        refine ⟨fun e => ?_, fun e => ?_⟩
        · have hqx : q ≠ ix := fun z => e (by rw [z])
          rcases fo_tw_cases wB with ⟨z, hz, ez⟩ | ⟨x, y, exy, _⟩
          · refine leaf _ ⟨z, hz, ez⟩ ?_
            have : fo_rt v C LT1[q] = LT1[q] := by
              rw [ez, fo_rt_tb]
              refine if_neg (fun w => hqx ?_)
              subst w
              rw [ez] at hB
              exact fo_ix h.1.1.1 hB hx
            rw [this]
            exact tyv S2 LT2 b2 J2 p2 q _ hB
          · -- an arrow
            refine f_Mo_retyped_131 kspec_Mo hG ⟨hqin, hqin, ?_⟩
            obtain ⟨e40, a, c, la, lc', ha, hc, e41, e42⟩ := hrec.2.2.2 x y exy
            have hLT2 := J2.1.1.1
            have aR : LT1[a]? = some x := by
              obtain ⟨r, rfl⟩ := p2
              rw [List.getElem?_append_left (by omega)] at ha; exact ha
            have cR : LT1[c]? = some y := by
              obtain ⟨r, rfl⟩ := p2
              rw [List.getElem?_append_left (by omega)] at hc; exact hc
            obtain ⟨na, nc⟩ := nq2 x y exy a c aR cR
            rw [kn_tn (by omega), kn_suc, e40, e41, e42, kn_tn (by omega), kn_tn (by omega)]
            refine ⟨fun e => absurd rfl e, fun _ => ⟨hqin, kn_in (by omega) (by decide), hqin, kn_in (by omega) (by decide), ?_⟩⟩
            rw [ku_ne (show ¬ (64 = 64 ∧ a = q) by omega), ku_ne (show ¬ (64 = 64 ∧ c = q) by omega)]
            have Ju := rr_J_fr (S2 := ku S2 64 q (kn q)) J2 (fun o j ho => ku_ne (by omega))
            have ert : fo_rt v C LT1[q] = fo_ar (fo_rt v C x) (fo_rt v C y) := by rw [exy, fo_rt_ar]
            refine rm_arrow Ju (im a x (by omega) na aR) (im c y (by omega) nc cR) (fun U V hcl hg => by rw [← ert]; exact nq1 U V hcl hg) (fun r S3 LT3 b3 J3 p3 f3 o3 i3 vr => ⟨hqin, ?_⟩)
            rw [← ert] at vr
            refine sto S3 LT3 b3 r J3 p3 ?_ (fun o j a1 a2 a3 => (o3 o j a1).trans ((ku_ne (by omega)).trans (o2 o j a1 a2 a3))) (fun j => (o3 _ _ (by decide)).trans (ku_ne (by omega))) (fun j hj => (o3 _ _ (by decide)).trans (ku_ne (by omega))) i3 vr
            exact rr_FC_tr f2 (rr_FC_tr (fun o j ho => ku_ne (fun e => ho (by unfold rr_cm; omega))) f3)
        · have hqx : q = ix := kn_inj (by omega) (by omega) (Classical.not_not.mp e)
          subst hqx
          have ev : LT1[q] = fo_tb v := by
            rw [hB] at hx
            injection hx
          refine leaf _ ⟨v, by omega, ev⟩ ?_
          rw [ev, fo_rt_tb, if_pos rfl]
          exact tyv S2 LT2 b2 J2 p2 ic C hC
      · -- not needed
        have hn : S2 63 q = 0 := Classical.not_not.mp hn
        refine ih (q + 1) (by omega) S2 LT2 b2 J2 p2 f2 o2 i2 nd ni (fun j B hj nj hjB => ?_)
        by_cases e : j = q
        · subst e; exact absurd hn nj
        · exact im j B (by omega) nj hjB
  -- going down
  have down : ∀ q, q ≤ i + 1 → ∀ S2 : kS, (∀ o j, o ≠ 63 → S2 o j = S1 o j) →
      (∀ j B, j ≤ i → S2 63 j ≠ 0 → LT1[j]? = some B → (∀ U V, fo_Cl U V → g U V → U (fo_rt v C B)) ∧ (q ≤ j → ∀ x y, B = fo_ar x y → ∀ a c, LT1[a]? = some x → LT1[c]? = some y → S2 63 a ≠ 0 ∧ S2 63 c ≠ 0)) → S2 63 i ≠ 0 →
      ∀ w : Int32, (q = 0 ∧ w = -1 ∨ ∃ p, q = p + 1 ∧ w = kn p) → G 33 [some (.inr 39), some (.inl (kn i)), some (.inl (kn ix)), some (.inl (kn ic)), some (.inl w)] [] S2 := by
    intro q
    induction q with
    | zero =>
      intro hq S2 o2 nd ni w hw
      have hw : w = -1 := by
        rcases hw with ⟨_, hw⟩ | ⟨p, hp, _⟩
        · exact hw
        · omega
      subst hw
      refine f_Mo_retyped_33 kspec_Mo hG ⟨fun _ => up (i + 1) 0 (by omega) S2 LT1 b (rr_J_fr h (fun o j ho => o2 o j (by omega))) (List.prefix_refl _) (fun o j ho => o2 o j (fun e => ho (by unfold rr_cm; omega))) (fun o j a1 a2 a3 => o2 o j a2) id (fun j B hj nj hB => ⟨(nd j B hj nj hB).1, (nd j B hj nj hB).2 (by omega)⟩) ni (fun j B hj => absurd hj (by omega)), fun e => absurd kn_m1lt e⟩
    | succ q ih =>
      intro hq S2 o2 nd ni w hw
      have hw : w = kn q := by
        rcases hw with ⟨z, _⟩ | ⟨p, hp, hw⟩
        · omega
        · have : p = q := by omega
          subst this; exact hw
      subst hw
      have lq : q < LT1.length := by omega
      have hB : LT1[q]? = some LT1[q] := List.getElem?_eq_getElem lq
      have hqin : vp_in (kn q) 50 := kn_in (by omega) (by decide)
      have nextw : (q = 0 ∧ kn q + (-1) = -1) ∨ ∃ p, q = p + 1 ∧ kn q + (-1) = kn p := by
        cases q with
        | zero => exact Or.inl ⟨rfl, kn_dec0⟩
        | succ p => exact Or.inr ⟨p, rfl, kn_dec p⟩
      have wB := (h.1.1.2.2.2.1 _ (rp_mem hB)).1
      have hT2 : rp_T S2 40 41 42 43 44 4 rr_b LT1 := rp_T_congr h.1.2.2.2.1 (fun o ho => funext fun j => o2 o j (by omega))
      have hrec := hT2 q _ hB
      refine f_Mo_retyped_33 kspec_Mo hG ⟨fun e => absurd e (kn_nn (by omega)), fun _ => ?_⟩
      rw [kn_tn (by omega)]
      -- nothing to mark
      have keep : (S2 63 q ≠ 0 → ∀ x y, LT1[q] = fo_ar x y → False) → G 33 [some (.inr 39), some (.inl (kn i)), some (.inl (kn ix)), some (.inl (kn ic)), some (.inl (kn q + (-1)))] [] S2 := by
        intro hk
        refine ih (by omega) S2 o2 (fun j B hj nj hjB => ⟨(nd j B hj nj hjB).1, fun hqj => ?_⟩) ni _ nextw
        by_cases e : j = q
        · subst e
          intro x y exy
          rw [hB] at hjB
          injection hjB with hjB
          subst hjB
          exact (hk nj x y exy).elim
        · exact (nd j B hj nj hjB).2 (by omega)
      refine ⟨hqin, fun e => keep (fun z => absurd e z), fun e => ⟨hqin, fun e2 => keep (fun _ x y exy => e2 (hrec.2.2.2 x y exy).1), fun e2 => ?_⟩⟩
      rcases fo_tw_cases wB with ⟨z, hz, ez⟩ | ⟨x, y, exy, _⟩
      · rw [(hrec.2.2.1 z ez).1] at e2
        have hb := (rr_bc.2 z hz).1
        have := kn_inj (m := 4) (by omega) (by decide) (Classical.not_not.mp e2)
        omega
      · obtain ⟨_, a, c, la, lc', ha, hc, e41, e42⟩ := hrec.2.2.2 x y exy
        obtain ⟨nq1, _⟩ := nd q _ (by omega) e hB
        rw [e41, e42, kn_tn (by omega), kn_tn (by omega)]
        refine ⟨hqin, kn_in (by omega) (by decide), hqin, kn_in (by omega) (by decide), ?_⟩
        have one : vp_nar .boolean 1 = (1 : Int32) := kb_nar true
        rw [one]
        have v63 : ∀ j, ku (ku S2 63 a 1) 63 c 1 63 j = if j = a ∨ j = c then 1 else S2 63 j := by
          intro j
          by_cases ec : j = c
          · subst ec; rw [ku_self, if_pos (Or.inr rfl)]
          · rw [ku_ne (by omega)]
            by_cases ea : j = a
            · subst ea; rw [ku_self, if_pos (Or.inl rfl)]
            · rw [ku_ne (by omega), if_neg (by omega)]
        have grow : ∀ j, S2 63 j ≠ 0 → ku (ku S2 63 a 1) 63 c 1 63 j ≠ 0 := by
          intro j nj
          rw [v63]
          split
          · decide
          · exact nj
        refine ih (by omega) _ (fun o j ho => ?_) (fun j B hj nj hjB => ?_) (grow i ni) _ nextw
        · rw [ku_ne (by omega), ku_ne (by omega)]; exact o2 o j ho
        · by_cases eac : j = a ∨ j = c
          · refine ⟨fun U V hcl hg => ?_, fun hqj => absurd hqj (by omega)⟩
            have hu := nq1 U V hcl hg
            rw [exy, fo_rt_ar] at hu
            have hu := hcl.1 _ _ hu
            rcases eac with rfl | rfl
            · rw [ha] at hjB; injection hjB with hjB; subst hjB; exact hu.1
            · rw [hc] at hjB; injection hjB with hjB; subst hjB; exact hu.2
          · rw [v63, if_neg eac] at nj
            refine ⟨(nd j B hj nj hjB).1, fun hqj x' y' e' a' c' ha' hc' => ?_⟩
            by_cases ejq : j = q
            · subst ejq
              rw [hB] at hjB
              injection hjB with hjB
              subst hjB
              rw [exy] at e'
              obtain ⟨rfl, rfl⟩ := fo_ar_inj e'
              have := fo_ix h.1.1.1 ha ha'
              have := fo_ix h.1.1.1 hc hc'
              subst_vars
              rw [v63, v63, if_pos (Or.inl rfl), if_pos (Or.inr rfl)]
              exact ⟨by decide, by decide⟩
            · have := (nd j B hj nj hjB).2 (by omega) x' y' e' a' c' ha' hc'
              exact ⟨grow _ this.1, grow _ this.2⟩
  -- nothing is needed yet
  have clr : ∀ m q, q + m = i → ∀ S2 : kS, (∀ o j, o ≠ 63 → S2 o j = S1 o j) → (∀ j, j < q → S2 63 j = 0) → G 3 [some (.inr 39), some (.inl (kn i)), some (.inl (kn ix)), some (.inl (kn ic)), some (.inl (kn q))] [] S2 := by
    intro m
    induction m with
    | zero =>
      intro q hq S2 o2 z2
      have : q = i := by omega
      subst this
      refine f_Mo_retyped_3 kspec_Mo hG ⟨fun _ => ⟨hin, ?_⟩, fun e => absurd ((kn_le (by omega) (by omega)).mpr (Nat.le_refl _)) e⟩
      rw [kn_tn (by omega)]
      have one : vp_nar .boolean 1 = (1 : Int32) := kb_nar true
      rw [one]
      refine down (q + 1) (Nat.le_refl _) _ (fun o j ho => (ku_ne (by omega)).trans (o2 o j ho)) (fun j B hj nj hjB => ?_) (by rw [ku_self]; decide) _ (Or.inr ⟨q, rfl, rfl⟩)
      have : j = q := by
        by_cases e : j = q
        · exact e
        · rw [ku_ne (by omega)] at nj
          exact absurd (z2 j (by omega)) nj
      subst this
      rw [hi] at hjB
      injection hjB with hjB
      subst hjB
      exact ⟨need, fun hq => absurd hq (by omega)⟩
    | succ m ih =>
      intro q hq S2 o2 z2
      refine f_Mo_retyped_3 kspec_Mo hG ⟨fun e => absurd ((kn_le (by omega) (by omega)).mp e) (by omega), fun _ => ⟨kn_in (by omega) (by decide), ?_⟩⟩
      rw [kn_tn (by omega), kn_suc]
      have zero : vp_nar .boolean 0 = (0 : Int32) := kb_nar false
      rw [zero]
      refine ih (q + 1) (by omega) _ (fun o j ho => (ku_ne (by omega)).trans (o2 o j ho)) (fun j hj => ?_)
      by_cases e : j = q
      · subst e; exact ku_self
      · rw [ku_ne (by omega)]; exact z2 j (by omega)
  exact clr i 0 (by omega) S1 (fun _ _ _ => rfl) (fun j hj => absurd hj (by omega))
