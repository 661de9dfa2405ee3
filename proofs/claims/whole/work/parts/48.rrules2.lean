/-! ===== THE REFERENCE: the rules, on ===== -/
section RRU3
variable {d : Nat} {S : kS} {LT LM NT NM : List kF} {FS : List kQ} {S1 : kS} {o : Option kQ} {F : Int32 → kS → Prop}
theorem re_3 {m c : Nat} {x : kF} {q : kQ} (h : rz S LT LM NT NM (rd_g o FS.length) FS S1 LT LM false [] []) (hok : sp_ok NM FS) (hm : NM[m]? = some x) (hq : FS[c]? = some q) (ho : o = sp_r3 (some x) (some q)) (k : ∀ r S', rd_P S LT LM NT NM FS o r S' → F r S') : kK (d + 6) m_Mo_equal [.inr 39, .inl 3, .inl (kn m), .inl (kn c)] S1 (kq F) := by
  have hS := h.1.1
  have hl := hS.1.2.2.2.2.2.2.1
  obtain ⟨lm, i, li, hi, ei⟩ := rr_nM hS hm
  obtain ⟨lc, ⟨j, hj, ej⟩, h12, e55, e56⟩ := rr_fact h.2.2.1 hq
  have lj := (rr_so hS hj).2.2
  have wx := hok.1 x (rp_mem hm)
  have wq := hok.2 q (List.mem_of_getElem? hq)
  have fail : ∀ (S2 : kS) (LT2 LM2 : List kF) (b2 : Bool) (D2 don2 : List kF), rz S LT LM NT NM (rd_g o FS.length) FS S2 LT2 LM2 b2 D2 don2 → o = none → F (-1) S2 := fun S2 LT2 LM2 b2 D2 don2 h2 e => k _ _ ⟨LT2, LM2, b2, D2, don2, h2, Or.inl ⟨rfl, e⟩⟩
  refine g_Mo_equal (fun G hG => ⟨fun _ => ⟨fun _ => ?_, fun e => absurd (by decide) e⟩, fun e => absurd (by decide) e⟩)
  rw [kn_tn (by omega), kn_tn (by omega), ej]
  refine ⟨kn_in lc (by decide), rm_isEq hS hj (fun l r hs => ⟨fun _ => ⟨fun e => absurd rfl e, fun _ => ?_⟩, fun e => absurd (by decide) e⟩) (fun hs => ⟨fun e => absurd rfl e, fun _ => fail _ _ _ _ _ _ h ?_⟩)⟩
  · obtain ⟨wl, wr, elr⟩ := sp_sd_wf hs wq.1
    have eo : o = sp_if ((∃ k A, x = fo_lf 0 k A) ∧ ∀ h, h ∈ q.2 → ¬ fo_oc x h) (some (sp_eq (sp_iA x l) (sp_iA x r), q.2)) := by rw [ho]; simp [sp_r3, hs]
    have loop : ∀ n z, z + n = q.2.length → ∀ (S2 : kS) (v : Int32), (∀ o q, o ≠ 61 → S2 o q = S1 o q) → (v = 0 ∧ (∃ k A, x = fo_lf 0 k A) ∧ (∀ y w, y < z → q.2[y]? = some w → ¬ fo_oc x w) ∨ v = 1 ∧ o = none) → G 151 [some (.inr 39), some (.inl 3), some (.inl (kn m)), some (.inl (kn c)), some (.inl (kn j)), some (.inl (kn i)), some (.inl v), some (.inl (kn z)), none] [] S2 := by
      intro n
      induction n with
      | zero =>
        intro z hz S2 v f2 hv
        have h2 := rz_61 h f2
        refine f_Mo_equal_151 kspec_Mo hG ?_
        rw [kn_tn (by omega), f2 _ _ (by decide), e55]
        refine ⟨kn_in lc (by decide), fun _ => ⟨fun e => ?_, fun e => fail _ _ _ _ _ _ h2 ?_⟩, fun e => absurd ((kn_le (by omega) (by omega)).mpr (by omega)) e⟩
        · rcases hv with ⟨_, ⟨nn, A, rfl⟩, hno⟩ | ⟨hv, _⟩
          · have cond : (∃ k B, fo_lf 0 nn A = fo_lf 0 k B) ∧ ∀ h, h ∈ q.2 → ¬ fo_oc (fo_lf 0 nn A) h := by
              refine ⟨⟨nn, A, rfl⟩, fun w hw => ?_⟩
              obtain ⟨y, hy⟩ := rp_at hw
              exact hno y w (by have := rp_lt hy; omega) hy
            rw [sp_if_pos cond] at eo
            have hA' : fo_tw A := (fo_wf_ilf wx).1
            obtain ⟨wA, tA⟩ := sp_iA_wf (n := nn) hA' wl
            obtain ⟨wB, tB⟩ := sp_iA_wf (n := nn) hA' wr
            have eb : ∀ l : List kF, sp_bp (fun _ => False) l = l := sp_bp_none (fun _ e => e)
            refine rm_assumeAll h2 hq (rd_m1 hl) (fun U V hu => ⟨[], by rw [eb, List.append_nil]; exact (rd_gi eo hu).2.2.1⟩) (fun S3 b3 D3 h3 i3 f3 => ?_)
            rw [eb] at h3
            have h3 : rz S LT LM NT NM (rd_g o FS.length) FS S3 LT LM b3 D3 q.2 := h3
            refine rm_left h3.1.1 hj hs (fun jl hjl => rm_closedOver h3.1 hi hjl wl (fun U V hc hg => (hc.2.2.1 _ _ (hc.2.2.1 _ _ (rd_gi eo hg).1).1).2) (fun r4 S4 LT4 LM4 b4 J4 p4 p4' f4 i4 v4 => ⟨kn_in lj (by decide), ?_⟩))
            obtain ⟨_, _, qa, _, _, _, _, ea, ha⟩ := rr_sides J4.1 (rp_pre p4' hj) hs
            rw [kn_tn (by omega), ea]
            refine rm_closedOver J4 (rp_pre p4' hi) ha wr (fun U V hc hg => (hc.2.2.1 _ _ (rd_gi eo hg).1).2) (fun r5 S5 LT5 LM5 b5 J5 p5 p5' f5 i5 v5 => ?_)
            refine rm_eqn J5 (rr_v_gr v4 p5' i5) v5 (fun _ => ⟨[], wA, wB⟩) (fun _ => by rw [tA, tB, elr]) (fun U V hc hg => (rd_gi eo hg).1) (fun r9 S9 LT9 LM9 b9 J9 p9 p9' f9 q9 i9 v9 => ?_)
            exact k _ _ ⟨LT9, LM9, b9, D3, _, rz_mk h3 J9 (p4'.trans (p5'.trans p9')) (rr_FC_tr f4 (rr_FC_tr f5 f9)) (fun z => i4 (i5 (i9 z))), Or.inr ⟨_, eo, v9⟩⟩
          · rw [hv] at e; exact absurd e (by decide)
        · rcases hv with ⟨hv, _⟩ | ⟨_, hv⟩
          · exact absurd hv e
          · exact hv
      | succ n ih =>
        intro z hz S2 v f2 hv
        have h2 := rz_61 h f2
        have hzl : z < q.2.length := by omega
        have hu : q.2[z]? = some q.2[z] := List.getElem?_eq_getElem hzl
        obtain ⟨y, hy, ey⟩ := e56 z _ hu
        refine f_Mo_equal_151 kspec_Mo hG ?_
        rw [kn_tn (by omega), f2 _ _ (by decide), e55, kn_12, kn_tn (n := 12 * c + z) (by omega), f2 _ _ (by decide), ey, kn_suc z]
        refine ⟨kn_in lc (by decide), fun e => absurd ((kn_le (by omega) (by omega)).mp e) (by omega), fun _ => ⟨fun e => ih (z + 1) (by omega) S2 1 f2 ?_, fun e => ⟨kn_in (by omega) (by decide), ?_⟩⟩⟩
        · rcases hv with ⟨hv, _⟩ | ⟨_, hv⟩
          · exact absurd hv e
          · exact Or.inr ⟨rfl, hv⟩
        · rcases hv with ⟨_, hx, hno⟩ | ⟨hv, _⟩
          · refine rm_has h2.1.1 hy hi (fun oc S3 f3 => ⟨fun e => absurd e (by decide), fun _ => ih (z + 1) (by omega) S3 1 (fun o q ho => (f3 o q ho).trans (f2 o q ho)) (Or.inr ⟨rfl, ?_⟩)⟩) (fun oc S3 f3 => ⟨fun _ => ih (z + 1) (by omega) S3 0 (fun o q ho => (f3 o q ho).trans (f2 o q ho)) (Or.inl ⟨rfl, hx, fun y' w hy' hw => ?_⟩), fun e => absurd rfl e⟩)
            · rw [eo, sp_if_neg (fun w => w.2 _ (rp_mem hu) oc)]
            · by_cases ee : y' = z
              · subst ee
                rw [hu] at hw
                injection hw with hw
                rw [← hw]; exact oc
              · exact hno y' w (by omega) hw
          · exact absurd (Classical.not_not.mp e) (by rw [hv]; decide)
    rw [ei, kn_tn (by omega)]
    refine ⟨kn_in lm (by decide), kn_in li (by decide), fun e => loop q.2.length 0 (by omega) S1 0 (fun _ _ _ => rfl) (Or.inl ⟨rfl, ?_, fun y w hy _ => absurd hy (by omega)⟩), fun e => loop q.2.length 0 (by omega) S1 1 (fun _ _ _ => rfl) (Or.inr ⟨rfl, ?_⟩)⟩
    · rw [(rr_so hS hi).1] at e
      have h6 := (rr_so hS hi).2.1
      have e0 := kn_inj (m := 0) (by omega) (by decide) e
      obtain ⟨n, A, e1, _⟩ := fo_so_l wx (by omega) (by omega)
      rw [e0] at e1
      exact ⟨n, A, e1⟩
    · rw [eo, sp_if_neg]
      rintro ⟨⟨n, A, rfl⟩, _⟩
      exact e (rr_so hS hi).1
  · rw [ho]
    simp [sp_r3, hs]
theorem rl_5 {m : Nat} {t : kF} {a2 : Int32} (h : rz S LT LM NT NM (rd_g o FS.length) FS S1 LT LM false [] []) (hm : NM[m]? = some t) (ho : o = sp_r5 (some t)) (k : ∀ r S', rd_P S LT LM NT NM FS o r S' → F r S') : kK (d + 6) m_Mo_logical [.inr 39, .inl 5, .inl (kn m), .inl a2] S1 (kq F) := by
  have hS := h.1.1
  have hl := hS.1.2.2.2.2.2.2.1
  obtain ⟨lm, i, li, hi, ei⟩ := rr_nM hS hm
  have eo : o = sp_if (fo_ty t = fo_tb 0) (some (t, [t])) := ho
  refine g_Mo_logical ⟨fun e => absurd rfl e, fun _ => ?_⟩
  rw [kn_tn (by omega), ei]
  refine ⟨kn_in lm (by decide), rm_assume h (rr_v_of hi hl) (fun U V hu => ⟨[], ?_⟩) (fun S2 b2 D2 h2 i2 f2 => ?_)⟩
  · obtain ⟨w, hw, _, h3, _⟩ := hu
    rw [eo] at hw
    have := (sp_ifi hw).2
    injection this with this
    rw [← this] at h3; exact h3
  · have e53 : S2 53 m = kn i := (f2 _ _ (by omega)).trans ei
    have hS2 := h2.1.1
    obtain ⟨_, ⟨y, hy, ey⟩, _⟩ := hS2.2.2.2.2.1 i _ hi
    have hlT := hS2.1.2.2.2.2.2.1
    have ly := rp_lt hy
    have h0 : LT[0]? = some (fo_tb 0) := hS2.1.2.2.2.2.2.2.2
    rw [e53, kn_tn (by omega), ey]
    refine ⟨kn_in lm (by decide), kn_in li (by decide), fun e => k _ _ ⟨LT, LM, b2, D2, _, h2, Or.inl ⟨rfl, ?_⟩⟩, fun e => ⟨kn_in lm (by decide), k _ _ ⟨LT, LM, b2, D2, _, h2, Or.inr ⟨t, ?_, rr_v_of hi hl⟩⟩⟩⟩
    · rw [eo, sp_if_neg]
      intro z
      rw [z] at hy
      exact e (by rw [fo_ix hS2.1.1 hy h0]; rfl)
    · rw [eo]
      refine sp_if_pos ?_
      have := kn_inj (m := 0) (by omega) (by decide) (Classical.not_not.mp e)
      rw [this, h0] at hy
      injection hy with hy
      exact hy.symm
theorem rl_6 {a c : Nat} {p q : kQ} (h : rz S LT LM NT NM (rd_g o FS.length) FS S1 LT LM false [] []) (hp : FS[a]? = some p) (hq : FS[c]? = some q) (ho : o = sp_r6 (some p) (some q)) (k : ∀ r S', rd_P S LT LM NT NM FS o r S' → F r S') : kK (d + 6) m_Mo_logical [.inr 39, .inl 6, .inl (kn a), .inl (kn c)] S1 (kq F) := by
  have hS := h.1.1
  have hl := hS.1.2.2.2.2.2.2.1
  obtain ⟨la, ⟨i, hi, ei⟩, _⟩ := rr_fact h.2.2.1 hp
  obtain ⟨lc, ⟨j, hj, ej⟩, _⟩ := rr_fact h.2.2.1 hq
  have li := (rr_so hS hi).2.2
  have lj := (rr_so hS hj).2.2
  refine g_Mo_logical ⟨fun _ => ?_, fun e => absurd (by decide) e⟩
  rw [kn_tn (by omega), kn_tn (by omega), ei, ej]
  refine ⟨kn_in la (by decide), kn_in lc (by decide), fun e => absurd rfl e, fun _ => rd_two0 h hp hq (fun U V hu => ?_) (fun S6 b6 D6 h6 i6 f6 => ?_)⟩
  · obtain ⟨w, hw, _, h3, _⟩ := hu
    rw [ho] at hw
    cases hs : sp_sd p.1 with
    | none => simp [sp_r6, hs] at hw
    | some lr =>
      have hw : sp_if (lr.1 = q.1) (some (lr.2, p.2 ++ q.2)) = some w := by rw [← hw]; simp [sp_r6, hs]
      have := (sp_ifi hw).2
      injection this with this
      rw [← this] at h3; exact h3
  · have hS6 := h6.1.1
    refine rm_isEq hS6 hi (fun l r hs => ⟨fun e => absurd e (by decide), fun _ => rm_left hS6 hi hs (fun jl hjl => ?_)⟩) (fun hs => ⟨fun _ => k _ _ ⟨LT, LM, b6, D6, _, h6, Or.inl ⟨rfl, ?_⟩⟩, fun e => absurd rfl e⟩)
    · have eo : o = sp_if (l = q.1) (some (r, p.2 ++ q.2)) := by rw [ho]; simp [sp_r6, hs]
      obtain ⟨_, _, qa, _, _, _, _, ea, ha⟩ := rr_sides hS6 hi hs
      rw [kn_tn (by omega), ea]
      refine ⟨fun e => k _ _ ⟨LT, LM, b6, D6, _, h6, Or.inl ⟨rfl, ?_⟩⟩, fun e => ⟨kn_in li (by decide), k _ _ ⟨LT, LM, b6, D6, _, h6, Or.inr ⟨r, ?_, rr_v_of ha hl⟩⟩⟩⟩
      · rw [eo, sp_if_neg]
        intro z
        rw [z] at hjl
        exact e (by rw [fo_ix hS.1.2.1 hjl hj])
      · rw [eo]
        refine sp_if_pos ?_
        have := kn_inj (by have := rp_lt hjl; omega) (by omega) (Classical.not_not.mp e)
        rw [this, hj] at hjl
        injection hjl with hjl
        exact hjl.symm
    · rw [ho]
      simp [sp_r6, hs]
theorem rl_7 {a c : Nat} {p q : kQ} (h : rz S LT LM NT NM (rd_g o FS.length) FS S1 LT LM false [] []) (hok : sp_ok NM FS) (hp : FS[a]? = some p) (hq : FS[c]? = some q) (ho : o = sp_r7 (some p) (some q)) (k : ∀ r S', rd_P S LT LM NT NM FS o r S' → F r S') : kK (d + 6) m_Mo_logical [.inr 39, .inl 7, .inl (kn a), .inl (kn c)] S1 (kq F) := by
  have hS := h.1.1
  have hl := hS.1.2.2.2.2.2.2.1
  obtain ⟨la, ⟨i, hi, ei⟩, _⟩ := rr_fact h.2.2.1 hp
  obtain ⟨lc, ⟨j, hj, ej⟩, _⟩ := rr_fact h.2.2.1 hq
  have eo : o = some (sp_eq p.1 q.1, sp_bt q.1 p.2 ++ sp_bt p.1 q.2) := ho
  have wp := hok.2 p (List.mem_of_getElem? hp)
  have wq := hok.2 q (List.mem_of_getElem? hq)
  have pl : ∀ (w : kF) (z : Nat), LM[z]? = some w → ∀ i t, LM[i]? = some t → (kn i = kn z ↔ t = w) := by
    intro w z hz i t hi
    constructor
    · intro e
      have := kn_inj (by have := rp_lt hi; omega) (by have := rp_lt hz; omega) e
      rw [this, hz] at hi
      injection hi with hi
      exact hi.symm
    · intro e
      rw [e] at hi
      rw [fo_ix hS.1.2.1 hi hz]
  refine g_Mo_logical ⟨fun _ => ?_, fun e => absurd (by decide) e⟩
  rw [kn_tn (by omega), kn_tn (by omega), ei, ej]
  refine ⟨kn_in la (by decide), kn_in lc (by decide), fun _ => rd_two (P1 := fun t => t = q.1) (P2 := fun t => t = p.1) h hp hq (pl _ _ hj) (pl _ _ hi) (fun U V hu => ?_) (fun S6 b6 D6 h6 i6 f6 => ?_), fun e => absurd (by decide) e⟩
  · rw [sp_bp_bt, sp_bp_bt]
    exact (rd_gi eo hu).2.2.1
  · rw [sp_bp_bt, sp_bp_bt] at h6
    refine rm_eqn h6.1 (rr_v_of hi hl) (rr_v_of hj hl) (fun _ => ⟨[], wp.1, wq.1⟩) (fun _ => by rw [wp.2.1, wq.2.1]) (fun U V hc hg => (rd_gi eo hg).1) (fun r9 S9 LT9 LM9 b9 J9 p9 p9' f9 q9 i9 v9 => ?_)
    exact k _ _ ⟨LT9, LM9, b9, D6, _, rz_mk h6 J9 p9' f9 i9, Or.inr ⟨_, eo, v9⟩⟩
theorem rp_10 {a c : Nat} {p q : kQ} {a3 : Int32} (h : rz S LT LM NT NM (rd_g o FS.length) FS S1 LT LM false [] []) (hok : sp_ok NM FS) (hp : FS[a]? = some p) (hq : FS[c]? = some q) (ho : o = sp_r10 (some p) (some q)) (k : ∀ r S', rd_P S LT LM NT NM FS o r S' → F r S') : kK (d + 6) m_Mo_replacing [.inr 39, .inl 10, .inl (kn a), .inl (kn c), .inl a3] S1 (kq F) := by
  have hS := h.1.1
  have hl := hS.1.2.2.2.2.2.2.1
  obtain ⟨la, ⟨i, hi, ei⟩, _⟩ := rr_fact h.2.2.1 hp
  obtain ⟨lc, ⟨j, hj, ej⟩, _⟩ := rr_fact h.2.2.1 hq
  have li := (rr_so hS hi).2.2
  have lj := (rr_so hS hj).2.2
  have wp := hok.2 p (List.mem_of_getElem? hp)
  have wq := hok.2 q (List.mem_of_getElem? hq)
  refine g_Mo_replacing (fun G hG => ⟨fun e => absurd rfl e, fun _ => ?_⟩)
  rw [kn_tn (by omega), kn_tn (by omega), ei]
  refine ⟨kn_in la (by decide), rm_isEq hS hi (fun l r hs => ⟨fun _ => ?_, fun e => absurd (by decide) e⟩) (fun hs => ⟨fun e => absurd rfl e, fun _ => k _ _ ⟨LT, LM, false, [], [], h, Or.inl ⟨rfl, ?_⟩⟩⟩)⟩
  · have eo : o = some (sp_iR l r q.1, p.2 ++ q.2) := by rw [ho]; simp [sp_r10, hs]
    obtain ⟨wl, wr, elr⟩ := sp_sd_wf hs wp.1
    refine rd_two0 h hp hq (fun U V hu => (rd_gi eo hu).2.2.1) (fun S6 b6 D6 h6 i6 f6 => ⟨kn_in lc (by decide), ?_⟩)
    have hS6 := h6.1.1
    refine rm_left hS6 hi hs (fun jl hjl => ⟨kn_in li (by decide), ?_⟩)
    obtain ⟨_, _, qa, _, _, _, _, ea, ha⟩ := rr_sides hS6 hi hs
    rw [kn_tn (by omega), ea, f6 _ _ (by omega), ej]
    refine rm_changed (hw := 4) h6.1 (Or.inr (Or.inr (Or.inl ⟨Or.inr rfl, rfl, jl, qa, l, r, hjl, ha, rfl, rfl, rfl, fun e => absurd e (by decide)⟩))) (rm_E_R wr elr.symm) hj wq.1 trivial (fun U V hc hg => (rd_gi eo hg).1) (fun r3 S3 LT3 LM3 b3 J3 p3 p3' f3 q3 i3 v3 => ?_)
    exact k _ _ ⟨LT3, LM3, b3, D6, _, rz_mk h6 J3 p3' f3 i3, Or.inr ⟨_, eo, v3⟩⟩
  · rw [ho]
    simp [sp_r10, hs]
end RRU3
