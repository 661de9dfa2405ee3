/-! ===== THE REFERENCE: the rules ===== -/
theorem rm_E_R {old put : kF} (hp : fo_wf [] put) (he : fo_ty put = fo_ty old) : rm_E (fo_sR old put) id 0 (fun _ _ => True) := ⟨fun _ _ _ _ => trivial, fun Γ _ u h _ => ⟨Γ, (fo_wf_R hp he h u).1⟩, fun _ _ _ _ => rfl⟩
theorem rm_E_A {n : Nat} {A : kF} (hA : fo_tw A) : rm_E (fo_sA (fo_lf 0 n A)) id 1 (fun Γ u => Γ.length = u) := ⟨(ch_E_A (n := n) hA).1, (ch_E_A (n := n) hA).2, fun e => absurd e (by decide)⟩
theorem rm_E_O {put : kF} (hp : fo_wf [] put) : rm_E (fo_sO put) id 1 (fun Γ u => ∃ Γ1, Γ = Γ1 ++ [fo_ty put] ∧ Γ1.length = u) := ⟨(ch_E_O hp).1, (ch_E_O hp).2, fun e => absurd e (by decide)⟩
theorem rm_E_T {v : Nat} {c : kF} (hv : 2 ≤ v ∧ v < 6) (hc : fo_tw c) : rm_E fo_sN (fo_rt v c) 0 (fun _ _ => True) := ⟨fun _ _ _ _ => trivial, (ch_E_T hv hc).2, fun _ _ _ _ => rfl⟩
/-- what a rule is on the way to -/
def rd_g (o : Option kQ) (n : Nat) : kU := fun U V => ∃ q, o = some q ∧ sp_g q.1 q.2 U V ∧ (sp_ds [] false q.2).2 = false ∧ n < 60
theorem rd_gi {o : Option kQ} {c : kF} {raw : List kF} {n : Nat} {U V : kF → Prop} (ho : o = some (c, raw)) (h : rd_g o n U V) : V c ∧ (∀ z, z ∈ raw → V z) ∧ (sp_ds [] false raw).2 = false ∧ n < 60 := by
  obtain ⟨q, h1, h2, h3, h4⟩ := h
  rw [ho] at h1
  injection h1 with h1
  subst h1
  exact ⟨h2.1, h2.2, h3, h4⟩
theorem rd_gn {LT LM : List kF} {o : Option kQ} {n : Nat} (ho : o = none) : fo_no LT LM (rd_g o n) := fun U V _ _ _ _ ⟨q, h1, _⟩ => by rw [ho] at h1; cases h1
/-- where a rule's body ends -/
def rd_P (S : kS) (LT LM NT NM : List kF) (FS : List kQ) (o : Option kQ) (r : Int32) (S2 : kS) : Prop := ∃ LT2 LM2 b2 D2 don2, rz S LT LM NT NM (rd_g o FS.length) FS S2 LT2 LM2 b2 D2 don2 ∧ ((r = -1 ∧ o = none) ∨ ∃ c, o = some (c, don2) ∧ rr_v LM2 250 b2 c r)
theorem rr_nM {S : kS} {LT LM NT NM : List kF} (hS : rr_S S LT LM NT NM) {m : Nat} {t : kF} (h : NM[m]? = some t) : m < 250 ∧ ∃ i, i < 250 ∧ LM[i]? = some t ∧ S 53 m = kn i := by
  have hN := hS.2.2.2.2.2.2.2
  have hl := hS.1.2.2.2.2.2.2.1
  have := rp_N_len hN
  have := rp_lt h
  obtain ⟨k, hk, e⟩ := hN.2.1 m t h
  have := rp_lt hk
  exact ⟨by omega, k, by omega, hk, e⟩
theorem rr_nT {S : kS} {LT LM NT NM : List kF} (hS : rr_S S LT LM NT NM) {m : Nat} {t : kF} (h : NT[m]? = some t) : m < 50 ∧ ∃ i, i < 50 ∧ LT[i]? = some t ∧ S 46 m = kn i := by
  have hN := hS.2.2.2.2.2.2.1
  have hl := hS.1.2.2.2.2.2.1
  have := rp_N_len hN
  have := rp_lt h
  obtain ⟨k, hk, e⟩ := hN.2.1 m t h
  have := rp_lt hk
  exact ⟨by omega, k, by omega, hk, e⟩
section RRU
variable {d : Nat} {S : kS} {LT LM NT NM : List kF} {g : kU} {FS : List kQ} {S1 : kS} {LT1 LM1 : List kF} {b : Bool} {D don : List kF}
theorem rd_two {a c : Nat} {p q : kQ} {y1 y2 : Int32} {P1 P2 : kF → Prop} {F : kS → Prop} (h : rz S LT LM NT NM g FS S1 LT1 LM1 b [] []) (hp : FS[a]? = some p) (hq : FS[c]? = some q) (hP1 : ∀ i t, LM1[i]? = some t → (kn i = y1 ↔ P1 t)) (hP2 : ∀ i t, LM1[i]? = some t → (kn i = y2 ↔ P2 t)) (hg : ∀ U V, g U V → (sp_ds [] false (sp_bp P1 p.2 ++ sp_bp P2 q.2)).2 = false) (k : ∀ S2 b2 D2, rz S LT LM NT NM g FS S2 LT1 LM1 b2 D2 (sp_bp P1 p.2 ++ sp_bp P2 q.2) → (b2 = false → b = false) → (∀ o i, ¬ (o = 57 ∨ (o = 39 ∧ (i = 24 ∨ i = 33))) → S2 o i = S1 o i) → F S2) : kK (d + 2) m_Mo_assumeAll [.inr 39, .inl (kn a), .inl y1] S1 (kv fun S5 => kK (d + 2) m_Mo_assumeAll [.inr 39, .inl (kn c), .inl y2] S5 (kv F)) :=
  rm_assumeAll h hp hP1 (fun U V hu => ⟨_, hg U V hu⟩) (fun S2 b2 D2 h2 i2 f2 => rm_assumeAll h2 hq hP2 (fun U V hu => ⟨[], by rw [List.append_nil]; exact hg U V hu⟩) (fun S3 b3 D3 h3 i3 f3 => k S3 b3 D3 h3 (fun z => i2 (i3 z)) (fun o i ho => (f3 o i ho).trans (f2 o i ho))))
theorem rd_m1 {L : List kF} (hl : L.length ≤ 250) : ∀ i t, L[i]? = some t → (kn i = -1 ↔ (fun _ : kF => False) t) := fun i t hi => ⟨fun e => kn_m1 (by have := rp_lt hi; omega) e, fun e => e.elim⟩
theorem rd_two0 {a c : Nat} {p q : kQ} {F : kS → Prop} (h : rz S LT LM NT NM g FS S1 LT1 LM1 b [] []) (hp : FS[a]? = some p) (hq : FS[c]? = some q) (hg : ∀ U V, g U V → (sp_ds [] false (p.2 ++ q.2)).2 = false) (k : ∀ S2 b2 D2, rz S LT LM NT NM g FS S2 LT1 LM1 b2 D2 (p.2 ++ q.2) → (b2 = false → b = false) → (∀ o i, ¬ (o = 57 ∨ (o = 39 ∧ (i = 24 ∨ i = 33))) → S2 o i = S1 o i) → F S2) : kK (d + 2) m_Mo_assumeAll [.inr 39, .inl (kn a), .inl (-1)] S1 (kv fun S5 => kK (d + 2) m_Mo_assumeAll [.inr 39, .inl (kn c), .inl (-1)] S5 (kv F)) := by
  have e : ∀ l : List kF, sp_bp (fun _ => False) l = l := sp_bp_none (fun _ e => e)
  have hl := h.1.1.1.2.2.2.2.2.2.1
  refine rd_two h hp hq (rd_m1 hl) (rd_m1 hl) ?_ ?_
  · rw [e, e]; exact hg
  · rw [e, e]; exact k
theorem rm_closedOver {i j n : Nat} {A t : kF} {F : Int32 → kS → Prop} (h : rr_J S LT LM NT NM g S1 LT1 LM1 b) (hx : LM1[i]? = some (fo_lf 0 n A)) (ht : LM1[j]? = some t) (wt : fo_wf [] t) (need : ∀ U V, fo_Cl U V → g U V → V (sp_iA (fo_lf 0 n A) t))
    (k : ∀ r S3 LT3 LM3 b3, rr_J S LT LM NT NM g S3 LT3 LM3 b3 → LT1 <+: LT3 → LM1 <+: LM3 → rr_FC S1 S3 → (b3 = false → b = false) → rr_v LM3 250 b3 (sp_iA (fo_lf 0 n A) t) r → F r S3) : kK (d + 5) m_Mo_closedOver [.inr 39, .inl (kn i), .inl (kn j)] S1 (kq F) := by
  obtain ⟨Γ0, w0⟩ := rr_wf h.1 hx
  have hA : fo_tw A := (fo_wf_ilf w0).1
  have li := (rr_so h.1 hx).2.2
  have hwi : fo_wf [] (sp_iA (fo_lf 0 n A) t) := (sp_iA_wf (n := n) hA wt).1
  refine g_Mo_closedOver (rm_changed (hw := 0) h (Or.inl ⟨rfl, rfl, i, _, hx, rfl, rfl, n, A, rfl⟩) (rm_E_A hA) ht wt rfl (fun U V hc hg => hc.2.2.2 _ _ (need U V hc hg)) (fun r S3 LT3 LM3 b3 J3 p3 p3' f3 q3 i3 v3 => ⟨kn_in li (by decide), ?_⟩))
  obtain ⟨_, ⟨y, hy, ey⟩, _⟩ := J3.1.2.2.2.2.1 i _ (rp_pre p3' hx)
  rw [kn_tn (by omega), ey]
  refine rm_abs J3 (rr_v_of hy J3.1.1.2.2.2.2.2.1) v3 (fun _ => ⟨[], hwi⟩) need (fun r4 S4 LT4 LM4 b4 J4 p4 p4' f4 q4 i4 v4 => ?_)
  exact k r4 S4 LT4 LM4 b4 J4 (p3.trans p4) (p3'.trans p4') (rr_FC_tr f3 f4) (fun z => i3 (i4 z)) v4
end RRU
section RRU2
variable {d : Nat} {S : kS} {LT LM NT NM : List kF} {FS : List kQ} {S1 : kS} {o : Option kQ} {F : Int32 → kS → Prop}
theorem re_0 {m : Nat} {t : kF} {a2 : Int32} (h : rz S LT LM NT NM (rd_g o FS.length) FS S1 LT LM false [] []) (hok : sp_ok NM FS) (hm : NM[m]? = some t) (ho : o = sp_r0 (some t)) (k : ∀ r S', rd_P S LT LM NT NM FS o r S' → F r S') : kK (d + 6) m_Mo_equal [.inr 39, .inl 0, .inl (kn m), .inl a2] S1 (kq F) := by
  have hS := h.1.1
  have hl := hS.1.2.2.2.2.2.2.1
  obtain ⟨lm, i, li, hi, ei⟩ := rr_nM hS hm
  have wt := hok.1 t (rp_mem hm)
  have ho2 : o = some (sp_eq t t, []) := ho
  refine g_Mo_equal (fun G hG => ⟨fun e => absurd rfl e, fun _ => ?_⟩)
  rw [kn_tn (by omega), ei]
  exact ⟨kn_in lm (by decide), kn_in lm (by decide), rm_eqn h.1 (rr_v_of hi hl) (rr_v_of hi hl) (fun _ => ⟨[], wt, wt⟩) (fun _ => rfl) (fun U V hc hg => (rd_gi ho2 hg).1) (fun r S2 LT2 LM2 b2 J2 p2 p2' f2 q2 i2 v2 => k r S2 ⟨LT2, LM2, b2, [], [], rz_mk h J2 p2' f2 i2, Or.inr ⟨_, ho2, v2⟩⟩)⟩
theorem re_12 {op : Int32} {a c : Nat} {p q : kQ} (hop : op = 1 ∨ op = 2) (h : rz S LT LM NT NM (rd_g o FS.length) FS S1 LT LM false [] []) (hok : sp_ok NM FS) (hp : FS[a]? = some p) (hq : FS[c]? = some q) (ho1 : op = 1 → o = sp_r1 (some p) (some q)) (ho2 : op = 2 → o = sp_r2 (some p) (some q)) (k : ∀ r S', rd_P S LT LM NT NM FS o r S' → F r S') : kK (d + 6) m_Mo_equal [.inr 39, .inl op, .inl (kn a), .inl (kn c)] S1 (kq F) := by
  have hS := h.1.1
  have hl := hS.1.2.2.2.2.2.2.1
  obtain ⟨la, ⟨i, hi, ei⟩, _⟩ := rr_fact h.2.2.1 hp
  obtain ⟨lc, ⟨j, hj, ej⟩, _⟩ := rr_fact h.2.2.1 hq
  have li := (rr_so hS hi).2.2
  have lj := (rr_so hS hj).2.2
  have fail : ∀ (S2 : kS) (LT2 LM2 : List kF) (b2 : Bool) (D2 don2 : List kF), rz S LT LM NT NM (rd_g o FS.length) FS S2 LT2 LM2 b2 D2 don2 → o = none → F (-1) S2 := fun S2 LT2 LM2 b2 D2 don2 h2 e => k _ _ ⟨LT2, LM2, b2, D2, don2, h2, Or.inl ⟨rfl, e⟩⟩
  have n0 : ¬ op = 0 := by rcases hop with z | z <;> rw [z] <;> decide
  have n4 : ¬ op = 4 := by rcases hop with z | z <;> rw [z] <;> decide
  have n3 : ¬ op = 3 := by rcases hop with z | z <;> rw [z] <;> decide
  refine g_Mo_equal (fun G hG => ⟨fun _ => ⟨fun _ => ?_, fun e => absurd n4 e⟩, fun e => absurd n0 e⟩)
  rw [kn_tn (by omega), kn_tn (by omega), ej]
  have none1 : sp_sd p.1 = none ∨ sp_sd q.1 = none → o = none := fun e => by
    have e' : (some p : Option kQ).bind (fun q => sp_sd q.1) = none ∨ (some q : Option kQ).bind (fun q => sp_sd q.1) = none := e
    rcases hop with z | z
    · rw [ho1 z]; exact sp_r1_n e'
    · rw [ho2 z]; exact sp_r2_n e'
  refine ⟨kn_in lc (by decide), rm_isEq hS hj (fun l' r' hs' => ⟨fun _ => ⟨fun _ => ⟨kn_in la (by decide), ?_⟩, fun e => absurd n3 e⟩, fun e => absurd (by decide) e⟩) (fun hs' => ⟨fun e => absurd rfl e, fun _ => fail _ _ _ _ _ _ h (none1 (Or.inr hs'))⟩)⟩
  rw [ei]
  refine rm_isEq hS hi (fun l r hs => ⟨fun _ => ?_, fun e => absurd (by decide) e⟩) (fun hs => ⟨fun e => absurd rfl e, fun _ => fail _ _ _ _ _ _ h (none1 (Or.inl hs))⟩)
  have e1 : op = 1 → o = sp_if (r = l') (some (sp_eq l r', p.2 ++ q.2)) := fun z => by rw [ho1 z]; simp [sp_r1, hs, hs']
  have e2 : op = 2 → o = sp_if (∃ B, fo_ty l = fo_ar (fo_ty l') B) (some (sp_eq (fo_ap l l') (fo_ap r r'), p.2 ++ q.2)) := fun z => by rw [ho2 z]; simp [sp_r2, hs, hs']
  obtain ⟨wl, wr, elr⟩ := sp_sd_wf hs (hok.2 p (List.mem_of_getElem? hp)).1
  obtain ⟨wl', wr', elr'⟩ := sp_sd_wf hs' (hok.2 q (List.mem_of_getElem? hq)).1
  refine rd_two0 h hp hq (fun U V hu => ?_) (fun S6 b6 D6 h6 i6 f6 => ⟨fun en1 => ?_, fun en1 => ?_⟩)
  · obtain ⟨w, hw, _, h3, _⟩ := hu
    rcases hop with z | z
    · rw [e1 z] at hw
      have := (sp_ifi hw).2
      injection this with this
      rw [← this] at h3; exact h3
    · rw [e2 z] at hw
      have := (sp_ifi hw).2
      injection this with this
      rw [← this] at h3; exact h3
  · have e2 := e2 (hop.resolve_left en1)
    have hS6 := h6.1.1
    refine rm_left hS6 hi hs (fun jl hjl => rm_left hS6 hj hs' (fun jl' hjl' => rm_fits hS6 hjl hjl' (fun B hB => ⟨fun _ => ?_, fun e => absurd (by decide) e⟩) (fun hn => ⟨fun e => absurd rfl e, fun _ => fail _ _ _ _ _ _ h6 ?_⟩)))
    · rw [sp_if_pos ⟨B, hB⟩] at e2
      have w1 : fo_wf [] (fo_ap l l') := fo_wf_ap wl wl' hB
      have hB2 : fo_ty r = fo_ar (fo_ty r') B := by rw [← elr, ← elr']; exact hB
      have w2 : fo_wf [] (fo_ap r r') := fo_wf_ap wr wr' hB2
      have et : fo_ty (fo_ap l l') = fo_ty (fo_ap r r') := by rw [fo_ty_ap, fo_ty_ap, hB, hB2, fo_cod_ar, fo_cod_ar]
      refine rm_left hS6 hi hs (fun jl hjl => rm_left hS6 hj hs' (fun jl' hjl' => rm_app h6.1 (rr_v_of hjl hl) (rr_v_of hjl' hl) (fun _ => ⟨[], w1⟩) (fun U V hc hg => (hc.2.2.1 _ _ (hc.2.2.1 _ _ (rd_gi e2 hg).1).1).2) (fun r7 S7 LM7 b7 J7 p7 f7 q7 i7 v7 => ⟨kn_in li (by decide), kn_in lj (by decide), ?_⟩)))
      obtain ⟨_, _, qa, _, _, _, _, ea, ha⟩ := rr_sides J7.1 (rp_pre p7 hi) hs
      obtain ⟨_, _, qb, _, _, _, _, eb, hb⟩ := rr_sides J7.1 (rp_pre p7 hj) hs'
      rw [kn_tn (by omega), kn_tn (by omega), ea, eb]
      have hl7 := J7.1.1.2.2.2.2.2.2.1
      refine rm_app J7 (rr_v_of ha hl7) (rr_v_of hb hl7) (fun _ => ⟨[], w2⟩) (fun U V hc hg => (hc.2.2.1 _ _ (rd_gi e2 hg).1).2) (fun r8 S8 LM8 b8 J8 p8 f8 q8 i8 v8 => ?_)
      refine rm_eqn J8 (rr_v_gr v7 p8 i8) v8 (fun _ => ⟨[], w1, w2⟩) (fun _ => et) (fun U V hc hg => (rd_gi e2 hg).1) (fun r9 S9 LT9 LM9 b9 J9 p9 p9' f9 q9 i9 v9 => ?_)
      exact k _ _ ⟨LT9, LM9, b9, D6, _, rz_mk h6 J9 (p7.trans (p8.trans p9')) (rr_FC_tr f7 (rr_FC_tr f8 f9)) (fun z => i7 (i8 (i9 z))), Or.inr ⟨_, e2, v9⟩⟩
    · rw [e2, sp_if_neg (fun ⟨B, hB⟩ => hn B hB)]
  · have e1 := e1 (Classical.not_not.mp en1)
    have hS6 := h6.1.1
    obtain ⟨_, _, qa, _, _, _, _, ea, ha⟩ := rr_sides hS6 hi hs
    obtain ⟨_, _, qb, _, _, _, _, eb, hb⟩ := rr_sides hS6 hj hs'
    rw [kn_tn (by omega), kn_tn (by omega), ea]
    refine ⟨kn_in li (by decide), rm_left hS6 hj hs' (fun jl' hjl' => ⟨fun e => fail _ _ _ _ _ _ h6 ?_, fun e => rm_left hS6 hi hs (fun jl hjl => ⟨kn_in lj (by decide), ?_⟩)⟩)⟩
    · rw [e1, sp_if_neg (fun z => e (by rw [z] at ha; rw [fo_ix hS6.1.2.1 ha hjl']))]
    · have e := kn_inj (by have := rp_lt ha; omega) (by have := rp_lt hjl'; omega) (Classical.not_not.mp e)
      rw [e, hjl'] at ha
      injection ha with ha
      rw [sp_if_pos ha.symm] at e1
      rw [eb]
      refine rm_eqn h6.1 (rr_v_of hjl hl) (rr_v_of hb hl) (fun _ => ⟨[], wl, wr'⟩) (fun _ => by rw [elr, ← ha, elr']) (fun U V hc hg => (rd_gi e1 hg).1) (fun r9 S9 LT9 LM9 b9 J9 p9 p9' f9 q9 i9 v9 => ?_)
      exact k _ _ ⟨LT9, LM9, b9, D6, _, rz_mk h6 J9 p9' f9 i9, Or.inr ⟨_, e1, v9⟩⟩
theorem re_4 {m : Nat} {t : kF} {a2 : Int32} (h : rz S LT LM NT NM (rd_g o FS.length) FS S1 LT LM false [] []) (hok : sp_ok NM FS) (hm : NM[m]? = some t) (ho : o = sp_r4 (some t)) (k : ∀ r S', rd_P S LT LM NT NM FS o r S' → F r S') : kK (d + 6) m_Mo_equal [.inr 39, .inl 4, .inl (kn m), .inl a2] S1 (kq F) := by
  have hS := h.1.1
  have hl := hS.1.2.2.2.2.2.2.1
  obtain ⟨lm, i, li, hi, ei⟩ := rr_nM hS hm
  have wt := hok.1 t (rp_mem hm)
  have fail : o = none → F (-1) S1 := fun e => k _ _ ⟨LT, LM, false, [], [], h, Or.inl ⟨rfl, e⟩⟩
  refine g_Mo_equal (fun G hG => ⟨fun _ => ⟨fun e => absurd rfl e, fun _ => ?_⟩, fun e => absurd (by decide) e⟩)
  rw [kn_tn (by omega), ei, kn_tn (by omega)]
  have hin : vp_in (kn i) 250 := kn_in li (by decide)
  refine ⟨kn_in lm (by decide), hin, fun e => fail ?_, fun e => ?_⟩
  · have : sp_fa t = none := by
      rcases fo_wf_cases wt with ⟨s, n, A, rfl, _⟩ | ⟨g, x, _, rfl, _⟩ | ⟨A, b, rfl, _⟩
      · rfl
      · exact absurd (rr_so hS hi).1 e
      · rfl
    rw [ho]
    show (sp_fa t).bind _ = none
    rw [this]; rfl
  · obtain ⟨f, u, ja, jc, rfl, ha, hc, e1, e2, la, lc⟩ := rr_ap hS hi (Classical.not_not.mp e)
    have lia := (rr_so hS ha).2.2
    obtain ⟨wf, wu, ety⟩ := fo_wf_iap wt
    have hina : vp_in (kn ja) 250 := kn_in lia (by decide)
    rw [e1, kn_tn (by omega), (rr_so hS ha).1]
    refine ⟨hin, hina, fun e => ⟨hin, hina, hin, ?_⟩, fun e => fail ?_⟩
    · have h6 := (rr_so hS ha).2.1
      obtain ⟨A, b, rfl⟩ := fo_so_4 wf (kn_inj (m := 4) (by omega) (by decide) e)
      obtain ⟨hA, wb⟩ := fo_wf_iab wf
      rw [fo_ty_ab] at ety
      have eA := (fo_ar_inj ety).1
      have eB := (fo_ar_inj ety).2
      subst eA
      have wO := fo_wf_O (Γ := []) wu wb
      have wO1 : fo_wf [] (sp_iO u b) := wO.1
      have wO2 : fo_ty (sp_iO u b) = fo_ty b := wO.2
      obtain ⟨_, jt, jb, _, lb, hb, _, e4⟩ := (hS.2.2.2.2.1 ja _ ha).2.2.2.2.2 _ b rfl
      have ho2 : o = some (sp_eq (fo_ap (fo_ab (fo_ty u) b) u) (sp_iO u b), []) := ho
      rw [e4, e2]
      refine rm_changed (hw := 1) (x := 0) (c := kn jc) h.1 (Or.inr (Or.inl ⟨rfl, rfl, jc, u, hc, rfl, rfl⟩)) (rm_E_O wu) hb wb ⟨[], rfl, rfl⟩ (fun U V hcl hg => (hcl.2.2.1 _ _ (rd_gi ho2 hg).1).2) (fun r3 S3 LT3 LM3 b3 J3 p3 p3' f3 q3 i3 v3 => ?_)
      refine rm_eqn J3 (rr_v_of (rp_pre p3' hi) J3.1.1.2.2.2.2.2.2.1) v3 (fun _ => ⟨[], wt, wO1⟩) (fun _ => ?_) (fun U V hc hg => (rd_gi ho2 hg).1) (fun r9 S9 LT9 LM9 b9 J9 p9 p9' f9 q9 i9 v9 => ?_)
      · show _ = fo_ty (sp_iO u b)
        rw [wO2, eB]
      · exact k _ _ ⟨LT9, LM9, b9, [], [], rz_mk h J9 (p3'.trans p9') (rr_FC_tr f3 f9) (fun z => i3 (i9 z)), Or.inr ⟨_, ho2, v9⟩⟩
    · have : sp_bd f = none := by
        rcases fo_wf_cases wf with ⟨s, n, A, rfl, _⟩ | ⟨g, x, _, rfl, _⟩ | ⟨A, b, rfl, _⟩
        · rfl
        · rfl
        · exact absurd rfl e
      rw [ho]
      show (sp_bd f).bind _ = none
      rw [this]; rfl
end RRU2
