/-! ===== THE CLASS: a new type ===== -/
def nt_J (S : kS) (LT LM NT NM : List kF) (τ : Nat) (g : kU) (S1 : kS) (LT1 LM1 : List kF) (FS1 : List kQ) : Prop := rc_W S1 LT1 LM1 FS1 NT NM ∧ LT <+: LT1 ∧ LM <+: LM1 ∧ rc_FR S S1 ∧ ch_Z S1 τ ∧ (fo_mn LT LM LT1 LM1 g ∨ fo_no LT LM g)
/-- a place of v, or a refusal for want of room -/
def nt_O (LT LM : List kF) (g : kU) (L1 : List kF) (v : kF) (r : Int32) : Prop := (∃ i, L1[i]? = some v ∧ r = kn i) ∨ (r = -1 ∧ fo_no LT LM g)
theorem nt_O_gr {LT LM : List kF} {g : kU} {L1 L2 : List kF} {v : kF} {r : Int32} (h : nt_O LT LM g L1 v r) (p : L1 <+: L2) : nt_O LT LM g L2 v r := by
  rcases h with ⟨i, hi, e⟩ | h
  · exact Or.inl ⟨i, rp_pre p hi, e⟩
  · exact Or.inr h
theorem nt_gr {S : kS} {LT LM NT NM : List kF} {τ : Nat} {g : kU} {S1 : kS} {LT1 LM1 : List kF} {FS1 : List kQ} {S2 : kS} {LT2 LM2 : List kF} (h : nt_J S LT LM NT NM τ g S1 LT1 LM1 FS1) (q : rc_gr S1 LT1 LM1 S2 LT2 LM2) (m : fo_mn LT LM LT2 LM2 g ∨ fo_no LT LM g) : nt_J S LT LM NT NM τ g S2 LT2 LM2 FS1 :=
  ⟨rc_W_gr h.1 q.1 q.2.1 q.2.2.1 (rc_FC_of q.2.2.2), h.2.1.trans q.2.1, h.2.2.1.trans q.2.2.1, rc_FR_tr h.2.2.2.1 (rc_FR_c (rc_FC_of q.2.2.2)), ch_Z_fm h.2.2.2.2.1 q.2.2.2, m⟩
/-- one more needed thing: what it does to least and none -/
theorem nt_mn {LT LM LT1 LM1 LT2 LM2 : List kF} {g g1 : kU} (h : fo_mn LT LM LT1 LM1 g ∨ fo_no LT LM g) (m : fo_mn LT1 LM1 LT2 LM2 g1) (k : ∀ U V, fo_Cl U V → g U V → g1 U V) : fo_mn LT LM LT2 LM2 g ∨ fo_no LT LM g := by
  rcases h with h | h
  · exact Or.inl (fo_mn_tr h m (fun _ _ _ q => q) k)
  · exact Or.inr h
theorem nt_no {LT LM LT1 LM1 : List kF} {g g1 : kU} (h : fo_mn LT LM LT1 LM1 g ∨ fo_no LT LM g) (n : fo_no LT1 LM1 g1) (k : ∀ U V, fo_Cl U V → g U V → g1 U V) : fo_no LT LM g := by
  rcases h with h | h
  · exact fo_no_2 h n (fun _ _ _ q => q) k
  · exact h
section NT
variable {d : Nat} {S : kS} {LT LM NT NM : List kF} {τ : Nat} {g : kU} {S1 : kS} {LT1 LM1 : List kF} {FS1 : List kQ} {F : Int32 → kS → Prop}
theorem nt_base {t : kF} {s a : Nat} (h : nt_J S LT LM NT NM τ g S1 LT1 LM1 FS1) (hq : rp_q 3 rc_b LT1 t s a 0) (hw : fo_tw t) (need : ∀ U V, fo_Cl U V → g U V → U t) (k : ∀ r S2 LT2, nt_J S LT LM NT NM τ g S2 LT2 LM1 FS1 → LT1 <+: LT2 → rc_FM S1 S2 → nt_O LT LM g LT2 t r → F r S2) : kK (d + 1) m_Ty_store [.inr 1, .inl (kn s), .inl (kn a), .inl 0] S1 (kq F) := by
  refine c_Ty_store h.1.1 hq hw (fun r S2 LT2 s2 p2 f2 e2 => ?_)
  have q : rc_gr S1 LT1 LM1 S2 LT2 LM1 := ⟨s2, p2, List.prefix_refl _, rc_FM_of f2⟩
  rcases e2 with ⟨i, hi, rfl, m⟩ | ⟨rfl, n⟩
  · exact k _ _ _ (nt_gr h q (nt_mn h.2.2.2.2.2 m need)) p2 (rc_FM_of f2) (Or.inl ⟨i, hi, rfl⟩)
  · have nn := nt_no h.2.2.2.2.2 n need
    exact k _ _ _ (nt_gr h q (Or.inr nn)) p2 (rc_FM_of f2) (Or.inr ⟨rfl, nn⟩)
theorem nt_arrow {a b : kF} {r1 r2 : Int32} (h : nt_J S LT LM NT NM τ g S1 LT1 LM1 FS1) (ha : nt_O LT LM g LT1 a r1) (hb : nt_O LT LM g LT1 b r2) (need : ∀ U V, fo_Cl U V → g U V → U (fo_ar a b)) (k : ∀ r S2 LT2, nt_J S LT LM NT NM τ g S2 LT2 LM1 FS1 → LT1 <+: LT2 → rc_FM S1 S2 → nt_O LT LM g LT2 (fo_ar a b) r → F r S2) : kK (d + 1) m_Ty_store [.inr 1, .inl 3, .inl r1, .inl r2] S1 (kq F) := by
  rcases ha with ⟨i, hi, rfl⟩ | ⟨rfl, n⟩
  · rcases hb with ⟨j, hj, rfl⟩ | ⟨rfl, n⟩
    · refine c_Ty_store (t := fo_ar a b) (s := 3) h.1.1 (Or.inr ⟨a, b, rfl, rfl, hi, hj⟩) (fo_tw_ar (h.1.1.1.2.2.2.1 a (rp_mem hi)).1 (h.1.1.1.2.2.2.1 b (rp_mem hj)).1) (fun r S2 LT2 s2 p2 f2 e2 => ?_)
      have q : rc_gr S1 LT1 LM1 S2 LT2 LM1 := ⟨s2, p2, List.prefix_refl _, rc_FM_of f2⟩
      rcases e2 with ⟨i, hi, rfl, m⟩ | ⟨rfl, n⟩
      · exact k _ _ _ (nt_gr h q (nt_mn h.2.2.2.2.2 m need)) p2 (rc_FM_of f2) (Or.inl ⟨i, hi, rfl⟩)
      · have nn := nt_no h.2.2.2.2.2 n need
        exact k _ _ _ (nt_gr h q (Or.inr nn)) p2 (rc_FM_of f2) (Or.inr ⟨rfl, nn⟩)
    · exact c_Ty_store_no (Or.inr kn_m1lt) (k _ _ _ h (List.prefix_refl _) rc_FM_rf (Or.inr ⟨rfl, n⟩))
  · exact c_Ty_store_no (Or.inl kn_m1lt) (k _ _ _ h (List.prefix_refl _) rc_FM_rf (Or.inr ⟨rfl, n⟩))
theorem nt_leaf {s n : Nat} {A : kF} {r1 : Int32} (h : nt_J S LT LM NT NM τ g S1 LT1 LM1 FS1) (hA : nt_O LT LM g LT1 A r1) (hs : s = 0 ∨ s = 2) (hn : n < 8) (hg : s = 2 → fo_gt A = false) (hw : fo_tw A) (need : ∀ U V, fo_Cl U V → g U V → V (fo_lf s n A)) (k : ∀ r S2 LM2, nt_J S LT LM NT NM τ g S2 LT1 LM2 FS1 → LM1 <+: LM2 → rc_FM S1 S2 → nt_O LT LM g LM2 (fo_lf s n A) r → F r S2) : kK (d + 1) m_Te_store [.inr 10, .inl (kn s), .inl (kn n), .inl 0, .inl r1] S1 (kq F) := by
  rcases hA with ⟨i, hi, rfl⟩ | ⟨rfl, nn⟩
  · refine c_Te_store (t := fo_lf s n A) h.1.1 ⟨hi, Or.inl ⟨A, rfl, rfl, by omega, by omega⟩⟩ ⟨[], fo_wf_lf ⟨hw, ?_⟩⟩ (fun r S2 LM2 s2 p2 f2 e2 => ?_)
    · rcases hs with hs | hs
      · exact Or.inl ⟨hs, hn⟩
      · exact Or.inr (Or.inr (Or.inl ⟨hs, hn, hg hs⟩))
    · have q : rc_gr S1 LT1 LM1 S2 LT1 LM2 := ⟨s2, List.prefix_refl _, p2, f2⟩
      rcases e2 with ⟨i, hi, rfl, m⟩ | ⟨rfl, n⟩
      · exact k _ _ _ (nt_gr h q (nt_mn h.2.2.2.2.2 m need)) p2 f2 (Or.inl ⟨i, hi, rfl⟩)
      · have nn := nt_no h.2.2.2.2.2 n need
        exact k _ _ _ (nt_gr h q (Or.inr nn)) p2 f2 (Or.inr ⟨rfl, nn⟩)
  · exact c_Te_store_no kn_m1lt (k _ _ _ h (List.prefix_refl _) rc_FM_rf (Or.inr ⟨rfl, nn⟩))
theorem nt_app {f x : kF} {r1 r2 : Int32} (h : nt_J S LT LM NT NM τ g S1 LT1 LM1 FS1) (hf : nt_O LT LM g LM1 f r1) (hx : nt_O LT LM g LM1 x r2) (hw : fo_wf [] (fo_ap f x)) (need : ∀ U V, fo_Cl U V → g U V → V (fo_ap f x)) (k : ∀ r S2 LM2, nt_J S LT LM NT NM τ g S2 LT1 LM2 FS1 → LM1 <+: LM2 → rc_FM S1 S2 → nt_O LT LM g LM2 (fo_ap f x) r → F r S2) : kK (d + 2) m_Te_application [.inr 10, .inl r1, .inl r2] S1 (kq F) := by
  rcases hf with ⟨i, hi, rfl⟩ | ⟨rfl, nn⟩
  · rcases hx with ⟨j, hj, rfl⟩ | ⟨rfl, nn⟩
    · refine c_Te_application h.1.1 hi hj ⟨[], hw⟩ (fun r S2 LM2 q e2 => ?_)
      rcases e2 with ⟨i, hi, rfl, m⟩ | ⟨rfl, n⟩
      · exact k _ _ _ (nt_gr h q (nt_mn h.2.2.2.2.2 m need)) q.2.2.1 q.2.2.2 (Or.inl ⟨i, hi, rfl⟩)
      · have nn := nt_no h.2.2.2.2.2 n need
        exact k _ _ _ (nt_gr h q (Or.inr nn)) q.2.2.1 q.2.2.2 (Or.inr ⟨rfl, nn⟩)
    · exact c_Te_application_no (Or.inr kn_m1lt) (k _ _ _ h (List.prefix_refl _) rc_FM_rf (Or.inr ⟨rfl, nn⟩))
  · exact c_Te_application_no (Or.inl kn_m1lt) (k _ _ _ h (List.prefix_refl _) rc_FM_rf (Or.inr ⟨rfl, nn⟩))
theorem nt_eqn {x y : kF} {r1 r2 : Int32} (h : nt_J S LT LM NT NM τ g S1 LT1 LM1 FS1) (hx : nt_O LT LM g LM1 x r1) (hy : nt_O LT LM g LM1 y r2) (wx : fo_wf [] x) (wy : fo_wf [] y) (e : fo_ty x = fo_ty y) (need : ∀ U V, fo_Cl U V → g U V → V (sp_eq x y)) (k : ∀ r S2 LT2 LM2, nt_J S LT LM NT NM τ g S2 LT2 LM2 FS1 → LT1 <+: LT2 → LM1 <+: LM2 → rc_FM S1 S2 → nt_O LT LM g LM2 (sp_eq x y) r → F r S2) : kK (d + 3) m_Te_equation [.inr 10, .inl r1, .inl r2] S1 (kq F) := by
  rcases hx with ⟨i, hi, rfl⟩ | ⟨rfl, nn⟩
  · rcases hy with ⟨j, hj, rfl⟩ | ⟨rfl, nn⟩
    · refine c_Te_equation h.1.1 hi hj ⟨[], wx, wy⟩ e (fun r S2 LT2 LM2 q e2 => ?_)
      rcases e2 with ⟨i, hi, rfl, m⟩ | ⟨rfl, n⟩
      · exact k _ _ _ _ (nt_gr h q (nt_mn h.2.2.2.2.2 m need)) q.2.1 q.2.2.1 q.2.2.2 (Or.inl ⟨i, hi, rfl⟩)
      · have nn := nt_no h.2.2.2.2.2 n need
        exact k _ _ _ _ (nt_gr h q (Or.inr nn)) q.2.1 q.2.2.1 q.2.2.2 (Or.inr ⟨rfl, nn⟩)
    · exact c_Te_equation_nr h.1.1 hi kn_m1lt (fun S2 LT2 LM2 q => k _ _ _ _ (nt_gr h q (Or.inr nn)) q.2.1 q.2.2.1 q.2.2.2 (Or.inr ⟨rfl, nn⟩))
  · exact c_Te_equation_no kn_m1lt (k _ _ _ _ h (List.prefix_refl _) (List.prefix_refl _) rc_FM_rf (Or.inr ⟨rfl, nn⟩))
theorem nt_close {v : kF} {r : Int32} (h : nt_J S LT LM NT NM τ g S1 LT1 LM1 FS1) (hD : rc_D S1 LM1 [] false) (hv : nt_O LT LM g LM1 v r) (k : ∀ r' S2 FS2, nt_J S LT LM NT NM τ g S2 LT1 LM1 FS2 → rc_D S2 LM1 [] false → (v ∈ LM1 ∧ FS1.length < 60 ∧ r' = kn FS1.length ∧ FS2 = FS1 ++ [(v, [])] ∨ r' = -1 ∧ FS2 = FS1 ∧ (60 ≤ FS1.length ∨ fo_no LT LM g)) → F r' S2) : kK (d + 1) m_Fa_close [.inr 25, .inl r] S1 (kq F) := by
  rcases hv with ⟨i, hi, rfl⟩ | ⟨rfl, nn⟩
  · refine c_Fa_close h.1 hD hi (fun _ hlt S2 fr w2 => ?_) (fun e => k _ _ _ h hD (Or.inr ⟨rfl, rfl, ?_⟩))
    · have hf : rc_FR S1 S2 := fun o j q => fr o j (fun e => q (by unfold rc_cr; omega))
      refine k _ _ _ ⟨w2, h.2.1, h.2.2.1, rc_FR_tr h.2.2.2.1 hf, ch_Z_fr h.2.2.2.2.1 (fr _ _ (by omega)) (fun _ => fr _ _ (by omega)) (fun _ => fr _ _ (by omega)), h.2.2.2.2.2⟩ ⟨(fr _ _ (by omega)).trans hD.1, (fr _ _ (by omega)).trans hD.2.1, rp_D_grow hD.2.2 (List.prefix_refl _) (funext fun _ => fr _ _ (by omega))⟩ (Or.inl ⟨rp_mem hi, hlt, rfl, rfl⟩)
    · rcases e with e | e
      · cases e
      · exact Or.inl e
  · exact c_Fa_close_no kn_m1lt (k _ _ _ h hD (Or.inr ⟨rfl, rfl, Or.inr nn⟩))
end NT
/-- what the two facts hold -/
theorem nt_need {n : Nat} {A T p : kF} {U V : kF → Prop} (hc : fo_Cl U V) (h : sp_g2 (sp_f1 n A T) (sp_f2 n A T p) U V) :
    (U (fo_ar A T) ∧ U T ∧ V (sp_up n A T) ∧ U (fo_ar T A) ∧ V (sp_up (n + 1) T A) ∧ V (fo_lf 0 0 T) ∧ V (fo_lf 0 0 A)) ∧
    (V (fo_ap (sp_up (n + 1) T A) (fo_lf 0 0 T)) ∧ V (fo_ap (sp_up n A T) (fo_ap (sp_up (n + 1) T A) (fo_lf 0 0 T))) ∧ V (sp_f1 n A T)) ∧
    (V (fo_ap (sp_up n A T) (fo_lf 0 0 A)) ∧ V (fo_ap (sp_up (n + 1) T A) (fo_ap (sp_up n A T) (fo_lf 0 0 A))) ∧ V (sp_eq (fo_ap (sp_up (n + 1) T A) (fo_ap (sp_up n A T) (fo_lf 0 0 A))) (fo_lf 0 0 A))) ∧
    (V (fo_ap p (fo_lf 0 0 A)) ∧ V (sp_f2 n A T p)) := by
  obtain ⟨h1, h2⟩ := h
  have a1 := hc.2.2.1 _ _ h1
  have a2 := hc.2.2.1 _ _ a1.1
  have a3 := hc.2.2.1 _ _ a2.2
  have a4 := hc.2.2.1 _ _ a3.2
  have b1 := hc.2.2.1 _ _ h2
  have b2 := hc.2.2.1 _ _ b1.1
  have b3 := hc.2.2.1 _ _ b1.2
  have b4 := hc.2.2.1 _ _ b3.1
  have b5 := hc.2.2.1 _ _ b4.2
  have b6 := hc.2.2.1 _ _ b5.2
  have u1 := hc.2.1 _ a3.1
  have u2 := hc.2.1 _ a4.1
  exact ⟨⟨u1, (hc.1 _ _ u1).2, a3.1, u2, a4.1, a4.2, b6.2⟩, ⟨a3.2, a2.2, h1⟩, ⟨b5.2, b4.2, b1.2⟩, ⟨b2.2, h2⟩⟩
set_option maxHeartbeats 2000000 in
theorem c_K_newTypeFacts {d : Nat} {S : kS} {M : kO} {τ : Nat} {LT LM : List kF} {ip ia : Nat} {p A : kF} {F : Int32 → kS → Prop} (hQ : rc_Q S M τ LT LM) (hp : LM[ip]? = some p) (hA : LT[ia]? = some A) (wp : fo_wf [] p) (tp : fo_ty p = fo_ar A (fo_tb 0)) (hg : fo_gt A = false) (hc : sm_c M + 2 ≤ 8) (hd : sm_d M < 3)
    (k : ∀ r S' LT' LM' FS', nt_J S LT LM (sm_nT M) (sm_nM M) τ (sp_g2 (sp_f1 (sm_c M) A (fo_tb (6 + sm_d M))) (sp_f2 (sm_c M) A (fo_tb (6 + sm_d M)) p)) S' LT' LM' FS' → sm_F M <+: FS' →
      (r = kn (sm_F M).length ∧ FS' = sm_F M ++ [(sp_f1 (sm_c M) A (fo_tb (6 + sm_d M)), []), (sp_f2 (sm_c M) A (fo_tb (6 + sm_d M)) p, [])] ∧ (sm_F M).length + 2 ≤ 60 ∧ sp_f1 (sm_c M) A (fo_tb (6 + sm_d M)) ∈ LM' ∧ sp_f2 (sm_c M) A (fo_tb (6 + sm_d M)) p ∈ LM' ∨ r = -1 ∧ (60 < (sm_F M).length + 2 ∨ fo_no LT LM (sp_g2 (sp_f1 (sm_c M) A (fo_tb (6 + sm_d M))) (sp_f2 (sm_c M) A (fo_tb (6 + sm_d M)) p)))) → F r S') :
    kK (d + 4) m_K_newTypeFacts [.inr 0, .inl (kn ip), .inl (kn ia)] S (kq F) := by
  obtain ⟨hW, hK, hZ, hT, hM, hX⟩ := hQ
  generalize hgg : sp_g2 (sp_f1 (sm_c M) A (fo_tb (6 + sm_d M))) (sp_f2 (sm_c M) A (fo_tb (6 + sm_d M)) p) = g at k
  have need : ∀ U V, fo_Cl U V → g U V → _ := fun U V hcl hh => nt_need (U := U) (V := V) hcl (by rw [hgg]; exact hh)
  generalize hTT : fo_tb (6 + sm_d M) = T at k need
  have wA : fo_tw A := (hW.1.1.2.2.2.1 A (rp_mem hA)).1
  have wT : fo_tw T := by rw [← hTT]; exact fo_tw_tb (by omega)
  have gT : fo_gt T = false := by
    rw [← hTT]
    cases e : fo_gt (fo_tb (6 + sm_d M)) with
    | false => rfl
    | true => have := fo_gt_tb_iff.mp e; omega
  have gAT : fo_gt (fo_ar A T) = false := by rw [fo_gt_ar, hg, gT]; rfl
  have gTA : fo_gt (fo_ar T A) = false := by rw [fo_gt_ar, hg, gT]; rfl
  have wup : fo_wf [] (sp_up (sm_c M) A T) := fo_wf_lf ⟨fo_tw_ar wA wT, Or.inr (Or.inr (Or.inl ⟨rfl, by omega, gAT⟩))⟩
  have wdn : fo_wf [] (sp_up (sm_c M + 1) T A) := fo_wf_lf ⟨fo_tw_ar wT wA, Or.inr (Or.inr (Or.inl ⟨rfl, by omega, gTA⟩))⟩
  have wv : fo_wf [] (fo_lf 0 0 T) := fo_wf_lf ⟨wT, Or.inl ⟨rfl, by omega⟩⟩
  have ww : fo_wf [] (fo_lf 0 0 A) := fo_wf_lf ⟨wA, Or.inl ⟨rfl, by omega⟩⟩
  have w16 : fo_wf [] (fo_ap (sp_up (sm_c M + 1) T A) (fo_lf 0 0 T)) := fo_wf_ap wdn wv rfl
  have w18 : fo_wf [] (fo_ap (sp_up (sm_c M) A T) (fo_ap (sp_up (sm_c M + 1) T A) (fo_lf 0 0 T))) := fo_wf_ap wup w16 rfl
  have w22 : fo_wf [] (fo_ap (sp_up (sm_c M) A T) (fo_lf 0 0 A)) := fo_wf_ap wup ww rfl
  have w24 : fo_wf [] (fo_ap (sp_up (sm_c M + 1) T A) (fo_ap (sp_up (sm_c M) A T) (fo_lf 0 0 A))) := fo_wf_ap wdn w22 rfl
  have w26 : fo_wf [] (sp_eq (fo_ap (sp_up (sm_c M + 1) T A) (fo_ap (sp_up (sm_c M) A T) (fo_lf 0 0 A))) (fo_lf 0 0 A)) := (sp_eq_wf w24 ww rfl).2
  have w31 : fo_wf [] (fo_ap p (fo_lf 0 0 A)) := fo_wf_ap wp ww tp
  have t31 : fo_ty (fo_ap p (fo_lf 0 0 A)) = fo_tb 0 := by rw [fo_ty_ap, tp, fo_cod_ar]
  have c0 : ∀ S1 : kS, rc_FR S S1 → S1 0 6 = kn (sm_c M) := fun S1 f => (f _ _ (rc_ncr (by omega))).trans hX.1
  have J0 : nt_J S LT LM (sm_nT M) (sm_nM M) τ g S LT LM (sm_F M) := ⟨hW, List.prefix_refl _, List.prefix_refl _, rc_FR_rf, hZ, Or.inl fo_mn_rf⟩
  refine g_K_newTypeFacts ?_
  rw [hX.2.1]
  refine nt_base (t := T) (s := 2) (a := sm_d M) J0 (Or.inl ⟨6 + sm_d M, by omega, hTT.symm, ?_, ?_, rfl⟩) wT (fun U V a b => (need U V a b).1.2.1) (fun r2 S1 LT1 J1 p1 f1 o2 => ?_)
  · unfold rc_b
    rw [if_neg (by omega), if_neg (by omega)]
  · unfold rc_b
    rw [if_neg (by omega), if_neg (by omega)]
    show sm_d M = 6 + sm_d M - 6
    omega
  have oA : nt_O LT LM g LT A (kn ia) := Or.inl ⟨ia, hA, rfl⟩
  refine nt_arrow J1 (nt_O_gr oA p1) o2 (fun U V a b => (need U V a b).1.1) (fun r4 S3 LT3 J3 p3 f3 o4 => ?_)
  rw [c0 S1 J1.2.2.2.1]
  refine nt_leaf (s := 2) (n := sm_c M) J3 o4 (Or.inr rfl) (by omega) (fun _ => gAT) (fo_tw_ar wA wT) (fun U V a b => (need U V a b).1.2.2.1) (fun r6 S5 LM5 J5 p5 f5 o6 => ?_)
  refine nt_arrow J5 (nt_O_gr o2 p3) (nt_O_gr oA (p1.trans p3)) (fun U V a b => (need U V a b).1.2.2.2.1) (fun r8 S7 LT7 J7 p7 f7 o8 => ?_)
  rw [c0 S5 J5.2.2.2.1, kn_suc]
  refine nt_leaf (s := 2) (n := sm_c M + 1) J7 o8 (Or.inr rfl) (by omega) (fun _ => gTA) (fo_tw_ar wT wA) (fun U V a b => (need U V a b).1.2.2.2.2.1) (fun r10 S9 LM9 J9 p9 f9 o10 => ?_)
  refine nt_leaf (s := 0) (n := 0) J9 (nt_O_gr o2 (p3.trans p7)) (Or.inl rfl) (by omega) (fun e => absurd e (by decide)) wT (fun U V a b => (need U V a b).1.2.2.2.2.2.1) (fun r12 S11 LM11 J11 p11 f11 o12 => ?_)
  refine nt_leaf (s := 0) (n := 0) J11 (nt_O_gr oA (p1.trans (p3.trans p7))) (Or.inl rfl) (by omega) (fun e => absurd e (by decide)) wA (fun U V a b => (need U V a b).1.2.2.2.2.2.2) (fun r14 S13 LM13 J13 p13 f13 o14 => ?_)
  refine nt_app J13 (nt_O_gr o10 (p11.trans p13)) (nt_O_gr o12 p13) w16 (fun U V a b => (need U V a b).2.1.1) (fun r16 S15 LM15 J15 p15 f15 o16 => ?_)
  refine nt_app J15 (nt_O_gr o6 (p9.trans (p11.trans (p13.trans p15)))) o16 w18 (fun U V a b => (need U V a b).2.1.2.1) (fun r18 S17 LM17 J17 p17 f17 o18 => ?_)
  refine nt_eqn J17 o18 (nt_O_gr o12 (p13.trans (p15.trans p17))) w18 wv rfl (fun U V a b => (need U V a b).2.1.2.2) (fun r20 S19 LT19 LM19 J19 p19 q19 f19 o20 => ?_)
  refine nt_app J19 (nt_O_gr o6 (p9.trans (p11.trans (p13.trans (p15.trans (p17.trans q19)))))) (nt_O_gr o14 (p15.trans (p17.trans q19))) w22 (fun U V a b => (need U V a b).2.2.1.1) (fun r22 S21 LM21 J21 p21 f21 o22 => ?_)
  refine nt_app J21 (nt_O_gr o10 (p11.trans (p13.trans (p15.trans (p17.trans (q19.trans p21)))))) o22 w24 (fun U V a b => (need U V a b).2.2.1.2.1) (fun r24 S23 LM23 J23 p23 f23 o24 => ?_)
  refine nt_eqn J23 o24 (nt_O_gr o14 (p15.trans (p17.trans (q19.trans (p21.trans p23))))) w24 ww rfl (fun U V a b => (need U V a b).2.2.1.2.2) (fun r26 S25 LT25 LM25 J25 p25 q25 f25 o26 => ?_)
  refine c_Fa_open (LM := LM25) (fun S27 f27 d27 => ?_)
  have J27 : nt_J S LT LM (sm_nT M) (sm_nM M) τ g S27 LT25 LM25 (sm_F M) := ⟨rc_W_fd J25.1 f27, J25.2.1, J25.2.2.1, rc_FR_tr J25.2.2.2.1 (rc_FR_d f27), ch_Z_cd J25.2.2.2.2.1 f27, J25.2.2.2.2.2⟩
  refine nt_close J27 d27 (nt_O_gr o20 (p21.trans (p23.trans q25))) (fun r29 S28 FS28 J28 d28 c28 => ?_)
  have op : nt_O LT LM g LM25 p (kn ip) := Or.inl ⟨ip, rp_pre J25.2.2.1 hp, rfl⟩
  refine nt_app J28 op (nt_O_gr o14 (p15.trans (p17.trans (q19.trans (p21.trans (p23.trans q25)))))) w31 (fun U V a b => (need U V a b).2.2.2.1) (fun r31 S30 LM30 J30 p30 f30 o31 => ?_)
  refine nt_eqn J30 o31 (nt_O_gr o26 p30) w31 w26 (by rw [t31]; rfl) (fun U V a b => (need U V a b).2.2.2.2) (fun r33 S32 LT32 LM32 J32 p32 q32 f32 o33 => ?_)
  have d32 : rc_D S32 LM32 [] false := rc_D_gr (rc_D_gr d28 p30 (rc_FC_of f30)) q32 (rc_FC_of f32)
  refine nt_close J32 d32 o33 (fun r35 S34 FS34 J34 d34 c34 => ?_)
  have h60 := hW.2.1.2.1
  rcases c28 with ⟨hm1, hl1, rfl, rfl⟩ | ⟨rfl, rfl, n1⟩
  · rcases c34 with ⟨hm2, hl2, rfl, rfl⟩ | ⟨rfl, rfl, n2⟩
    · rw [List.length_append, List.length_singleton] at hl2
      refine ⟨fun _ => k _ _ _ _ _ J34 ⟨_, (List.append_assoc _ _ _).symm⟩ (Or.inl ⟨rfl, ?_, by omega, rp_sub (p30.trans q32) hm1, hm2⟩), fun e => absurd (kn_ge (by rw [List.length_append, List.length_singleton]; omega)) e⟩
      rw [List.append_assoc]; rfl
    · refine ⟨fun e => absurd e (by decide), fun _ => k _ _ _ _ _ J34 ⟨_, rfl⟩ (Or.inr ⟨rfl, ?_⟩)⟩
      rcases n2 with n2 | n2
      · rw [List.length_append, List.length_singleton] at n2
        exact Or.inl (by omega)
      · exact Or.inr n2
  · have rs : 60 < (sm_F M).length + 2 ∨ fo_no LT LM g := by
      rcases n1 with n1 | n1
      · exact Or.inl (by omega)
      · exact Or.inr n1
    rcases c34 with ⟨hm2, hl2, rfl, rfl⟩ | ⟨rfl, rfl, n2⟩
    · exact ⟨fun _ => k _ _ _ _ _ J34 ⟨_, rfl⟩ (Or.inr ⟨rfl, rs⟩), fun e => absurd (kn_ge (by omega)) e⟩
    · exact ⟨fun e => absurd e (by decide), fun _ => k _ _ _ _ _ J34 (List.prefix_refl _) (Or.inr ⟨rfl, rs⟩)⟩
set_option maxHeartbeats 1000000 in
theorem k_defineType {d : Nat} {S : kS} {M : kO} {τ : Nat} {a : Int32} {F : Int32 → kS → Prop} (h : rc_R S M τ) (hok : sp_kM M) (k : ∀ S', rc_R S' (sp_defineType M a).2 τ → rc_Fx S S' → F (sp_defineType M a).1 S') : kK (d + 5) m_K_defineType [.inr 0, .inl a] S (kq F) := by
  have h0 := h
  obtain ⟨LT, LM, hQ⟩ := h
  unfold sp_defineType at k
  obtain ⟨hW, hK, hZ, hT, hM, hX⟩ := hQ
  have hQ : rc_Q S M τ LT LM := ⟨hW, hK, hZ, hT, hM, hX⟩
  have h60 := hW.2.1.2.1
  have h8 := hX.2.2.1
  have h3 := hX.2.2.2.1
  refine g_K_defineType (c_Fa_conclusionOf hW.2.1 (fun q i hq hi => ?_) (fun e => ?_))
  · rw [hq] at k
    simp only [sp_b1] at k
    have wq := hok.1.2 q (sp_at_mem hq)
    refine c_Te_functionOf hW.1 hi (fun p x j e hj => ?_) (fun e => ?_)
    · have ef : sp_fa q.1 = some (p, x) := by rw [e]; rfl
      rw [ef] at k
      simp only at k
      have wpx := wq.1
      rw [e] at wpx
      obtain ⟨wp, wx, ety⟩ := fo_wf_iap wpx
      have ebool : fo_ty (fo_ap p x) = fo_tb 0 := by rw [← e]; exact wq.2.1
      rw [ebool] at ety
      refine c_Te_isFixed hW.1 hj (fun haf hgn => ⟨fun e => absurd e (by decide), fun _ => ?_⟩) (fun hf => ⟨fun _ => ?_, fun e => absurd rfl e⟩)
      · have hg : fo_gt (fo_ty x) = false := by
          have := fo_gn_ty wp hgn
          rw [ety, fo_gt_ar, Bool.or_eq_false_iff] at this
          exact this.1
        refine c_Fa_sizeOf hW.2.1 (fun q' hq' h12 => ?_) (fun e => by rw [hq] at e; cases e)
        rw [hq] at hq'
        injection hq' with hq'
        subst hq'
        refine ⟨fun e2 => ?_, fun e2 => ?_⟩
        · rw [sp_ite_neg (fun z => e2 (by rw [z.2.2.1]; rfl))] at k
          exact k S h0 rc_Fx_rf
        · have hnil : q.2 = [] := List.eq_nil_of_length_eq_zero (kn_inj (m := 0) (by omega) (by decide) (Classical.not_not.mp e2))
          rw [hX.1, hX.2.1, show (2 : Int32) = kn 2 from rfl, kn_add]
          refine ⟨fun e3 => ?_, fun e3 => ⟨fun e4 => ?_, fun e4 => ?_⟩⟩
          · have := (kn_le (n := 3) (by decide) (by omega)).mp e3
            rw [sp_ite_neg (fun z => by have := z.2.2.2.1; omega)] at k
            exact k S h0 rc_Fx_rf
          · have hd3 : sm_d M < 3 := Nat.not_le.mp (fun z => e3 ((kn_le (n := 3) (by decide) (by omega)).mpr z))
            have hc8 : sm_c M + 2 ≤ 8 := (kn_le (m := 8) (by omega) (by decide)).mp e4
            refine c_Te_argumentOf hW.1 hi (fun p' x' jx e5 hjx => ?_) (fun e5 => absurd e (e5 _ _))
            rw [e] at e5
            obtain ⟨rfl, rfl⟩ := fo_ap_inj e5
            refine c_Te_typeAt hW.1 hjx (fun ya hya => c_K_newTypeFacts hQ hj hya wp ety hg hc8 hd3 (fun r S1 LT1 LM1 FS1 J1 p3 res => ?_))
            rcases res with ⟨rfl, rfl, h62, m1, m2⟩ | ⟨rfl, rs⟩
            · have mn : fo_mn LT LM LT1 LM1 (sp_g2 (sp_f1 (sm_c M) (fo_ty x) (fo_tb (6 + sm_d M))) (sp_f2 (sm_c M) (fo_ty x) (fo_tb (6 + sm_d M)) p)) := by
                rcases J1.2.2.2.2.2 with m | n
                · exact m
                · exact (n (· ∈ LT1) (· ∈ LM1) J1.1.1.1.2.2.1 (fo_SL_Li J1.1.1.1) (fun z hz => rp_sub J1.2.1 hz) (fun z hz => rp_sub J1.2.2.1 hz) ⟨m1, m2⟩).elim
              obtain ⟨hfit, hcT, hcM⟩ := sp_yes (g := sp_g2 (sp_f1 (sm_c M) (fo_ty x) (fo_tb (6 + sm_d M))) (sp_f2 (sm_c M) (fo_ty x) (fo_tb (6 + sm_d M)) p)) hT hM J1.1.1.1 (fun z hz => rp_sub J1.2.1 hz) (fun z hz => rp_sub J1.2.2.1 hz) ⟨m1, m2⟩ mn
              rw [sp_ite_pos ⟨haf, hgn, hnil, hd3, hc8, h62, hfit⟩] at k
              refine k_keep hQ J1.1 (rc_Fk_r J1.2.2.2.1) J1.2.2.2.2.1 (kn_nn (by omega)) (fun S2 w2 k2 z2 x2 fx2 => ⟨fun e => absurd e (kn_nn (by omega)), fun _ => ?_⟩)
              rw [x2.1, x2.2.1, kn_suc, kn_add]
              have fr : ∀ o i, ¬ (o = 0) → ku (ku S2 0 7 (kn (sm_d M + 1))) 0 6 (kn (sm_c M + 2)) o i = S2 o i := fun o i ho => by rw [ku_ne (by omega), ku_ne (by omega)]
              refine k _ ⟨LT1, LM1, ?_, rc_K_fr k2 (fr _ _ (by omega)) (fr _ _ (by omega)) (fr _ _ (by omega)), ch_Z_fr z2 (fr _ _ (by omega)) (fun _ => fr _ _ (by omega)) (fun _ => fr _ _ (by omega)), hcT, hcM, ku_self, ?_, hc8, by show sm_d M + 1 ≤ 3; omega, ?_⟩ (fun o i ho => (fr _ _ (by omega)).trans (fx2 o i ho))
              · exact ⟨rc_S_fr w2.1 (fun o i hc => fr o i (by unfold rc_cm rc_ct at hc; omega)), ⟨(fr _ _ (by omega)).trans w2.2.1.1, w2.2.1.2.1, rp_F_grow w2.2.1.2.2 (List.prefix_refl _) (funext fun _ => fr _ _ (by omega)) (funext fun _ => fr _ _ (by omega)) (funext fun _ => fr _ _ (by omega))⟩, rc_N_gr w2.2.2.1 (List.prefix_refl _) w2.1.1.1 w2.1.1.2.2.2.2.2.1 (fun _ => fr _ _ (by omega)) (fun _ => fr _ _ (by omega)) (fr _ _ (by omega)), rc_N_gr w2.2.2.2 (List.prefix_refl _) w2.1.1.2.1 w2.1.1.2.2.2.2.2.2.1 (fun _ => fr _ _ (by omega)) (fun _ => fr _ _ (by omega)) (fr _ _ (by omega))⟩
              · show _ = kn (sm_d M + 1)
                rw [ku_ne (by omega), ku_self]
              · have x3 := x2.2.2.2.2
                exact ⟨(fr _ _ (by omega)).trans x3.1, x3.2.1, fun i o a b c e => by
                  rw [fr 35 i (by omega), fr 36 i (by omega), fr 37 i (by omega), fr 38 i (by omega)]
                  exact x3.2.2 i o a b c e⟩
            · rw [sp_ite_neg (fun z => by
                rcases rs with rs | rs
                · have := z.2.2.2.2.2.1; omega
                · exact sp_no hT hM rs z.2.2.2.2.2.2)] at k
              exact k_back hQ J1.1 J1.2.1 J1.2.2.1 p3 (rc_Fk_r J1.2.2.2.1) J1.2.2.2.2.1 kn_m1lt (fun S2 q2 fx2 => ⟨fun _ => k S2 ⟨LT, LM, q2⟩ fx2, fun e => absurd kn_m1lt e⟩)
          · rw [sp_ite_neg (fun z => e4 ((kn_le (m := 8) (by omega) (by decide)).mpr z.2.2.2.2.1))] at k
            exact k S h0 rc_Fx_rf
      · rw [sp_ite_neg (fun z => by rcases hf with hf | hf <;> simp [z.1, z.2.1] at hf)] at k
        exact k S h0 rc_Fx_rf
    · have ef : sp_fa q.1 = none := by
        rcases fo_wf_cases wq.1 with ⟨s, n, A, z, _⟩ | ⟨g, x, _, z, _⟩ | ⟨A, b, z, _⟩
        · rw [z]; rfl
        · exact absurd z (e _ _)
        · rw [z]; rfl
      rw [ef] at k
      exact c_Te_isFixed_no kn_m1lt ⟨fun _ => k S h0 rc_Fx_rf, fun e => absurd rfl e⟩
  · rw [e] at k
    exact c_Te_functionOf_no kn_m1lt (c_Te_isFixed_no kn_m1lt ⟨fun _ => k S h0 rc_Fx_rf, fun e => absurd rfl e⟩)
