/-! ===== THE CLASS: changes as the rules use them; marks ===== -/
def rc_FB (S S' : kS) : Prop := ∀ o i, ¬ rc_cc o i → o ≠ 30 → S' o i = S o i
theorem rc_FB_rf {S : kS} : rc_FB S S := fun _ _ _ _ => rfl
theorem rc_FB_tr {S S1 S2 : kS} (h1 : rc_FB S S1) (h2 : rc_FB S1 S2) : rc_FB S S2 := fun o i h h' => (h2 o i h h').trans (h1 o i h h')
theorem rc_FB_c {S S' : kS} (h : rc_FC S S') : rc_FB S S' := fun o i q _ => h o i q
theorem rc_FR_b {S S' : kS} (h : rc_FB S S') : rc_FR S S' := fun o i q => h o i (fun e => q (Or.inl e)) (fun e => q (by unfold rc_cr; omega))
theorem rc_A_gb {S S' : kS} {LM LM' : List kF} {FS : List kQ} (h : rc_A S LM FS) (p : LM <+: LM') (f : rc_FB S S') : rc_A S' LM' FS :=
  ⟨(f _ _ (rc_ncc (by omega)) (by decide)).trans h.1, h.2.1, rp_F_grow h.2.2 p (funext fun _ => f _ _ (rc_ncc (by omega)) (by decide)) (funext fun _ => f _ _ (rc_ncc (by omega)) (by decide)) (funext fun _ => f _ _ (rc_ncc (by omega)) (by decide))⟩
theorem rc_D_gb {S S' : kS} {LM LM' D : List kF} {b : Bool} (h : rc_D S LM D b) (p : LM <+: LM') (f : rc_FB S S') : rc_D S' LM' D b :=
  ⟨(f _ _ (rc_ncc (by omega)) (by decide)).trans h.1, (f _ _ (rc_ncc (by omega)) (by decide)).trans h.2.1, rp_D_grow h.2.2 p (funext fun _ => f _ _ (rc_ncc (by omega)) (by decide))⟩
theorem rc_W_gb {S S' : kS} {LT LM LT' LM' : List kF} {FS : List kQ} {NT NM : List kF} (h : rc_W S LT LM FS NT NM) (g : rc_S S' LT' LM') (p1 : LT <+: LT') (p2 : LM <+: LM') (f : rc_FB S S') : rc_W S' LT' LM' FS NT NM :=
  ⟨g, rc_A_gb h.2.1 p2 f, rc_N_gr h.2.2.1 p1 g.1.1 g.1.2.2.2.2.2.1 (fun _ => f _ _ (rc_ncc (by omega)) (by decide)) (fun _ => f _ _ (rc_ncc (by omega)) (by decide)) (f _ _ (rc_ncc (by omega)) (by decide)), rc_N_gr h.2.2.2 p2 g.1.2.1 g.1.2.2.2.2.2.2.1 (fun _ => f _ _ (rc_ncc (by omega)) (by decide)) (fun _ => f _ _ (rc_ncc (by omega)) (by decide)) (f _ _ (rc_ncc (by omega)) (by decide))⟩
theorem ru_at_gb {S : kS} {LT LM : List kF} {FS : List kQ} {NT NM : List kF} {τ : Nat} {S1 S2 : kS} {LT1 LM1 LT2 LM2 D : List kF} {b : Bool} {τ1 τ2 : Nat} (h : ru_at S LT LM FS NT NM τ S1 LT1 LM1 D b τ1) (g : rc_S S2 LT2 LM2) (p1 : LT1 <+: LT2) (p2 : LM1 <+: LM2) (f : rc_FB S1 S2) (z : ch_Z S2 τ2) (hτ : τ2 ≤ τ + 2) : ru_at S LT LM FS NT NM τ S2 LT2 LM2 D b τ2 :=
  ⟨rc_W_gb h.1 g p1 p2 f, rc_D_gb h.2.1 p2 f, h.2.2.1.trans p1, h.2.2.2.1.trans p2, rc_FR_tr h.2.2.2.2.1 (rc_FR_b f), z, hτ⟩
theorem c_Ch_begin {d : Nat} {S : kS} {LT LM : List kF} {τ : Nat} {w o p : Int32} {F : kS → Prop} (hS : rc_S S LT LM) (hZ : ch_Z S τ) (hτ : τ + 1 < 8388608) (k : ∀ S', (∀ a i, a ≠ 30 → S' a i = S a i) → S' 30 4 = kn (τ + 1) → S' 30 5 = w → S' 30 6 = o → S' 30 7 = p → (∀ st rt, ch_M S' LT LM st rt) → rc_S S' LT LM → rc_FB S S' → F S') : kK (d + 1) m_Ch_begin [.inr 30, .inl w, .inl o, .inl p] S (kv F) := by
  have fr : ∀ a i, a ≠ 30 → ku (ku (ku (ku S 30 4 ((S 30 4) + 1)) 30 5 w) 30 6 o) 30 7 p a i = S a i := fun a i h => by
    rw [ku_ne (by omega), ku_ne (by omega), ku_ne (by omega), ku_ne (by omega)]
  have e4 : ku (ku (ku (ku S 30 4 ((S 30 4) + 1)) 30 5 w) 30 6 o) 30 7 p 30 4 = kn (τ + 1) := by
    rw [ku_ne (by omega), ku_ne (by omega), ku_ne (by omega), ku_self, hZ.1, kn_suc]
  refine g_Ch_begin (k _ fr e4 ?_ ?_ ku_self (fun st rt => ⟨τ + 1, e4, hτ, fun u i hu hi => ?_, fun i hi => ?_⟩) (rc_S_fr hS (fun a i hc => fr a i (fun e => rc_ncm (by omega) hc))) (fun a i _ h => fr a i h))
  · rw [ku_ne (by omega), ku_ne (by omega), ku_self]
  · rw [ku_ne (by omega), ku_self]
  · rw [fr _ _ (by decide)]
    obtain ⟨m, p, b1, b2, b3⟩ := hZ.2.1 u i hu hi
    exact ⟨m, p, by omega, b2, b3, fun e => absurd e (by omega)⟩
  · rw [fr _ _ (by decide)]
    obtain ⟨m, p, b1, b2, b3⟩ := hZ.2.2 i hi
    exact ⟨m, p, by omega, b2, b3, fun e => absurd e (by omega)⟩
theorem ch_E_R {old put : kF} (hp : fo_wf [] put) (he : fo_ty put = fo_ty old) : ch_E (fo_sR old put) id (fun _ _ => True) := ⟨fun _ _ _ _ => trivial, fun Γ _ u h _ => ⟨Γ, (fo_wf_R hp he h u).1⟩⟩
theorem ch_E_A {n : Nat} {A : kF} (hA : fo_tw A) : ch_E (fo_sA (fo_lf 0 n A)) id (fun Γ u => Γ.length = u) := ⟨fun Γ u B h => by show (B :: Γ).length = u + 1; rw [List.length_cons]; exact congrArg (· + 1) h, fun Γ _ u h e => by subst e; exact ⟨_, (fo_wf_A hA h).1⟩⟩
theorem ch_E_O {put : kF} (hp : fo_wf [] put) : ch_E (fo_sO put) id (fun Γ u => ∃ Γ1, Γ = Γ1 ++ [fo_ty put] ∧ Γ1.length = u) := by
  refine ⟨?_, ?_⟩
  · rintro Γ u A ⟨Γ1, rfl, rfl⟩
    exact ⟨A :: Γ1, rfl, rfl⟩
  · rintro Γ t u h ⟨Γ1, rfl, rfl⟩
    exact ⟨_, (fo_wf_O hp h).1⟩
theorem ch_E_T {v : Nat} {c : kF} (hv : 2 ≤ v ∧ v < 6) (hc : fo_tw c) : ch_E fo_sN (fo_rt v c) (fun _ _ => True) := ⟨fun _ _ _ _ => trivial, fun _ _ u h _ => ⟨_, (fo_wf_T hv hc h u).1⟩⟩
theorem rc_ht {S : kS} {LT LM : List kF} (hS : rc_S S LT LM) {i : Nat} {t : kF} (h : LM[i]? = some t) : fo_ht t ≤ 20 := (hS.1.2.2.2.2.1 t (rp_mem h)).2.1
theorem c_Ch_of {d : Nat} {S : kS} {LT LM : List kF} {st : kF → Nat → Option kF} {rt : kF → kF} {E : List kF → Nat → Prop} {i : Nat} {t : kF} {Γ : List kF} {F : Int32 → kS → Prop} (hC : rc_C S LT LM st rt) (hE : ch_E st rt E) (he : E Γ 0) (hi : LM[i]? = some t) (hw : fo_wf Γ t) (k : ∀ r S' LT' LM', rc_C S' LT' LM' st rt → LT <+: LT' → LM <+: LM' → rc_FC S S' → rc_en LT LM LT' LM' (fo_im st rt t 0) r → F r S') : kK (d + 66) m_Ch_of [.inr 30, .inl (kn i)] S (kq F) :=
  g_Ch_of (c_Ch_changed hE hw (d + 65) (by have := rc_ht hC.1 hi; omega) S LT LM i 0 0 _ he hC hi (Nat.le_refl _) (by have := rc_ht hC.1 hi; omega) k)
theorem c_Ch_of_no {d : Nat} {S : kS} {x : Int32} {F : Int32 → kS → Prop} (h : x < 0) (k : F (-1) S) : kK (d + 2) m_Ch_of [.inr 30, .inl x] S (kq F) := g_Ch_of (c_Ch_changed_no h k)
theorem ch_Z_C {S S' : kS} {LT LM : List kF} {st : kF → Nat → Option kF} {rt : kF → kF} {τ : Nat} (hC : rc_C S' LT LM st rt) (e : S 30 4 = kn τ) (f : rc_FC S S') (hτ : τ < 8388608) : ch_Z S' τ := ch_Z_of hC.2.2 ((f _ _ (rc_ncc (by omega))).trans e) hτ
theorem c_Ch_abstracted {d : Nat} {S : kS} {LT LM : List kF} {τ i j n : Nat} {A t : kF} {F : Int32 → kS → Prop} (hS : rc_S S LT LM) (hZ : ch_Z S τ) (hτ : τ + 1 < 8388608) (hx : LM[i]? = some (fo_lf 0 n A)) (ht : LM[j]? = some t) (wt : fo_wf [] t) (k : ∀ r S' LT' LM', rc_S S' LT' LM' → LT <+: LT' → LM <+: LM' → rc_FB S S' → ch_Z S' (τ + 1) → rc_en LT LM LT' LM' (sp_iA (fo_lf 0 n A) t) r → F r S') : kK (d + 66) m_Ch_abstracted [.inr 30, .inl (kn i), .inl (kn j)] S (kq F) := by
  have li := rc_lM hS hx
  obtain ⟨Γ0, w0⟩ := rc_wf hS hx
  have hA : fo_tw A := (fo_wf_ilf w0).1
  refine g_Ch_abstracted (c_Te_sortAt hS hx ⟨fun _ => c_Ch_begin hS hZ hτ (fun S1 fr e4 e5 e6 e7 hM s1 f1 => ⟨kn_in li (by decide), ?_⟩), fun e => absurd rfl e⟩)
  have hC : rc_C S1 LT LM (fo_sA (fo_lf 0 n A)) id := ⟨s1, Or.inr (Or.inr (Or.inl ⟨_, i, e5, hx, e6, rfl, rfl⟩)), hM _ _⟩
  refine c_Ch_changed (ch_E_A hA) wt (d + 65) (by have := rc_ht hS ht; omega) S1 LT LM j 0 0 _ rfl hC ht (Nat.le_refl _) (by have := rc_ht hS ht; omega) ?_
  intro r S2 LT2 LM2 c2 p1 p2 f2 en
  have z2 : ch_Z S2 (τ + 1) := ch_Z_C c2 e4 f2 hτ
  obtain ⟨_, _, _, ⟨y, hy, ey⟩, _⟩ := s1.2.2.2.2.1 i _ hx
  rw [kn_tn (by omega), ey]
  have hwi : ∃ Γ, fo_wf Γ (sp_iA (fo_lf 0 n A) t) := ⟨[], fo_wf_ab hA (by have := (fo_wf_A (k := n) hA wt).1; exact this)⟩
  have sub : ∀ U V : kF → Prop, fo_Cl U V → V (sp_iA (fo_lf 0 n A) t) → V (fo_im (fo_sA (fo_lf 0 n A)) id t 0) := fun U V hc hg => hc.2.2.2 _ _ hg
  rcases en with ⟨q, hq, rfl, m⟩ | ⟨rfl, nn⟩
  · refine c_Te_abstraction (A := A) c2.1 (rp_pre p1 hy) hq hwi ?_
    intro r S3 LT3 LM3 g3 e3
    refine k r S3 LT3 LM3 g3.1 (p1.trans g3.2.1) (p2.trans g3.2.2.1) (rc_FB_tr f1 (rc_FB_c (rc_FC_tr f2 (rc_FC_of g3.2.2.2)))) (ch_Z_fm z2 g3.2.2.2) ?_
    rcases e3 with ⟨z, hz, rfl, m3⟩ | ⟨rfl, n3⟩
    · exact Or.inl ⟨z, hz, rfl, fo_mn_tr m m3 sub (fun _ _ _ hg => hg)⟩
    · exact Or.inr ⟨rfl, fo_no_2 m n3 sub (fun _ _ _ hg => hg)⟩
  · exact c_Te_abstraction_no kn_m1lt (k _ _ LT2 LM2 c2.1 p1 p2 (rc_FB_tr f1 (rc_FB_c f2)) z2 (Or.inr ⟨rfl, fo_no_1 nn sub⟩))
/-- abstraction over what is no variable -/
theorem c_Ch_abstracted_nv {d : Nat} {S : kS} {LT LM : List kF} {i : Nat} {x : kF} {y : Int32} {F : Int32 → kS → Prop} (hS : rc_S S LT LM) (hx : LM[i]? = some x) (hn : ¬ ∃ n A, x = fo_lf 0 n A) (k : F (-1) S) : kK (d + 2) m_Ch_abstracted [.inr 30, .inl (kn i), .inl y] S (kq F) := by
  obtain ⟨Γ0, w0⟩ := rc_wf hS hx
  have h6 := fo_so_le w0
  refine g_Ch_abstracted (c_Te_sortAt hS hx ⟨fun e => ?_, fun _ => k⟩)
  have e0 := kn_inj (m := 0) (by omega) (by decide) e
  obtain ⟨n, A, e1, _⟩ := fo_so_l w0 (by omega) (by omega)
  rw [e0] at e1
  exact absurd ⟨n, A, e1⟩ hn
theorem c_Ch_abstracted_nx {d : Nat} {S : kS} {x y : Int32} {F : Int32 → kS → Prop} (hx : x < 0) (k : F (-1) S) : kK (d + 2) m_Ch_abstracted [.inr 30, .inl x, .inl y] S (kq F) :=
  g_Ch_abstracted (c_Te_sortAt_no hx ⟨fun e => absurd e (by decide), fun _ => k⟩)
/-- abstraction of a refusal -/
theorem c_Ch_abstracted_no {d : Nat} {S : kS} {LT LM : List kF} {τ i n : Nat} {A : kF} {y : Int32} {F : Int32 → kS → Prop} (hS : rc_S S LT LM) (hZ : ch_Z S τ) (hτ : τ + 1 < 8388608) (hx : LM[i]? = some (fo_lf 0 n A)) (hy : y < 0) (k : ∀ S', rc_S S' LT LM → rc_FB S S' → ch_Z S' (τ + 1) → F (-1) S') : kK (d + 2) m_Ch_abstracted [.inr 30, .inl (kn i), .inl y] S (kq F) := by
  have li := rc_lM hS hx
  refine g_Ch_abstracted (c_Te_sortAt hS hx ⟨fun _ => c_Ch_begin hS hZ hτ (fun S1 fr e4 e5 e6 e7 hM s1 f1 => ⟨kn_in li (by decide), c_Ch_changed_no hy (c_Te_abstraction_no kn_m1lt (k S1 s1 f1 (ch_Z_of (hM fo_sN id) e4 hτ)))⟩), fun e => absurd rfl e⟩)
theorem c_Ch_opened {d : Nat} {S : kS} {LT LM : List kF} {τ i j : Nat} {A b u : kF} {F : Int32 → kS → Prop} (hS : rc_S S LT LM) (hZ : ch_Z S τ) (hτ : τ + 1 < 8388608) (hx : LM[i]? = some (fo_ab A b)) (hu : LM[j]? = some u) (wu : fo_wf [] u) (wb : fo_wf [fo_ty u] b) (k : ∀ r S' LT' LM', rc_S S' LT' LM' → LT <+: LT' → LM <+: LM' → rc_FB S S' → ch_Z S' (τ + 1) → rc_en LT LM LT' LM' (sp_iO u b) r → F r S') : kK (d + 66) m_Ch_opened [.inr 30, .inl (kn i), .inl (kn j)] S (kq F) := by
  have li := rc_lM hS hx
  refine g_Ch_opened (c_Ch_begin hS hZ hτ (fun S1 fr e4 e5 e6 e7 hM s1 f1 => ⟨kn_in li (by decide), ?_⟩))
  have hC : rc_C S1 LT LM (fo_sO u) id := ⟨s1, Or.inr (Or.inr (Or.inr ⟨u, j, e5, hu, e7, rfl, rfl⟩)), hM _ _⟩
  obtain ⟨_, q, _, hq, e15, _⟩ := (s1.2.2.2.2.1 i _ hx).2.2.2.2.2.2 A b rfl
  rw [kn_tn (by omega), e15]
  refine c_Ch_changed (ch_E_O wu) wb (d + 65) (by have := rc_ht hS hq; omega) S1 LT LM q 0 0 _ ⟨[], rfl, rfl⟩ hC hq (Nat.le_refl _) (by have := rc_ht hS hq; omega) ?_
  intro r S2 LT2 LM2 c2 p1 p2 f2 en
  exact k r S2 LT2 LM2 c2.1 p1 p2 (rc_FB_tr f1 (rc_FB_c f2)) (ch_Z_C c2 e4 f2 hτ) en
/-- marks -/
theorem fo_oc_self (t : kF) : fo_oc t t := by
  unfold fo_oc
  split <;> simp
theorem c_Te_hasParts {d : Nat} {S : kS} {LT LM : List kF} {i : Nat} {t : kF} {F : Int32 → kS → Prop} (hS : rc_S S LT LM) (h : LM[i]? = some t) (k1 : fo_so t = 3 ∨ fo_so t = 4 → F 1 S) (k2 : fo_so t ≠ 3 → fo_so t ≠ 4 → F 0 S) : kK (d + 1) m_Te_hasParts [.inr 10, .inl (kn i)] S (kq F) := by
  obtain ⟨es, h6, li⟩ := rc_so hS h
  have hin : vp_in (kn i) 250 := kn_in li (by decide)
  refine g_Te_hasParts ?_
  rw [kn_tn (by omega), es]
  refine ⟨hin, fun e => k1 (Or.inl (kn_inj (m := 3) (by omega) (by decide) e)), fun e => ⟨hin, fun e2 => k2 (fun q => e (by rw [q]; rfl)) (fun q => e2 (by rw [q]; rfl)), fun e2 => k1 (Or.inr (kn_inj (m := 4) (by omega) (by decide) (Classical.not_not.mp e2)))⟩⟩
theorem rc_S_19 {S S' : kS} {LT LM : List kF} (h : rc_S S LT LM) (f : ∀ o j, o ≠ 19 → S' o j = S o j) : rc_S S' LT LM := rc_S_fr h (fun o i hc => f o i (fun e => by subst e; unfold rc_cm rc_ct at hc; omega))
set_option maxHeartbeats 1000000 in
theorem c_Te_mark {d : Nat} {S : kS} {LT LM : List kF} {i : Nat} {x : kF} {F : kS → Prop} (hS : rc_S S LT LM) (hx : LM[i]? = some x) (k : ∀ S', (∀ o j, o ≠ 19 → S' o j = S o j) → (∀ j t, LM[j]? = some t → (S' 19 j = 1 ∧ fo_oc x t ∨ S' 19 j = 0 ∧ ¬ fo_oc x t)) → F S') : kK (d + 2) m_Te_mark [.inr 10, .inl (kn i)] S (kv F) := by
  have li := rc_lM hS hx
  have hn : LM.length ≤ 250 := hS.1.2.2.2.2.2.2.1
  refine g_Te_mark (fun G h => ?_)
  have loop : ∀ m j, j + m = LM.length → ∀ S1 : kS, (∀ o q, o ≠ 19 → S1 o q = S o q) → (∀ q t, q < j → LM[q]? = some t → (S1 19 q = 1 ∧ fo_oc x t ∨ S1 19 q = 0 ∧ ¬ fo_oc x t)) → G 2 [some (.inr 10), some (.inl (kn i)), some (.inl (kn j))] [] S1 := by
    intro m
    induction m with
    | zero =>
      intro j hj S1 f1 g1
      have e13 : S1 10 13 = kn LM.length := (f1 _ _ (by decide)).trans hS.2.2.1
      refine f_Te_mark_2 kspec_Mo h ⟨fun _ => k S1 f1 (fun q t hq => g1 q t (by have := rp_lt hq; omega) hq), fun e => absurd (by rw [e13]; exact (kn_le (by omega) (by omega)).mpr (by omega)) e⟩
    | succ m ih =>
      intro j hj S1 f1 g1
      have s1 := rc_S_19 hS f1
      have hjl : j < LM.length := by omega
      have hu : LM[j]? = some LM[j] := List.getElem?_eq_getElem hjl
      have hin : vp_in (kn j) 250 := kn_in (by omega) (by decide)
      have next : ∀ v : Int32, (v = 1 ∧ fo_oc x LM[j] ∨ v = 0 ∧ ¬ fo_oc x LM[j]) → G 2 [some (.inr 10), some (.inl (kn i)), some (.inl (kn (j + 1)))] [] (ku S1 19 j (vp_nar .boolean v)) := by
        intro v hv
        refine ih (j + 1) (by omega) _ (fun o q ho => by rw [ku_ne (by omega)]; exact f1 o q ho) (fun q t hq ht => ?_)
        by_cases hqj : q = j
        · subst hqj
          rw [hu] at ht
          injection ht with ht
          subst ht
          rw [ku_self]
          rcases hv with ⟨rfl, hv⟩ | ⟨rfl, hv⟩
          · exact Or.inl ⟨kb_nar true, hv⟩
          · exact Or.inr ⟨kb_nar false, hv⟩
        · rw [ku_ne (by omega)]
          exact g1 q t (by omega) ht
      refine f_Te_mark_2 kspec_Mo h ⟨fun e => absurd ((kn_le (by omega) (by omega)).mp (((f1 10 13 (by decide)).trans hS.2.2.1) ▸ e)) (by omega), fun _ => ⟨fun e => ?_, fun e => ?_⟩⟩
      · rw [kn_tn (by omega), kn_suc]
        have e := kn_inj (by omega) (by omega) e
        subst e
        rw [hx] at hu
        injection hu with hu
        exact ⟨hin, next 1 (Or.inl ⟨rfl, by rw [← hu]; exact fo_oc_self x⟩)⟩
      · have hne : x ≠ LM[j] := fun q => e (by rw [q] at hx; rw [fo_ix hS.1.2.1 hx hu])
        obtain ⟨Γ, hw⟩ := rc_wf s1 hu
        refine c_Te_hasParts s1 hu (fun h34 => ⟨fun e => absurd e (by decide), fun _ => ?_⟩) (fun h3 h4 => ⟨fun _ => ?_, fun e => absurd rfl e⟩)
        · rw [kn_tn (by omega), kn_suc]
          -- first and second
          have parts : ∃ a b f y, a < j ∧ b < j ∧ LM[a]? = some f ∧ LM[b]? = some y ∧ S1 15 j = kn a ∧ S1 16 j = kn b ∧ (fo_oc x LM[j] ↔ fo_oc x f ∨ fo_oc x y) := by
            rcases h34 with h34 | h34
            · obtain ⟨f, y, ey⟩ := fo_so_3 hw h34
              obtain ⟨_, a, b, la, lb, ha, hb, e1, e2⟩ := (s1.2.2.2.2.1 j _ hu).2.2.2.2.2.1 f y ey
              refine ⟨a, b, f, y, la, lb, ha, hb, e1, e2, ?_⟩
              rw [ey] at hne ⊢
              rw [fo_oc_ap]
              exact ⟨fun q => q.resolve_left hne, fun q => Or.inr q⟩
            · obtain ⟨A, b, ey⟩ := fo_so_4 hw h34
              obtain ⟨_, a, la, ha, e1, e2⟩ := (s1.2.2.2.2.1 j _ hu).2.2.2.2.2.2 A b ey
              refine ⟨a, a, b, b, la, la, ha, ha, e1, e2, ?_⟩
              rw [ey] at hne ⊢
              rw [fo_oc_ab, or_self]
              exact ⟨fun q => q.resolve_left hne, fun q => Or.inr q⟩
          obtain ⟨a, b, f, y, la, lb, ha, hb, e1, e2, eo⟩ := parts
          rw [e1, e2, kn_tn (by omega), kn_tn (by omega)]
          refine ⟨hin, kn_in (by omega) (by decide), fun e3 => ⟨hin, next 1 (Or.inl ⟨rfl, eo.mpr (Or.inl ?_)⟩)⟩, fun e3 => ⟨hin, kn_in (by omega) (by decide), fun e4 => ⟨hin, next 0 (Or.inr ⟨rfl, fun q => ?_⟩)⟩, fun e4 => ⟨hin, next 1 (Or.inl ⟨rfl, eo.mpr (Or.inr ?_)⟩)⟩⟩⟩
          · rcases g1 a f la ha with ⟨_, z⟩ | ⟨z, _⟩
            · exact z
            · exact absurd z e3
          · rcases eo.mp q with q | q
            · rcases g1 a f la ha with ⟨z, _⟩ | ⟨_, z⟩
              · rw [z] at e3; exact absurd (Classical.not_not.mp e3) (by decide)
              · exact z q
            · rcases g1 b y lb hb with ⟨z, _⟩ | ⟨_, z⟩
              · rw [z] at e4; exact absurd e4 (by decide)
              · exact z q
          · rcases g1 b y lb hb with ⟨_, z⟩ | ⟨z, _⟩
            · exact z
            · exact absurd z e4
        · rw [kn_tn (by omega), kn_suc]
          refine ⟨hin, next 0 (Or.inr ⟨rfl, fun q => ?_⟩)⟩
          obtain ⟨n, A, ey, _⟩ := fo_so_l hw h3 h4
          rw [ey, fo_oc_lf] at q
          exact hne (q.trans ey.symm)
  exact loop LM.length 0 (by omega) S (fun _ _ _ => rfl) (fun q t hq _ => absurd hq (by omega))
