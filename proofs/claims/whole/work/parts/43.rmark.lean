/-! ===== THE REFERENCE: mark ===== -/
theorem kn_div {a b : Nat} (ha : a < 2147483648) (hb : b < 2147483648) : kn a / kn b = kn (a / b) := (Int32.ofNat_div (by omega) (by omega)).symm
theorem kn_d21 {q : Nat} (h : q < 100000) : kn q / 21 = kn (q / 21) := kn_div (b := 21) (by omega) (by decide)
theorem kn_m21 {q : Nat} (h : q < 100000) : kn q - kn q / 21 * 21 = kn (q % 21) := by
  rw [kn_d21 h, show (21 : Int32) = kn 21 from rfl, kn_mul, kn_sub (by omega)]
  congr 1
  omega
theorem kn_21 {a c : Nat} : 21 * kn a + kn c = kn (21 * a + c) := by
  rw [show (21 : Int32) = kn 21 from rfl, kn_mul, kn_add]
/-- a relation of terms and depths that goes down to the parts of what isn't stopped at -/
def rm_R (LM : List kF) (stop : Nat → Prop) (inc : Nat) (R : kF → Nat → Prop) : Prop := ∀ u t e, LM[u]? = some t → R t e → ¬ stop u → (∀ f y, t = fo_ap f y → R f e ∧ R y e) ∧ (∀ A y, t = fo_ab A y → R y (e + inc))
/-- marks: of what is reached, and of all that -/
def rm_D (LM : List kF) (stop : Nat → Prop) (inc : Nat) (N : Nat → Int32) (i : Nat) (T : kF) (q : Nat) : Prop :=
  N (21 * i) ≠ 0 ∧ (∀ n t, n < 21 * i + 21 → N n ≠ 0 → LM[n / 21]? = some t → ∀ R, rm_R LM stop inc R → R T 0 → R t (n % 21)) ∧
  (∀ n t, q ≤ n → n < 21 * i + 21 → N n ≠ 0 → LM[n / 21]? = some t → ¬ stop (n / 21) → (∀ f y, t = fo_ap f y → ∀ a c, LM[a]? = some f → LM[c]? = some y → N (21 * a + n % 21) ≠ 0 ∧ N (21 * c + n % 21) ≠ 0) ∧ (∀ A y, t = fo_ab A y → ∀ c, LM[c]? = some y → N (21 * c + (n % 21 + inc)) ≠ 0))
def rm_st (hw : Nat) (x : Int32) (u : Nat) : Prop := hw = 4 ∧ kn u = x
def rm_inc (hw : Nat) : Nat := if hw ≤ 1 then 1 else 0
theorem rm_dep {LM : List kF} {stop : Nat → Prop} {inc : Nat} (hi : inc ≤ 1) : rm_R LM stop inc (fun t e => e + fo_ht t ≤ 20) := by
  intro u t e _ h _
  refine ⟨fun f y et => ?_, fun A y et => ?_⟩
  · have h : e + fo_ht t ≤ 20 := h
    rw [et, fo_ht_ap] at h
    exact ⟨show e + fo_ht f ≤ 20 by omega, show e + fo_ht y ≤ 20 by omega⟩
  · have h : e + fo_ht t ≤ 20 := h
    rw [et, fo_ht_ab] at h
    show e + inc + fo_ht y ≤ 20
    omega
set_option maxHeartbeats 2000000 in
theorem rm_mark {d : Nat} {S1 : kS} {LT LM NT NM : List kF} {i hw : Nat} {T : kF} {x : Int32} {F : kS → Prop} (hS : rr_S S1 LT LM NT NM) (hi : LM[i]? = some T) (hh : hw ≤ 4) (k : ∀ S2, (∀ o j, o ≠ 61 → S2 o j = S1 o j) → rm_D LM (rm_st hw x) (rm_inc hw) (S2 61) i T 0 → F S2) : kK (d + 1) m_Mo_mark [.inr 39, .inl (kn i), .inl (kn hw), .inl x] S1 (kv F) := by
  obtain ⟨hL, h0, h9, hT, hM, hB, hN1, hN2⟩ := hS
  have hl : LM.length ≤ 250 := hL.2.2.2.2.2.2.1
  have li := rp_lt hi
  have hinc : rm_inc hw ≤ 1 := by unfold rm_inc; split <;> omega
  have hT20 : fo_ht T ≤ 20 := (hL.2.2.2.2.1 T (rp_mem hi)).2.1
  have one : vp_nar .boolean 1 = (1 : Int32) := kb_nar true
  have zero : vp_nar .boolean 0 = (0 : Int32) := kb_nar false
  refine g_Mo_mark (fun G hG => ?_)
  have down : ∀ q, q ≤ 21 * i + 21 → ∀ S2 : kS, (∀ o j, o ≠ 61 → S2 o j = S1 o j) → rm_D LM (rm_st hw x) (rm_inc hw) (S2 61) i T q →
      ∀ (w : Int32) (u5 u6 : Option kV), (q = 0 ∧ w = -1 ∨ ∃ p, q = p + 1 ∧ w = kn p) → G 48 [some (.inr 39), some (.inl (kn i)), some (.inl (kn hw)), some (.inl x), some (.inl w), u5, u6] [] S2 := by
    intro q
    induction q with
    | zero =>
      intro hq S2 o2 D w u5 u6 hw'
      have hw' : w = -1 := by
        rcases hw' with ⟨_, z⟩ | ⟨p, hp, _⟩
        · exact z
        · omega
      subst hw'
      exact f_Mo_mark_48 kspec_Mo hG ⟨fun _ => k S2 o2 D, fun e => absurd kn_m1lt e⟩
    | succ q ih =>
      intro hq S2 o2 D w u5 u6 hw'
      have hw' : w = kn q := by
        rcases hw' with ⟨z, _⟩ | ⟨p, hp, z⟩
        · omega
        · have : p = q := by omega
          subst this; exact z
      subst hw'
      obtain ⟨D1, D2, D3⟩ := D
      have lu : q / 21 < LM.length := by omega
      have hu : LM[q / 21]? = some LM[q / 21] := List.getElem?_eq_getElem lu
      have hqin : vp_in (kn q) 5250 := kn_in (by omega) (by decide)
      have huin : vp_in (kn (q / 21)) 250 := kn_in (by omega) (by decide)
      have nextw : (q = 0 ∧ kn q + (-1) = -1) ∨ ∃ p, q = p + 1 ∧ kn q + (-1) = kn p := by
        cases q with
        | zero => exact Or.inl ⟨rfl, kn_dec0⟩
        | succ p => exact Or.inr ⟨p, rfl, kn_dec p⟩
      obtain ⟨⟨Γ, hwf⟩, _, _⟩ := hL.2.2.2.2.1 _ (rp_mem hu)
      have hM2 : rr_M S2 LT LM := rr_M_congr hM (fun o a b => funext fun j => o2 o j (by omega))
      obtain ⟨_, _, r3, r3e, r4, r5⟩ := hM2 (q / 21) _ hu
      -- nothing to mark
      have keep : (S2 61 q ≠ 0 → ¬ rm_st hw x (q / 21) → (∀ f y, LM[q / 21] = fo_ap f y → False) ∧ (∀ A y, LM[q / 21] = fo_ab A y → False)) → ∀ u5 u6, G 48 [some (.inr 39), some (.inl (kn i)), some (.inl (kn hw)), some (.inl x), some (.inl (kn q + (-1))), u5, u6] [] S2 := by
        intro hk u5 u6
        refine ih (by omega) S2 o2 ⟨D1, D2, fun n t hn hn2 nn hnt hs => ?_⟩ _ u5 u6 nextw
        by_cases e : n = q
        · subst e
          rw [hu] at hnt
          injection hnt with hnt
          subst hnt
          have := hk nn hs
          exact ⟨fun f y e => (this.1 f y e).elim, fun A y e => (this.2 A y e).elim⟩
        · exact D3 n t (by omega) hn2 nn hnt hs
      refine f_Mo_mark_48 kspec_Mo hG ⟨fun e => absurd e (kn_nn (by omega)), fun _ => ?_⟩
      rw [kn_tn (by omega), kn_d21 (by omega)]
      have go : S2 61 q ≠ 0 → ¬ rm_st hw x (q / 21) → G 84 [some (.inr 39), some (.inl (kn i)), some (.inl (kn hw)), some (.inl x), some (.inl (kn q)), some (.inl (kn (q / 21))), u6] [] S2 := by
        intro nq hst
        have Rq := D2 q _ (by omega) nq hu
        have dep : q % 21 + fo_ht LM[q / 21] ≤ 20 := Rq _ (rm_dep hinc) (show 0 + fo_ht T ≤ 20 by omega)
        -- marks set: what stays
        have set1 : ∀ (S3 : kS), (∀ o j, o ≠ 61 → S3 o j = S1 o j) → (∀ n, S2 61 n ≠ 0 → S3 61 n ≠ 0) → (∀ n, n < 21 * i + 21 → S3 61 n ≠ 0 → S2 61 n ≠ 0 ∨ ∀ t, LM[n / 21]? = some t → ∀ R, rm_R LM (rm_st hw x) (rm_inc hw) R → R T 0 → R t (n % 21)) →
            ((∀ f y, LM[q / 21] = fo_ap f y → ∀ a c, LM[a]? = some f → LM[c]? = some y → S3 61 (21 * a + q % 21) ≠ 0 ∧ S3 61 (21 * c + q % 21) ≠ 0) ∧ (∀ A y, LM[q / 21] = fo_ab A y → ∀ c, LM[c]? = some y → S3 61 (21 * c + (q % 21 + rm_inc hw)) ≠ 0)) →
            (∀ n, q < n → S3 61 n = S2 61 n) →
            ∀ u5 u6, G 48 [some (.inr 39), some (.inl (kn i)), some (.inl (kn hw)), some (.inl x), some (.inl (kn q + (-1))), u5, u6] [] S3 := by
          intro S3 o3 gr nw cl same u5 u6
          refine ih (by omega) S3 o3 ⟨gr _ D1, fun n t hn nn hnt R hR hR0 => ?_, fun n t hn hn2 nn hnt hs => ?_⟩ _ u5 u6 nextw
          · rcases nw n hn nn with z | z
            · exact D2 n t hn z hnt R hR hR0
            · exact z t hnt R hR hR0
          · by_cases e : n = q
            · subst e
              rw [hu] at hnt
              injection hnt with hnt
              subst hnt
              exact cl
            · rw [same n (by omega)] at nn
              obtain ⟨g1, g2⟩ := D3 n t (by omega) hn2 nn hnt hs
              exact ⟨fun f y e a c ha hc => ⟨gr _ (g1 f y e a c ha hc).1, gr _ (g1 f y e a c ha hc).2⟩, fun A y e c hc => gr _ (g2 A y e c hc)⟩
        refine f_Mo_mark_84 kspec_Mo hG ⟨huin, ?_⟩
        rw [kn_tn (by omega), kn_m21 (by omega)]
        rcases fo_wf_cases hwf with ⟨s, n, A, et, ho⟩ | ⟨f, y, B, et, _⟩ | ⟨A, y, et, _⟩
        · -- a leaf
          have hs := fo_lo_s ho
          have e47 : S2 47 (q / 21) = kn s := by
            rcases ho.2 with z | ⟨z, _, a, ea⟩ | z | z
            · exact (r3 s n A et (by omega)).1
            · rw [ea, z] at et
              rw [z]
              exact (r3e n _ _ et).1
            · exact (r3 s n A et (by omega)).1
            · exact (r3 s n A et (by omega)).1
          rw [e47]
          have nope : ∀ u6 : Option kV, G 48 [some (.inr 39), some (.inl (kn i)), some (.inl (kn hw)), some (.inl x), some (.inl (kn q + (-1))), some (.inl (kn (q / 21))), u6] [] S2 := fun u6 => keep (fun _ _ => ⟨fun f y e => by rw [et] at e; exact fo_ap_lf e.symm, fun A y e => by rw [et] at e; exact fo_ab_lf e.symm⟩) _ u6
          refine ⟨fun _ => f_Mo_mark_140 kspec_Mo hG ⟨huin, ?_⟩, fun e => ?_⟩
          · rw [kn_tn (by omega), e47]
            refine ⟨fun _ => nope _, fun e => ?_⟩
            have := kn_inj (m := 4) (by omega) (by decide) (Classical.not_not.mp e)
            omega
          · have := kn_inj (m := 3) (by omega) (by decide) (Classical.not_not.mp e)
            omega
        · -- an application
          obtain ⟨e47, a, c, la, lc, ha, hc, e48, e49⟩ := r4 f y et
          rw [e47, e48, e49, kn_21, kn_21, kn_tn (by omega), kn_tn (by omega), one]
          refine ⟨fun e => absurd rfl e, fun _ => ⟨huin, kn_in (by omega) (by decide), huin, kn_in (by omega) (by decide), ?_⟩⟩
          have v61 : ∀ n, ku (ku S2 61 (21 * a + q % 21) 1) 61 (21 * c + q % 21) 1 61 n = if n = 21 * a + q % 21 ∨ n = 21 * c + q % 21 then 1 else S2 61 n := by
            intro n
            by_cases ec : n = 21 * c + q % 21
            · subst ec; rw [ku_self, if_pos (Or.inr rfl)]
            · rw [ku_ne (by omega)]
              by_cases ea : n = 21 * a + q % 21
              · subst ea; rw [ku_self, if_pos (Or.inl rfl)]
              · rw [ku_ne (by omega), if_neg (by omega)]
          have o3 : ∀ o j, o ≠ 61 → ku (ku S2 61 (21 * a + q % 21) 1) 61 (21 * c + q % 21) 1 o j = S1 o j := fun o j ho => by
            rw [ku_ne (by omega), ku_ne (by omega)]; exact o2 o j ho
          refine f_Mo_mark_140 kspec_Mo hG ⟨huin, ?_⟩
          rw [kn_tn (by omega), o3 47 _ (by decide), ← o2 47 _ (by decide), e47]
          refine ⟨fun _ => set1 _ o3 (fun n nn => ?_) (fun n hn nn => ?_) ⟨fun f' y' e' a' c' ha' hc' => ?_, fun A y' e' => ?_⟩ (fun n hn => ?_) _ _, fun e => absurd (Classical.not_not.mp e) (by decide)⟩
          · rw [v61]; split
            · decide
            · exact nn
          · rw [v61] at nn
            by_cases e : n = 21 * a + q % 21 ∨ n = 21 * c + q % 21
            · refine Or.inr (fun t hnt R hR hR0 => ?_)
              have hch := (hR (q / 21) _ (q % 21) hu (Rq R hR hR0) hst).1 f y et
              rcases e with e | e
              · have e1 : n / 21 = a := by omega
                have e2 : n % 21 = q % 21 := by omega
                rw [e1, ha] at hnt
                injection hnt with hnt
                rw [← hnt, e2]; exact hch.1
              · have e1 : n / 21 = c := by omega
                have e2 : n % 21 = q % 21 := by omega
                rw [e1, hc] at hnt
                injection hnt with hnt
                rw [← hnt, e2]; exact hch.2
            · rw [if_neg e] at nn; exact Or.inl nn
          · rw [et] at e'
            obtain ⟨rfl, rfl⟩ := fo_ap_inj e'
            rw [fo_ix hL.2.1 ha' ha, fo_ix hL.2.1 hc' hc, v61, v61, if_pos (Or.inl rfl), if_pos (Or.inr rfl)]
            exact ⟨by decide, by decide⟩
          · rw [et] at e'
            exact absurd e' fo_ap_ab
          · rw [v61, if_neg (by omega)]
        · -- an abstraction
          obtain ⟨e47, a, c, ha, lc, hc, e48, e49⟩ := r5 A y et
          rw [e47]
          refine ⟨fun _ => f_Mo_mark_140 kspec_Mo hG ⟨huin, ?_⟩, fun e => absurd (Classical.not_not.mp e) (by decide)⟩
          rw [kn_tn (by omega), e47, e49]
          have dep2 : q % 21 + rm_inc hw ≤ 20 := by
            rw [et, fo_ht_ab] at dep
            have := fo_ht_pos y
            omega
          have fin : ∀ m, m = 21 * c + (q % 21 + rm_inc hw) → G 48 [some (.inr 39), some (.inl (kn i)), some (.inl (kn hw)), some (.inl x), some (.inl (kn q + (-1))), some (.inl (kn (q / 21))), some (.inl (kn (q % 21)))] [] (ku S2 61 m 1) := by
            intro m hm
            have v61 : ∀ n, ku S2 61 m 1 61 n = if n = m then 1 else S2 61 n := by
              intro n
              by_cases e : n = m
              · subst e; rw [ku_self, if_pos rfl]
              · rw [ku_ne (by omega), if_neg e]
            refine set1 _ (fun o j ho => (ku_ne (by omega)).trans (o2 o j ho)) (fun n nn => ?_) (fun n hn nn => ?_) ⟨fun f' y' e' => ?_, fun A' y' e' c' hc' => ?_⟩ (fun n hn => ?_) _ _
            · rw [v61]; split
              · decide
              · exact nn
            · rw [v61] at nn
              by_cases e : n = m
              · refine Or.inr (fun t hnt R hR hR0 => ?_)
                have hch := (hR (q / 21) _ (q % 21) hu (Rq R hR hR0) hst).2 A y et
                have e1 : n / 21 = c := by omega
                have e2 : n % 21 = q % 21 + rm_inc hw := by omega
                rw [e1, hc] at hnt
                injection hnt with hnt
                rw [← hnt, e2]; exact hch
              · rw [if_neg e] at nn; exact Or.inl nn
            · rw [et] at e'
              exact absurd e'.symm fo_ap_ab
            · rw [et] at e'
              obtain ⟨rfl, rfl⟩ := fo_ab_inj e'
              rw [fo_ix hL.2.1 hc' hc, ← hm, v61, if_pos rfl]
              decide
            · rw [v61, if_neg (by omega)]
          refine ⟨fun e => absurd rfl e, fun _ => ⟨huin, fun e => ?_, fun e => ?_⟩⟩
          · have h1 : ¬ hw ≤ 1 := by
              have := (kn_lt (n := 1) (m := hw) (by decide) (by omega)).mp e
              omega
            have hi0 : rm_inc hw = 0 := if_neg h1
            rw [kn_21, kn_tn (by omega), one]
            exact ⟨kn_in (by omega) (by decide), fin _ (by omega)⟩
          · have h1 : hw ≤ 1 := by
              have : ¬ 1 < hw := fun z => e ((kn_lt (n := 1) (m := hw) (by decide) (by omega)).mpr z)
              omega
            have hi1 : rm_inc hw = 1 := if_pos h1
            rw [kn_suc, kn_21, kn_tn (by omega), one]
            exact ⟨kn_in (by omega) (by decide), fin _ (by omega)⟩
      refine ⟨hqin, fun e => keep (fun z => absurd e z) _ _, fun e => ⟨fun e2 => go e (fun z => e2 (by rw [z.1]; rfl)), fun e2 => ⟨fun e3 => go e (fun z => e3 z.2), fun e3 => keep (fun _ z => absurd ⟨kn_inj (m := 4) (by omega) (by decide) (Classical.not_not.mp e2), Classical.not_not.mp e3⟩ z) _ _⟩⟩⟩
  -- nothing is needed yet
  have k21 : 21 * kn i + 21 = kn (21 * i + 21) := by rw [show (21 : Int32) = kn 21 from rfl, kn_mul, kn_add]
  have k20 : 21 * kn i + 20 = kn (21 * i + 20) := by rw [show (21 : Int32) = kn 21 from rfl, kn_mul, show (20 : Int32) = kn 20 from rfl, kn_add]
  have k00 : 21 * kn i = kn (21 * i) := by rw [show (21 : Int32) = kn 21 from rfl, kn_mul]
  have clr : ∀ m q, q + m = 21 * i + 21 → ∀ S2 : kS, (∀ o j, o ≠ 61 → S2 o j = S1 o j) → (∀ j, j < q → S2 61 j = 0) → G 3 [some (.inr 39), some (.inl (kn i)), some (.inl (kn hw)), some (.inl x), some (.inl (kn q)), none, none] [] S2 := by
    intro m
    induction m with
    | zero =>
      intro q hq S2 o2 z2
      have : q = 21 * i + 21 := by omega
      subst this
      refine f_Mo_mark_3 kspec_Mo hG ⟨fun _ => ?_, fun e => absurd (by rw [k21]; exact (kn_le (by omega) (by omega)).mpr (Nat.le_refl _)) e⟩
      rw [k20, k00, kn_tn (by omega), one]
      have v61 : ∀ n, n < 21 * i + 21 → ku S2 61 (21 * i) 1 61 n ≠ 0 → n = 21 * i := by
        intro n hn nn
        by_cases e : n = 21 * i
        · exact e
        · rw [ku_ne (by omega)] at nn
          exact absurd (z2 n hn) nn
      refine ⟨kn_in (by omega) (by decide), down (21 * i + 21) (Nat.le_refl _) _ (fun o j ho => (ku_ne (by omega)).trans (o2 o j ho)) ⟨by show ku S2 61 (21 * i) 1 61 (21 * i) ≠ 0; rw [ku_self]; decide, fun n t hn nn hnt R hR hR0 => ?_, fun n t hn hn2 => absurd hn2 (by omega)⟩ _ _ _ (Or.inr ⟨21 * i + 20, rfl, rfl⟩)⟩
      have e := v61 n hn nn
      have e1 : n / 21 = i := by omega
      have e2 : n % 21 = 0 := by omega
      rw [e1, hi] at hnt
      injection hnt with hnt
      rw [← hnt, e2]; exact hR0
    | succ m ih =>
      intro q hq S2 o2 z2
      refine f_Mo_mark_3 kspec_Mo hG ⟨fun e => absurd ((kn_le (by omega) (by omega)).mp (k21 ▸ e)) (by omega), fun _ => ⟨kn_in (by omega) (by decide), ?_⟩⟩
      rw [kn_tn (by omega), kn_suc, zero]
      refine ih (q + 1) (by omega) _ (fun o j ho => (ku_ne (by omega)).trans (o2 o j ho)) (fun j hj => ?_)
      by_cases e : j = q
      · subst e; exact ku_self
      · rw [ku_ne (by omega)]; exact z2 j (by omega)
  exact clr (21 * i + 21) 0 (by omega) S1 (fun _ _ _ => rfl) (fun j hj => absurd hj (by omega))
