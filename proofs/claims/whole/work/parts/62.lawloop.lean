/-! ===== THE LAW'S LOOP ===== -/
section LAWLOOP
variable {p : Program} {l : Launch} {e : Env} {s : State} {m : MethodId} {below : List Frame} {meth : Method} {c : Code} {b L : Nat} {xs : Nat → Int32} {D : va_G} {cI cZ : ClassId} {ad : Nat → Nat}
set_option maxHeartbeats 4000000 in
theorem lc_loop (X : lcX p s m #[Value.ref b] c b L xs D cI cZ ad) (hr : meth.sig.returnType = ret) (hlocks : meth.locks = false) (hL : L ≤ 2560) : ∀ (n t : Nat), 5 * t + 5 * n ≤ L → L < 5 * t + 5 * n + 5 → ∀ (H : Heap) (locs : List Loc) (S : kS) (M : kO) (τ : Nat) (ls : Array Slot), lv_has ls 4 (lcl b ad (kn (5 * t))) → va_P D kcl (kw cI cZ ad S) H → va_S (lcS s) s.heap H locs → kBoth S M τ → τ ≤ 24 * t → W p l e room_1 s m #[Value.ref b] below meth c H locs 600000 7302250 (lw_Z below #[Value.ref b] s) (F0 m 18 ls []) := by
  intro n
  induction n with
  | zero =>
    intro t h1 h2 H locs S M τ ls hl hP hS hB hτ
    refine lv_iload_n X.1.1 X.1.2.1 dl_18 rfl (lv_at hl 0 rfl) ?_
    refine lv_aload_n X.1.1 X.1.2.1 dl_19 rfl (lv_at hl 3 rfl) ?_
    refine va_slen X.1.1 X.1.2.1 X.2.1 X.2.2.1 (Nat.not_le.mpr X.2.2.1) hS dl_20 ?_
    refine lv_iconst (v := 5) X.1.1 X.1.2.1 dl_21 (by decide) ?_
    refine lv_isub X.1.1 X.1.2.1 dl_22 ?_
    refine lv_icmp_gt (tgt := 704) X.1.1 X.1.2.1 dl_23 (by decide) (fun _ => ?_) (fun hn => absurd ((lc_le (L := L) hL (by omega)).mpr (by omega)) hn)
    refine va_forget hS.2.2 ?_
    refine lv_iconst (v := 1) X.1.1 X.1.2.1 dl_704 (by decide) ?_
    exact lw_ret X.1.1 X.1.2.1 hr hlocks dl_705
  | succ n ih =>
    intro t h1 h2 H locs S M τ ls hl hP hS hB hτ
    refine lv_iload_n X.1.1 X.1.2.1 dl_18 rfl (lv_at hl 0 rfl) ?_
    refine lv_aload_n X.1.1 X.1.2.1 dl_19 rfl (lv_at hl 3 rfl) ?_
    refine va_slen X.1.1 X.1.2.1 X.2.1 X.2.2.1 (Nat.not_le.mpr X.2.2.1) hS dl_20 ?_
    refine lv_iconst (v := 5) X.1.1 X.1.2.1 dl_21 (by decide) ?_
    refine lv_isub X.1.1 X.1.2.1 dl_22 ?_
    refine lv_icmp_gt (tgt := 704) X.1.1 X.1.2.1 dl_23 (by decide) (fun hn => absurd ((lc_le (L := L) hL (by omega)).mp hn) (by omega)) (fun _ => ?_)
    refine lv_aload_n X.1.1 X.1.2.1 dl_26 rfl (lv_at hl 3 rfl) ?_
    refine lv_iload_n X.1.1 X.1.2.1 dl_27 rfl (lv_at hl 0 rfl) ?_
    refine va_sld X.1.1 X.1.2.1 X.2.1 X.2.2.1 (Nat.not_le.mpr X.2.2.1) hS (kn_in (by omega) (by omega)) dl_28 ?_
    refine lv_bipush (v := 31) X.1.1 X.1.2.1 dl_29 (by decide) ?_
    refine lv_iand X.1.1 X.1.2.1 dl_31 ?_
    refine lv_topi (fun w _ => ?_)
    have hin : ∀ k : Nat, k < 5 → vp_in (kn (5 * t) + Int32.ofNat k) L := fun k hk => by
      rw [show kn (5 * t) + Int32.ofNat k = kn (5 * t + k) from kn_add _ _]
      exact kn_in (by omega) (by omega)
    have next : ∀ (H1 : Heap) (locs1 : List Loc) (S1 : kS) (M1 : kO) (τ1 : Nat), va_P D kcl (kw cI cZ ad S1) H1 → va_S (lcS s) s.heap H1 locs1 → kBoth S1 M1 τ1 → τ1 ≤ τ + 24 → W p l e room_1 s m #[Value.ref b] below meth c H1 locs1 600000 7302250 (lw_Z below #[Value.ref b] s) (F0 m 698 ls []) := by
      intro H1 locs1 S1 M1 τ1 hP1 hS1 hB1 ht1
      refine lv_iinc (v := kn (5 * (t + 1))) (k := 0) X.1.1 X.1.2.1 dl_698 hl rfl ?_ (by decide) rfl (fun ls' hl' => ?_)
      · show kn (5 * t) + Int32.ofInt 5 = kn (5 * (t + 1))
        rw [show Int32.ofInt 5 = kn 5 from by decide, kn_add, show 5 * t + 5 = 5 * (t + 1) by omega]
      · refine lv_goto (tgt := 18) X.1.1 X.1.2.1 dl_701 (by decide) ?_
        exact ih (t + 1) (by omega) (by omega) H1 locs1 S1 M1 τ1 ls' hl' hP1 hS1 hB1 (by omega)
    by_cases hsw : w.toInt < 0 ∨ 19 < w.toInt
    · exact lv_tableOut (tgt := 698) X.1.1 X.1.2.1 dl_32 hsw (by decide) (next H locs S M τ hP hS hB (by omega))
    · obtain ⟨k, hk1, hk2⟩ : ∃ k : Nat, w.toInt = (k : Int) ∧ k < 20 := ⟨w.toInt.toNat, by omega, by omega⟩
      rcases (show k = 0 ∨ k = 1 ∨ k = 2 ∨ k = 3 ∨ k = 4 ∨ k = 5 ∨ k = 6 ∨ k = 7 ∨ k = 8 ∨ k = 9 ∨ k = 10 ∨ k = 11 ∨ k = 12 ∨ k = 13 ∨ k = 14 ∨ k = 15 ∨ k = 16 ∨ k = 17 ∨ k = 18 ∨ k = 19 by omega) with rfl | rfl | rfl | rfl | rfl | rfl | rfl | rfl | rfl | rfl | rfl | rfl | rfl | rfl | rfl | rfl | rfl | rfl | rfl | rfl
      · exact lv_tableIn (off := 96) (tgt := 128) X.1.1 X.1.2.1 dl_32 (by omega) (by omega) (by rw [hk1]; rfl) (by decide) (lc_case_0 X hl hin hP hS hB (by omega) next)
      · exact lv_tableIn (off := 119) (tgt := 151) X.1.1 X.1.2.1 dl_32 (by omega) (by omega) (by rw [hk1]; rfl) (by decide) (lc_case_1 X hl hin hP hS hB (by omega) next)
      · exact lv_tableIn (off := 152) (tgt := 184) X.1.1 X.1.2.1 dl_32 (by omega) (by omega) (by rw [hk1]; rfl) (by decide) (lc_case_2 X hl hin hP hS hB (by omega) next)
      · exact lv_tableIn (off := 185) (tgt := 217) X.1.1 X.1.2.1 dl_32 (by omega) (by omega) (by rw [hk1]; rfl) (by decide) (lc_case_3 X hl hin hP hS hB (by omega) next)
      · exact lv_tableIn (off := 208) (tgt := 240) X.1.1 X.1.2.1 dl_32 (by omega) (by omega) (by rw [hk1]; rfl) (by decide) (lc_case_4 X hl hin hP hS hB (by omega) next)
      · exact lv_tableIn (off := 241) (tgt := 273) X.1.1 X.1.2.1 dl_32 (by omega) (by omega) (by rw [hk1]; rfl) (by decide) (lc_case_5 X hl hin hP hS hB (by omega) next)
      · exact lv_tableIn (off := 274) (tgt := 306) X.1.1 X.1.2.1 dl_32 (by omega) (by omega) (by rw [hk1]; rfl) (by decide) (lc_case_6 X hl hin hP hS hB (by omega) next)
      · exact lv_tableIn (off := 327) (tgt := 359) X.1.1 X.1.2.1 dl_32 (by omega) (by omega) (by rw [hk1]; rfl) (by decide) (lc_case_7 X hl hin hP hS hB (by omega) next)
      · exact lv_tableIn (off := 350) (tgt := 382) X.1.1 X.1.2.1 dl_32 (by omega) (by omega) (by rw [hk1]; rfl) (by decide) (lc_case_8 X hl hin hP hS hB (by omega) next)
      · exact lv_tableIn (off := 373) (tgt := 405) X.1.1 X.1.2.1 dl_32 (by omega) (by omega) (by rw [hk1]; rfl) (by decide) (lc_case_9 X hl hin hP hS hB (by omega) next)
      · exact lv_tableIn (off := 426) (tgt := 458) X.1.1 X.1.2.1 dl_32 (by omega) (by omega) (by rw [hk1]; rfl) (by decide) (lc_case_10 X hl hin hP hS hB (by omega) next)
      · exact lv_tableIn (off := 439) (tgt := 471) X.1.1 X.1.2.1 dl_32 (by omega) (by omega) (by rw [hk1]; rfl) (by decide) (lc_case_11 X hl hin hP hS hB (by omega) next)
      · exact lv_tableIn (off := 452) (tgt := 484) X.1.1 X.1.2.1 dl_32 (by omega) (by omega) (by rw [hk1]; rfl) (by decide) (lc_case_12 X hl hin hP hS hB (by omega) next)
      · exact lv_tableIn (off := 475) (tgt := 507) X.1.1 X.1.2.1 dl_32 (by omega) (by omega) (by rw [hk1]; rfl) (by decide) (lc_case_13 X hl hin hP hS hB (by omega) next)
      · exact lv_tableIn (off := 498) (tgt := 530) X.1.1 X.1.2.1 dl_32 (by omega) (by omega) (by rw [hk1]; rfl) (by decide) (lc_case_14 X hl hin hP hS hB (by omega) next)
      · exact lv_tableIn (off := 531) (tgt := 563) X.1.1 X.1.2.1 dl_32 (by omega) (by omega) (by rw [hk1]; rfl) (by decide) (lc_case_15 X hl hin hP hS hB (by omega) next)
      · exact lv_tableIn (off := 564) (tgt := 596) X.1.1 X.1.2.1 dl_32 (by omega) (by omega) (by rw [hk1]; rfl) (by decide) (lc_case_16 X hl hin hP hS hB (by omega) next)
      · exact lv_tableIn (off := 587) (tgt := 619) X.1.1 X.1.2.1 dl_32 (by omega) (by omega) (by rw [hk1]; rfl) (by decide) (lc_case_17 X hl hin hP hS hB (by omega) next)
      · exact lv_tableIn (off := 610) (tgt := 642) X.1.1 X.1.2.1 dl_32 (by omega) (by omega) (by rw [hk1]; rfl) (by decide) (lc_case_18 X hl hin hP hS hB (by omega) next)
      · exact lv_tableIn (off := 643) (tgt := 675) X.1.1 X.1.2.1 dl_32 (by omega) (by omega) (by rw [hk1]; rfl) (by decide) (lc_case_19 X hl hin hP hS hB (by omega) next)
end LAWLOOP
