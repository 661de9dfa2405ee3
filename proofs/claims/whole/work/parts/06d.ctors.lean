/-! printed: the constructors -/
set_option maxHeartbeats 4000000 in
set_option maxRecDepth 100000 in
theorem cq_Nu_1 (l : Launch) (D : va_G) (cI cZ : ClassId) (h0 sz : Nat) : Met l ⟨"SequentKernel$Numbers", "<init>", "(I)V"⟩ (Cond.code ⟨"SequentKernel$Numbers", "<init>", "(I)V"⟩ prog_4_method_1_code 2 none :: kwl) ({ frames := 1, cells := 2, slots := 100, locals := 23 }) (va_Pc [.ref h0, .int 50] (coB D cI cZ [(h0, .inr (2, [.null, .null, .int 0]))] sz)) (va_Qv (fun _ : Nat → Nat => True) (coE D cI cZ (va_A [(h0, .inr (2, [.null, .null, .int 0]))] sz) (fun u => [(h0, .inr (2, [.ref (u 0), .ref (u 1), .int 0])), ((u 0), .inl (cI, 50, .inl ko_z)), ((u 1), .inl (cI, 50, .inl (ko_f 50 (-1) ko_z)))])) (va_A [(h0, .inr (2, [.null, .null, .int 0]))] sz)) 2 100 (va_A [(h0, .inr (2, [.null, .null, .int 0]))] sz) := by
  refine Met.ofW (cc := prog_4_method_1_code) (maxL := 2) (ret := none) (by decide +kernel) rfl ?_
  intro p e s m args below meth c s₁ B hml hv
  obtain ⟨rfl, hsz, hP, hK, hD0⟩ := hv
  have hx := B.exec
  have hb := B.bytes
  have hr : meth.sig.returnType = none := B.returns
  have hts : ∀ w ∈ kwl, w.before ([.ref h0, .int 50] : List Value).toArray s = true := fun w h => atoms_spec (ws := (Cond.code ⟨"SequentKernel$Numbers", "<init>", "(I)V"⟩ prog_4_method_1_code 2 none :: kwl)) B.pre w (List.mem_cons_of_mem _ h)
  have hown : s.vm.findClass kR2 = some m.cls := findClass_of_methodNamed B.named
  have hlocks := B.notSynchronized
  have hin : meth.name = "<init>" := (name_of_methodNamed B.named B.method).1
  subst hsz
  have hD := hD0.self (sz := s.heap.size)
  generalize hAe : va_A [(h0, .inr (2, [.null, .null, .int 0]))] s.heap.size = A at hD ⊢
  have hA : ∀ q : Nat, s.heap.size ≤ q → A q := fun q h => by rw [← hAe]; exact Or.inr h
  have hS : va_S A s.heap s.heap [] := va_S.rf
  have hl := lv_entry ([.ref h0, .int 50]) (n := 2) (Nat.le_of_ble_eq_true rfl)
  rw [lg_entry_eq]
  generalize (lg_sl ([.ref h0, .int 50]) ++ List.replicate (2 - (lg_sl ([.ref h0, .int 50])).length) Slot.unset).toArray = ls at hl ⊢
  have hl : lv_has ls 2 [(0, .ref h0), (1, .int 50)] := hl
  refine lv_aload_n hx hb dn_Nu_0 rfl (lv_at hl 0 rfl) ?_
  refine W.objInit hx hb hown (hts _ kv_10) (hts _ kv_1) (hts _ kv_2) rfl (by rw [hml]; exact hl.1) rfl dn_Nu_1 (Nat.le_of_ble_eq_true rfl) (Nat.le_of_ble_eq_true rfl) ?_
  refine W.eq (g2 := F0 m 4 ls []) rfl ?_
  refine lv_aload_n hx hb dn_Nu_4 rfl (lv_at hl 0 rfl) ?_
  refine lv_iload_n hx hb dn_Nu_5 rfl (lv_at hl 1 rfl) ?_
  refine co_newI (N := 50) hx hb (hts _ kv_11) hK hP hD hS hA (by decide) (by decide) (by decide) (show 0 + 1 ≤ 2 from by decide) (show 0 + 50 ≤ 100 from by decide) dn_Nu_6 (fun q6 H hP hD hS => ?_)
  have hP : va_P D kcl [(h0, .inr (2, [.null, .null, .int 0])), (q6, .inl (cI, 50, .inl ko_z))] H := hP
  have hD : va_D A [(h0, .inr (2, [.null, .null, .int 0])), (q6, .inl (cI, 50, .inl ko_z))] := hD
  refine co_cs (k := 1) (n := 50) rfl rfl ?_
  refine va_putF (D := D) (ci := 2) (v := .ref q6) (ty := .array .int) (C := kR2) (T := kT2) (N := 3) hx hb hts kjn2 kt2 kty2 knm2 hown hK hP hD hS 0 rfl rfl 0 (by decide) (hts _ kv_12) (fun _ h9 => h9) rfl hin rfl (by decide +kernel) rfl rfl (Nat.le_of_ble_eq_true rfl) dn_Nu_8 (fun H locs hP hD hS => ?_)
  have hP : va_P D kcl [(h0, .inr (2, [.ref q6, .null, .int 0])), (q6, .inl (cI, 50, .inl ko_z))] H := hP
  have hD : va_D A [(h0, .inr (2, [.ref q6, .null, .int 0])), (q6, .inl (cI, 50, .inl ko_z))] := hD
  refine lv_aload_n hx hb dn_Nu_11 rfl (lv_at hl 0 rfl) ?_
  refine lv_iload_n hx hb dn_Nu_12 rfl (lv_at hl 1 rfl) ?_
  refine co_newI (N := 50) hx hb (hts _ kv_11) hK hP hD hS hA (by decide) (by decide) (by decide) (show 1 + 1 ≤ 2 from by decide) (show 50 + 50 ≤ 100 from by decide) dn_Nu_13 (fun q13 H hP hD hS => ?_)
  have hP : va_P D kcl [(h0, .inr (2, [.ref q6, .null, .int 0])), (q6, .inl (cI, 50, .inl ko_z)), (q13, .inl (cI, 50, .inl ko_z))] H := hP
  have hD : va_D A [(h0, .inr (2, [.ref q6, .null, .int 0])), (q6, .inl (cI, 50, .inl ko_z)), (q13, .inl (cI, 50, .inl ko_z))] := hD
  refine co_cs (k := 2) (n := 100) rfl rfl ?_
  refine co_pc (pc' := 15) rfl ?_
  refine va_putF (D := D) (ci := 2) (v := .ref q13) (ty := .array .int) (C := kR2) (T := kT2) (N := 3) hx hb hts kjn2 kt2 kty2 knm2 hown hK hP hD hS 0 rfl rfl 1 (by decide) (hts _ kv_13) (fun _ h9 => h9) rfl hin rfl (by decide +kernel) rfl rfl (Nat.le_of_ble_eq_true rfl) dn_Nu_15 (fun H locs hP hD hS => ?_)
  have hP : va_P D kcl [(h0, .inr (2, [.ref q6, .ref q13, .int 0])), (q6, .inl (cI, 50, .inl ko_z)), (q13, .inl (cI, 50, .inl ko_z))] H := hP
  have hD : va_D A [(h0, .inr (2, [.ref q6, .ref q13, .int 0])), (q6, .inl (cI, 50, .inl ko_z)), (q13, .inl (cI, 50, .inl ko_z))] := hD
  refine lv_aload_n hx hb dn_Nu_18 rfl (lv_at hl 0 rfl) ?_
  refine va_get (D := D) (ci := 2) (v := .ref q13) (C := kR2) (T := kT2) (N := 3) hx hb hts kjn2 hown hK hP 0 rfl rfl 1 (by decide) (hts _ kv_13) (fun _ h9 => h9) rfl dn_Nu_19 ?_
  refine lv_iconst (v := (-1)) hx hb dn_Nu_22 (by decide) ?_
  refine co_v (wc := [(q13, .inl (cI, 50, .inl ko_z))]) (wr := [(h0, .inr (2, [.ref q6, .ref q13, .int 0])), (q6, .inl (cI, 50, .inl ko_z))]) (w1 := fun u => [(q13, .inl (cI, 50, .inl (ko_f 50 (-1) ko_z)))]) (va_runS (As := [.ref q13, .int (-1)]) (rest := []) ⟨hx, hb, hml, hown, hts⟩ (co_fill (n := 50) (v := (-1)) (f := ko_z) l D cI cZ q13 H.size (by decide)) ⟨callB_of 2 hts (kgI kv_14) rfl rfl rfl (hts _ kv_15) (hts _ kv_16) (by decide +kernel) ⟨Nat.le_of_ble_eq_true rfl, Nat.le_of_ble_eq_true rfl⟩, hts _ kv_17⟩ (co_pre hK hP hD [2] rfl (by decide)) rfl rfl hl.1 rfl (lv_room (Nat.le_of_ble_eq_true rfl)) dn_Nu_23 ⟨show 2 + 0 ≤ 2 from by decide, show 100 + 0 ≤ 100 from by decide⟩) hP hD hS hA [2] [0, 1] rfl rfl (by decide) (by decide) (fun u0 H locs hP hD hS => ?_)
  have hP : va_P D kcl [(h0, .inr (2, [.ref q6, .ref q13, .int 0])), (q6, .inl (cI, 50, .inl ko_z)), (q13, .inl (cI, 50, .inl (ko_f 50 (-1) ko_z)))] H := hP
  have hD : va_D A [(h0, .inr (2, [.ref q6, .ref q13, .int 0])), (q6, .inl (cI, 50, .inl ko_z)), (q13, .inl (cI, 50, .inl (ko_f 50 (-1) ko_z)))] := hD
  refine co_cs (k := 2) (n := 100) rfl rfl ?_
  have hP9 := hP.sub (ws' := [(h0, .inr (2, [.ref q6, .ref q13, .int 0])), (q6, .inl (cI, 50, .inl ko_z)), (q13, .inl (cI, 50, .inl (ko_f 50 (-1) ko_z)))]) [0, 1, 2] rfl
  have hD9 := hD.sub (ws' := [(h0, .inr (2, [.ref q6, .ref q13, .int 0])), (q6, .inl (cI, 50, .inl ko_z)), (q13, .inl (cI, 50, .inl (ko_f 50 (-1) ko_z)))]) [0, 1, 2] (by decide) rfl
  exact W.vret hx hb hr (fun t ht hW => ⟨⟨(kix 0 [q6, q13]), rfl, trivial, by rw [ht]; exact hP9, va_K.moved hW.alike hK, hD9⟩, hS.F ht⟩) hS.2.2 dn_Nu_26
set_option maxHeartbeats 4000000 in
set_option maxRecDepth 100000 in
theorem cq_Ty_store_1 (l : Launch) (D : va_G) (cI cZ : ClassId) (h0 h1 h2 h3 h4 h5 g0 sz : Nat) : Met l (ky 0) (kws 0) ({ frames := 0, cells := 0, slots := 0, locals := 0 }) (va_Pc [.ref h0, .int 0, .int 0, .int 0] (coB D cI cZ [(h0, .inr (1, [.ref g0, .ref h1, .ref h2, .ref h3, .ref h4, .ref h5, .int 0, .int 0])), (h1, .inl (cI, 50, .inl ko_z)), (h2, .inl (cI, 50, .inl ko_z)), (h3, .inl (cI, 50, .inl ko_z)), (h4, .inl (cZ, 50, .inl ko_z)), (h5, .inl (cI, 50, .inl ko_z))] sz)) (va_Qi (fun (r : Int32) (_ : Nat → Nat) => r = 0) (coE D cI cZ (va_A [(h0, .inr (1, [.ref g0, .ref h1, .ref h2, .ref h3, .ref h4, .ref h5, .int 0, .int 0])), (h1, .inl (cI, 50, .inl ko_z)), (h2, .inl (cI, 50, .inl ko_z)), (h3, .inl (cI, 50, .inl ko_z)), (h4, .inl (cZ, 50, .inl ko_z)), (h5, .inl (cI, 50, .inl ko_z))] sz) (fun u => [(h0, .inr (1, [.ref g0, .ref h1, .ref h2, .ref h3, .ref h4, .ref h5, .int 1, .int 0])), (h1, .inl (cI, 50, .inl (upd ko_z 0 0))), (h2, .inl (cI, 50, .inl (upd ko_z 0 0))), (h3, .inl (cI, 50, .inl (upd ko_z 0 0))), (h4, .inl (cZ, 50, .inl (upd ko_z 0 0))), (h5, .inl (cI, 50, .inl (upd ko_z 0 1)))])) (va_A [(h0, .inr (1, [.ref g0, .ref h1, .ref h2, .ref h3, .ref h4, .ref h5, .int 0, .int 0])), (h1, .inl (cI, 50, .inl ko_z)), (h2, .inl (cI, 50, .inl ko_z)), (h3, .inl (cI, 50, .inl ko_z)), (h4, .inl (cZ, 50, .inl ko_z)), (h5, .inl (cI, 50, .inl ko_z))] sz)) 0 0 (va_A [(h0, .inr (1, [.ref g0, .ref h1, .ref h2, .ref h3, .ref h4, .ref h5, .int 0, .int 0])), (h1, .inl (cI, 50, .inl ko_z)), (h2, .inl (cI, 50, .inl ko_z)), (h3, .inl (cI, 50, .inl ko_z)), (h4, .inl (cZ, 50, .inl ko_z)), (h5, .inl (cI, 50, .inl ko_z))] sz) := by
  refine Met.ofW (cc := (kby 0)) (maxL := 6) (ret := (some .int)) (by decide +kernel) rfl ?_
  intro p e s m args below meth c s₁ B hml hv
  obtain ⟨rfl, hsz, hP, hK, hD0⟩ := hv
  have hx := B.exec
  have hb := B.bytes
  have hr : meth.sig.returnType = (some .int) := B.returns
  have hts : ∀ w ∈ kwl, w.before ([.ref h0, .int 0, .int 0, .int 0] : List Value).toArray s = true := fun w h => atoms_spec (ws := (kws 0)) B.pre w (List.mem_cons_of_mem _ h)
  have hown : s.vm.findClass kR1 = some m.cls := findClass_of_methodNamed B.named
  have hlocks := B.notSynchronized
  subst hsz
  have hD := hD0.self (sz := s.heap.size)
  generalize hAe : va_A [(h0, .inr (1, [.ref g0, .ref h1, .ref h2, .ref h3, .ref h4, .ref h5, .int 0, .int 0])), (h1, .inl (cI, 50, .inl ko_z)), (h2, .inl (cI, 50, .inl ko_z)), (h3, .inl (cI, 50, .inl ko_z)), (h4, .inl (cZ, 50, .inl ko_z)), (h5, .inl (cI, 50, .inl ko_z))] s.heap.size = A at hD ⊢
  have hA : ∀ q : Nat, s.heap.size ≤ q → A q := fun q h => by rw [← hAe]; exact Or.inr h
  have hS : va_S A s.heap s.heap [] := va_S.rf
  have hl := lv_entry ([.ref h0, .int 0, .int 0, .int 0]) (n := 6) (Nat.le_of_ble_eq_true rfl)
  rw [lg_entry_eq]
  generalize (lg_sl ([.ref h0, .int 0, .int 0, .int 0]) ++ List.replicate (6 - (lg_sl ([.ref h0, .int 0, .int 0, .int 0])).length) Slot.unset).toArray = ls at hl ⊢
  have hl : lv_has ls 6 [(0, .ref h0), (1, .int 0), (2, .int 0), (3, .int 0)] := hl
  refine lv_iload_n hx hb dn_Ty_store_0 rfl (lv_at hl 2 rfl) ?_
  refine lv_if_lt (tgt := 8) hx hb dn_Ty_store_1 (by decide) (fun h => absurd h (by decide)) (fun _ => ?_)
  refine lv_iload_n hx hb dn_Ty_store_4 rfl (lv_at hl 3 rfl) ?_
  refine lv_if_ge (tgt := 10) hx hb dn_Ty_store_5 (by decide) (fun _ => ?_) (fun h => absurd (by decide) h)
  refine lv_iconst (v := 0) hx hb dn_Ty_store_10 (by decide) ?_
  refine lv_istore hx hb dn_Ty_store_11 hl (by decide) rfl (fun ls hl => ?_)
  have hl : lv_has ls 6 [(4, .int 0), (0, .ref h0), (1, .int 0), (2, .int 0), (3, .int 0)] := hl
  refine lv_iload hx hb dn_Ty_store_13 (lv_at hl 0 rfl) ?_
  refine lv_aload_n hx hb dn_Ty_store_15 rfl (lv_at hl 1 rfl) ?_
  refine va_get (D := D) (ci := 1) (v := .int 0) (C := kR1) (T := kT1) (N := 8) hx hb hts kjn1 hown hK hP 0 rfl rfl 6 (by decide) (hts _ kv_28) (fun _ h9 => h9) rfl dn_Ty_store_16 ?_
  refine co_pc (pc' := 19) rfl ?_
  refine lv_icmp_ge (tgt := 64) hx hb dn_Ty_store_19 (by decide) (fun _ => ?_) (fun h => absurd (by decide) h)
  refine lv_iload_n hx hb dn_Ty_store_64 rfl (lv_at hl 2 rfl) ?_
  refine lv_iconst (v := 3) hx hb dn_Ty_store_65 (by decide) ?_
  refine lv_icmp_ne (tgt := 73) hx hb dn_Ty_store_66 (by decide) (fun _ => ?_) (fun h => absurd h (by decide))
  refine lv_iconst (v := 0) hx hb dn_Ty_store_73 (by decide) ?_
  refine lv_istore hx hb dn_Ty_store_74 hl (by decide) rfl (fun ls hl => ?_)
  have hl : lv_has ls 6 [(4, .int 0), (0, .ref h0), (1, .int 0), (2, .int 0), (3, .int 0)] := hl
  refine lv_iload hx hb dn_Ty_store_76 (lv_at hl 0 rfl) ?_
  refine lv_if_eq (tgt := 101) hx hb dn_Ty_store_78 (by decide) (fun _ => ?_) (fun h => absurd (by decide) h)
  refine lv_iconst (v := 1) hx hb dn_Ty_store_101 (by decide) ?_
  refine lv_istore hx hb dn_Ty_store_102 hl (by decide) rfl (fun ls hl => ?_)
  have hl : lv_has ls 6 [(5, .int 1), (4, .int 0), (0, .ref h0), (1, .int 0), (2, .int 0), (3, .int 0)] := hl
  refine co_pc (pc' := 104) rfl ?_
  refine lv_iload hx hb dn_Ty_store_104 (lv_at hl 0 rfl) ?_
  refine lv_bipush (v := 10) hx hb dn_Ty_store_106 (by decide) ?_
  refine lv_icmp_gt (tgt := 120) hx hb dn_Ty_store_108 (by decide) (fun h => absurd h (by decide)) (fun _ => ?_)
  refine lv_aload_n hx hb dn_Ty_store_111 rfl (lv_at hl 2 rfl) ?_
  refine va_get (D := D) (ci := 1) (v := .int 0) (C := kR1) (T := kT1) (N := 8) hx hb hts kjn1 hown hK hP 0 rfl rfl 6 (by decide) (hts _ kv_28) (fun _ h9 => h9) rfl dn_Ty_store_112 ?_
  refine lv_bipush (v := 50) hx hb dn_Ty_store_115 (by decide) ?_
  refine lv_icmp_lt (tgt := 122) hx hb dn_Ty_store_117 (by decide) (fun _ => ?_) (fun h => absurd (by decide) h)
  refine lv_aload_n hx hb dn_Ty_store_122 rfl (lv_at hl 2 rfl) ?_
  refine va_get (D := D) (ci := 1) (v := .ref h1) (C := kR1) (T := kT1) (N := 8) hx hb hts kjn1 hown hK hP 0 rfl rfl 1 (by decide) (hts _ kv_22) (fun _ h9 => h9) rfl dn_Ty_store_123 ?_
  refine lv_aload_n hx hb dn_Ty_store_126 rfl (lv_at hl 2 rfl) ?_
  refine co_pc (pc' := 127) rfl ?_
  refine va_get (D := D) (ci := 1) (v := .int 0) (C := kR1) (T := kT1) (N := 8) hx hb hts kjn1 hown hK hP 0 rfl rfl 6 (by decide) (hts _ kv_28) (fun _ h9 => h9) rfl dn_Ty_store_127 ?_
  refine lv_iload_n hx hb dn_Ty_store_130 rfl (lv_at hl 3 rfl) ?_
  refine co_iast (k := 0) hx hb hK hP hD hS 1 rfl (by unfold vp_in; decide) (by decide) dn_Ty_store_131 (fun H locs hP hD hS => ?_)
  have hP : va_P D kcl [(h0, .inr (1, [.ref g0, .ref h1, .ref h2, .ref h3, .ref h4, .ref h5, .int 0, .int 0])), (h1, .inl (cI, 50, .inl (upd ko_z 0 0))), (h2, .inl (cI, 50, .inl ko_z)), (h3, .inl (cI, 50, .inl ko_z)), (h4, .inl (cZ, 50, .inl ko_z)), (h5, .inl (cI, 50, .inl ko_z))] H := hP
  have hD : va_D A [(h0, .inr (1, [.ref g0, .ref h1, .ref h2, .ref h3, .ref h4, .ref h5, .int 0, .int 0])), (h1, .inl (cI, 50, .inl (upd ko_z 0 0))), (h2, .inl (cI, 50, .inl ko_z)), (h3, .inl (cI, 50, .inl ko_z)), (h4, .inl (cZ, 50, .inl ko_z)), (h5, .inl (cI, 50, .inl ko_z))] := hD
  refine lv_aload_n hx hb dn_Ty_store_132 rfl (lv_at hl 2 rfl) ?_
  refine va_get (D := D) (ci := 1) (v := .ref h2) (C := kR1) (T := kT1) (N := 8) hx hb hts kjn1 hown hK hP 0 rfl rfl 2 (by decide) (hts _ kv_23) (fun _ h9 => h9) rfl dn_Ty_store_133 ?_
  refine lv_aload_n hx hb dn_Ty_store_136 rfl (lv_at hl 2 rfl) ?_
  refine va_get (D := D) (ci := 1) (v := .int 0) (C := kR1) (T := kT1) (N := 8) hx hb hts kjn1 hown hK hP 0 rfl rfl 6 (by decide) (hts _ kv_28) (fun _ h9 => h9) rfl dn_Ty_store_137 ?_
  refine lv_iload_n hx hb dn_Ty_store_140 rfl (lv_at hl 4 rfl) ?_
  refine co_iast (k := 0) hx hb hK hP hD hS 2 rfl (by unfold vp_in; decide) (by decide) dn_Ty_store_141 (fun H locs hP hD hS => ?_)
  have hP : va_P D kcl [(h0, .inr (1, [.ref g0, .ref h1, .ref h2, .ref h3, .ref h4, .ref h5, .int 0, .int 0])), (h1, .inl (cI, 50, .inl (upd ko_z 0 0))), (h2, .inl (cI, 50, .inl (upd ko_z 0 0))), (h3, .inl (cI, 50, .inl ko_z)), (h4, .inl (cZ, 50, .inl ko_z)), (h5, .inl (cI, 50, .inl ko_z))] H := hP
  have hD : va_D A [(h0, .inr (1, [.ref g0, .ref h1, .ref h2, .ref h3, .ref h4, .ref h5, .int 0, .int 0])), (h1, .inl (cI, 50, .inl (upd ko_z 0 0))), (h2, .inl (cI, 50, .inl (upd ko_z 0 0))), (h3, .inl (cI, 50, .inl ko_z)), (h4, .inl (cZ, 50, .inl ko_z)), (h5, .inl (cI, 50, .inl ko_z))] := hD
  refine lv_aload_n hx hb dn_Ty_store_142 rfl (lv_at hl 2 rfl) ?_
  refine co_pc (pc' := 143) rfl ?_
  refine va_get (D := D) (ci := 1) (v := .ref h3) (C := kR1) (T := kT1) (N := 8) hx hb hts kjn1 hown hK hP 0 rfl rfl 3 (by decide) (hts _ kv_24) (fun _ h9 => h9) rfl dn_Ty_store_143 ?_
  refine lv_aload_n hx hb dn_Ty_store_146 rfl (lv_at hl 2 rfl) ?_
  refine va_get (D := D) (ci := 1) (v := .int 0) (C := kR1) (T := kT1) (N := 8) hx hb hts kjn1 hown hK hP 0 rfl rfl 6 (by decide) (hts _ kv_28) (fun _ h9 => h9) rfl dn_Ty_store_147 ?_
  refine lv_iload_n hx hb dn_Ty_store_150 rfl (lv_at hl 5 rfl) ?_
  refine co_iast (k := 0) hx hb hK hP hD hS 3 rfl (by unfold vp_in; decide) (by decide) dn_Ty_store_151 (fun H locs hP hD hS => ?_)
  have hP : va_P D kcl [(h0, .inr (1, [.ref g0, .ref h1, .ref h2, .ref h3, .ref h4, .ref h5, .int 0, .int 0])), (h1, .inl (cI, 50, .inl (upd ko_z 0 0))), (h2, .inl (cI, 50, .inl (upd ko_z 0 0))), (h3, .inl (cI, 50, .inl (upd ko_z 0 0))), (h4, .inl (cZ, 50, .inl ko_z)), (h5, .inl (cI, 50, .inl ko_z))] H := hP
  have hD : va_D A [(h0, .inr (1, [.ref g0, .ref h1, .ref h2, .ref h3, .ref h4, .ref h5, .int 0, .int 0])), (h1, .inl (cI, 50, .inl (upd ko_z 0 0))), (h2, .inl (cI, 50, .inl (upd ko_z 0 0))), (h3, .inl (cI, 50, .inl (upd ko_z 0 0))), (h4, .inl (cZ, 50, .inl ko_z)), (h5, .inl (cI, 50, .inl ko_z))] := hD
  refine lv_aload_n hx hb dn_Ty_store_152 rfl (lv_at hl 2 rfl) ?_
  refine va_get (D := D) (ci := 1) (v := .ref h5) (C := kR1) (T := kT1) (N := 8) hx hb hts kjn1 hown hK hP 0 rfl rfl 5 (by decide) (hts _ kv_27) (fun _ h9 => h9) rfl dn_Ty_store_153 ?_
  refine lv_aload_n hx hb dn_Ty_store_156 rfl (lv_at hl 2 rfl) ?_
  refine va_get (D := D) (ci := 1) (v := .int 0) (C := kR1) (T := kT1) (N := 8) hx hb hts kjn1 hown hK hP 0 rfl rfl 6 (by decide) (hts _ kv_28) (fun _ h9 => h9) rfl dn_Ty_store_157 ?_
  refine lv_iload hx hb dn_Ty_store_160 (lv_at hl 0 rfl) ?_
  refine co_pc (pc' := 162) rfl ?_
  refine co_iast (k := 0) hx hb hK hP hD hS 5 rfl (by unfold vp_in; decide) (by decide) dn_Ty_store_162 (fun H locs hP hD hS => ?_)
  have hP : va_P D kcl [(h0, .inr (1, [.ref g0, .ref h1, .ref h2, .ref h3, .ref h4, .ref h5, .int 0, .int 0])), (h1, .inl (cI, 50, .inl (upd ko_z 0 0))), (h2, .inl (cI, 50, .inl (upd ko_z 0 0))), (h3, .inl (cI, 50, .inl (upd ko_z 0 0))), (h4, .inl (cZ, 50, .inl ko_z)), (h5, .inl (cI, 50, .inl (upd ko_z 0 1)))] H := hP
  have hD : va_D A [(h0, .inr (1, [.ref g0, .ref h1, .ref h2, .ref h3, .ref h4, .ref h5, .int 0, .int 0])), (h1, .inl (cI, 50, .inl (upd ko_z 0 0))), (h2, .inl (cI, 50, .inl (upd ko_z 0 0))), (h3, .inl (cI, 50, .inl (upd ko_z 0 0))), (h4, .inl (cZ, 50, .inl ko_z)), (h5, .inl (cI, 50, .inl (upd ko_z 0 1)))] := hD
  refine lv_aload_n hx hb dn_Ty_store_163 rfl (lv_at hl 2 rfl) ?_
  refine va_get (D := D) (ci := 1) (v := .ref h4) (C := kR1) (T := kT1) (N := 8) hx hb hts kjn1 hown hK hP 0 rfl rfl 4 (by decide) (hts _ kv_26) (fun _ h9 => h9) rfl dn_Ty_store_164 ?_
  refine lv_aload_n hx hb dn_Ty_store_167 rfl (lv_at hl 2 rfl) ?_
  refine va_get (D := D) (ci := 1) (v := .int 0) (C := kR1) (T := kT1) (N := 8) hx hb hts kjn1 hown hK hP 0 rfl rfl 6 (by decide) (hts _ kv_28) (fun _ h9 => h9) rfl dn_Ty_store_168 ?_
  refine lv_iload_n hx hb dn_Ty_store_171 rfl (lv_at hl 3 rfl) ?_
  refine lv_iconst (v := 1) hx hb dn_Ty_store_172 (by decide) ?_
  refine lv_icmp_eq (tgt := 199) hx hb dn_Ty_store_173 (by decide) (fun h => absurd h (by decide)) (fun _ => ?_)
  refine lv_iload hx hb dn_Ty_store_176 (lv_at hl 1 rfl) ?_
  refine lv_if_eq (tgt := 203) hx hb dn_Ty_store_178 (by decide) (fun _ => ?_) (fun h => absurd (by decide) h)
  refine co_pc (pc' := 203) rfl ?_
  refine lv_iconst (v := 0) hx hb dn_Ty_store_203 (by decide) ?_
  refine co_zast (k := 0) (y := 0) hx hb hK hP hD hS 4 rfl (by unfold vp_in; decide) (by decide) (by decide) dn_Ty_store_204 (fun H locs hP hD hS => ?_)
  have hP : va_P D kcl [(h0, .inr (1, [.ref g0, .ref h1, .ref h2, .ref h3, .ref h4, .ref h5, .int 0, .int 0])), (h1, .inl (cI, 50, .inl (upd ko_z 0 0))), (h2, .inl (cI, 50, .inl (upd ko_z 0 0))), (h3, .inl (cI, 50, .inl (upd ko_z 0 0))), (h4, .inl (cZ, 50, .inl (upd ko_z 0 0))), (h5, .inl (cI, 50, .inl (upd ko_z 0 1)))] H := hP
  have hD : va_D A [(h0, .inr (1, [.ref g0, .ref h1, .ref h2, .ref h3, .ref h4, .ref h5, .int 0, .int 0])), (h1, .inl (cI, 50, .inl (upd ko_z 0 0))), (h2, .inl (cI, 50, .inl (upd ko_z 0 0))), (h3, .inl (cI, 50, .inl (upd ko_z 0 0))), (h4, .inl (cZ, 50, .inl (upd ko_z 0 0))), (h5, .inl (cI, 50, .inl (upd ko_z 0 1)))] := hD
  refine lv_aload_n hx hb dn_Ty_store_205 rfl (lv_at hl 2 rfl) ?_
  refine lv_dup hx hb dn_Ty_store_206 rfl ?_
  refine va_get (D := D) (ci := 1) (v := .int 0) (C := kR1) (T := kT1) (N := 8) hx hb hts kjn1 hown hK hP 0 rfl rfl 6 (by decide) (hts _ kv_28) (fun _ h9 => h9) rfl dn_Ty_store_207 ?_
  refine lv_dup_x1 hx hb dn_Ty_store_210 rfl rfl ?_
  refine lv_iconst (v := 1) hx hb dn_Ty_store_211 (by decide) ?_
  refine lv_iadd hx hb dn_Ty_store_212 ?_
  refine co_top (v := 1) (by decide) ?_
  refine va_put (D := D) (ci := 1) (v := .int 1) (ty := .int) (C := kR1) (T := kT1) (N := 8) hx hb hts kjn1 kt1 kty1 knm1 hown hK hP hD hS 0 rfl rfl 6 (by decide) (hts _ kv_28) (fun _ h9 => h9) rfl (by decide +kernel) rfl rfl (Nat.le_of_ble_eq_true rfl) dn_Ty_store_213 (fun H locs hP hD hS => ?_)
  have hP : va_P D kcl [(h0, .inr (1, [.ref g0, .ref h1, .ref h2, .ref h3, .ref h4, .ref h5, .int 1, .int 0])), (h1, .inl (cI, 50, .inl (upd ko_z 0 0))), (h2, .inl (cI, 50, .inl (upd ko_z 0 0))), (h3, .inl (cI, 50, .inl (upd ko_z 0 0))), (h4, .inl (cZ, 50, .inl (upd ko_z 0 0))), (h5, .inl (cI, 50, .inl (upd ko_z 0 1)))] H := hP
  have hD : va_D A [(h0, .inr (1, [.ref g0, .ref h1, .ref h2, .ref h3, .ref h4, .ref h5, .int 1, .int 0])), (h1, .inl (cI, 50, .inl (upd ko_z 0 0))), (h2, .inl (cI, 50, .inl (upd ko_z 0 0))), (h3, .inl (cI, 50, .inl (upd ko_z 0 0))), (h4, .inl (cZ, 50, .inl (upd ko_z 0 0))), (h5, .inl (cI, 50, .inl (upd ko_z 0 1)))] := hD
  have hP9 := hP.sub (ws' := [(h0, .inr (1, [.ref g0, .ref h1, .ref h2, .ref h3, .ref h4, .ref h5, .int 1, .int 0])), (h1, .inl (cI, 50, .inl (upd ko_z 0 0))), (h2, .inl (cI, 50, .inl (upd ko_z 0 0))), (h3, .inl (cI, 50, .inl (upd ko_z 0 0))), (h4, .inl (cZ, 50, .inl (upd ko_z 0 0))), (h5, .inl (cI, 50, .inl (upd ko_z 0 1)))]) [0, 1, 2, 3, 4, 5] rfl
  have hD9 := hD.sub (ws' := [(h0, .inr (1, [.ref g0, .ref h1, .ref h2, .ref h3, .ref h4, .ref h5, .int 1, .int 0])), (h1, .inl (cI, 50, .inl (upd ko_z 0 0))), (h2, .inl (cI, 50, .inl (upd ko_z 0 0))), (h3, .inl (cI, 50, .inl (upd ko_z 0 0))), (h4, .inl (cZ, 50, .inl (upd ko_z 0 0))), (h5, .inl (cI, 50, .inl (upd ko_z 0 1)))]) [0, 1, 2, 3, 4, 5] (by decide) rfl
  exact W.iret (v := 0) hx hb hr (fun t ht hW => ⟨⟨0, (kix 0 []), rfl, rfl, by rw [ht]; exact hP9, va_K.moved hW.alike hK, hD9⟩, hS.F ht⟩) hS.2.2 dn_Ty_store_216
set_option maxHeartbeats 4000000 in
set_option maxRecDepth 100000 in
theorem cq_Nu_numberOf_1 (l : Launch) (D : va_G) (cI cZ : ClassId) (h0 h1 h2 sz : Nat) : Met l (ky 1) (kws 1) ({ frames := 0, cells := 0, slots := 0, locals := 0 }) (va_Pc [.ref h0, .int 0] (coB D cI cZ [(h0, .inr (2, [.ref h1, .ref h2, .int 0])), (h1, .inl (cI, 50, .inl ko_z)), (h2, .inl (cI, 50, .inl (ko_f 50 (-1) ko_z)))] sz)) (va_Qi (fun (r : Int32) (_ : Nat → Nat) => r = 0) (coE D cI cZ (va_A [(h0, .inr (2, [.ref h1, .ref h2, .int 0])), (h1, .inl (cI, 50, .inl ko_z)), (h2, .inl (cI, 50, .inl (ko_f 50 (-1) ko_z)))] sz) (fun u => [(h0, .inr (2, [.ref h1, .ref h2, .int 1])), (h1, .inl (cI, 50, .inl (upd ko_z 0 0))), (h2, .inl (cI, 50, .inl (upd (ko_f 50 (-1) ko_z) 0 0)))])) (va_A [(h0, .inr (2, [.ref h1, .ref h2, .int 0])), (h1, .inl (cI, 50, .inl ko_z)), (h2, .inl (cI, 50, .inl (ko_f 50 (-1) ko_z)))] sz)) 0 0 (va_A [(h0, .inr (2, [.ref h1, .ref h2, .int 0])), (h1, .inl (cI, 50, .inl ko_z)), (h2, .inl (cI, 50, .inl (ko_f 50 (-1) ko_z)))] sz) := by
  refine Met.ofW (cc := (kby 1)) (maxL := 2) (ret := (some .int)) (by decide +kernel) rfl ?_
  intro p e s m args below meth c s₁ B hml hv
  obtain ⟨rfl, hsz, hP, hK, hD0⟩ := hv
  have hx := B.exec
  have hb := B.bytes
  have hr : meth.sig.returnType = (some .int) := B.returns
  have hts : ∀ w ∈ kwl, w.before ([.ref h0, .int 0] : List Value).toArray s = true := fun w h => atoms_spec (ws := (kws 1)) B.pre w (List.mem_cons_of_mem _ h)
  have hown : s.vm.findClass kR2 = some m.cls := findClass_of_methodNamed B.named
  have hlocks := B.notSynchronized
  subst hsz
  have hD := hD0.self (sz := s.heap.size)
  generalize hAe : va_A [(h0, .inr (2, [.ref h1, .ref h2, .int 0])), (h1, .inl (cI, 50, .inl ko_z)), (h2, .inl (cI, 50, .inl (ko_f 50 (-1) ko_z)))] s.heap.size = A at hD ⊢
  have hA : ∀ q : Nat, s.heap.size ≤ q → A q := fun q h => by rw [← hAe]; exact Or.inr h
  have hS : va_S A s.heap s.heap [] := va_S.rf
  have hl := lv_entry ([.ref h0, .int 0]) (n := 2) (Nat.le_of_ble_eq_true rfl)
  rw [lg_entry_eq]
  generalize (lg_sl ([.ref h0, .int 0]) ++ List.replicate (2 - (lg_sl ([.ref h0, .int 0])).length) Slot.unset).toArray = ls at hl ⊢
  have hl : lv_has ls 2 [(0, .ref h0), (1, .int 0)] := hl
  refine lv_iload_n hx hb dn_Nu_numberOf_0 rfl (lv_at hl 1 rfl) ?_
  refine lv_if_lt (tgt := 13) hx hb dn_Nu_numberOf_1 (by decide) (fun h => absurd h (by decide)) (fun _ => ?_)
  refine lv_iload_n hx hb dn_Nu_numberOf_4 rfl (lv_at hl 1 rfl) ?_
  refine lv_aload_n hx hb dn_Nu_numberOf_5 rfl (lv_at hl 0 rfl) ?_
  refine va_get (D := D) (ci := 2) (v := .ref h2) (C := kR2) (T := kT2) (N := 3) hx hb hts kjn2 hown hK hP 0 rfl rfl 1 (by decide) (hts _ kv_13) (fun _ h9 => h9) rfl dn_Nu_numberOf_6 ?_
  refine va_alen (v := 50) hx hb hK hP 2 0 rfl rfl (by decide) dn_Nu_numberOf_9 ?_
  refine lv_icmp_lt (tgt := 15) hx hb dn_Nu_numberOf_10 (by decide) (fun _ => ?_) (fun h => absurd (by decide) h)
  refine lv_aload_n hx hb dn_Nu_numberOf_15 rfl (lv_at hl 0 rfl) ?_
  refine va_get (D := D) (ci := 2) (v := .ref h2) (C := kR2) (T := kT2) (N := 3) hx hb hts kjn2 hown hK hP 0 rfl rfl 1 (by decide) (hts _ kv_13) (fun _ h9 => h9) rfl dn_Nu_numberOf_16 ?_
  refine co_pc (pc' := 19) rfl ?_
  refine lv_iload_n hx hb dn_Nu_numberOf_19 rfl (lv_at hl 1 rfl) ?_
  refine co_iald (v := (-1)) hx hb hK hP 2 rfl (by unfold vp_in; decide) (by decide) dn_Nu_numberOf_20 ?_
  refine lv_if_ge (tgt := 54) hx hb dn_Nu_numberOf_21 (by decide) (fun h => absurd h (by decide)) (fun _ => ?_)
  refine lv_aload_n hx hb dn_Nu_numberOf_24 rfl (lv_at hl 0 rfl) ?_
  refine va_get (D := D) (ci := 2) (v := .ref h1) (C := kR2) (T := kT2) (N := 3) hx hb hts kjn2 hown hK hP 0 rfl rfl 0 (by decide) (hts _ kv_12) (fun _ h9 => h9) rfl dn_Nu_numberOf_25 ?_
  refine lv_aload_n hx hb dn_Nu_numberOf_28 rfl (lv_at hl 0 rfl) ?_
  refine va_get (D := D) (ci := 2) (v := .int 0) (C := kR2) (T := kT2) (N := 3) hx hb hts kjn2 hown hK hP 0 rfl rfl 2 (by decide) (hts _ kv_30) (fun _ h9 => h9) rfl dn_Nu_numberOf_29 ?_
  refine lv_iload_n hx hb dn_Nu_numberOf_32 rfl (lv_at hl 1 rfl) ?_
  refine co_iast (k := 0) hx hb hK hP hD hS 1 rfl (by unfold vp_in; decide) (by decide) dn_Nu_numberOf_33 (fun H locs hP hD hS => ?_)
  have hP : va_P D kcl [(h0, .inr (2, [.ref h1, .ref h2, .int 0])), (h1, .inl (cI, 50, .inl (upd ko_z 0 0))), (h2, .inl (cI, 50, .inl (ko_f 50 (-1) ko_z)))] H := hP
  have hD : va_D A [(h0, .inr (2, [.ref h1, .ref h2, .int 0])), (h1, .inl (cI, 50, .inl (upd ko_z 0 0))), (h2, .inl (cI, 50, .inl (ko_f 50 (-1) ko_z)))] := hD
  refine lv_aload_n hx hb dn_Nu_numberOf_34 rfl (lv_at hl 0 rfl) ?_
  refine co_pc (pc' := 35) rfl ?_
  refine va_get (D := D) (ci := 2) (v := .ref h2) (C := kR2) (T := kT2) (N := 3) hx hb hts kjn2 hown hK hP 0 rfl rfl 1 (by decide) (hts _ kv_13) (fun _ h9 => h9) rfl dn_Nu_numberOf_35 ?_
  refine lv_iload_n hx hb dn_Nu_numberOf_38 rfl (lv_at hl 1 rfl) ?_
  refine lv_aload_n hx hb dn_Nu_numberOf_39 rfl (lv_at hl 0 rfl) ?_
  refine va_get (D := D) (ci := 2) (v := .int 0) (C := kR2) (T := kT2) (N := 3) hx hb hts kjn2 hown hK hP 0 rfl rfl 2 (by decide) (hts _ kv_30) (fun _ h9 => h9) rfl dn_Nu_numberOf_40 ?_
  refine co_iast (k := 0) hx hb hK hP hD hS 2 rfl (by unfold vp_in; decide) (by decide) dn_Nu_numberOf_43 (fun H locs hP hD hS => ?_)
  have hP : va_P D kcl [(h0, .inr (2, [.ref h1, .ref h2, .int 0])), (h1, .inl (cI, 50, .inl (upd ko_z 0 0))), (h2, .inl (cI, 50, .inl (upd (ko_f 50 (-1) ko_z) 0 0)))] H := hP
  have hD : va_D A [(h0, .inr (2, [.ref h1, .ref h2, .int 0])), (h1, .inl (cI, 50, .inl (upd ko_z 0 0))), (h2, .inl (cI, 50, .inl (upd (ko_f 50 (-1) ko_z) 0 0)))] := hD
  refine lv_aload_n hx hb dn_Nu_numberOf_44 rfl (lv_at hl 0 rfl) ?_
  refine lv_dup hx hb dn_Nu_numberOf_45 rfl ?_
  refine va_get (D := D) (ci := 2) (v := .int 0) (C := kR2) (T := kT2) (N := 3) hx hb hts kjn2 hown hK hP 0 rfl rfl 2 (by decide) (hts _ kv_30) (fun _ h9 => h9) rfl dn_Nu_numberOf_46 ?_
  refine lv_iconst (v := 1) hx hb dn_Nu_numberOf_49 (by decide) ?_
  refine lv_iadd hx hb dn_Nu_numberOf_50 ?_
  refine co_top (v := 1) (by decide) ?_
  refine co_pc (pc' := 51) rfl ?_
  refine va_put (D := D) (ci := 2) (v := .int 1) (ty := .int) (C := kR2) (T := kT2) (N := 3) hx hb hts kjn2 kt2 kty2 knm2 hown hK hP hD hS 0 rfl rfl 2 (by decide) (hts _ kv_30) (fun _ h9 => h9) rfl (by decide +kernel) rfl rfl (Nat.le_of_ble_eq_true rfl) dn_Nu_numberOf_51 (fun H locs hP hD hS => ?_)
  have hP : va_P D kcl [(h0, .inr (2, [.ref h1, .ref h2, .int 1])), (h1, .inl (cI, 50, .inl (upd ko_z 0 0))), (h2, .inl (cI, 50, .inl (upd (ko_f 50 (-1) ko_z) 0 0)))] H := hP
  have hD : va_D A [(h0, .inr (2, [.ref h1, .ref h2, .int 1])), (h1, .inl (cI, 50, .inl (upd ko_z 0 0))), (h2, .inl (cI, 50, .inl (upd (ko_f 50 (-1) ko_z) 0 0)))] := hD
  refine lv_aload_n hx hb dn_Nu_numberOf_54 rfl (lv_at hl 0 rfl) ?_
  refine va_get (D := D) (ci := 2) (v := .ref h2) (C := kR2) (T := kT2) (N := 3) hx hb hts kjn2 hown hK hP 0 rfl rfl 1 (by decide) (hts _ kv_13) (fun _ h9 => h9) rfl dn_Nu_numberOf_55 ?_
  refine lv_iload_n hx hb dn_Nu_numberOf_58 rfl (lv_at hl 1 rfl) ?_
  refine co_iald (v := 0) hx hb hK hP 2 rfl (by unfold vp_in; decide) (by decide) dn_Nu_numberOf_59 ?_
  have hP9 := hP.sub (ws' := [(h0, .inr (2, [.ref h1, .ref h2, .int 1])), (h1, .inl (cI, 50, .inl (upd ko_z 0 0))), (h2, .inl (cI, 50, .inl (upd (ko_f 50 (-1) ko_z) 0 0)))]) [0, 1, 2] rfl
  have hD9 := hD.sub (ws' := [(h0, .inr (2, [.ref h1, .ref h2, .int 1])), (h1, .inl (cI, 50, .inl (upd ko_z 0 0))), (h2, .inl (cI, 50, .inl (upd (ko_f 50 (-1) ko_z) 0 0)))]) [0, 1, 2] (by decide) rfl
  exact W.iret (v := 0) hx hb hr (fun t ht hW => ⟨⟨0, (kix 0 []), rfl, rfl, by rw [ht]; exact hP9, va_K.moved hW.alike hK, hD9⟩, hS.F ht⟩) hS.2.2 dn_Nu_numberOf_60
set_option maxHeartbeats 4000000 in
set_option maxRecDepth 100000 in
theorem cq_Ty_store_2 (l : Launch) (D : va_G) (cI cZ : ClassId) (h0 h1 h2 h3 h4 h5 g0 sz : Nat) : Met l (ky 0) (kws 0) ({ frames := 0, cells := 0, slots := 0, locals := 0 }) (va_Pc [.ref h0, .int 0, .int 1, .int 0] (coB D cI cZ [(h0, .inr (1, [.ref g0, .ref h1, .ref h2, .ref h3, .ref h4, .ref h5, .int 1, .int 0])), (h1, .inl (cI, 50, .inl (upd ko_z 0 0))), (h2, .inl (cI, 50, .inl (upd ko_z 0 0))), (h3, .inl (cI, 50, .inl (upd ko_z 0 0))), (h4, .inl (cZ, 50, .inl (upd ko_z 0 0))), (h5, .inl (cI, 50, .inl (upd ko_z 0 1)))] sz)) (va_Qi (fun (r : Int32) (_ : Nat → Nat) => r = 1) (coE D cI cZ (va_A [(h0, .inr (1, [.ref g0, .ref h1, .ref h2, .ref h3, .ref h4, .ref h5, .int 1, .int 0])), (h1, .inl (cI, 50, .inl (upd ko_z 0 0))), (h2, .inl (cI, 50, .inl (upd ko_z 0 0))), (h3, .inl (cI, 50, .inl (upd ko_z 0 0))), (h4, .inl (cZ, 50, .inl (upd ko_z 0 0))), (h5, .inl (cI, 50, .inl (upd ko_z 0 1)))] sz) (fun u => [(h0, .inr (1, [.ref g0, .ref h1, .ref h2, .ref h3, .ref h4, .ref h5, .int 2, .int 0])), (h1, .inl (cI, 50, .inl (upd (upd ko_z 0 0) 1 0))), (h2, .inl (cI, 50, .inl (upd (upd ko_z 0 0) 1 1))), (h3, .inl (cI, 50, .inl (upd (upd ko_z 0 0) 1 0))), (h4, .inl (cZ, 50, .inl (upd (upd ko_z 0 0) 1 0))), (h5, .inl (cI, 50, .inl (upd (upd ko_z 0 1) 1 1)))])) (va_A [(h0, .inr (1, [.ref g0, .ref h1, .ref h2, .ref h3, .ref h4, .ref h5, .int 1, .int 0])), (h1, .inl (cI, 50, .inl (upd ko_z 0 0))), (h2, .inl (cI, 50, .inl (upd ko_z 0 0))), (h3, .inl (cI, 50, .inl (upd ko_z 0 0))), (h4, .inl (cZ, 50, .inl (upd ko_z 0 0))), (h5, .inl (cI, 50, .inl (upd ko_z 0 1)))] sz)) 0 0 (va_A [(h0, .inr (1, [.ref g0, .ref h1, .ref h2, .ref h3, .ref h4, .ref h5, .int 1, .int 0])), (h1, .inl (cI, 50, .inl (upd ko_z 0 0))), (h2, .inl (cI, 50, .inl (upd ko_z 0 0))), (h3, .inl (cI, 50, .inl (upd ko_z 0 0))), (h4, .inl (cZ, 50, .inl (upd ko_z 0 0))), (h5, .inl (cI, 50, .inl (upd ko_z 0 1)))] sz) := by
  refine Met.ofW (cc := (kby 0)) (maxL := 6) (ret := (some .int)) (by decide +kernel) rfl ?_
  intro p e s m args below meth c s₁ B hml hv
  obtain ⟨rfl, hsz, hP, hK, hD0⟩ := hv
  have hx := B.exec
  have hb := B.bytes
  have hr : meth.sig.returnType = (some .int) := B.returns
  have hts : ∀ w ∈ kwl, w.before ([.ref h0, .int 0, .int 1, .int 0] : List Value).toArray s = true := fun w h => atoms_spec (ws := (kws 0)) B.pre w (List.mem_cons_of_mem _ h)
  have hown : s.vm.findClass kR1 = some m.cls := findClass_of_methodNamed B.named
  have hlocks := B.notSynchronized
  subst hsz
  have hD := hD0.self (sz := s.heap.size)
  generalize hAe : va_A [(h0, .inr (1, [.ref g0, .ref h1, .ref h2, .ref h3, .ref h4, .ref h5, .int 1, .int 0])), (h1, .inl (cI, 50, .inl (upd ko_z 0 0))), (h2, .inl (cI, 50, .inl (upd ko_z 0 0))), (h3, .inl (cI, 50, .inl (upd ko_z 0 0))), (h4, .inl (cZ, 50, .inl (upd ko_z 0 0))), (h5, .inl (cI, 50, .inl (upd ko_z 0 1)))] s.heap.size = A at hD ⊢
  have hA : ∀ q : Nat, s.heap.size ≤ q → A q := fun q h => by rw [← hAe]; exact Or.inr h
  have hS : va_S A s.heap s.heap [] := va_S.rf
  have hl := lv_entry ([.ref h0, .int 0, .int 1, .int 0]) (n := 6) (Nat.le_of_ble_eq_true rfl)
  rw [lg_entry_eq]
  generalize (lg_sl ([.ref h0, .int 0, .int 1, .int 0]) ++ List.replicate (6 - (lg_sl ([.ref h0, .int 0, .int 1, .int 0])).length) Slot.unset).toArray = ls at hl ⊢
  have hl : lv_has ls 6 [(0, .ref h0), (1, .int 0), (2, .int 1), (3, .int 0)] := hl
  refine lv_iload_n hx hb dn_Ty_store_0 rfl (lv_at hl 2 rfl) ?_
  refine lv_if_lt (tgt := 8) hx hb dn_Ty_store_1 (by decide) (fun h => absurd h (by decide)) (fun _ => ?_)
  refine lv_iload_n hx hb dn_Ty_store_4 rfl (lv_at hl 3 rfl) ?_
  refine lv_if_ge (tgt := 10) hx hb dn_Ty_store_5 (by decide) (fun _ => ?_) (fun h => absurd (by decide) h)
  refine lv_iconst (v := 0) hx hb dn_Ty_store_10 (by decide) ?_
  refine lv_istore hx hb dn_Ty_store_11 hl (by decide) rfl (fun ls hl => ?_)
  have hl : lv_has ls 6 [(4, .int 0), (0, .ref h0), (1, .int 0), (2, .int 1), (3, .int 0)] := hl
  refine lv_iload hx hb dn_Ty_store_13 (lv_at hl 0 rfl) ?_
  refine lv_aload_n hx hb dn_Ty_store_15 rfl (lv_at hl 1 rfl) ?_
  refine va_get (D := D) (ci := 1) (v := .int 1) (C := kR1) (T := kT1) (N := 8) hx hb hts kjn1 hown hK hP 0 rfl rfl 6 (by decide) (hts _ kv_28) (fun _ h9 => h9) rfl dn_Ty_store_16 ?_
  refine co_pc (pc' := 19) rfl ?_
  refine lv_icmp_ge (tgt := 64) hx hb dn_Ty_store_19 (by decide) (fun h => absurd h (by decide)) (fun _ => ?_)
  refine lv_aload_n hx hb dn_Ty_store_22 rfl (lv_at hl 1 rfl) ?_
  refine va_get (D := D) (ci := 1) (v := .ref h1) (C := kR1) (T := kT1) (N := 8) hx hb hts kjn1 hown hK hP 0 rfl rfl 1 (by decide) (hts _ kv_22) (fun _ h9 => h9) rfl dn_Ty_store_23 ?_
  refine lv_iload hx hb dn_Ty_store_26 (lv_at hl 0 rfl) ?_
  refine co_iald (v := 0) hx hb hK hP 1 rfl (by unfold vp_in; decide) (by decide) dn_Ty_store_28 ?_
  refine lv_iload_n hx hb dn_Ty_store_29 rfl (lv_at hl 2 rfl) ?_
  refine lv_icmp_ne (tgt := 58) hx hb dn_Ty_store_30 (by decide) (fun h => absurd (by decide) h) (fun _ => ?_)
  refine lv_aload_n hx hb dn_Ty_store_33 rfl (lv_at hl 1 rfl) ?_
  refine va_get (D := D) (ci := 1) (v := .ref h2) (C := kR1) (T := kT1) (N := 8) hx hb hts kjn1 hown hK hP 0 rfl rfl 2 (by decide) (hts _ kv_23) (fun _ h9 => h9) rfl dn_Ty_store_34 ?_
  refine lv_iload hx hb dn_Ty_store_37 (lv_at hl 0 rfl) ?_
  refine co_pc (pc' := 39) rfl ?_
  refine co_iald (v := 0) hx hb hK hP 2 rfl (by unfold vp_in; decide) (by decide) dn_Ty_store_39 ?_
  refine lv_iload_n hx hb dn_Ty_store_40 rfl (lv_at hl 3 rfl) ?_
  refine lv_icmp_ne (tgt := 58) hx hb dn_Ty_store_41 (by decide) (fun _ => ?_) (fun h => absurd h (by decide))
  refine lv_iinc (v := 1) (k := 0) hx hb dn_Ty_store_58 hl rfl (by decide) (by decide) rfl (fun ls hl => ?_)
  have hl : lv_has ls 6 [(4, .int 1), (0, .ref h0), (1, .int 0), (2, .int 1), (3, .int 0)] := hl
  refine lv_goto (tgt := 13) hx hb dn_Ty_store_61 (by decide) ?_
  refine lv_iload hx hb dn_Ty_store_13 (lv_at hl 0 rfl) ?_
  refine lv_aload_n hx hb dn_Ty_store_15 rfl (lv_at hl 1 rfl) ?_
  refine va_get (D := D) (ci := 1) (v := .int 1) (C := kR1) (T := kT1) (N := 8) hx hb hts kjn1 hown hK hP 0 rfl rfl 6 (by decide) (hts _ kv_28) (fun _ h9 => h9) rfl dn_Ty_store_16 ?_
  refine lv_icmp_ge (tgt := 64) hx hb dn_Ty_store_19 (by decide) (fun _ => ?_) (fun h => absurd (by decide) h)
  refine lv_iload_n hx hb dn_Ty_store_64 rfl (lv_at hl 2 rfl) ?_
  refine co_pc (pc' := 65) rfl ?_
  refine lv_iconst (v := 3) hx hb dn_Ty_store_65 (by decide) ?_
  refine lv_icmp_ne (tgt := 73) hx hb dn_Ty_store_66 (by decide) (fun _ => ?_) (fun h => absurd h (by decide))
  refine lv_iconst (v := 0) hx hb dn_Ty_store_73 (by decide) ?_
  refine lv_istore hx hb dn_Ty_store_74 hl (by decide) rfl (fun ls hl => ?_)
  have hl : lv_has ls 6 [(4, .int 0), (0, .ref h0), (1, .int 0), (2, .int 1), (3, .int 0)] := hl
  refine lv_iload hx hb dn_Ty_store_76 (lv_at hl 0 rfl) ?_
  refine lv_if_eq (tgt := 101) hx hb dn_Ty_store_78 (by decide) (fun _ => ?_) (fun h => absurd (by decide) h)
  refine lv_iconst (v := 1) hx hb dn_Ty_store_101 (by decide) ?_
  refine lv_istore hx hb dn_Ty_store_102 hl (by decide) rfl (fun ls hl => ?_)
  have hl : lv_has ls 6 [(5, .int 1), (4, .int 0), (0, .ref h0), (1, .int 0), (2, .int 1), (3, .int 0)] := hl
  refine lv_iload hx hb dn_Ty_store_104 (lv_at hl 0 rfl) ?_
  refine lv_bipush (v := 10) hx hb dn_Ty_store_106 (by decide) ?_
  refine co_pc (pc' := 108) rfl ?_
  refine lv_icmp_gt (tgt := 120) hx hb dn_Ty_store_108 (by decide) (fun h => absurd h (by decide)) (fun _ => ?_)
  refine lv_aload_n hx hb dn_Ty_store_111 rfl (lv_at hl 2 rfl) ?_
  refine va_get (D := D) (ci := 1) (v := .int 1) (C := kR1) (T := kT1) (N := 8) hx hb hts kjn1 hown hK hP 0 rfl rfl 6 (by decide) (hts _ kv_28) (fun _ h9 => h9) rfl dn_Ty_store_112 ?_
  refine lv_bipush (v := 50) hx hb dn_Ty_store_115 (by decide) ?_
  refine lv_icmp_lt (tgt := 122) hx hb dn_Ty_store_117 (by decide) (fun _ => ?_) (fun h => absurd (by decide) h)
  refine lv_aload_n hx hb dn_Ty_store_122 rfl (lv_at hl 2 rfl) ?_
  refine va_get (D := D) (ci := 1) (v := .ref h1) (C := kR1) (T := kT1) (N := 8) hx hb hts kjn1 hown hK hP 0 rfl rfl 1 (by decide) (hts _ kv_22) (fun _ h9 => h9) rfl dn_Ty_store_123 ?_
  refine lv_aload_n hx hb dn_Ty_store_126 rfl (lv_at hl 2 rfl) ?_
  refine va_get (D := D) (ci := 1) (v := .int 1) (C := kR1) (T := kT1) (N := 8) hx hb hts kjn1 hown hK hP 0 rfl rfl 6 (by decide) (hts _ kv_28) (fun _ h9 => h9) rfl dn_Ty_store_127 ?_
  refine lv_iload_n hx hb dn_Ty_store_130 rfl (lv_at hl 3 rfl) ?_
  refine co_pc (pc' := 131) rfl ?_
  refine co_iast (k := 1) hx hb hK hP hD hS 1 rfl (by unfold vp_in; decide) (by decide) dn_Ty_store_131 (fun H locs hP hD hS => ?_)
  have hP : va_P D kcl [(h0, .inr (1, [.ref g0, .ref h1, .ref h2, .ref h3, .ref h4, .ref h5, .int 1, .int 0])), (h1, .inl (cI, 50, .inl (upd (upd ko_z 0 0) 1 0))), (h2, .inl (cI, 50, .inl (upd ko_z 0 0))), (h3, .inl (cI, 50, .inl (upd ko_z 0 0))), (h4, .inl (cZ, 50, .inl (upd ko_z 0 0))), (h5, .inl (cI, 50, .inl (upd ko_z 0 1)))] H := hP
  have hD : va_D A [(h0, .inr (1, [.ref g0, .ref h1, .ref h2, .ref h3, .ref h4, .ref h5, .int 1, .int 0])), (h1, .inl (cI, 50, .inl (upd (upd ko_z 0 0) 1 0))), (h2, .inl (cI, 50, .inl (upd ko_z 0 0))), (h3, .inl (cI, 50, .inl (upd ko_z 0 0))), (h4, .inl (cZ, 50, .inl (upd ko_z 0 0))), (h5, .inl (cI, 50, .inl (upd ko_z 0 1)))] := hD
  refine lv_aload_n hx hb dn_Ty_store_132 rfl (lv_at hl 2 rfl) ?_
  refine va_get (D := D) (ci := 1) (v := .ref h2) (C := kR1) (T := kT1) (N := 8) hx hb hts kjn1 hown hK hP 0 rfl rfl 2 (by decide) (hts _ kv_23) (fun _ h9 => h9) rfl dn_Ty_store_133 ?_
  refine lv_aload_n hx hb dn_Ty_store_136 rfl (lv_at hl 2 rfl) ?_
  refine va_get (D := D) (ci := 1) (v := .int 1) (C := kR1) (T := kT1) (N := 8) hx hb hts kjn1 hown hK hP 0 rfl rfl 6 (by decide) (hts _ kv_28) (fun _ h9 => h9) rfl dn_Ty_store_137 ?_
  refine lv_iload_n hx hb dn_Ty_store_140 rfl (lv_at hl 4 rfl) ?_
  refine co_iast (k := 1) hx hb hK hP hD hS 2 rfl (by unfold vp_in; decide) (by decide) dn_Ty_store_141 (fun H locs hP hD hS => ?_)
  have hP : va_P D kcl [(h0, .inr (1, [.ref g0, .ref h1, .ref h2, .ref h3, .ref h4, .ref h5, .int 1, .int 0])), (h1, .inl (cI, 50, .inl (upd (upd ko_z 0 0) 1 0))), (h2, .inl (cI, 50, .inl (upd (upd ko_z 0 0) 1 1))), (h3, .inl (cI, 50, .inl (upd ko_z 0 0))), (h4, .inl (cZ, 50, .inl (upd ko_z 0 0))), (h5, .inl (cI, 50, .inl (upd ko_z 0 1)))] H := hP
  have hD : va_D A [(h0, .inr (1, [.ref g0, .ref h1, .ref h2, .ref h3, .ref h4, .ref h5, .int 1, .int 0])), (h1, .inl (cI, 50, .inl (upd (upd ko_z 0 0) 1 0))), (h2, .inl (cI, 50, .inl (upd (upd ko_z 0 0) 1 1))), (h3, .inl (cI, 50, .inl (upd ko_z 0 0))), (h4, .inl (cZ, 50, .inl (upd ko_z 0 0))), (h5, .inl (cI, 50, .inl (upd ko_z 0 1)))] := hD
  refine lv_aload_n hx hb dn_Ty_store_142 rfl (lv_at hl 2 rfl) ?_
  refine va_get (D := D) (ci := 1) (v := .ref h3) (C := kR1) (T := kT1) (N := 8) hx hb hts kjn1 hown hK hP 0 rfl rfl 3 (by decide) (hts _ kv_24) (fun _ h9 => h9) rfl dn_Ty_store_143 ?_
  refine lv_aload_n hx hb dn_Ty_store_146 rfl (lv_at hl 2 rfl) ?_
  refine co_pc (pc' := 147) rfl ?_
  refine va_get (D := D) (ci := 1) (v := .int 1) (C := kR1) (T := kT1) (N := 8) hx hb hts kjn1 hown hK hP 0 rfl rfl 6 (by decide) (hts _ kv_28) (fun _ h9 => h9) rfl dn_Ty_store_147 ?_
  refine lv_iload_n hx hb dn_Ty_store_150 rfl (lv_at hl 5 rfl) ?_
  refine co_iast (k := 1) hx hb hK hP hD hS 3 rfl (by unfold vp_in; decide) (by decide) dn_Ty_store_151 (fun H locs hP hD hS => ?_)
  have hP : va_P D kcl [(h0, .inr (1, [.ref g0, .ref h1, .ref h2, .ref h3, .ref h4, .ref h5, .int 1, .int 0])), (h1, .inl (cI, 50, .inl (upd (upd ko_z 0 0) 1 0))), (h2, .inl (cI, 50, .inl (upd (upd ko_z 0 0) 1 1))), (h3, .inl (cI, 50, .inl (upd (upd ko_z 0 0) 1 0))), (h4, .inl (cZ, 50, .inl (upd ko_z 0 0))), (h5, .inl (cI, 50, .inl (upd ko_z 0 1)))] H := hP
  have hD : va_D A [(h0, .inr (1, [.ref g0, .ref h1, .ref h2, .ref h3, .ref h4, .ref h5, .int 1, .int 0])), (h1, .inl (cI, 50, .inl (upd (upd ko_z 0 0) 1 0))), (h2, .inl (cI, 50, .inl (upd (upd ko_z 0 0) 1 1))), (h3, .inl (cI, 50, .inl (upd (upd ko_z 0 0) 1 0))), (h4, .inl (cZ, 50, .inl (upd ko_z 0 0))), (h5, .inl (cI, 50, .inl (upd ko_z 0 1)))] := hD
  refine lv_aload_n hx hb dn_Ty_store_152 rfl (lv_at hl 2 rfl) ?_
  refine va_get (D := D) (ci := 1) (v := .ref h5) (C := kR1) (T := kT1) (N := 8) hx hb hts kjn1 hown hK hP 0 rfl rfl 5 (by decide) (hts _ kv_27) (fun _ h9 => h9) rfl dn_Ty_store_153 ?_
  refine lv_aload_n hx hb dn_Ty_store_156 rfl (lv_at hl 2 rfl) ?_
  refine va_get (D := D) (ci := 1) (v := .int 1) (C := kR1) (T := kT1) (N := 8) hx hb hts kjn1 hown hK hP 0 rfl rfl 6 (by decide) (hts _ kv_28) (fun _ h9 => h9) rfl dn_Ty_store_157 ?_
  refine lv_iload hx hb dn_Ty_store_160 (lv_at hl 0 rfl) ?_
  refine co_iast (k := 1) hx hb hK hP hD hS 5 rfl (by unfold vp_in; decide) (by decide) dn_Ty_store_162 (fun H locs hP hD hS => ?_)
  have hP : va_P D kcl [(h0, .inr (1, [.ref g0, .ref h1, .ref h2, .ref h3, .ref h4, .ref h5, .int 1, .int 0])), (h1, .inl (cI, 50, .inl (upd (upd ko_z 0 0) 1 0))), (h2, .inl (cI, 50, .inl (upd (upd ko_z 0 0) 1 1))), (h3, .inl (cI, 50, .inl (upd (upd ko_z 0 0) 1 0))), (h4, .inl (cZ, 50, .inl (upd ko_z 0 0))), (h5, .inl (cI, 50, .inl (upd (upd ko_z 0 1) 1 1)))] H := hP
  have hD : va_D A [(h0, .inr (1, [.ref g0, .ref h1, .ref h2, .ref h3, .ref h4, .ref h5, .int 1, .int 0])), (h1, .inl (cI, 50, .inl (upd (upd ko_z 0 0) 1 0))), (h2, .inl (cI, 50, .inl (upd (upd ko_z 0 0) 1 1))), (h3, .inl (cI, 50, .inl (upd (upd ko_z 0 0) 1 0))), (h4, .inl (cZ, 50, .inl (upd ko_z 0 0))), (h5, .inl (cI, 50, .inl (upd (upd ko_z 0 1) 1 1)))] := hD
  refine lv_aload_n hx hb dn_Ty_store_163 rfl (lv_at hl 2 rfl) ?_
  refine co_pc (pc' := 164) rfl ?_
  refine va_get (D := D) (ci := 1) (v := .ref h4) (C := kR1) (T := kT1) (N := 8) hx hb hts kjn1 hown hK hP 0 rfl rfl 4 (by decide) (hts _ kv_26) (fun _ h9 => h9) rfl dn_Ty_store_164 ?_
  refine lv_aload_n hx hb dn_Ty_store_167 rfl (lv_at hl 2 rfl) ?_
  refine va_get (D := D) (ci := 1) (v := .int 1) (C := kR1) (T := kT1) (N := 8) hx hb hts kjn1 hown hK hP 0 rfl rfl 6 (by decide) (hts _ kv_28) (fun _ h9 => h9) rfl dn_Ty_store_168 ?_
  refine lv_iload_n hx hb dn_Ty_store_171 rfl (lv_at hl 3 rfl) ?_
  refine lv_iconst (v := 1) hx hb dn_Ty_store_172 (by decide) ?_
  refine lv_icmp_eq (tgt := 199) hx hb dn_Ty_store_173 (by decide) (fun h => absurd h (by decide)) (fun _ => ?_)
  refine lv_iload hx hb dn_Ty_store_176 (lv_at hl 1 rfl) ?_
  refine lv_if_eq (tgt := 203) hx hb dn_Ty_store_178 (by decide) (fun _ => ?_) (fun h => absurd (by decide) h)
  refine lv_iconst (v := 0) hx hb dn_Ty_store_203 (by decide) ?_
  refine co_zast (k := 1) (y := 0) hx hb hK hP hD hS 4 rfl (by unfold vp_in; decide) (by decide) (by decide) dn_Ty_store_204 (fun H locs hP hD hS => ?_)
  have hP : va_P D kcl [(h0, .inr (1, [.ref g0, .ref h1, .ref h2, .ref h3, .ref h4, .ref h5, .int 1, .int 0])), (h1, .inl (cI, 50, .inl (upd (upd ko_z 0 0) 1 0))), (h2, .inl (cI, 50, .inl (upd (upd ko_z 0 0) 1 1))), (h3, .inl (cI, 50, .inl (upd (upd ko_z 0 0) 1 0))), (h4, .inl (cZ, 50, .inl (upd (upd ko_z 0 0) 1 0))), (h5, .inl (cI, 50, .inl (upd (upd ko_z 0 1) 1 1)))] H := hP
  have hD : va_D A [(h0, .inr (1, [.ref g0, .ref h1, .ref h2, .ref h3, .ref h4, .ref h5, .int 1, .int 0])), (h1, .inl (cI, 50, .inl (upd (upd ko_z 0 0) 1 0))), (h2, .inl (cI, 50, .inl (upd (upd ko_z 0 0) 1 1))), (h3, .inl (cI, 50, .inl (upd (upd ko_z 0 0) 1 0))), (h4, .inl (cZ, 50, .inl (upd (upd ko_z 0 0) 1 0))), (h5, .inl (cI, 50, .inl (upd (upd ko_z 0 1) 1 1)))] := hD
  refine co_pc (pc' := 205) rfl ?_
  refine lv_aload_n hx hb dn_Ty_store_205 rfl (lv_at hl 2 rfl) ?_
  refine lv_dup hx hb dn_Ty_store_206 rfl ?_
  refine va_get (D := D) (ci := 1) (v := .int 1) (C := kR1) (T := kT1) (N := 8) hx hb hts kjn1 hown hK hP 0 rfl rfl 6 (by decide) (hts _ kv_28) (fun _ h9 => h9) rfl dn_Ty_store_207 ?_
  refine lv_dup_x1 hx hb dn_Ty_store_210 rfl rfl ?_
  refine lv_iconst (v := 1) hx hb dn_Ty_store_211 (by decide) ?_
  refine lv_iadd hx hb dn_Ty_store_212 ?_
  refine co_top (v := 2) (by decide) ?_
  refine va_put (D := D) (ci := 1) (v := .int 2) (ty := .int) (C := kR1) (T := kT1) (N := 8) hx hb hts kjn1 kt1 kty1 knm1 hown hK hP hD hS 0 rfl rfl 6 (by decide) (hts _ kv_28) (fun _ h9 => h9) rfl (by decide +kernel) rfl rfl (Nat.le_of_ble_eq_true rfl) dn_Ty_store_213 (fun H locs hP hD hS => ?_)
  have hP : va_P D kcl [(h0, .inr (1, [.ref g0, .ref h1, .ref h2, .ref h3, .ref h4, .ref h5, .int 2, .int 0])), (h1, .inl (cI, 50, .inl (upd (upd ko_z 0 0) 1 0))), (h2, .inl (cI, 50, .inl (upd (upd ko_z 0 0) 1 1))), (h3, .inl (cI, 50, .inl (upd (upd ko_z 0 0) 1 0))), (h4, .inl (cZ, 50, .inl (upd (upd ko_z 0 0) 1 0))), (h5, .inl (cI, 50, .inl (upd (upd ko_z 0 1) 1 1)))] H := hP
  have hD : va_D A [(h0, .inr (1, [.ref g0, .ref h1, .ref h2, .ref h3, .ref h4, .ref h5, .int 2, .int 0])), (h1, .inl (cI, 50, .inl (upd (upd ko_z 0 0) 1 0))), (h2, .inl (cI, 50, .inl (upd (upd ko_z 0 0) 1 1))), (h3, .inl (cI, 50, .inl (upd (upd ko_z 0 0) 1 0))), (h4, .inl (cZ, 50, .inl (upd (upd ko_z 0 0) 1 0))), (h5, .inl (cI, 50, .inl (upd (upd ko_z 0 1) 1 1)))] := hD
  have hP9 := hP.sub (ws' := [(h0, .inr (1, [.ref g0, .ref h1, .ref h2, .ref h3, .ref h4, .ref h5, .int 2, .int 0])), (h1, .inl (cI, 50, .inl (upd (upd ko_z 0 0) 1 0))), (h2, .inl (cI, 50, .inl (upd (upd ko_z 0 0) 1 1))), (h3, .inl (cI, 50, .inl (upd (upd ko_z 0 0) 1 0))), (h4, .inl (cZ, 50, .inl (upd (upd ko_z 0 0) 1 0))), (h5, .inl (cI, 50, .inl (upd (upd ko_z 0 1) 1 1)))]) [0, 1, 2, 3, 4, 5] rfl
  have hD9 := hD.sub (ws' := [(h0, .inr (1, [.ref g0, .ref h1, .ref h2, .ref h3, .ref h4, .ref h5, .int 2, .int 0])), (h1, .inl (cI, 50, .inl (upd (upd ko_z 0 0) 1 0))), (h2, .inl (cI, 50, .inl (upd (upd ko_z 0 0) 1 1))), (h3, .inl (cI, 50, .inl (upd (upd ko_z 0 0) 1 0))), (h4, .inl (cZ, 50, .inl (upd (upd ko_z 0 0) 1 0))), (h5, .inl (cI, 50, .inl (upd (upd ko_z 0 1) 1 1)))]) [0, 1, 2, 3, 4, 5] (by decide) rfl
  exact W.iret (v := 1) hx hb hr (fun t ht hW => ⟨⟨1, (kix 0 []), rfl, rfl, by rw [ht]; exact hP9, va_K.moved hW.alike hK, hD9⟩, hS.F ht⟩) hS.2.2 dn_Ty_store_216
set_option maxHeartbeats 4000000 in
set_option maxRecDepth 100000 in
theorem cq_Nu_numberOf_2 (l : Launch) (D : va_G) (cI cZ : ClassId) (h0 h1 h2 sz : Nat) : Met l (ky 1) (kws 1) ({ frames := 0, cells := 0, slots := 0, locals := 0 }) (va_Pc [.ref h0, .int 1] (coB D cI cZ [(h0, .inr (2, [.ref h1, .ref h2, .int 1])), (h1, .inl (cI, 50, .inl (upd ko_z 0 0))), (h2, .inl (cI, 50, .inl (upd (ko_f 50 (-1) ko_z) 0 0)))] sz)) (va_Qi (fun (r : Int32) (_ : Nat → Nat) => r = 1) (coE D cI cZ (va_A [(h0, .inr (2, [.ref h1, .ref h2, .int 1])), (h1, .inl (cI, 50, .inl (upd ko_z 0 0))), (h2, .inl (cI, 50, .inl (upd (ko_f 50 (-1) ko_z) 0 0)))] sz) (fun u => [(h0, .inr (2, [.ref h1, .ref h2, .int 2])), (h1, .inl (cI, 50, .inl (upd (upd ko_z 0 0) 1 1))), (h2, .inl (cI, 50, .inl (upd (upd (ko_f 50 (-1) ko_z) 0 0) 1 1)))])) (va_A [(h0, .inr (2, [.ref h1, .ref h2, .int 1])), (h1, .inl (cI, 50, .inl (upd ko_z 0 0))), (h2, .inl (cI, 50, .inl (upd (ko_f 50 (-1) ko_z) 0 0)))] sz)) 0 0 (va_A [(h0, .inr (2, [.ref h1, .ref h2, .int 1])), (h1, .inl (cI, 50, .inl (upd ko_z 0 0))), (h2, .inl (cI, 50, .inl (upd (ko_f 50 (-1) ko_z) 0 0)))] sz) := by
  refine Met.ofW (cc := (kby 1)) (maxL := 2) (ret := (some .int)) (by decide +kernel) rfl ?_
  intro p e s m args below meth c s₁ B hml hv
  obtain ⟨rfl, hsz, hP, hK, hD0⟩ := hv
  have hx := B.exec
  have hb := B.bytes
  have hr : meth.sig.returnType = (some .int) := B.returns
  have hts : ∀ w ∈ kwl, w.before ([.ref h0, .int 1] : List Value).toArray s = true := fun w h => atoms_spec (ws := (kws 1)) B.pre w (List.mem_cons_of_mem _ h)
  have hown : s.vm.findClass kR2 = some m.cls := findClass_of_methodNamed B.named
  have hlocks := B.notSynchronized
  subst hsz
  have hD := hD0.self (sz := s.heap.size)
  generalize hAe : va_A [(h0, .inr (2, [.ref h1, .ref h2, .int 1])), (h1, .inl (cI, 50, .inl (upd ko_z 0 0))), (h2, .inl (cI, 50, .inl (upd (ko_f 50 (-1) ko_z) 0 0)))] s.heap.size = A at hD ⊢
  have hA : ∀ q : Nat, s.heap.size ≤ q → A q := fun q h => by rw [← hAe]; exact Or.inr h
  have hS : va_S A s.heap s.heap [] := va_S.rf
  have hl := lv_entry ([.ref h0, .int 1]) (n := 2) (Nat.le_of_ble_eq_true rfl)
  rw [lg_entry_eq]
  generalize (lg_sl ([.ref h0, .int 1]) ++ List.replicate (2 - (lg_sl ([.ref h0, .int 1])).length) Slot.unset).toArray = ls at hl ⊢
  have hl : lv_has ls 2 [(0, .ref h0), (1, .int 1)] := hl
  refine lv_iload_n hx hb dn_Nu_numberOf_0 rfl (lv_at hl 1 rfl) ?_
  refine lv_if_lt (tgt := 13) hx hb dn_Nu_numberOf_1 (by decide) (fun h => absurd h (by decide)) (fun _ => ?_)
  refine lv_iload_n hx hb dn_Nu_numberOf_4 rfl (lv_at hl 1 rfl) ?_
  refine lv_aload_n hx hb dn_Nu_numberOf_5 rfl (lv_at hl 0 rfl) ?_
  refine va_get (D := D) (ci := 2) (v := .ref h2) (C := kR2) (T := kT2) (N := 3) hx hb hts kjn2 hown hK hP 0 rfl rfl 1 (by decide) (hts _ kv_13) (fun _ h9 => h9) rfl dn_Nu_numberOf_6 ?_
  refine va_alen (v := 50) hx hb hK hP 2 0 rfl rfl (by decide) dn_Nu_numberOf_9 ?_
  refine lv_icmp_lt (tgt := 15) hx hb dn_Nu_numberOf_10 (by decide) (fun _ => ?_) (fun h => absurd (by decide) h)
  refine lv_aload_n hx hb dn_Nu_numberOf_15 rfl (lv_at hl 0 rfl) ?_
  refine va_get (D := D) (ci := 2) (v := .ref h2) (C := kR2) (T := kT2) (N := 3) hx hb hts kjn2 hown hK hP 0 rfl rfl 1 (by decide) (hts _ kv_13) (fun _ h9 => h9) rfl dn_Nu_numberOf_16 ?_
  refine co_pc (pc' := 19) rfl ?_
  refine lv_iload_n hx hb dn_Nu_numberOf_19 rfl (lv_at hl 1 rfl) ?_
  refine co_iald (v := (-1)) hx hb hK hP 2 rfl (by unfold vp_in; decide) (by decide) dn_Nu_numberOf_20 ?_
  refine lv_if_ge (tgt := 54) hx hb dn_Nu_numberOf_21 (by decide) (fun h => absurd h (by decide)) (fun _ => ?_)
  refine lv_aload_n hx hb dn_Nu_numberOf_24 rfl (lv_at hl 0 rfl) ?_
  refine va_get (D := D) (ci := 2) (v := .ref h1) (C := kR2) (T := kT2) (N := 3) hx hb hts kjn2 hown hK hP 0 rfl rfl 0 (by decide) (hts _ kv_12) (fun _ h9 => h9) rfl dn_Nu_numberOf_25 ?_
  refine lv_aload_n hx hb dn_Nu_numberOf_28 rfl (lv_at hl 0 rfl) ?_
  refine va_get (D := D) (ci := 2) (v := .int 1) (C := kR2) (T := kT2) (N := 3) hx hb hts kjn2 hown hK hP 0 rfl rfl 2 (by decide) (hts _ kv_30) (fun _ h9 => h9) rfl dn_Nu_numberOf_29 ?_
  refine lv_iload_n hx hb dn_Nu_numberOf_32 rfl (lv_at hl 1 rfl) ?_
  refine co_iast (k := 1) hx hb hK hP hD hS 1 rfl (by unfold vp_in; decide) (by decide) dn_Nu_numberOf_33 (fun H locs hP hD hS => ?_)
  have hP : va_P D kcl [(h0, .inr (2, [.ref h1, .ref h2, .int 1])), (h1, .inl (cI, 50, .inl (upd (upd ko_z 0 0) 1 1))), (h2, .inl (cI, 50, .inl (upd (ko_f 50 (-1) ko_z) 0 0)))] H := hP
  have hD : va_D A [(h0, .inr (2, [.ref h1, .ref h2, .int 1])), (h1, .inl (cI, 50, .inl (upd (upd ko_z 0 0) 1 1))), (h2, .inl (cI, 50, .inl (upd (ko_f 50 (-1) ko_z) 0 0)))] := hD
  refine lv_aload_n hx hb dn_Nu_numberOf_34 rfl (lv_at hl 0 rfl) ?_
  refine co_pc (pc' := 35) rfl ?_
  refine va_get (D := D) (ci := 2) (v := .ref h2) (C := kR2) (T := kT2) (N := 3) hx hb hts kjn2 hown hK hP 0 rfl rfl 1 (by decide) (hts _ kv_13) (fun _ h9 => h9) rfl dn_Nu_numberOf_35 ?_
  refine lv_iload_n hx hb dn_Nu_numberOf_38 rfl (lv_at hl 1 rfl) ?_
  refine lv_aload_n hx hb dn_Nu_numberOf_39 rfl (lv_at hl 0 rfl) ?_
  refine va_get (D := D) (ci := 2) (v := .int 1) (C := kR2) (T := kT2) (N := 3) hx hb hts kjn2 hown hK hP 0 rfl rfl 2 (by decide) (hts _ kv_30) (fun _ h9 => h9) rfl dn_Nu_numberOf_40 ?_
  refine co_iast (k := 1) hx hb hK hP hD hS 2 rfl (by unfold vp_in; decide) (by decide) dn_Nu_numberOf_43 (fun H locs hP hD hS => ?_)
  have hP : va_P D kcl [(h0, .inr (2, [.ref h1, .ref h2, .int 1])), (h1, .inl (cI, 50, .inl (upd (upd ko_z 0 0) 1 1))), (h2, .inl (cI, 50, .inl (upd (upd (ko_f 50 (-1) ko_z) 0 0) 1 1)))] H := hP
  have hD : va_D A [(h0, .inr (2, [.ref h1, .ref h2, .int 1])), (h1, .inl (cI, 50, .inl (upd (upd ko_z 0 0) 1 1))), (h2, .inl (cI, 50, .inl (upd (upd (ko_f 50 (-1) ko_z) 0 0) 1 1)))] := hD
  refine lv_aload_n hx hb dn_Nu_numberOf_44 rfl (lv_at hl 0 rfl) ?_
  refine lv_dup hx hb dn_Nu_numberOf_45 rfl ?_
  refine va_get (D := D) (ci := 2) (v := .int 1) (C := kR2) (T := kT2) (N := 3) hx hb hts kjn2 hown hK hP 0 rfl rfl 2 (by decide) (hts _ kv_30) (fun _ h9 => h9) rfl dn_Nu_numberOf_46 ?_
  refine lv_iconst (v := 1) hx hb dn_Nu_numberOf_49 (by decide) ?_
  refine lv_iadd hx hb dn_Nu_numberOf_50 ?_
  refine co_top (v := 2) (by decide) ?_
  refine co_pc (pc' := 51) rfl ?_
  refine va_put (D := D) (ci := 2) (v := .int 2) (ty := .int) (C := kR2) (T := kT2) (N := 3) hx hb hts kjn2 kt2 kty2 knm2 hown hK hP hD hS 0 rfl rfl 2 (by decide) (hts _ kv_30) (fun _ h9 => h9) rfl (by decide +kernel) rfl rfl (Nat.le_of_ble_eq_true rfl) dn_Nu_numberOf_51 (fun H locs hP hD hS => ?_)
  have hP : va_P D kcl [(h0, .inr (2, [.ref h1, .ref h2, .int 2])), (h1, .inl (cI, 50, .inl (upd (upd ko_z 0 0) 1 1))), (h2, .inl (cI, 50, .inl (upd (upd (ko_f 50 (-1) ko_z) 0 0) 1 1)))] H := hP
  have hD : va_D A [(h0, .inr (2, [.ref h1, .ref h2, .int 2])), (h1, .inl (cI, 50, .inl (upd (upd ko_z 0 0) 1 1))), (h2, .inl (cI, 50, .inl (upd (upd (ko_f 50 (-1) ko_z) 0 0) 1 1)))] := hD
  refine lv_aload_n hx hb dn_Nu_numberOf_54 rfl (lv_at hl 0 rfl) ?_
  refine va_get (D := D) (ci := 2) (v := .ref h2) (C := kR2) (T := kT2) (N := 3) hx hb hts kjn2 hown hK hP 0 rfl rfl 1 (by decide) (hts _ kv_13) (fun _ h9 => h9) rfl dn_Nu_numberOf_55 ?_
  refine lv_iload_n hx hb dn_Nu_numberOf_58 rfl (lv_at hl 1 rfl) ?_
  refine co_iald (v := 1) hx hb hK hP 2 rfl (by unfold vp_in; decide) (by decide) dn_Nu_numberOf_59 ?_
  have hP9 := hP.sub (ws' := [(h0, .inr (2, [.ref h1, .ref h2, .int 2])), (h1, .inl (cI, 50, .inl (upd (upd ko_z 0 0) 1 1))), (h2, .inl (cI, 50, .inl (upd (upd (ko_f 50 (-1) ko_z) 0 0) 1 1)))]) [0, 1, 2] rfl
  have hD9 := hD.sub (ws' := [(h0, .inr (2, [.ref h1, .ref h2, .int 2])), (h1, .inl (cI, 50, .inl (upd (upd ko_z 0 0) 1 1))), (h2, .inl (cI, 50, .inl (upd (upd (ko_f 50 (-1) ko_z) 0 0) 1 1)))]) [0, 1, 2] (by decide) rfl
  exact W.iret (v := 1) hx hb hr (fun t ht hW => ⟨⟨1, (kix 0 []), rfl, rfl, by rw [ht]; exact hP9, va_K.moved hW.alike hK, hD9⟩, hS.F ht⟩) hS.2.2 dn_Nu_numberOf_60
set_option maxHeartbeats 4000000 in
set_option maxRecDepth 100000 in
theorem cq_Ty_1 (l : Launch) (D : va_G) (cI cZ : ClassId) (h0 sz : Nat) : Met l ⟨"SequentKernel$Types", "<init>", "()V"⟩ (Cond.code ⟨"SequentKernel$Types", "<init>", "()V"⟩ prog_8_method_1_code 1 none :: kwl) ({ frames := 2, cells := 8, slots := 353, locals := 44 }) (va_Pc [.ref h0] (coB D cI cZ [(h0, .inr (1, [.null, .null, .null, .null, .null, .null, .int 0, .int 0]))] sz)) (va_Qv (fun _ : Nat → Nat => True) (coE D cI cZ (va_A [(h0, .inr (1, [.null, .null, .null, .null, .null, .null, .int 0, .int 0]))] sz) (fun u => [(h0, .inr (1, [.ref (u 0), .ref (u 3), .ref (u 4), .ref (u 5), .ref (u 6), .ref (u 7), .int 2, .int 2])), ((u 0), .inr (2, [.ref (u 1), .ref (u 2), .int 2])), ((u 1), .inl (cI, 50, .inl (upd (upd ko_z 0 0) 1 1))), ((u 2), .inl (cI, 50, .inl (upd (upd (ko_f 50 (-1) ko_z) 0 0) 1 1))), ((u 3), .inl (cI, 50, .inl (upd (upd ko_z 0 0) 1 0))), ((u 4), .inl (cI, 50, .inl (upd (upd ko_z 0 0) 1 1))), ((u 5), .inl (cI, 50, .inl (upd (upd ko_z 0 0) 1 0))), ((u 6), .inl (cZ, 50, .inl (upd (upd ko_z 0 0) 1 0))), ((u 7), .inl (cI, 50, .inl (upd (upd ko_z 0 1) 1 1)))])) (va_A [(h0, .inr (1, [.null, .null, .null, .null, .null, .null, .int 0, .int 0]))] sz)) 8 353 (va_A [(h0, .inr (1, [.null, .null, .null, .null, .null, .null, .int 0, .int 0]))] sz) := by
  refine Met.ofW (cc := prog_8_method_1_code) (maxL := 1) (ret := none) (by decide +kernel) rfl ?_
  intro p e s m args below meth c s₁ B hml hv
  obtain ⟨rfl, hsz, hP, hK, hD0⟩ := hv
  have hx := B.exec
  have hb := B.bytes
  have hr : meth.sig.returnType = none := B.returns
  have hts : ∀ w ∈ kwl, w.before ([.ref h0] : List Value).toArray s = true := fun w h => atoms_spec (ws := (Cond.code ⟨"SequentKernel$Types", "<init>", "()V"⟩ prog_8_method_1_code 1 none :: kwl)) B.pre w (List.mem_cons_of_mem _ h)
  have hown : s.vm.findClass kR1 = some m.cls := findClass_of_methodNamed B.named
  have hlocks := B.notSynchronized
  have hin : meth.name = "<init>" := (name_of_methodNamed B.named B.method).1
  subst hsz
  have hD := hD0.self (sz := s.heap.size)
  generalize hAe : va_A [(h0, .inr (1, [.null, .null, .null, .null, .null, .null, .int 0, .int 0]))] s.heap.size = A at hD ⊢
  have hA : ∀ q : Nat, s.heap.size ≤ q → A q := fun q h => by rw [← hAe]; exact Or.inr h
  have hS : va_S A s.heap s.heap [] := va_S.rf
  have hl := lv_entry ([.ref h0]) (n := 1) (Nat.le_of_ble_eq_true rfl)
  rw [lg_entry_eq]
  generalize (lg_sl ([.ref h0]) ++ List.replicate (1 - (lg_sl ([.ref h0])).length) Slot.unset).toArray = ls at hl ⊢
  have hl : lv_has ls 1 [(0, .ref h0)] := hl
  refine lv_aload_n hx hb dn_Ty_0 rfl (lv_at hl 0 rfl) ?_
  refine W.objInit hx hb hown (hts _ kv_6) (hts _ kv_1) (hts _ kv_2) rfl (by rw [hml]; exact hl.1) rfl dn_Ty_1 (Nat.le_of_ble_eq_true rfl) (Nat.le_of_ble_eq_true rfl) ?_
  refine W.eq (g2 := F0 m 4 ls []) rfl ?_
  refine lv_aload_n hx hb dn_Ty_4 rfl (lv_at hl 0 rfl) ?_
  refine va_new (ci := 2) (fs := [.null, .null, .int 0]) (C := kR2) (T := kT2) (N := 3) hx hb hts kjn2 kt2 kty2 hown (hts _ kv_7) (hts _ kv_8) (hts _ kv_9) hK hP hD hS hA rfl kdf2 (show 0 + 1 ≤ 8 from by decide) (show 0 + 3 ≤ 353 from by decide) dn_Ty_5 (fun q5 H hP hD hS => ?_)
  have hP : va_P D kcl [(h0, .inr (1, [.null, .null, .null, .null, .null, .null, .int 0, .int 0])), (q5, .inr (2, [.null, .null, .int 0]))] H := hP
  have hD : va_D A [(h0, .inr (1, [.null, .null, .null, .null, .null, .null, .int 0, .int 0])), (q5, .inr (2, [.null, .null, .int 0]))] := hD
  refine co_cs (k := 1) (n := 3) rfl rfl ?_
  refine lv_dup hx hb dn_Ty_8 rfl ?_
  refine lv_bipush (v := 50) hx hb dn_Ty_9 (by decide) ?_
  refine co_v (wc := [(q5, .inr (2, [.null, .null, .int 0]))]) (wr := [(h0, .inr (1, [.null, .null, .null, .null, .null, .null, .int 0, .int 0]))]) (w1 := fun u => [(q5, .inr (2, [.ref (u 0), .ref (u 1), .int 0])), ((u 0), .inl (cI, 50, .inl ko_z)), ((u 1), .inl (cI, 50, .inl (ko_f 50 (-1) ko_z)))]) (va_runI (As := [.int 50]) (rest := [.ref q5, .ref h0]) ⟨hx, hb, hml, hown, hts⟩ (cq_Nu_1 l D cI cZ q5 H.size) (cwI 1 hts (kgI kv_18) rfl rfl rfl (hts _ kv_9) (hts _ kv_19) (hts _ kv_20) rfl (by decide +kernel) ⟨Nat.le_of_ble_eq_true rfl, Nat.le_of_ble_eq_true rfl⟩) (co_pre hK hP hD [1] rfl (by decide)) rfl rfl hl.1 rfl (lv_room (Nat.le_of_ble_eq_true rfl)) dn_Ty_11 ⟨show 1 + 2 ≤ 8 from by decide, show 3 + 100 ≤ 353 from by decide⟩) hP hD hS hA [1] [0] rfl rfl (by decide) (by decide) (fun u0 H locs hP hD hS => ?_)
  have hP : va_P D kcl [(h0, .inr (1, [.null, .null, .null, .null, .null, .null, .int 0, .int 0])), (q5, .inr (2, [.ref (u0 0), .ref (u0 1), .int 0])), ((u0 0), .inl (cI, 50, .inl ko_z)), ((u0 1), .inl (cI, 50, .inl (ko_f 50 (-1) ko_z)))] H := hP
  have hD : va_D A [(h0, .inr (1, [.null, .null, .null, .null, .null, .null, .int 0, .int 0])), (q5, .inr (2, [.ref (u0 0), .ref (u0 1), .int 0])), ((u0 0), .inl (cI, 50, .inl ko_z)), ((u0 1), .inl (cI, 50, .inl (ko_f 50 (-1) ko_z)))] := hD
  refine co_cs (k := 3) (n := 103) rfl rfl ?_
  refine va_putF (D := D) (ci := 1) (v := .ref q5) (ty := .object "SequentKernel$Numbers") (C := kR1) (T := kT1) (N := 8) hx hb hts kjn1 kt1 kty1 knm1 hown hK hP hD hS 0 rfl rfl 0 (by decide) (hts _ kv_21) (fun _ h9 => h9) rfl hin rfl (by decide +kernel) rfl rfl (Nat.le_of_ble_eq_true rfl) dn_Ty_14 (fun H locs hP hD hS => ?_)
  have hP : va_P D kcl [(h0, .inr (1, [.ref q5, .null, .null, .null, .null, .null, .int 0, .int 0])), (q5, .inr (2, [.ref (u0 0), .ref (u0 1), .int 0])), ((u0 0), .inl (cI, 50, .inl ko_z)), ((u0 1), .inl (cI, 50, .inl (ko_f 50 (-1) ko_z)))] H := hP
  have hD : va_D A [(h0, .inr (1, [.ref q5, .null, .null, .null, .null, .null, .int 0, .int 0])), (q5, .inr (2, [.ref (u0 0), .ref (u0 1), .int 0])), ((u0 0), .inl (cI, 50, .inl ko_z)), ((u0 1), .inl (cI, 50, .inl (ko_f 50 (-1) ko_z)))] := hD
  refine lv_aload_n hx hb dn_Ty_17 rfl (lv_at hl 0 rfl) ?_
  refine co_pc (pc' := 18) rfl ?_
  refine lv_bipush (v := 50) hx hb dn_Ty_18 (by decide) ?_
  refine co_newI (N := 50) hx hb (hts _ kv_11) hK hP hD hS hA (by decide) (by decide) (by decide) (show 3 + 1 ≤ 8 from by decide) (show 103 + 50 ≤ 353 from by decide) dn_Ty_20 (fun q20 H hP hD hS => ?_)
  have hP : va_P D kcl [(h0, .inr (1, [.ref q5, .null, .null, .null, .null, .null, .int 0, .int 0])), (q5, .inr (2, [.ref (u0 0), .ref (u0 1), .int 0])), ((u0 0), .inl (cI, 50, .inl ko_z)), ((u0 1), .inl (cI, 50, .inl (ko_f 50 (-1) ko_z))), (q20, .inl (cI, 50, .inl ko_z))] H := hP
  have hD : va_D A [(h0, .inr (1, [.ref q5, .null, .null, .null, .null, .null, .int 0, .int 0])), (q5, .inr (2, [.ref (u0 0), .ref (u0 1), .int 0])), ((u0 0), .inl (cI, 50, .inl ko_z)), ((u0 1), .inl (cI, 50, .inl (ko_f 50 (-1) ko_z))), (q20, .inl (cI, 50, .inl ko_z))] := hD
  refine co_cs (k := 4) (n := 153) rfl rfl ?_
  refine va_putF (D := D) (ci := 1) (v := .ref q20) (ty := .array .int) (C := kR1) (T := kT1) (N := 8) hx hb hts kjn1 kt1 kty1 knm1 hown hK hP hD hS 0 rfl rfl 1 (by decide) (hts _ kv_22) (fun _ h9 => h9) rfl hin rfl (by decide +kernel) rfl rfl (Nat.le_of_ble_eq_true rfl) dn_Ty_22 (fun H locs hP hD hS => ?_)
  have hP : va_P D kcl [(h0, .inr (1, [.ref q5, .ref q20, .null, .null, .null, .null, .int 0, .int 0])), (q5, .inr (2, [.ref (u0 0), .ref (u0 1), .int 0])), ((u0 0), .inl (cI, 50, .inl ko_z)), ((u0 1), .inl (cI, 50, .inl (ko_f 50 (-1) ko_z))), (q20, .inl (cI, 50, .inl ko_z))] H := hP
  have hD : va_D A [(h0, .inr (1, [.ref q5, .ref q20, .null, .null, .null, .null, .int 0, .int 0])), (q5, .inr (2, [.ref (u0 0), .ref (u0 1), .int 0])), ((u0 0), .inl (cI, 50, .inl ko_z)), ((u0 1), .inl (cI, 50, .inl (ko_f 50 (-1) ko_z))), (q20, .inl (cI, 50, .inl ko_z))] := hD
  refine lv_aload_n hx hb dn_Ty_25 rfl (lv_at hl 0 rfl) ?_
  refine lv_bipush (v := 50) hx hb dn_Ty_26 (by decide) ?_
  refine co_newI (N := 50) hx hb (hts _ kv_11) hK hP hD hS hA (by decide) (by decide) (by decide) (show 4 + 1 ≤ 8 from by decide) (show 153 + 50 ≤ 353 from by decide) dn_Ty_28 (fun q28 H hP hD hS => ?_)
  have hP : va_P D kcl [(h0, .inr (1, [.ref q5, .ref q20, .null, .null, .null, .null, .int 0, .int 0])), (q5, .inr (2, [.ref (u0 0), .ref (u0 1), .int 0])), ((u0 0), .inl (cI, 50, .inl ko_z)), ((u0 1), .inl (cI, 50, .inl (ko_f 50 (-1) ko_z))), (q20, .inl (cI, 50, .inl ko_z)), (q28, .inl (cI, 50, .inl ko_z))] H := hP
  have hD : va_D A [(h0, .inr (1, [.ref q5, .ref q20, .null, .null, .null, .null, .int 0, .int 0])), (q5, .inr (2, [.ref (u0 0), .ref (u0 1), .int 0])), ((u0 0), .inl (cI, 50, .inl ko_z)), ((u0 1), .inl (cI, 50, .inl (ko_f 50 (-1) ko_z))), (q20, .inl (cI, 50, .inl ko_z)), (q28, .inl (cI, 50, .inl ko_z))] := hD
  refine co_cs (k := 5) (n := 203) rfl rfl ?_
  refine va_putF (D := D) (ci := 1) (v := .ref q28) (ty := .array .int) (C := kR1) (T := kT1) (N := 8) hx hb hts kjn1 kt1 kty1 knm1 hown hK hP hD hS 0 rfl rfl 2 (by decide) (hts _ kv_23) (fun _ h9 => h9) rfl hin rfl (by decide +kernel) rfl rfl (Nat.le_of_ble_eq_true rfl) dn_Ty_30 (fun H locs hP hD hS => ?_)
  have hP : va_P D kcl [(h0, .inr (1, [.ref q5, .ref q20, .ref q28, .null, .null, .null, .int 0, .int 0])), (q5, .inr (2, [.ref (u0 0), .ref (u0 1), .int 0])), ((u0 0), .inl (cI, 50, .inl ko_z)), ((u0 1), .inl (cI, 50, .inl (ko_f 50 (-1) ko_z))), (q20, .inl (cI, 50, .inl ko_z)), (q28, .inl (cI, 50, .inl ko_z))] H := hP
  have hD : va_D A [(h0, .inr (1, [.ref q5, .ref q20, .ref q28, .null, .null, .null, .int 0, .int 0])), (q5, .inr (2, [.ref (u0 0), .ref (u0 1), .int 0])), ((u0 0), .inl (cI, 50, .inl ko_z)), ((u0 1), .inl (cI, 50, .inl (ko_f 50 (-1) ko_z))), (q20, .inl (cI, 50, .inl ko_z)), (q28, .inl (cI, 50, .inl ko_z))] := hD
  refine lv_aload_n hx hb dn_Ty_33 rfl (lv_at hl 0 rfl) ?_
  refine lv_bipush (v := 50) hx hb dn_Ty_34 (by decide) ?_
  refine co_newI (N := 50) hx hb (hts _ kv_11) hK hP hD hS hA (by decide) (by decide) (by decide) (show 5 + 1 ≤ 8 from by decide) (show 203 + 50 ≤ 353 from by decide) dn_Ty_36 (fun q36 H hP hD hS => ?_)
  have hP : va_P D kcl [(h0, .inr (1, [.ref q5, .ref q20, .ref q28, .null, .null, .null, .int 0, .int 0])), (q5, .inr (2, [.ref (u0 0), .ref (u0 1), .int 0])), ((u0 0), .inl (cI, 50, .inl ko_z)), ((u0 1), .inl (cI, 50, .inl (ko_f 50 (-1) ko_z))), (q20, .inl (cI, 50, .inl ko_z)), (q28, .inl (cI, 50, .inl ko_z)), (q36, .inl (cI, 50, .inl ko_z))] H := hP
  have hD : va_D A [(h0, .inr (1, [.ref q5, .ref q20, .ref q28, .null, .null, .null, .int 0, .int 0])), (q5, .inr (2, [.ref (u0 0), .ref (u0 1), .int 0])), ((u0 0), .inl (cI, 50, .inl ko_z)), ((u0 1), .inl (cI, 50, .inl (ko_f 50 (-1) ko_z))), (q20, .inl (cI, 50, .inl ko_z)), (q28, .inl (cI, 50, .inl ko_z)), (q36, .inl (cI, 50, .inl ko_z))] := hD
  refine co_cs (k := 6) (n := 253) rfl rfl ?_
  refine co_pc (pc' := 38) rfl ?_
  refine va_putF (D := D) (ci := 1) (v := .ref q36) (ty := .array .int) (C := kR1) (T := kT1) (N := 8) hx hb hts kjn1 kt1 kty1 knm1 hown hK hP hD hS 0 rfl rfl 3 (by decide) (hts _ kv_24) (fun _ h9 => h9) rfl hin rfl (by decide +kernel) rfl rfl (Nat.le_of_ble_eq_true rfl) dn_Ty_38 (fun H locs hP hD hS => ?_)
  have hP : va_P D kcl [(h0, .inr (1, [.ref q5, .ref q20, .ref q28, .ref q36, .null, .null, .int 0, .int 0])), (q5, .inr (2, [.ref (u0 0), .ref (u0 1), .int 0])), ((u0 0), .inl (cI, 50, .inl ko_z)), ((u0 1), .inl (cI, 50, .inl (ko_f 50 (-1) ko_z))), (q20, .inl (cI, 50, .inl ko_z)), (q28, .inl (cI, 50, .inl ko_z)), (q36, .inl (cI, 50, .inl ko_z))] H := hP
  have hD : va_D A [(h0, .inr (1, [.ref q5, .ref q20, .ref q28, .ref q36, .null, .null, .int 0, .int 0])), (q5, .inr (2, [.ref (u0 0), .ref (u0 1), .int 0])), ((u0 0), .inl (cI, 50, .inl ko_z)), ((u0 1), .inl (cI, 50, .inl (ko_f 50 (-1) ko_z))), (q20, .inl (cI, 50, .inl ko_z)), (q28, .inl (cI, 50, .inl ko_z)), (q36, .inl (cI, 50, .inl ko_z))] := hD
  refine lv_aload_n hx hb dn_Ty_41 rfl (lv_at hl 0 rfl) ?_
  refine lv_bipush (v := 50) hx hb dn_Ty_42 (by decide) ?_
  refine co_newZ (N := 50) hx hb (hts _ kv_25) hK hP hD hS hA (by decide) (by decide) (by decide) (show 6 + 1 ≤ 8 from by decide) (show 253 + 50 ≤ 353 from by decide) dn_Ty_44 (fun q44 H hP hD hS => ?_)
  have hP : va_P D kcl [(h0, .inr (1, [.ref q5, .ref q20, .ref q28, .ref q36, .null, .null, .int 0, .int 0])), (q5, .inr (2, [.ref (u0 0), .ref (u0 1), .int 0])), ((u0 0), .inl (cI, 50, .inl ko_z)), ((u0 1), .inl (cI, 50, .inl (ko_f 50 (-1) ko_z))), (q20, .inl (cI, 50, .inl ko_z)), (q28, .inl (cI, 50, .inl ko_z)), (q36, .inl (cI, 50, .inl ko_z)), (q44, .inl (cZ, 50, .inl ko_z))] H := hP
  have hD : va_D A [(h0, .inr (1, [.ref q5, .ref q20, .ref q28, .ref q36, .null, .null, .int 0, .int 0])), (q5, .inr (2, [.ref (u0 0), .ref (u0 1), .int 0])), ((u0 0), .inl (cI, 50, .inl ko_z)), ((u0 1), .inl (cI, 50, .inl (ko_f 50 (-1) ko_z))), (q20, .inl (cI, 50, .inl ko_z)), (q28, .inl (cI, 50, .inl ko_z)), (q36, .inl (cI, 50, .inl ko_z)), (q44, .inl (cZ, 50, .inl ko_z))] := hD
  refine co_cs (k := 7) (n := 303) rfl rfl ?_
  refine va_putF (D := D) (ci := 1) (v := .ref q44) (ty := .array .boolean) (C := kR1) (T := kT1) (N := 8) hx hb hts kjn1 kt1 kty1 knm1 hown hK hP hD hS 0 rfl rfl 4 (by decide) (hts _ kv_26) (fun _ h9 => h9) rfl hin rfl (by decide +kernel) rfl rfl (Nat.le_of_ble_eq_true rfl) dn_Ty_46 (fun H locs hP hD hS => ?_)
  have hP : va_P D kcl [(h0, .inr (1, [.ref q5, .ref q20, .ref q28, .ref q36, .ref q44, .null, .int 0, .int 0])), (q5, .inr (2, [.ref (u0 0), .ref (u0 1), .int 0])), ((u0 0), .inl (cI, 50, .inl ko_z)), ((u0 1), .inl (cI, 50, .inl (ko_f 50 (-1) ko_z))), (q20, .inl (cI, 50, .inl ko_z)), (q28, .inl (cI, 50, .inl ko_z)), (q36, .inl (cI, 50, .inl ko_z)), (q44, .inl (cZ, 50, .inl ko_z))] H := hP
  have hD : va_D A [(h0, .inr (1, [.ref q5, .ref q20, .ref q28, .ref q36, .ref q44, .null, .int 0, .int 0])), (q5, .inr (2, [.ref (u0 0), .ref (u0 1), .int 0])), ((u0 0), .inl (cI, 50, .inl ko_z)), ((u0 1), .inl (cI, 50, .inl (ko_f 50 (-1) ko_z))), (q20, .inl (cI, 50, .inl ko_z)), (q28, .inl (cI, 50, .inl ko_z)), (q36, .inl (cI, 50, .inl ko_z)), (q44, .inl (cZ, 50, .inl ko_z))] := hD
  refine lv_aload_n hx hb dn_Ty_49 rfl (lv_at hl 0 rfl) ?_
  refine lv_bipush (v := 50) hx hb dn_Ty_50 (by decide) ?_
  refine co_newI (N := 50) hx hb (hts _ kv_11) hK hP hD hS hA (by decide) (by decide) (by decide) (show 7 + 1 ≤ 8 from by decide) (show 303 + 50 ≤ 353 from by decide) dn_Ty_52 (fun q52 H hP hD hS => ?_)
  have hP : va_P D kcl [(h0, .inr (1, [.ref q5, .ref q20, .ref q28, .ref q36, .ref q44, .null, .int 0, .int 0])), (q5, .inr (2, [.ref (u0 0), .ref (u0 1), .int 0])), ((u0 0), .inl (cI, 50, .inl ko_z)), ((u0 1), .inl (cI, 50, .inl (ko_f 50 (-1) ko_z))), (q20, .inl (cI, 50, .inl ko_z)), (q28, .inl (cI, 50, .inl ko_z)), (q36, .inl (cI, 50, .inl ko_z)), (q44, .inl (cZ, 50, .inl ko_z)), (q52, .inl (cI, 50, .inl ko_z))] H := hP
  have hD : va_D A [(h0, .inr (1, [.ref q5, .ref q20, .ref q28, .ref q36, .ref q44, .null, .int 0, .int 0])), (q5, .inr (2, [.ref (u0 0), .ref (u0 1), .int 0])), ((u0 0), .inl (cI, 50, .inl ko_z)), ((u0 1), .inl (cI, 50, .inl (ko_f 50 (-1) ko_z))), (q20, .inl (cI, 50, .inl ko_z)), (q28, .inl (cI, 50, .inl ko_z)), (q36, .inl (cI, 50, .inl ko_z)), (q44, .inl (cZ, 50, .inl ko_z)), (q52, .inl (cI, 50, .inl ko_z))] := hD
  refine co_cs (k := 8) (n := 353) rfl rfl ?_
  refine va_putF (D := D) (ci := 1) (v := .ref q52) (ty := .array .int) (C := kR1) (T := kT1) (N := 8) hx hb hts kjn1 kt1 kty1 knm1 hown hK hP hD hS 0 rfl rfl 5 (by decide) (hts _ kv_27) (fun _ h9 => h9) rfl hin rfl (by decide +kernel) rfl rfl (Nat.le_of_ble_eq_true rfl) dn_Ty_54 (fun H locs hP hD hS => ?_)
  have hP : va_P D kcl [(h0, .inr (1, [.ref q5, .ref q20, .ref q28, .ref q36, .ref q44, .ref q52, .int 0, .int 0])), (q5, .inr (2, [.ref (u0 0), .ref (u0 1), .int 0])), ((u0 0), .inl (cI, 50, .inl ko_z)), ((u0 1), .inl (cI, 50, .inl (ko_f 50 (-1) ko_z))), (q20, .inl (cI, 50, .inl ko_z)), (q28, .inl (cI, 50, .inl ko_z)), (q36, .inl (cI, 50, .inl ko_z)), (q44, .inl (cZ, 50, .inl ko_z)), (q52, .inl (cI, 50, .inl ko_z))] H := hP
  have hD : va_D A [(h0, .inr (1, [.ref q5, .ref q20, .ref q28, .ref q36, .ref q44, .ref q52, .int 0, .int 0])), (q5, .inr (2, [.ref (u0 0), .ref (u0 1), .int 0])), ((u0 0), .inl (cI, 50, .inl ko_z)), ((u0 1), .inl (cI, 50, .inl (ko_f 50 (-1) ko_z))), (q20, .inl (cI, 50, .inl ko_z)), (q28, .inl (cI, 50, .inl ko_z)), (q36, .inl (cI, 50, .inl ko_z)), (q44, .inl (cZ, 50, .inl ko_z)), (q52, .inl (cI, 50, .inl ko_z))] := hD
  refine lv_aload_n hx hb dn_Ty_57 rfl (lv_at hl 0 rfl) ?_
  refine co_pc (pc' := 58) rfl ?_
  refine va_get (D := D) (ci := 1) (v := .ref q5) (C := kR1) (T := kT1) (N := 8) hx hb hts kjn1 hown hK hP 0 rfl rfl 0 (by decide) (hts _ kv_21) (fun _ h9 => h9) rfl dn_Ty_58 ?_
  refine lv_aload_n hx hb dn_Ty_61 rfl (lv_at hl 0 rfl) ?_
  refine lv_iconst (v := 0) hx hb dn_Ty_62 (by decide) ?_
  refine lv_iconst (v := 0) hx hb dn_Ty_63 (by decide) ?_
  refine lv_iconst (v := 0) hx hb dn_Ty_64 (by decide) ?_
  refine co_i (wc := [(h0, .inr (1, [.ref q5, .ref q20, .ref q28, .ref q36, .ref q44, .ref q52, .int 0, .int 0])), (q20, .inl (cI, 50, .inl ko_z)), (q28, .inl (cI, 50, .inl ko_z)), (q36, .inl (cI, 50, .inl ko_z)), (q44, .inl (cZ, 50, .inl ko_z)), (q52, .inl (cI, 50, .inl ko_z))]) (wr := [(q5, .inr (2, [.ref (u0 0), .ref (u0 1), .int 0])), ((u0 0), .inl (cI, 50, .inl ko_z)), ((u0 1), .inl (cI, 50, .inl (ko_f 50 (-1) ko_z)))]) (w1 := fun u => [(h0, .inr (1, [.ref q5, .ref q20, .ref q28, .ref q36, .ref q44, .ref q52, .int 1, .int 0])), (q20, .inl (cI, 50, .inl (upd ko_z 0 0))), (q28, .inl (cI, 50, .inl (upd ko_z 0 0))), (q36, .inl (cI, 50, .inl (upd ko_z 0 0))), (q44, .inl (cZ, 50, .inl (upd ko_z 0 0))), (q52, .inl (cI, 50, .inl (upd ko_z 0 1)))]) (v := 0) (va_runV (As := [.int 0, .int 0, .int 0]) (rest := [.ref q5]) (C := (ky 0).cls) ⟨hx, hb, hml, hown, hts⟩ (cq_Ty_store_1 l D cI cZ h0 q20 q28 q36 q44 q52 q5 H.size) (cwV 3 hts (kgi_V kv_29 k_im_0 k_se_0 kok_0) rfl rfl rfl ⟨rfl, kok_0.2.2.2.1, kok_0.2.2.2.2, by decide +kernel⟩ ⟨Nat.le_of_ble_eq_true rfl, Nat.le_of_ble_eq_true rfl⟩) ⟨co_blind, va_recv hK hP (ci := 1) (q0 := 0) rfl rfl, (co_pre hK hP hD [0, 4, 5, 6, 7, 8] rfl (by decide)).2⟩ rfl rfl hl.1 rfl (lv_room (Nat.le_of_ble_eq_true rfl)) dn_Ty_65 ⟨show 8 + 0 ≤ 8 from by decide, show 353 + 0 ≤ 353 from by decide⟩) hP hD hS hA [0, 4, 5, 6, 7, 8] [1, 2, 3] rfl rfl (by decide) (by decide) (fun u1 H locs hP hD hS => ?_)
  have hP : va_P D kcl [(q5, .inr (2, [.ref (u0 0), .ref (u0 1), .int 0])), ((u0 0), .inl (cI, 50, .inl ko_z)), ((u0 1), .inl (cI, 50, .inl (ko_f 50 (-1) ko_z))), (h0, .inr (1, [.ref q5, .ref q20, .ref q28, .ref q36, .ref q44, .ref q52, .int 1, .int 0])), (q20, .inl (cI, 50, .inl (upd ko_z 0 0))), (q28, .inl (cI, 50, .inl (upd ko_z 0 0))), (q36, .inl (cI, 50, .inl (upd ko_z 0 0))), (q44, .inl (cZ, 50, .inl (upd ko_z 0 0))), (q52, .inl (cI, 50, .inl (upd ko_z 0 1)))] H := hP
  have hD : va_D A [(q5, .inr (2, [.ref (u0 0), .ref (u0 1), .int 0])), ((u0 0), .inl (cI, 50, .inl ko_z)), ((u0 1), .inl (cI, 50, .inl (ko_f 50 (-1) ko_z))), (h0, .inr (1, [.ref q5, .ref q20, .ref q28, .ref q36, .ref q44, .ref q52, .int 1, .int 0])), (q20, .inl (cI, 50, .inl (upd ko_z 0 0))), (q28, .inl (cI, 50, .inl (upd ko_z 0 0))), (q36, .inl (cI, 50, .inl (upd ko_z 0 0))), (q44, .inl (cZ, 50, .inl (upd ko_z 0 0))), (q52, .inl (cI, 50, .inl (upd ko_z 0 1)))] := hD
  refine co_cs (k := 8) (n := 353) rfl rfl ?_
  refine co_i (wc := [(q5, .inr (2, [.ref (u0 0), .ref (u0 1), .int 0])), ((u0 0), .inl (cI, 50, .inl ko_z)), ((u0 1), .inl (cI, 50, .inl (ko_f 50 (-1) ko_z)))]) (wr := [(h0, .inr (1, [.ref q5, .ref q20, .ref q28, .ref q36, .ref q44, .ref q52, .int 1, .int 0])), (q20, .inl (cI, 50, .inl (upd ko_z 0 0))), (q28, .inl (cI, 50, .inl (upd ko_z 0 0))), (q36, .inl (cI, 50, .inl (upd ko_z 0 0))), (q44, .inl (cZ, 50, .inl (upd ko_z 0 0))), (q52, .inl (cI, 50, .inl (upd ko_z 0 1)))]) (w1 := fun u => [(q5, .inr (2, [.ref (u0 0), .ref (u0 1), .int 1])), ((u0 0), .inl (cI, 50, .inl (upd ko_z 0 0))), ((u0 1), .inl (cI, 50, .inl (upd (ko_f 50 (-1) ko_z) 0 0)))]) (v := 0) (va_runV (As := [.int 0]) (rest := []) (C := (ky 1).cls) ⟨hx, hb, hml, hown, hts⟩ (cq_Nu_numberOf_1 l D cI cZ q5 (u0 0) (u0 1) H.size) (cwV 1 hts (kgi_V kv_31 k_im_1 k_se_1 kok_1) rfl rfl rfl ⟨rfl, kok_1.2.2.2.1, kok_1.2.2.2.2, by decide +kernel⟩ ⟨Nat.le_of_ble_eq_true rfl, Nat.le_of_ble_eq_true rfl⟩) ⟨co_blind, va_recv hK hP (ci := 2) (q0 := 0) rfl rfl, (co_pre hK hP hD [0, 1, 2] rfl (by decide)).2⟩ rfl rfl hl.1 rfl (lv_room (Nat.le_of_ble_eq_true rfl)) dn_Ty_68 ⟨show 8 + 0 ≤ 8 from by decide, show 353 + 0 ≤ 353 from by decide⟩) hP hD hS hA [0, 1, 2] [3, 4, 5, 6, 7, 8] rfl rfl (by decide) (by decide) (fun u2 H locs hP hD hS => ?_)
  have hP : va_P D kcl [(h0, .inr (1, [.ref q5, .ref q20, .ref q28, .ref q36, .ref q44, .ref q52, .int 1, .int 0])), (q20, .inl (cI, 50, .inl (upd ko_z 0 0))), (q28, .inl (cI, 50, .inl (upd ko_z 0 0))), (q36, .inl (cI, 50, .inl (upd ko_z 0 0))), (q44, .inl (cZ, 50, .inl (upd ko_z 0 0))), (q52, .inl (cI, 50, .inl (upd ko_z 0 1))), (q5, .inr (2, [.ref (u0 0), .ref (u0 1), .int 1])), ((u0 0), .inl (cI, 50, .inl (upd ko_z 0 0))), ((u0 1), .inl (cI, 50, .inl (upd (ko_f 50 (-1) ko_z) 0 0)))] H := hP
  have hD : va_D A [(h0, .inr (1, [.ref q5, .ref q20, .ref q28, .ref q36, .ref q44, .ref q52, .int 1, .int 0])), (q20, .inl (cI, 50, .inl (upd ko_z 0 0))), (q28, .inl (cI, 50, .inl (upd ko_z 0 0))), (q36, .inl (cI, 50, .inl (upd ko_z 0 0))), (q44, .inl (cZ, 50, .inl (upd ko_z 0 0))), (q52, .inl (cI, 50, .inl (upd ko_z 0 1))), (q5, .inr (2, [.ref (u0 0), .ref (u0 1), .int 1])), ((u0 0), .inl (cI, 50, .inl (upd ko_z 0 0))), ((u0 1), .inl (cI, 50, .inl (upd (ko_f 50 (-1) ko_z) 0 0)))] := hD
  refine co_cs (k := 8) (n := 353) rfl rfl ?_
  refine lv_pop hx hb dn_Ty_71 rfl ?_
  refine lv_aload_n hx hb dn_Ty_72 rfl (lv_at hl 0 rfl) ?_
  refine va_get (D := D) (ci := 1) (v := .ref q5) (C := kR1) (T := kT1) (N := 8) hx hb hts kjn1 hown hK hP 0 rfl rfl 0 (by decide) (hts _ kv_21) (fun _ h9 => h9) rfl dn_Ty_73 ?_
  refine co_pc (pc' := 76) rfl ?_
  refine lv_aload_n hx hb dn_Ty_76 rfl (lv_at hl 0 rfl) ?_
  refine lv_iconst (v := 0) hx hb dn_Ty_77 (by decide) ?_
  refine lv_iconst (v := 1) hx hb dn_Ty_78 (by decide) ?_
  refine lv_iconst (v := 0) hx hb dn_Ty_79 (by decide) ?_
  refine co_i (wc := [(h0, .inr (1, [.ref q5, .ref q20, .ref q28, .ref q36, .ref q44, .ref q52, .int 1, .int 0])), (q20, .inl (cI, 50, .inl (upd ko_z 0 0))), (q28, .inl (cI, 50, .inl (upd ko_z 0 0))), (q36, .inl (cI, 50, .inl (upd ko_z 0 0))), (q44, .inl (cZ, 50, .inl (upd ko_z 0 0))), (q52, .inl (cI, 50, .inl (upd ko_z 0 1)))]) (wr := [(q5, .inr (2, [.ref (u0 0), .ref (u0 1), .int 1])), ((u0 0), .inl (cI, 50, .inl (upd ko_z 0 0))), ((u0 1), .inl (cI, 50, .inl (upd (ko_f 50 (-1) ko_z) 0 0)))]) (w1 := fun u => [(h0, .inr (1, [.ref q5, .ref q20, .ref q28, .ref q36, .ref q44, .ref q52, .int 2, .int 0])), (q20, .inl (cI, 50, .inl (upd (upd ko_z 0 0) 1 0))), (q28, .inl (cI, 50, .inl (upd (upd ko_z 0 0) 1 1))), (q36, .inl (cI, 50, .inl (upd (upd ko_z 0 0) 1 0))), (q44, .inl (cZ, 50, .inl (upd (upd ko_z 0 0) 1 0))), (q52, .inl (cI, 50, .inl (upd (upd ko_z 0 1) 1 1)))]) (v := 1) (va_runV (As := [.int 0, .int 1, .int 0]) (rest := [.ref q5]) (C := (ky 0).cls) ⟨hx, hb, hml, hown, hts⟩ (cq_Ty_store_2 l D cI cZ h0 q20 q28 q36 q44 q52 q5 H.size) (cwV 3 hts (kgi_V kv_29 k_im_0 k_se_0 kok_0) rfl rfl rfl ⟨rfl, kok_0.2.2.2.1, kok_0.2.2.2.2, by decide +kernel⟩ ⟨Nat.le_of_ble_eq_true rfl, Nat.le_of_ble_eq_true rfl⟩) ⟨co_blind, va_recv hK hP (ci := 1) (q0 := 0) rfl rfl, (co_pre hK hP hD [0, 1, 2, 3, 4, 5] rfl (by decide)).2⟩ rfl rfl hl.1 rfl (lv_room (Nat.le_of_ble_eq_true rfl)) dn_Ty_80 ⟨show 8 + 0 ≤ 8 from by decide, show 353 + 0 ≤ 353 from by decide⟩) hP hD hS hA [0, 1, 2, 3, 4, 5] [6, 7, 8] rfl rfl (by decide) (by decide) (fun u3 H locs hP hD hS => ?_)
  have hP : va_P D kcl [(q5, .inr (2, [.ref (u0 0), .ref (u0 1), .int 1])), ((u0 0), .inl (cI, 50, .inl (upd ko_z 0 0))), ((u0 1), .inl (cI, 50, .inl (upd (ko_f 50 (-1) ko_z) 0 0))), (h0, .inr (1, [.ref q5, .ref q20, .ref q28, .ref q36, .ref q44, .ref q52, .int 2, .int 0])), (q20, .inl (cI, 50, .inl (upd (upd ko_z 0 0) 1 0))), (q28, .inl (cI, 50, .inl (upd (upd ko_z 0 0) 1 1))), (q36, .inl (cI, 50, .inl (upd (upd ko_z 0 0) 1 0))), (q44, .inl (cZ, 50, .inl (upd (upd ko_z 0 0) 1 0))), (q52, .inl (cI, 50, .inl (upd (upd ko_z 0 1) 1 1)))] H := hP
  have hD : va_D A [(q5, .inr (2, [.ref (u0 0), .ref (u0 1), .int 1])), ((u0 0), .inl (cI, 50, .inl (upd ko_z 0 0))), ((u0 1), .inl (cI, 50, .inl (upd (ko_f 50 (-1) ko_z) 0 0))), (h0, .inr (1, [.ref q5, .ref q20, .ref q28, .ref q36, .ref q44, .ref q52, .int 2, .int 0])), (q20, .inl (cI, 50, .inl (upd (upd ko_z 0 0) 1 0))), (q28, .inl (cI, 50, .inl (upd (upd ko_z 0 0) 1 1))), (q36, .inl (cI, 50, .inl (upd (upd ko_z 0 0) 1 0))), (q44, .inl (cZ, 50, .inl (upd (upd ko_z 0 0) 1 0))), (q52, .inl (cI, 50, .inl (upd (upd ko_z 0 1) 1 1)))] := hD
  refine co_cs (k := 8) (n := 353) rfl rfl ?_
  refine co_i (wc := [(q5, .inr (2, [.ref (u0 0), .ref (u0 1), .int 1])), ((u0 0), .inl (cI, 50, .inl (upd ko_z 0 0))), ((u0 1), .inl (cI, 50, .inl (upd (ko_f 50 (-1) ko_z) 0 0)))]) (wr := [(h0, .inr (1, [.ref q5, .ref q20, .ref q28, .ref q36, .ref q44, .ref q52, .int 2, .int 0])), (q20, .inl (cI, 50, .inl (upd (upd ko_z 0 0) 1 0))), (q28, .inl (cI, 50, .inl (upd (upd ko_z 0 0) 1 1))), (q36, .inl (cI, 50, .inl (upd (upd ko_z 0 0) 1 0))), (q44, .inl (cZ, 50, .inl (upd (upd ko_z 0 0) 1 0))), (q52, .inl (cI, 50, .inl (upd (upd ko_z 0 1) 1 1)))]) (w1 := fun u => [(q5, .inr (2, [.ref (u0 0), .ref (u0 1), .int 2])), ((u0 0), .inl (cI, 50, .inl (upd (upd ko_z 0 0) 1 1))), ((u0 1), .inl (cI, 50, .inl (upd (upd (ko_f 50 (-1) ko_z) 0 0) 1 1)))]) (v := 1) (va_runV (As := [.int 1]) (rest := []) (C := (ky 1).cls) ⟨hx, hb, hml, hown, hts⟩ (cq_Nu_numberOf_2 l D cI cZ q5 (u0 0) (u0 1) H.size) (cwV 1 hts (kgi_V kv_31 k_im_1 k_se_1 kok_1) rfl rfl rfl ⟨rfl, kok_1.2.2.2.1, kok_1.2.2.2.2, by decide +kernel⟩ ⟨Nat.le_of_ble_eq_true rfl, Nat.le_of_ble_eq_true rfl⟩) ⟨co_blind, va_recv hK hP (ci := 2) (q0 := 0) rfl rfl, (co_pre hK hP hD [0, 1, 2] rfl (by decide)).2⟩ rfl rfl hl.1 rfl (lv_room (Nat.le_of_ble_eq_true rfl)) dn_Ty_83 ⟨show 8 + 0 ≤ 8 from by decide, show 353 + 0 ≤ 353 from by decide⟩) hP hD hS hA [0, 1, 2] [3, 4, 5, 6, 7, 8] rfl rfl (by decide) (by decide) (fun u4 H locs hP hD hS => ?_)
  have hP : va_P D kcl [(h0, .inr (1, [.ref q5, .ref q20, .ref q28, .ref q36, .ref q44, .ref q52, .int 2, .int 0])), (q20, .inl (cI, 50, .inl (upd (upd ko_z 0 0) 1 0))), (q28, .inl (cI, 50, .inl (upd (upd ko_z 0 0) 1 1))), (q36, .inl (cI, 50, .inl (upd (upd ko_z 0 0) 1 0))), (q44, .inl (cZ, 50, .inl (upd (upd ko_z 0 0) 1 0))), (q52, .inl (cI, 50, .inl (upd (upd ko_z 0 1) 1 1))), (q5, .inr (2, [.ref (u0 0), .ref (u0 1), .int 2])), ((u0 0), .inl (cI, 50, .inl (upd (upd ko_z 0 0) 1 1))), ((u0 1), .inl (cI, 50, .inl (upd (upd (ko_f 50 (-1) ko_z) 0 0) 1 1)))] H := hP
  have hD : va_D A [(h0, .inr (1, [.ref q5, .ref q20, .ref q28, .ref q36, .ref q44, .ref q52, .int 2, .int 0])), (q20, .inl (cI, 50, .inl (upd (upd ko_z 0 0) 1 0))), (q28, .inl (cI, 50, .inl (upd (upd ko_z 0 0) 1 1))), (q36, .inl (cI, 50, .inl (upd (upd ko_z 0 0) 1 0))), (q44, .inl (cZ, 50, .inl (upd (upd ko_z 0 0) 1 0))), (q52, .inl (cI, 50, .inl (upd (upd ko_z 0 1) 1 1))), (q5, .inr (2, [.ref (u0 0), .ref (u0 1), .int 2])), ((u0 0), .inl (cI, 50, .inl (upd (upd ko_z 0 0) 1 1))), ((u0 1), .inl (cI, 50, .inl (upd (upd (ko_f 50 (-1) ko_z) 0 0) 1 1)))] := hD
  refine co_cs (k := 8) (n := 353) rfl rfl ?_
  refine lv_pop hx hb dn_Ty_86 rfl ?_
  refine lv_aload_n hx hb dn_Ty_87 rfl (lv_at hl 0 rfl) ?_
  refine lv_aload_n hx hb dn_Ty_88 rfl (lv_at hl 0 rfl) ?_
  refine va_get (D := D) (ci := 1) (v := .int 2) (C := kR1) (T := kT1) (N := 8) hx hb hts kjn1 hown hK hP 0 rfl rfl 6 (by decide) (hts _ kv_28) (fun _ h9 => h9) rfl dn_Ty_89 ?_
  refine co_pc (pc' := 92) rfl ?_
  refine va_put (D := D) (ci := 1) (v := .int 2) (ty := .int) (C := kR1) (T := kT1) (N := 8) hx hb hts kjn1 kt1 kty1 knm1 hown hK hP hD hS 0 rfl rfl 7 (by decide) (hts _ kv_32) (fun _ h9 => h9) rfl (by decide +kernel) rfl rfl (Nat.le_of_ble_eq_true rfl) dn_Ty_92 (fun H locs hP hD hS => ?_)
  have hP : va_P D kcl [(h0, .inr (1, [.ref q5, .ref q20, .ref q28, .ref q36, .ref q44, .ref q52, .int 2, .int 2])), (q20, .inl (cI, 50, .inl (upd (upd ko_z 0 0) 1 0))), (q28, .inl (cI, 50, .inl (upd (upd ko_z 0 0) 1 1))), (q36, .inl (cI, 50, .inl (upd (upd ko_z 0 0) 1 0))), (q44, .inl (cZ, 50, .inl (upd (upd ko_z 0 0) 1 0))), (q52, .inl (cI, 50, .inl (upd (upd ko_z 0 1) 1 1))), (q5, .inr (2, [.ref (u0 0), .ref (u0 1), .int 2])), ((u0 0), .inl (cI, 50, .inl (upd (upd ko_z 0 0) 1 1))), ((u0 1), .inl (cI, 50, .inl (upd (upd (ko_f 50 (-1) ko_z) 0 0) 1 1)))] H := hP
  have hD : va_D A [(h0, .inr (1, [.ref q5, .ref q20, .ref q28, .ref q36, .ref q44, .ref q52, .int 2, .int 2])), (q20, .inl (cI, 50, .inl (upd (upd ko_z 0 0) 1 0))), (q28, .inl (cI, 50, .inl (upd (upd ko_z 0 0) 1 1))), (q36, .inl (cI, 50, .inl (upd (upd ko_z 0 0) 1 0))), (q44, .inl (cZ, 50, .inl (upd (upd ko_z 0 0) 1 0))), (q52, .inl (cI, 50, .inl (upd (upd ko_z 0 1) 1 1))), (q5, .inr (2, [.ref (u0 0), .ref (u0 1), .int 2])), ((u0 0), .inl (cI, 50, .inl (upd (upd ko_z 0 0) 1 1))), ((u0 1), .inl (cI, 50, .inl (upd (upd (ko_f 50 (-1) ko_z) 0 0) 1 1)))] := hD
  have hP9 := hP.sub (ws' := [(h0, .inr (1, [.ref q5, .ref q20, .ref q28, .ref q36, .ref q44, .ref q52, .int 2, .int 2])), (q5, .inr (2, [.ref (u0 0), .ref (u0 1), .int 2])), ((u0 0), .inl (cI, 50, .inl (upd (upd ko_z 0 0) 1 1))), ((u0 1), .inl (cI, 50, .inl (upd (upd (ko_f 50 (-1) ko_z) 0 0) 1 1))), (q20, .inl (cI, 50, .inl (upd (upd ko_z 0 0) 1 0))), (q28, .inl (cI, 50, .inl (upd (upd ko_z 0 0) 1 1))), (q36, .inl (cI, 50, .inl (upd (upd ko_z 0 0) 1 0))), (q44, .inl (cZ, 50, .inl (upd (upd ko_z 0 0) 1 0))), (q52, .inl (cI, 50, .inl (upd (upd ko_z 0 1) 1 1)))]) [0, 6, 7, 8, 1, 2, 3, 4, 5] rfl
  have hD9 := hD.sub (ws' := [(h0, .inr (1, [.ref q5, .ref q20, .ref q28, .ref q36, .ref q44, .ref q52, .int 2, .int 2])), (q5, .inr (2, [.ref (u0 0), .ref (u0 1), .int 2])), ((u0 0), .inl (cI, 50, .inl (upd (upd ko_z 0 0) 1 1))), ((u0 1), .inl (cI, 50, .inl (upd (upd (ko_f 50 (-1) ko_z) 0 0) 1 1))), (q20, .inl (cI, 50, .inl (upd (upd ko_z 0 0) 1 0))), (q28, .inl (cI, 50, .inl (upd (upd ko_z 0 0) 1 1))), (q36, .inl (cI, 50, .inl (upd (upd ko_z 0 0) 1 0))), (q44, .inl (cZ, 50, .inl (upd (upd ko_z 0 0) 1 0))), (q52, .inl (cI, 50, .inl (upd (upd ko_z 0 1) 1 1)))]) [0, 6, 7, 8, 1, 2, 3, 4, 5] (by decide) rfl
  exact W.vret hx hb hr (fun t ht hW => ⟨⟨(kix 0 [q5, (u0 0), (u0 1), q20, q28, q36, q44, q52]), rfl, trivial, by rw [ht]; exact hP9, va_K.moved hW.alike hK, hD9⟩, hS.F ht⟩) hS.2.2 dn_Ty_95
set_option maxHeartbeats 4000000 in
set_option maxRecDepth 100000 in
theorem cq_Nu_2 (l : Launch) (D : va_G) (cI cZ : ClassId) (h0 sz : Nat) : Met l ⟨"SequentKernel$Numbers", "<init>", "(I)V"⟩ (Cond.code ⟨"SequentKernel$Numbers", "<init>", "(I)V"⟩ prog_4_method_1_code 2 none :: kwl) ({ frames := 1, cells := 2, slots := 500, locals := 23 }) (va_Pc [.ref h0, .int 250] (coB D cI cZ [(h0, .inr (2, [.null, .null, .int 0]))] sz)) (va_Qv (fun _ : Nat → Nat => True) (coE D cI cZ (va_A [(h0, .inr (2, [.null, .null, .int 0]))] sz) (fun u => [(h0, .inr (2, [.ref (u 0), .ref (u 1), .int 0])), ((u 0), .inl (cI, 250, .inl ko_z)), ((u 1), .inl (cI, 250, .inl (ko_f 250 (-1) ko_z)))])) (va_A [(h0, .inr (2, [.null, .null, .int 0]))] sz)) 2 500 (va_A [(h0, .inr (2, [.null, .null, .int 0]))] sz) := by
  refine Met.ofW (cc := prog_4_method_1_code) (maxL := 2) (ret := none) (by decide +kernel) rfl ?_
  intro p e s m args below meth c s₁ B hml hv
  obtain ⟨rfl, hsz, hP, hK, hD0⟩ := hv
  have hx := B.exec
  have hb := B.bytes
  have hr : meth.sig.returnType = none := B.returns
  have hts : ∀ w ∈ kwl, w.before ([.ref h0, .int 250] : List Value).toArray s = true := fun w h => atoms_spec (ws := (Cond.code ⟨"SequentKernel$Numbers", "<init>", "(I)V"⟩ prog_4_method_1_code 2 none :: kwl)) B.pre w (List.mem_cons_of_mem _ h)
  have hown : s.vm.findClass kR2 = some m.cls := findClass_of_methodNamed B.named
  have hlocks := B.notSynchronized
  have hin : meth.name = "<init>" := (name_of_methodNamed B.named B.method).1
  subst hsz
  have hD := hD0.self (sz := s.heap.size)
  generalize hAe : va_A [(h0, .inr (2, [.null, .null, .int 0]))] s.heap.size = A at hD ⊢
  have hA : ∀ q : Nat, s.heap.size ≤ q → A q := fun q h => by rw [← hAe]; exact Or.inr h
  have hS : va_S A s.heap s.heap [] := va_S.rf
  have hl := lv_entry ([.ref h0, .int 250]) (n := 2) (Nat.le_of_ble_eq_true rfl)
  rw [lg_entry_eq]
  generalize (lg_sl ([.ref h0, .int 250]) ++ List.replicate (2 - (lg_sl ([.ref h0, .int 250])).length) Slot.unset).toArray = ls at hl ⊢
  have hl : lv_has ls 2 [(0, .ref h0), (1, .int 250)] := hl
  refine lv_aload_n hx hb dn_Nu_0 rfl (lv_at hl 0 rfl) ?_
  refine W.objInit hx hb hown (hts _ kv_10) (hts _ kv_1) (hts _ kv_2) rfl (by rw [hml]; exact hl.1) rfl dn_Nu_1 (Nat.le_of_ble_eq_true rfl) (Nat.le_of_ble_eq_true rfl) ?_
  refine W.eq (g2 := F0 m 4 ls []) rfl ?_
  refine lv_aload_n hx hb dn_Nu_4 rfl (lv_at hl 0 rfl) ?_
  refine lv_iload_n hx hb dn_Nu_5 rfl (lv_at hl 1 rfl) ?_
  refine co_newI (N := 250) hx hb (hts _ kv_11) hK hP hD hS hA (by decide) (by decide) (by decide) (show 0 + 1 ≤ 2 from by decide) (show 0 + 250 ≤ 500 from by decide) dn_Nu_6 (fun q6 H hP hD hS => ?_)
  have hP : va_P D kcl [(h0, .inr (2, [.null, .null, .int 0])), (q6, .inl (cI, 250, .inl ko_z))] H := hP
  have hD : va_D A [(h0, .inr (2, [.null, .null, .int 0])), (q6, .inl (cI, 250, .inl ko_z))] := hD
  refine co_cs (k := 1) (n := 250) rfl rfl ?_
  refine va_putF (D := D) (ci := 2) (v := .ref q6) (ty := .array .int) (C := kR2) (T := kT2) (N := 3) hx hb hts kjn2 kt2 kty2 knm2 hown hK hP hD hS 0 rfl rfl 0 (by decide) (hts _ kv_12) (fun _ h9 => h9) rfl hin rfl (by decide +kernel) rfl rfl (Nat.le_of_ble_eq_true rfl) dn_Nu_8 (fun H locs hP hD hS => ?_)
  have hP : va_P D kcl [(h0, .inr (2, [.ref q6, .null, .int 0])), (q6, .inl (cI, 250, .inl ko_z))] H := hP
  have hD : va_D A [(h0, .inr (2, [.ref q6, .null, .int 0])), (q6, .inl (cI, 250, .inl ko_z))] := hD
  refine lv_aload_n hx hb dn_Nu_11 rfl (lv_at hl 0 rfl) ?_
  refine lv_iload_n hx hb dn_Nu_12 rfl (lv_at hl 1 rfl) ?_
  refine co_newI (N := 250) hx hb (hts _ kv_11) hK hP hD hS hA (by decide) (by decide) (by decide) (show 1 + 1 ≤ 2 from by decide) (show 250 + 250 ≤ 500 from by decide) dn_Nu_13 (fun q13 H hP hD hS => ?_)
  have hP : va_P D kcl [(h0, .inr (2, [.ref q6, .null, .int 0])), (q6, .inl (cI, 250, .inl ko_z)), (q13, .inl (cI, 250, .inl ko_z))] H := hP
  have hD : va_D A [(h0, .inr (2, [.ref q6, .null, .int 0])), (q6, .inl (cI, 250, .inl ko_z)), (q13, .inl (cI, 250, .inl ko_z))] := hD
  refine co_cs (k := 2) (n := 500) rfl rfl ?_
  refine co_pc (pc' := 15) rfl ?_
  refine va_putF (D := D) (ci := 2) (v := .ref q13) (ty := .array .int) (C := kR2) (T := kT2) (N := 3) hx hb hts kjn2 kt2 kty2 knm2 hown hK hP hD hS 0 rfl rfl 1 (by decide) (hts _ kv_13) (fun _ h9 => h9) rfl hin rfl (by decide +kernel) rfl rfl (Nat.le_of_ble_eq_true rfl) dn_Nu_15 (fun H locs hP hD hS => ?_)
  have hP : va_P D kcl [(h0, .inr (2, [.ref q6, .ref q13, .int 0])), (q6, .inl (cI, 250, .inl ko_z)), (q13, .inl (cI, 250, .inl ko_z))] H := hP
  have hD : va_D A [(h0, .inr (2, [.ref q6, .ref q13, .int 0])), (q6, .inl (cI, 250, .inl ko_z)), (q13, .inl (cI, 250, .inl ko_z))] := hD
  refine lv_aload_n hx hb dn_Nu_18 rfl (lv_at hl 0 rfl) ?_
  refine va_get (D := D) (ci := 2) (v := .ref q13) (C := kR2) (T := kT2) (N := 3) hx hb hts kjn2 hown hK hP 0 rfl rfl 1 (by decide) (hts _ kv_13) (fun _ h9 => h9) rfl dn_Nu_19 ?_
  refine lv_iconst (v := (-1)) hx hb dn_Nu_22 (by decide) ?_
  refine co_v (wc := [(q13, .inl (cI, 250, .inl ko_z))]) (wr := [(h0, .inr (2, [.ref q6, .ref q13, .int 0])), (q6, .inl (cI, 250, .inl ko_z))]) (w1 := fun u => [(q13, .inl (cI, 250, .inl (ko_f 250 (-1) ko_z)))]) (va_runS (As := [.ref q13, .int (-1)]) (rest := []) ⟨hx, hb, hml, hown, hts⟩ (co_fill (n := 250) (v := (-1)) (f := ko_z) l D cI cZ q13 H.size (by decide)) ⟨callB_of 2 hts (kgI kv_14) rfl rfl rfl (hts _ kv_15) (hts _ kv_16) (by decide +kernel) ⟨Nat.le_of_ble_eq_true rfl, Nat.le_of_ble_eq_true rfl⟩, hts _ kv_17⟩ (co_pre hK hP hD [2] rfl (by decide)) rfl rfl hl.1 rfl (lv_room (Nat.le_of_ble_eq_true rfl)) dn_Nu_23 ⟨show 2 + 0 ≤ 2 from by decide, show 500 + 0 ≤ 500 from by decide⟩) hP hD hS hA [2] [0, 1] rfl rfl (by decide) (by decide) (fun u0 H locs hP hD hS => ?_)
  have hP : va_P D kcl [(h0, .inr (2, [.ref q6, .ref q13, .int 0])), (q6, .inl (cI, 250, .inl ko_z)), (q13, .inl (cI, 250, .inl (ko_f 250 (-1) ko_z)))] H := hP
  have hD : va_D A [(h0, .inr (2, [.ref q6, .ref q13, .int 0])), (q6, .inl (cI, 250, .inl ko_z)), (q13, .inl (cI, 250, .inl (ko_f 250 (-1) ko_z)))] := hD
  refine co_cs (k := 2) (n := 500) rfl rfl ?_
  have hP9 := hP.sub (ws' := [(h0, .inr (2, [.ref q6, .ref q13, .int 0])), (q6, .inl (cI, 250, .inl ko_z)), (q13, .inl (cI, 250, .inl (ko_f 250 (-1) ko_z)))]) [0, 1, 2] rfl
  have hD9 := hD.sub (ws' := [(h0, .inr (2, [.ref q6, .ref q13, .int 0])), (q6, .inl (cI, 250, .inl ko_z)), (q13, .inl (cI, 250, .inl (ko_f 250 (-1) ko_z)))]) [0, 1, 2] (by decide) rfl
  exact W.vret hx hb hr (fun t ht hW => ⟨⟨(kix 0 [q6, q13]), rfl, trivial, by rw [ht]; exact hP9, va_K.moved hW.alike hK, hD9⟩, hS.F ht⟩) hS.2.2 dn_Nu_26
set_option maxHeartbeats 4000000 in
set_option maxRecDepth 100000 in
theorem cq_Te_1 (l : Launch) (D : va_G) (cI cZ : ClassId) (h0 g0 sz : Nat) : Met l ⟨"SequentKernel$Terms", "<init>", "(LSequentKernel$Types;)V"⟩ (Cond.code ⟨"SequentKernel$Terms", "<init>", "(LSequentKernel$Types;)V"⟩ prog_6_method_1_code 2 none :: kwl) ({ frames := 2, cells := 14, slots := 3067, locals := 44 }) (va_Pc [.ref h0, .ref g0] (coB D cI cZ [(h0, .inr (3, [.null, .null, .null, .null, .null, .null, .null, .null, .null, .null, .null, .null, .null, .int 0, .int 0]))] sz)) (va_Qv (fun _ : Nat → Nat => True) (coE D cI cZ (va_A [(h0, .inr (3, [.null, .null, .null, .null, .null, .null, .null, .null, .null, .null, .null, .null, .null, .int 0, .int 0]))] sz) (fun u => [(h0, .inr (3, [.ref (u 0), .ref (u 3), .ref (u 4), .ref (u 5), .ref (u 6), .ref (u 7), .ref (u 8), .ref (u 9), .ref (u 10), .ref (u 11), .ref (u 12), .ref (u 13), .ref g0, .int 0, .int 0])), ((u 0), .inr (2, [.ref (u 1), .ref (u 2), .int 0])), ((u 1), .inl (cI, 250, .inl ko_z)), ((u 2), .inl (cI, 250, .inl (ko_f 250 (-1) ko_z))), ((u 3), .inl (cI, 250, .inl ko_z)), ((u 4), .inl (cI, 250, .inl ko_z)), ((u 5), .inl (cI, 250, .inl ko_z)), ((u 6), .inl (cI, 250, .inl ko_z)), ((u 7), .inl (cZ, 250, .inl ko_z)), ((u 8), .inl (cZ, 250, .inl ko_z)), ((u 9), .inl (cZ, 250, .inl ko_z)), ((u 10), .inl (cI, 250, .inl ko_z)), ((u 11), .inl (cI, 64, .inl (ko_f 64 (-1) ko_z))), ((u 12), .inl (cI, 250, .inl ko_z)), ((u 13), .inl (cI, 250, .inl ko_z))])) (va_A [(h0, .inr (3, [.null, .null, .null, .null, .null, .null, .null, .null, .null, .null, .null, .null, .null, .int 0, .int 0]))] sz)) 14 3067 (va_A [(h0, .inr (3, [.null, .null, .null, .null, .null, .null, .null, .null, .null, .null, .null, .null, .null, .int 0, .int 0]))] sz) := by
  refine Met.ofW (cc := prog_6_method_1_code) (maxL := 2) (ret := none) (by decide +kernel) rfl ?_
  intro p e s m args below meth c s₁ B hml hv
  obtain ⟨rfl, hsz, hP, hK, hD0⟩ := hv
  have hx := B.exec
  have hb := B.bytes
  have hr : meth.sig.returnType = none := B.returns
  have hts : ∀ w ∈ kwl, w.before ([.ref h0, .ref g0] : List Value).toArray s = true := fun w h => atoms_spec (ws := (Cond.code ⟨"SequentKernel$Terms", "<init>", "(LSequentKernel$Types;)V"⟩ prog_6_method_1_code 2 none :: kwl)) B.pre w (List.mem_cons_of_mem _ h)
  have hown : s.vm.findClass kR3 = some m.cls := findClass_of_methodNamed B.named
  have hlocks := B.notSynchronized
  have hin : meth.name = "<init>" := (name_of_methodNamed B.named B.method).1
  subst hsz
  have hD := hD0.self (sz := s.heap.size)
  generalize hAe : va_A [(h0, .inr (3, [.null, .null, .null, .null, .null, .null, .null, .null, .null, .null, .null, .null, .null, .int 0, .int 0]))] s.heap.size = A at hD ⊢
  have hA : ∀ q : Nat, s.heap.size ≤ q → A q := fun q h => by rw [← hAe]; exact Or.inr h
  have hS : va_S A s.heap s.heap [] := va_S.rf
  have hl := lv_entry ([.ref h0, .ref g0]) (n := 2) (Nat.le_of_ble_eq_true rfl)
  rw [lg_entry_eq]
  generalize (lg_sl ([.ref h0, .ref g0]) ++ List.replicate (2 - (lg_sl ([.ref h0, .ref g0])).length) Slot.unset).toArray = ls at hl ⊢
  have hl : lv_has ls 2 [(0, .ref h0), (1, .ref g0)] := hl
  refine lv_aload_n hx hb dn_Te_0 rfl (lv_at hl 0 rfl) ?_
  refine W.objInit hx hb hown (hts _ kv_40) (hts _ kv_1) (hts _ kv_2) rfl (by rw [hml]; exact hl.1) rfl dn_Te_1 (Nat.le_of_ble_eq_true rfl) (Nat.le_of_ble_eq_true rfl) ?_
  refine W.eq (g2 := F0 m 4 ls []) rfl ?_
  refine lv_aload_n hx hb dn_Te_4 rfl (lv_at hl 0 rfl) ?_
  refine va_new (ci := 2) (fs := [.null, .null, .int 0]) (C := kR2) (T := kT2) (N := 3) hx hb hts kjn2 kt2 kty2 hown (hts _ kv_41) (hts _ kv_8) (hts _ kv_9) hK hP hD hS hA rfl kdf2 (show 0 + 1 ≤ 14 from by decide) (show 0 + 3 ≤ 3067 from by decide) dn_Te_5 (fun q5 H hP hD hS => ?_)
  have hP : va_P D kcl [(h0, .inr (3, [.null, .null, .null, .null, .null, .null, .null, .null, .null, .null, .null, .null, .null, .int 0, .int 0])), (q5, .inr (2, [.null, .null, .int 0]))] H := hP
  have hD : va_D A [(h0, .inr (3, [.null, .null, .null, .null, .null, .null, .null, .null, .null, .null, .null, .null, .null, .int 0, .int 0])), (q5, .inr (2, [.null, .null, .int 0]))] := hD
  refine co_cs (k := 1) (n := 3) rfl rfl ?_
  refine lv_dup hx hb dn_Te_8 rfl ?_
  refine lv_sipush (v := 250) hx hb dn_Te_9 (by decide) ?_
  refine co_v (wc := [(q5, .inr (2, [.null, .null, .int 0]))]) (wr := [(h0, .inr (3, [.null, .null, .null, .null, .null, .null, .null, .null, .null, .null, .null, .null, .null, .int 0, .int 0]))]) (w1 := fun u => [(q5, .inr (2, [.ref (u 0), .ref (u 1), .int 0])), ((u 0), .inl (cI, 250, .inl ko_z)), ((u 1), .inl (cI, 250, .inl (ko_f 250 (-1) ko_z)))]) (va_runI (As := [.int 250]) (rest := [.ref q5, .ref h0]) ⟨hx, hb, hml, hown, hts⟩ (cq_Nu_2 l D cI cZ q5 H.size) (cwI 1 hts (kgI kv_18) rfl rfl rfl (hts _ kv_9) (hts _ kv_42) (hts _ kv_20) rfl (by decide +kernel) ⟨Nat.le_of_ble_eq_true rfl, Nat.le_of_ble_eq_true rfl⟩) (co_pre hK hP hD [1] rfl (by decide)) rfl rfl hl.1 rfl (lv_room (Nat.le_of_ble_eq_true rfl)) dn_Te_12 ⟨show 1 + 2 ≤ 14 from by decide, show 3 + 500 ≤ 3067 from by decide⟩) hP hD hS hA [1] [0] rfl rfl (by decide) (by decide) (fun u0 H locs hP hD hS => ?_)
  have hP : va_P D kcl [(h0, .inr (3, [.null, .null, .null, .null, .null, .null, .null, .null, .null, .null, .null, .null, .null, .int 0, .int 0])), (q5, .inr (2, [.ref (u0 0), .ref (u0 1), .int 0])), ((u0 0), .inl (cI, 250, .inl ko_z)), ((u0 1), .inl (cI, 250, .inl (ko_f 250 (-1) ko_z)))] H := hP
  have hD : va_D A [(h0, .inr (3, [.null, .null, .null, .null, .null, .null, .null, .null, .null, .null, .null, .null, .null, .int 0, .int 0])), (q5, .inr (2, [.ref (u0 0), .ref (u0 1), .int 0])), ((u0 0), .inl (cI, 250, .inl ko_z)), ((u0 1), .inl (cI, 250, .inl (ko_f 250 (-1) ko_z)))] := hD
  refine co_cs (k := 3) (n := 503) rfl rfl ?_
  refine va_putF (D := D) (ci := 3) (v := .ref q5) (ty := .object "SequentKernel$Numbers") (C := kR3) (T := kT3) (N := 15) hx hb hts kjn3 kt3 kty3 knm3 hown hK hP hD hS 0 rfl rfl 0 (by decide) (hts _ kv_43) (fun _ h9 => h9) rfl hin rfl (by decide +kernel) rfl rfl (Nat.le_of_ble_eq_true rfl) dn_Te_15 (fun H locs hP hD hS => ?_)
  have hP : va_P D kcl [(h0, .inr (3, [.ref q5, .null, .null, .null, .null, .null, .null, .null, .null, .null, .null, .null, .null, .int 0, .int 0])), (q5, .inr (2, [.ref (u0 0), .ref (u0 1), .int 0])), ((u0 0), .inl (cI, 250, .inl ko_z)), ((u0 1), .inl (cI, 250, .inl (ko_f 250 (-1) ko_z)))] H := hP
  have hD : va_D A [(h0, .inr (3, [.ref q5, .null, .null, .null, .null, .null, .null, .null, .null, .null, .null, .null, .null, .int 0, .int 0])), (q5, .inr (2, [.ref (u0 0), .ref (u0 1), .int 0])), ((u0 0), .inl (cI, 250, .inl ko_z)), ((u0 1), .inl (cI, 250, .inl (ko_f 250 (-1) ko_z)))] := hD
  refine lv_aload_n hx hb dn_Te_18 rfl (lv_at hl 0 rfl) ?_
  refine co_pc (pc' := 19) rfl ?_
  refine lv_sipush (v := 250) hx hb dn_Te_19 (by decide) ?_
  refine co_newI (N := 250) hx hb (hts _ kv_11) hK hP hD hS hA (by decide) (by decide) (by decide) (show 3 + 1 ≤ 14 from by decide) (show 503 + 250 ≤ 3067 from by decide) dn_Te_22 (fun q22 H hP hD hS => ?_)
  have hP : va_P D kcl [(h0, .inr (3, [.ref q5, .null, .null, .null, .null, .null, .null, .null, .null, .null, .null, .null, .null, .int 0, .int 0])), (q5, .inr (2, [.ref (u0 0), .ref (u0 1), .int 0])), ((u0 0), .inl (cI, 250, .inl ko_z)), ((u0 1), .inl (cI, 250, .inl (ko_f 250 (-1) ko_z))), (q22, .inl (cI, 250, .inl ko_z))] H := hP
  have hD : va_D A [(h0, .inr (3, [.ref q5, .null, .null, .null, .null, .null, .null, .null, .null, .null, .null, .null, .null, .int 0, .int 0])), (q5, .inr (2, [.ref (u0 0), .ref (u0 1), .int 0])), ((u0 0), .inl (cI, 250, .inl ko_z)), ((u0 1), .inl (cI, 250, .inl (ko_f 250 (-1) ko_z))), (q22, .inl (cI, 250, .inl ko_z))] := hD
  refine co_cs (k := 4) (n := 753) rfl rfl ?_
  refine va_putF (D := D) (ci := 3) (v := .ref q22) (ty := .array .int) (C := kR3) (T := kT3) (N := 15) hx hb hts kjn3 kt3 kty3 knm3 hown hK hP hD hS 0 rfl rfl 1 (by decide) (hts _ kv_44) (fun _ h9 => h9) rfl hin rfl (by decide +kernel) rfl rfl (Nat.le_of_ble_eq_true rfl) dn_Te_24 (fun H locs hP hD hS => ?_)
  have hP : va_P D kcl [(h0, .inr (3, [.ref q5, .ref q22, .null, .null, .null, .null, .null, .null, .null, .null, .null, .null, .null, .int 0, .int 0])), (q5, .inr (2, [.ref (u0 0), .ref (u0 1), .int 0])), ((u0 0), .inl (cI, 250, .inl ko_z)), ((u0 1), .inl (cI, 250, .inl (ko_f 250 (-1) ko_z))), (q22, .inl (cI, 250, .inl ko_z))] H := hP
  have hD : va_D A [(h0, .inr (3, [.ref q5, .ref q22, .null, .null, .null, .null, .null, .null, .null, .null, .null, .null, .null, .int 0, .int 0])), (q5, .inr (2, [.ref (u0 0), .ref (u0 1), .int 0])), ((u0 0), .inl (cI, 250, .inl ko_z)), ((u0 1), .inl (cI, 250, .inl (ko_f 250 (-1) ko_z))), (q22, .inl (cI, 250, .inl ko_z))] := hD
  refine lv_aload_n hx hb dn_Te_27 rfl (lv_at hl 0 rfl) ?_
  refine lv_sipush (v := 250) hx hb dn_Te_28 (by decide) ?_
  refine co_newI (N := 250) hx hb (hts _ kv_11) hK hP hD hS hA (by decide) (by decide) (by decide) (show 4 + 1 ≤ 14 from by decide) (show 753 + 250 ≤ 3067 from by decide) dn_Te_31 (fun q31 H hP hD hS => ?_)
  have hP : va_P D kcl [(h0, .inr (3, [.ref q5, .ref q22, .null, .null, .null, .null, .null, .null, .null, .null, .null, .null, .null, .int 0, .int 0])), (q5, .inr (2, [.ref (u0 0), .ref (u0 1), .int 0])), ((u0 0), .inl (cI, 250, .inl ko_z)), ((u0 1), .inl (cI, 250, .inl (ko_f 250 (-1) ko_z))), (q22, .inl (cI, 250, .inl ko_z)), (q31, .inl (cI, 250, .inl ko_z))] H := hP
  have hD : va_D A [(h0, .inr (3, [.ref q5, .ref q22, .null, .null, .null, .null, .null, .null, .null, .null, .null, .null, .null, .int 0, .int 0])), (q5, .inr (2, [.ref (u0 0), .ref (u0 1), .int 0])), ((u0 0), .inl (cI, 250, .inl ko_z)), ((u0 1), .inl (cI, 250, .inl (ko_f 250 (-1) ko_z))), (q22, .inl (cI, 250, .inl ko_z)), (q31, .inl (cI, 250, .inl ko_z))] := hD
  refine co_cs (k := 5) (n := 1003) rfl rfl ?_
  refine va_putF (D := D) (ci := 3) (v := .ref q31) (ty := .array .int) (C := kR3) (T := kT3) (N := 15) hx hb hts kjn3 kt3 kty3 knm3 hown hK hP hD hS 0 rfl rfl 2 (by decide) (hts _ kv_45) (fun _ h9 => h9) rfl hin rfl (by decide +kernel) rfl rfl (Nat.le_of_ble_eq_true rfl) dn_Te_33 (fun H locs hP hD hS => ?_)
  have hP : va_P D kcl [(h0, .inr (3, [.ref q5, .ref q22, .ref q31, .null, .null, .null, .null, .null, .null, .null, .null, .null, .null, .int 0, .int 0])), (q5, .inr (2, [.ref (u0 0), .ref (u0 1), .int 0])), ((u0 0), .inl (cI, 250, .inl ko_z)), ((u0 1), .inl (cI, 250, .inl (ko_f 250 (-1) ko_z))), (q22, .inl (cI, 250, .inl ko_z)), (q31, .inl (cI, 250, .inl ko_z))] H := hP
  have hD : va_D A [(h0, .inr (3, [.ref q5, .ref q22, .ref q31, .null, .null, .null, .null, .null, .null, .null, .null, .null, .null, .int 0, .int 0])), (q5, .inr (2, [.ref (u0 0), .ref (u0 1), .int 0])), ((u0 0), .inl (cI, 250, .inl ko_z)), ((u0 1), .inl (cI, 250, .inl (ko_f 250 (-1) ko_z))), (q22, .inl (cI, 250, .inl ko_z)), (q31, .inl (cI, 250, .inl ko_z))] := hD
  refine lv_aload_n hx hb dn_Te_36 rfl (lv_at hl 0 rfl) ?_
  refine lv_sipush (v := 250) hx hb dn_Te_37 (by decide) ?_
  refine co_newI (N := 250) hx hb (hts _ kv_11) hK hP hD hS hA (by decide) (by decide) (by decide) (show 5 + 1 ≤ 14 from by decide) (show 1003 + 250 ≤ 3067 from by decide) dn_Te_40 (fun q40 H hP hD hS => ?_)
  have hP : va_P D kcl [(h0, .inr (3, [.ref q5, .ref q22, .ref q31, .null, .null, .null, .null, .null, .null, .null, .null, .null, .null, .int 0, .int 0])), (q5, .inr (2, [.ref (u0 0), .ref (u0 1), .int 0])), ((u0 0), .inl (cI, 250, .inl ko_z)), ((u0 1), .inl (cI, 250, .inl (ko_f 250 (-1) ko_z))), (q22, .inl (cI, 250, .inl ko_z)), (q31, .inl (cI, 250, .inl ko_z)), (q40, .inl (cI, 250, .inl ko_z))] H := hP
  have hD : va_D A [(h0, .inr (3, [.ref q5, .ref q22, .ref q31, .null, .null, .null, .null, .null, .null, .null, .null, .null, .null, .int 0, .int 0])), (q5, .inr (2, [.ref (u0 0), .ref (u0 1), .int 0])), ((u0 0), .inl (cI, 250, .inl ko_z)), ((u0 1), .inl (cI, 250, .inl (ko_f 250 (-1) ko_z))), (q22, .inl (cI, 250, .inl ko_z)), (q31, .inl (cI, 250, .inl ko_z)), (q40, .inl (cI, 250, .inl ko_z))] := hD
  refine co_cs (k := 6) (n := 1253) rfl rfl ?_
  refine co_pc (pc' := 42) rfl ?_
  refine va_putF (D := D) (ci := 3) (v := .ref q40) (ty := .array .int) (C := kR3) (T := kT3) (N := 15) hx hb hts kjn3 kt3 kty3 knm3 hown hK hP hD hS 0 rfl rfl 3 (by decide) (hts _ kv_46) (fun _ h9 => h9) rfl hin rfl (by decide +kernel) rfl rfl (Nat.le_of_ble_eq_true rfl) dn_Te_42 (fun H locs hP hD hS => ?_)
  have hP : va_P D kcl [(h0, .inr (3, [.ref q5, .ref q22, .ref q31, .ref q40, .null, .null, .null, .null, .null, .null, .null, .null, .null, .int 0, .int 0])), (q5, .inr (2, [.ref (u0 0), .ref (u0 1), .int 0])), ((u0 0), .inl (cI, 250, .inl ko_z)), ((u0 1), .inl (cI, 250, .inl (ko_f 250 (-1) ko_z))), (q22, .inl (cI, 250, .inl ko_z)), (q31, .inl (cI, 250, .inl ko_z)), (q40, .inl (cI, 250, .inl ko_z))] H := hP
  have hD : va_D A [(h0, .inr (3, [.ref q5, .ref q22, .ref q31, .ref q40, .null, .null, .null, .null, .null, .null, .null, .null, .null, .int 0, .int 0])), (q5, .inr (2, [.ref (u0 0), .ref (u0 1), .int 0])), ((u0 0), .inl (cI, 250, .inl ko_z)), ((u0 1), .inl (cI, 250, .inl (ko_f 250 (-1) ko_z))), (q22, .inl (cI, 250, .inl ko_z)), (q31, .inl (cI, 250, .inl ko_z)), (q40, .inl (cI, 250, .inl ko_z))] := hD
  refine lv_aload_n hx hb dn_Te_45 rfl (lv_at hl 0 rfl) ?_
  refine lv_sipush (v := 250) hx hb dn_Te_46 (by decide) ?_
  refine co_newI (N := 250) hx hb (hts _ kv_11) hK hP hD hS hA (by decide) (by decide) (by decide) (show 6 + 1 ≤ 14 from by decide) (show 1253 + 250 ≤ 3067 from by decide) dn_Te_49 (fun q49 H hP hD hS => ?_)
  have hP : va_P D kcl [(h0, .inr (3, [.ref q5, .ref q22, .ref q31, .ref q40, .null, .null, .null, .null, .null, .null, .null, .null, .null, .int 0, .int 0])), (q5, .inr (2, [.ref (u0 0), .ref (u0 1), .int 0])), ((u0 0), .inl (cI, 250, .inl ko_z)), ((u0 1), .inl (cI, 250, .inl (ko_f 250 (-1) ko_z))), (q22, .inl (cI, 250, .inl ko_z)), (q31, .inl (cI, 250, .inl ko_z)), (q40, .inl (cI, 250, .inl ko_z)), (q49, .inl (cI, 250, .inl ko_z))] H := hP
  have hD : va_D A [(h0, .inr (3, [.ref q5, .ref q22, .ref q31, .ref q40, .null, .null, .null, .null, .null, .null, .null, .null, .null, .int 0, .int 0])), (q5, .inr (2, [.ref (u0 0), .ref (u0 1), .int 0])), ((u0 0), .inl (cI, 250, .inl ko_z)), ((u0 1), .inl (cI, 250, .inl (ko_f 250 (-1) ko_z))), (q22, .inl (cI, 250, .inl ko_z)), (q31, .inl (cI, 250, .inl ko_z)), (q40, .inl (cI, 250, .inl ko_z)), (q49, .inl (cI, 250, .inl ko_z))] := hD
  refine co_cs (k := 7) (n := 1503) rfl rfl ?_
  refine va_putF (D := D) (ci := 3) (v := .ref q49) (ty := .array .int) (C := kR3) (T := kT3) (N := 15) hx hb hts kjn3 kt3 kty3 knm3 hown hK hP hD hS 0 rfl rfl 4 (by decide) (hts _ kv_47) (fun _ h9 => h9) rfl hin rfl (by decide +kernel) rfl rfl (Nat.le_of_ble_eq_true rfl) dn_Te_51 (fun H locs hP hD hS => ?_)
  have hP : va_P D kcl [(h0, .inr (3, [.ref q5, .ref q22, .ref q31, .ref q40, .ref q49, .null, .null, .null, .null, .null, .null, .null, .null, .int 0, .int 0])), (q5, .inr (2, [.ref (u0 0), .ref (u0 1), .int 0])), ((u0 0), .inl (cI, 250, .inl ko_z)), ((u0 1), .inl (cI, 250, .inl (ko_f 250 (-1) ko_z))), (q22, .inl (cI, 250, .inl ko_z)), (q31, .inl (cI, 250, .inl ko_z)), (q40, .inl (cI, 250, .inl ko_z)), (q49, .inl (cI, 250, .inl ko_z))] H := hP
  have hD : va_D A [(h0, .inr (3, [.ref q5, .ref q22, .ref q31, .ref q40, .ref q49, .null, .null, .null, .null, .null, .null, .null, .null, .int 0, .int 0])), (q5, .inr (2, [.ref (u0 0), .ref (u0 1), .int 0])), ((u0 0), .inl (cI, 250, .inl ko_z)), ((u0 1), .inl (cI, 250, .inl (ko_f 250 (-1) ko_z))), (q22, .inl (cI, 250, .inl ko_z)), (q31, .inl (cI, 250, .inl ko_z)), (q40, .inl (cI, 250, .inl ko_z)), (q49, .inl (cI, 250, .inl ko_z))] := hD
  refine lv_aload_n hx hb dn_Te_54 rfl (lv_at hl 0 rfl) ?_
  refine lv_sipush (v := 250) hx hb dn_Te_55 (by decide) ?_
  refine co_newZ (N := 250) hx hb (hts _ kv_25) hK hP hD hS hA (by decide) (by decide) (by decide) (show 7 + 1 ≤ 14 from by decide) (show 1503 + 250 ≤ 3067 from by decide) dn_Te_58 (fun q58 H hP hD hS => ?_)
  have hP : va_P D kcl [(h0, .inr (3, [.ref q5, .ref q22, .ref q31, .ref q40, .ref q49, .null, .null, .null, .null, .null, .null, .null, .null, .int 0, .int 0])), (q5, .inr (2, [.ref (u0 0), .ref (u0 1), .int 0])), ((u0 0), .inl (cI, 250, .inl ko_z)), ((u0 1), .inl (cI, 250, .inl (ko_f 250 (-1) ko_z))), (q22, .inl (cI, 250, .inl ko_z)), (q31, .inl (cI, 250, .inl ko_z)), (q40, .inl (cI, 250, .inl ko_z)), (q49, .inl (cI, 250, .inl ko_z)), (q58, .inl (cZ, 250, .inl ko_z))] H := hP
  have hD : va_D A [(h0, .inr (3, [.ref q5, .ref q22, .ref q31, .ref q40, .ref q49, .null, .null, .null, .null, .null, .null, .null, .null, .int 0, .int 0])), (q5, .inr (2, [.ref (u0 0), .ref (u0 1), .int 0])), ((u0 0), .inl (cI, 250, .inl ko_z)), ((u0 1), .inl (cI, 250, .inl (ko_f 250 (-1) ko_z))), (q22, .inl (cI, 250, .inl ko_z)), (q31, .inl (cI, 250, .inl ko_z)), (q40, .inl (cI, 250, .inl ko_z)), (q49, .inl (cI, 250, .inl ko_z)), (q58, .inl (cZ, 250, .inl ko_z))] := hD
  refine co_cs (k := 8) (n := 1753) rfl rfl ?_
  refine va_putF (D := D) (ci := 3) (v := .ref q58) (ty := .array .boolean) (C := kR3) (T := kT3) (N := 15) hx hb hts kjn3 kt3 kty3 knm3 hown hK hP hD hS 0 rfl rfl 5 (by decide) (hts _ kv_48) (fun _ h9 => h9) rfl hin rfl (by decide +kernel) rfl rfl (Nat.le_of_ble_eq_true rfl) dn_Te_60 (fun H locs hP hD hS => ?_)
  have hP : va_P D kcl [(h0, .inr (3, [.ref q5, .ref q22, .ref q31, .ref q40, .ref q49, .ref q58, .null, .null, .null, .null, .null, .null, .null, .int 0, .int 0])), (q5, .inr (2, [.ref (u0 0), .ref (u0 1), .int 0])), ((u0 0), .inl (cI, 250, .inl ko_z)), ((u0 1), .inl (cI, 250, .inl (ko_f 250 (-1) ko_z))), (q22, .inl (cI, 250, .inl ko_z)), (q31, .inl (cI, 250, .inl ko_z)), (q40, .inl (cI, 250, .inl ko_z)), (q49, .inl (cI, 250, .inl ko_z)), (q58, .inl (cZ, 250, .inl ko_z))] H := hP
  have hD : va_D A [(h0, .inr (3, [.ref q5, .ref q22, .ref q31, .ref q40, .ref q49, .ref q58, .null, .null, .null, .null, .null, .null, .null, .int 0, .int 0])), (q5, .inr (2, [.ref (u0 0), .ref (u0 1), .int 0])), ((u0 0), .inl (cI, 250, .inl ko_z)), ((u0 1), .inl (cI, 250, .inl (ko_f 250 (-1) ko_z))), (q22, .inl (cI, 250, .inl ko_z)), (q31, .inl (cI, 250, .inl ko_z)), (q40, .inl (cI, 250, .inl ko_z)), (q49, .inl (cI, 250, .inl ko_z)), (q58, .inl (cZ, 250, .inl ko_z))] := hD
  refine lv_aload_n hx hb dn_Te_63 rfl (lv_at hl 0 rfl) ?_
  refine co_pc (pc' := 64) rfl ?_
  refine lv_sipush (v := 250) hx hb dn_Te_64 (by decide) ?_
  refine co_newZ (N := 250) hx hb (hts _ kv_25) hK hP hD hS hA (by decide) (by decide) (by decide) (show 8 + 1 ≤ 14 from by decide) (show 1753 + 250 ≤ 3067 from by decide) dn_Te_67 (fun q67 H hP hD hS => ?_)
  have hP : va_P D kcl [(h0, .inr (3, [.ref q5, .ref q22, .ref q31, .ref q40, .ref q49, .ref q58, .null, .null, .null, .null, .null, .null, .null, .int 0, .int 0])), (q5, .inr (2, [.ref (u0 0), .ref (u0 1), .int 0])), ((u0 0), .inl (cI, 250, .inl ko_z)), ((u0 1), .inl (cI, 250, .inl (ko_f 250 (-1) ko_z))), (q22, .inl (cI, 250, .inl ko_z)), (q31, .inl (cI, 250, .inl ko_z)), (q40, .inl (cI, 250, .inl ko_z)), (q49, .inl (cI, 250, .inl ko_z)), (q58, .inl (cZ, 250, .inl ko_z)), (q67, .inl (cZ, 250, .inl ko_z))] H := hP
  have hD : va_D A [(h0, .inr (3, [.ref q5, .ref q22, .ref q31, .ref q40, .ref q49, .ref q58, .null, .null, .null, .null, .null, .null, .null, .int 0, .int 0])), (q5, .inr (2, [.ref (u0 0), .ref (u0 1), .int 0])), ((u0 0), .inl (cI, 250, .inl ko_z)), ((u0 1), .inl (cI, 250, .inl (ko_f 250 (-1) ko_z))), (q22, .inl (cI, 250, .inl ko_z)), (q31, .inl (cI, 250, .inl ko_z)), (q40, .inl (cI, 250, .inl ko_z)), (q49, .inl (cI, 250, .inl ko_z)), (q58, .inl (cZ, 250, .inl ko_z)), (q67, .inl (cZ, 250, .inl ko_z))] := hD
  refine co_cs (k := 9) (n := 2003) rfl rfl ?_
  refine va_putF (D := D) (ci := 3) (v := .ref q67) (ty := .array .boolean) (C := kR3) (T := kT3) (N := 15) hx hb hts kjn3 kt3 kty3 knm3 hown hK hP hD hS 0 rfl rfl 6 (by decide) (hts _ kv_49) (fun _ h9 => h9) rfl hin rfl (by decide +kernel) rfl rfl (Nat.le_of_ble_eq_true rfl) dn_Te_69 (fun H locs hP hD hS => ?_)
  have hP : va_P D kcl [(h0, .inr (3, [.ref q5, .ref q22, .ref q31, .ref q40, .ref q49, .ref q58, .ref q67, .null, .null, .null, .null, .null, .null, .int 0, .int 0])), (q5, .inr (2, [.ref (u0 0), .ref (u0 1), .int 0])), ((u0 0), .inl (cI, 250, .inl ko_z)), ((u0 1), .inl (cI, 250, .inl (ko_f 250 (-1) ko_z))), (q22, .inl (cI, 250, .inl ko_z)), (q31, .inl (cI, 250, .inl ko_z)), (q40, .inl (cI, 250, .inl ko_z)), (q49, .inl (cI, 250, .inl ko_z)), (q58, .inl (cZ, 250, .inl ko_z)), (q67, .inl (cZ, 250, .inl ko_z))] H := hP
  have hD : va_D A [(h0, .inr (3, [.ref q5, .ref q22, .ref q31, .ref q40, .ref q49, .ref q58, .ref q67, .null, .null, .null, .null, .null, .null, .int 0, .int 0])), (q5, .inr (2, [.ref (u0 0), .ref (u0 1), .int 0])), ((u0 0), .inl (cI, 250, .inl ko_z)), ((u0 1), .inl (cI, 250, .inl (ko_f 250 (-1) ko_z))), (q22, .inl (cI, 250, .inl ko_z)), (q31, .inl (cI, 250, .inl ko_z)), (q40, .inl (cI, 250, .inl ko_z)), (q49, .inl (cI, 250, .inl ko_z)), (q58, .inl (cZ, 250, .inl ko_z)), (q67, .inl (cZ, 250, .inl ko_z))] := hD
  refine lv_aload_n hx hb dn_Te_72 rfl (lv_at hl 0 rfl) ?_
  refine lv_sipush (v := 250) hx hb dn_Te_73 (by decide) ?_
  refine co_newZ (N := 250) hx hb (hts _ kv_25) hK hP hD hS hA (by decide) (by decide) (by decide) (show 9 + 1 ≤ 14 from by decide) (show 2003 + 250 ≤ 3067 from by decide) dn_Te_76 (fun q76 H hP hD hS => ?_)
  have hP : va_P D kcl [(h0, .inr (3, [.ref q5, .ref q22, .ref q31, .ref q40, .ref q49, .ref q58, .ref q67, .null, .null, .null, .null, .null, .null, .int 0, .int 0])), (q5, .inr (2, [.ref (u0 0), .ref (u0 1), .int 0])), ((u0 0), .inl (cI, 250, .inl ko_z)), ((u0 1), .inl (cI, 250, .inl (ko_f 250 (-1) ko_z))), (q22, .inl (cI, 250, .inl ko_z)), (q31, .inl (cI, 250, .inl ko_z)), (q40, .inl (cI, 250, .inl ko_z)), (q49, .inl (cI, 250, .inl ko_z)), (q58, .inl (cZ, 250, .inl ko_z)), (q67, .inl (cZ, 250, .inl ko_z)), (q76, .inl (cZ, 250, .inl ko_z))] H := hP
  have hD : va_D A [(h0, .inr (3, [.ref q5, .ref q22, .ref q31, .ref q40, .ref q49, .ref q58, .ref q67, .null, .null, .null, .null, .null, .null, .int 0, .int 0])), (q5, .inr (2, [.ref (u0 0), .ref (u0 1), .int 0])), ((u0 0), .inl (cI, 250, .inl ko_z)), ((u0 1), .inl (cI, 250, .inl (ko_f 250 (-1) ko_z))), (q22, .inl (cI, 250, .inl ko_z)), (q31, .inl (cI, 250, .inl ko_z)), (q40, .inl (cI, 250, .inl ko_z)), (q49, .inl (cI, 250, .inl ko_z)), (q58, .inl (cZ, 250, .inl ko_z)), (q67, .inl (cZ, 250, .inl ko_z)), (q76, .inl (cZ, 250, .inl ko_z))] := hD
  refine co_cs (k := 10) (n := 2253) rfl rfl ?_
  refine va_putF (D := D) (ci := 3) (v := .ref q76) (ty := .array .boolean) (C := kR3) (T := kT3) (N := 15) hx hb hts kjn3 kt3 kty3 knm3 hown hK hP hD hS 0 rfl rfl 7 (by decide) (hts _ kv_50) (fun _ h9 => h9) rfl hin rfl (by decide +kernel) rfl rfl (Nat.le_of_ble_eq_true rfl) dn_Te_78 (fun H locs hP hD hS => ?_)
  have hP : va_P D kcl [(h0, .inr (3, [.ref q5, .ref q22, .ref q31, .ref q40, .ref q49, .ref q58, .ref q67, .ref q76, .null, .null, .null, .null, .null, .int 0, .int 0])), (q5, .inr (2, [.ref (u0 0), .ref (u0 1), .int 0])), ((u0 0), .inl (cI, 250, .inl ko_z)), ((u0 1), .inl (cI, 250, .inl (ko_f 250 (-1) ko_z))), (q22, .inl (cI, 250, .inl ko_z)), (q31, .inl (cI, 250, .inl ko_z)), (q40, .inl (cI, 250, .inl ko_z)), (q49, .inl (cI, 250, .inl ko_z)), (q58, .inl (cZ, 250, .inl ko_z)), (q67, .inl (cZ, 250, .inl ko_z)), (q76, .inl (cZ, 250, .inl ko_z))] H := hP
  have hD : va_D A [(h0, .inr (3, [.ref q5, .ref q22, .ref q31, .ref q40, .ref q49, .ref q58, .ref q67, .ref q76, .null, .null, .null, .null, .null, .int 0, .int 0])), (q5, .inr (2, [.ref (u0 0), .ref (u0 1), .int 0])), ((u0 0), .inl (cI, 250, .inl ko_z)), ((u0 1), .inl (cI, 250, .inl (ko_f 250 (-1) ko_z))), (q22, .inl (cI, 250, .inl ko_z)), (q31, .inl (cI, 250, .inl ko_z)), (q40, .inl (cI, 250, .inl ko_z)), (q49, .inl (cI, 250, .inl ko_z)), (q58, .inl (cZ, 250, .inl ko_z)), (q67, .inl (cZ, 250, .inl ko_z)), (q76, .inl (cZ, 250, .inl ko_z))] := hD
  refine lv_aload_n hx hb dn_Te_81 rfl (lv_at hl 0 rfl) ?_
  refine lv_sipush (v := 250) hx hb dn_Te_82 (by decide) ?_
  refine co_newI (N := 250) hx hb (hts _ kv_11) hK hP hD hS hA (by decide) (by decide) (by decide) (show 10 + 1 ≤ 14 from by decide) (show 2253 + 250 ≤ 3067 from by decide) dn_Te_85 (fun q85 H hP hD hS => ?_)
  have hP : va_P D kcl [(h0, .inr (3, [.ref q5, .ref q22, .ref q31, .ref q40, .ref q49, .ref q58, .ref q67, .ref q76, .null, .null, .null, .null, .null, .int 0, .int 0])), (q5, .inr (2, [.ref (u0 0), .ref (u0 1), .int 0])), ((u0 0), .inl (cI, 250, .inl ko_z)), ((u0 1), .inl (cI, 250, .inl (ko_f 250 (-1) ko_z))), (q22, .inl (cI, 250, .inl ko_z)), (q31, .inl (cI, 250, .inl ko_z)), (q40, .inl (cI, 250, .inl ko_z)), (q49, .inl (cI, 250, .inl ko_z)), (q58, .inl (cZ, 250, .inl ko_z)), (q67, .inl (cZ, 250, .inl ko_z)), (q76, .inl (cZ, 250, .inl ko_z)), (q85, .inl (cI, 250, .inl ko_z))] H := hP
  have hD : va_D A [(h0, .inr (3, [.ref q5, .ref q22, .ref q31, .ref q40, .ref q49, .ref q58, .ref q67, .ref q76, .null, .null, .null, .null, .null, .int 0, .int 0])), (q5, .inr (2, [.ref (u0 0), .ref (u0 1), .int 0])), ((u0 0), .inl (cI, 250, .inl ko_z)), ((u0 1), .inl (cI, 250, .inl (ko_f 250 (-1) ko_z))), (q22, .inl (cI, 250, .inl ko_z)), (q31, .inl (cI, 250, .inl ko_z)), (q40, .inl (cI, 250, .inl ko_z)), (q49, .inl (cI, 250, .inl ko_z)), (q58, .inl (cZ, 250, .inl ko_z)), (q67, .inl (cZ, 250, .inl ko_z)), (q76, .inl (cZ, 250, .inl ko_z)), (q85, .inl (cI, 250, .inl ko_z))] := hD
  refine co_cs (k := 11) (n := 2503) rfl rfl ?_
  refine co_pc (pc' := 87) rfl ?_
  refine va_putF (D := D) (ci := 3) (v := .ref q85) (ty := .array .int) (C := kR3) (T := kT3) (N := 15) hx hb hts kjn3 kt3 kty3 knm3 hown hK hP hD hS 0 rfl rfl 8 (by decide) (hts _ kv_51) (fun _ h9 => h9) rfl hin rfl (by decide +kernel) rfl rfl (Nat.le_of_ble_eq_true rfl) dn_Te_87 (fun H locs hP hD hS => ?_)
  have hP : va_P D kcl [(h0, .inr (3, [.ref q5, .ref q22, .ref q31, .ref q40, .ref q49, .ref q58, .ref q67, .ref q76, .ref q85, .null, .null, .null, .null, .int 0, .int 0])), (q5, .inr (2, [.ref (u0 0), .ref (u0 1), .int 0])), ((u0 0), .inl (cI, 250, .inl ko_z)), ((u0 1), .inl (cI, 250, .inl (ko_f 250 (-1) ko_z))), (q22, .inl (cI, 250, .inl ko_z)), (q31, .inl (cI, 250, .inl ko_z)), (q40, .inl (cI, 250, .inl ko_z)), (q49, .inl (cI, 250, .inl ko_z)), (q58, .inl (cZ, 250, .inl ko_z)), (q67, .inl (cZ, 250, .inl ko_z)), (q76, .inl (cZ, 250, .inl ko_z)), (q85, .inl (cI, 250, .inl ko_z))] H := hP
  have hD : va_D A [(h0, .inr (3, [.ref q5, .ref q22, .ref q31, .ref q40, .ref q49, .ref q58, .ref q67, .ref q76, .ref q85, .null, .null, .null, .null, .int 0, .int 0])), (q5, .inr (2, [.ref (u0 0), .ref (u0 1), .int 0])), ((u0 0), .inl (cI, 250, .inl ko_z)), ((u0 1), .inl (cI, 250, .inl (ko_f 250 (-1) ko_z))), (q22, .inl (cI, 250, .inl ko_z)), (q31, .inl (cI, 250, .inl ko_z)), (q40, .inl (cI, 250, .inl ko_z)), (q49, .inl (cI, 250, .inl ko_z)), (q58, .inl (cZ, 250, .inl ko_z)), (q67, .inl (cZ, 250, .inl ko_z)), (q76, .inl (cZ, 250, .inl ko_z)), (q85, .inl (cI, 250, .inl ko_z))] := hD
  refine lv_aload_n hx hb dn_Te_90 rfl (lv_at hl 0 rfl) ?_
  refine lv_bipush (v := 64) hx hb dn_Te_91 (by decide) ?_
  refine co_newI (N := 64) hx hb (hts _ kv_11) hK hP hD hS hA (by decide) (by decide) (by decide) (show 11 + 1 ≤ 14 from by decide) (show 2503 + 64 ≤ 3067 from by decide) dn_Te_93 (fun q93 H hP hD hS => ?_)
  have hP : va_P D kcl [(h0, .inr (3, [.ref q5, .ref q22, .ref q31, .ref q40, .ref q49, .ref q58, .ref q67, .ref q76, .ref q85, .null, .null, .null, .null, .int 0, .int 0])), (q5, .inr (2, [.ref (u0 0), .ref (u0 1), .int 0])), ((u0 0), .inl (cI, 250, .inl ko_z)), ((u0 1), .inl (cI, 250, .inl (ko_f 250 (-1) ko_z))), (q22, .inl (cI, 250, .inl ko_z)), (q31, .inl (cI, 250, .inl ko_z)), (q40, .inl (cI, 250, .inl ko_z)), (q49, .inl (cI, 250, .inl ko_z)), (q58, .inl (cZ, 250, .inl ko_z)), (q67, .inl (cZ, 250, .inl ko_z)), (q76, .inl (cZ, 250, .inl ko_z)), (q85, .inl (cI, 250, .inl ko_z)), (q93, .inl (cI, 64, .inl ko_z))] H := hP
  have hD : va_D A [(h0, .inr (3, [.ref q5, .ref q22, .ref q31, .ref q40, .ref q49, .ref q58, .ref q67, .ref q76, .ref q85, .null, .null, .null, .null, .int 0, .int 0])), (q5, .inr (2, [.ref (u0 0), .ref (u0 1), .int 0])), ((u0 0), .inl (cI, 250, .inl ko_z)), ((u0 1), .inl (cI, 250, .inl (ko_f 250 (-1) ko_z))), (q22, .inl (cI, 250, .inl ko_z)), (q31, .inl (cI, 250, .inl ko_z)), (q40, .inl (cI, 250, .inl ko_z)), (q49, .inl (cI, 250, .inl ko_z)), (q58, .inl (cZ, 250, .inl ko_z)), (q67, .inl (cZ, 250, .inl ko_z)), (q76, .inl (cZ, 250, .inl ko_z)), (q85, .inl (cI, 250, .inl ko_z)), (q93, .inl (cI, 64, .inl ko_z))] := hD
  refine co_cs (k := 12) (n := 2567) rfl rfl ?_
  refine va_putF (D := D) (ci := 3) (v := .ref q93) (ty := .array .int) (C := kR3) (T := kT3) (N := 15) hx hb hts kjn3 kt3 kty3 knm3 hown hK hP hD hS 0 rfl rfl 9 (by decide) (hts _ kv_52) (fun _ h9 => h9) rfl hin rfl (by decide +kernel) rfl rfl (Nat.le_of_ble_eq_true rfl) dn_Te_95 (fun H locs hP hD hS => ?_)
  have hP : va_P D kcl [(h0, .inr (3, [.ref q5, .ref q22, .ref q31, .ref q40, .ref q49, .ref q58, .ref q67, .ref q76, .ref q85, .ref q93, .null, .null, .null, .int 0, .int 0])), (q5, .inr (2, [.ref (u0 0), .ref (u0 1), .int 0])), ((u0 0), .inl (cI, 250, .inl ko_z)), ((u0 1), .inl (cI, 250, .inl (ko_f 250 (-1) ko_z))), (q22, .inl (cI, 250, .inl ko_z)), (q31, .inl (cI, 250, .inl ko_z)), (q40, .inl (cI, 250, .inl ko_z)), (q49, .inl (cI, 250, .inl ko_z)), (q58, .inl (cZ, 250, .inl ko_z)), (q67, .inl (cZ, 250, .inl ko_z)), (q76, .inl (cZ, 250, .inl ko_z)), (q85, .inl (cI, 250, .inl ko_z)), (q93, .inl (cI, 64, .inl ko_z))] H := hP
  have hD : va_D A [(h0, .inr (3, [.ref q5, .ref q22, .ref q31, .ref q40, .ref q49, .ref q58, .ref q67, .ref q76, .ref q85, .ref q93, .null, .null, .null, .int 0, .int 0])), (q5, .inr (2, [.ref (u0 0), .ref (u0 1), .int 0])), ((u0 0), .inl (cI, 250, .inl ko_z)), ((u0 1), .inl (cI, 250, .inl (ko_f 250 (-1) ko_z))), (q22, .inl (cI, 250, .inl ko_z)), (q31, .inl (cI, 250, .inl ko_z)), (q40, .inl (cI, 250, .inl ko_z)), (q49, .inl (cI, 250, .inl ko_z)), (q58, .inl (cZ, 250, .inl ko_z)), (q67, .inl (cZ, 250, .inl ko_z)), (q76, .inl (cZ, 250, .inl ko_z)), (q85, .inl (cI, 250, .inl ko_z)), (q93, .inl (cI, 64, .inl ko_z))] := hD
  refine lv_aload_n hx hb dn_Te_98 rfl (lv_at hl 0 rfl) ?_
  refine lv_sipush (v := 250) hx hb dn_Te_99 (by decide) ?_
  refine co_newI (N := 250) hx hb (hts _ kv_11) hK hP hD hS hA (by decide) (by decide) (by decide) (show 12 + 1 ≤ 14 from by decide) (show 2567 + 250 ≤ 3067 from by decide) dn_Te_102 (fun q102 H hP hD hS => ?_)
  have hP : va_P D kcl [(h0, .inr (3, [.ref q5, .ref q22, .ref q31, .ref q40, .ref q49, .ref q58, .ref q67, .ref q76, .ref q85, .ref q93, .null, .null, .null, .int 0, .int 0])), (q5, .inr (2, [.ref (u0 0), .ref (u0 1), .int 0])), ((u0 0), .inl (cI, 250, .inl ko_z)), ((u0 1), .inl (cI, 250, .inl (ko_f 250 (-1) ko_z))), (q22, .inl (cI, 250, .inl ko_z)), (q31, .inl (cI, 250, .inl ko_z)), (q40, .inl (cI, 250, .inl ko_z)), (q49, .inl (cI, 250, .inl ko_z)), (q58, .inl (cZ, 250, .inl ko_z)), (q67, .inl (cZ, 250, .inl ko_z)), (q76, .inl (cZ, 250, .inl ko_z)), (q85, .inl (cI, 250, .inl ko_z)), (q93, .inl (cI, 64, .inl ko_z)), (q102, .inl (cI, 250, .inl ko_z))] H := hP
  have hD : va_D A [(h0, .inr (3, [.ref q5, .ref q22, .ref q31, .ref q40, .ref q49, .ref q58, .ref q67, .ref q76, .ref q85, .ref q93, .null, .null, .null, .int 0, .int 0])), (q5, .inr (2, [.ref (u0 0), .ref (u0 1), .int 0])), ((u0 0), .inl (cI, 250, .inl ko_z)), ((u0 1), .inl (cI, 250, .inl (ko_f 250 (-1) ko_z))), (q22, .inl (cI, 250, .inl ko_z)), (q31, .inl (cI, 250, .inl ko_z)), (q40, .inl (cI, 250, .inl ko_z)), (q49, .inl (cI, 250, .inl ko_z)), (q58, .inl (cZ, 250, .inl ko_z)), (q67, .inl (cZ, 250, .inl ko_z)), (q76, .inl (cZ, 250, .inl ko_z)), (q85, .inl (cI, 250, .inl ko_z)), (q93, .inl (cI, 64, .inl ko_z)), (q102, .inl (cI, 250, .inl ko_z))] := hD
  refine co_cs (k := 13) (n := 2817) rfl rfl ?_
  refine va_putF (D := D) (ci := 3) (v := .ref q102) (ty := .array .int) (C := kR3) (T := kT3) (N := 15) hx hb hts kjn3 kt3 kty3 knm3 hown hK hP hD hS 0 rfl rfl 10 (by decide) (hts _ kv_53) (fun _ h9 => h9) rfl hin rfl (by decide +kernel) rfl rfl (Nat.le_of_ble_eq_true rfl) dn_Te_104 (fun H locs hP hD hS => ?_)
  have hP : va_P D kcl [(h0, .inr (3, [.ref q5, .ref q22, .ref q31, .ref q40, .ref q49, .ref q58, .ref q67, .ref q76, .ref q85, .ref q93, .ref q102, .null, .null, .int 0, .int 0])), (q5, .inr (2, [.ref (u0 0), .ref (u0 1), .int 0])), ((u0 0), .inl (cI, 250, .inl ko_z)), ((u0 1), .inl (cI, 250, .inl (ko_f 250 (-1) ko_z))), (q22, .inl (cI, 250, .inl ko_z)), (q31, .inl (cI, 250, .inl ko_z)), (q40, .inl (cI, 250, .inl ko_z)), (q49, .inl (cI, 250, .inl ko_z)), (q58, .inl (cZ, 250, .inl ko_z)), (q67, .inl (cZ, 250, .inl ko_z)), (q76, .inl (cZ, 250, .inl ko_z)), (q85, .inl (cI, 250, .inl ko_z)), (q93, .inl (cI, 64, .inl ko_z)), (q102, .inl (cI, 250, .inl ko_z))] H := hP
  have hD : va_D A [(h0, .inr (3, [.ref q5, .ref q22, .ref q31, .ref q40, .ref q49, .ref q58, .ref q67, .ref q76, .ref q85, .ref q93, .ref q102, .null, .null, .int 0, .int 0])), (q5, .inr (2, [.ref (u0 0), .ref (u0 1), .int 0])), ((u0 0), .inl (cI, 250, .inl ko_z)), ((u0 1), .inl (cI, 250, .inl (ko_f 250 (-1) ko_z))), (q22, .inl (cI, 250, .inl ko_z)), (q31, .inl (cI, 250, .inl ko_z)), (q40, .inl (cI, 250, .inl ko_z)), (q49, .inl (cI, 250, .inl ko_z)), (q58, .inl (cZ, 250, .inl ko_z)), (q67, .inl (cZ, 250, .inl ko_z)), (q76, .inl (cZ, 250, .inl ko_z)), (q85, .inl (cI, 250, .inl ko_z)), (q93, .inl (cI, 64, .inl ko_z)), (q102, .inl (cI, 250, .inl ko_z))] := hD
  refine lv_aload_n hx hb dn_Te_107 rfl (lv_at hl 0 rfl) ?_
  refine co_pc (pc' := 108) rfl ?_
  refine lv_sipush (v := 250) hx hb dn_Te_108 (by decide) ?_
  refine co_newI (N := 250) hx hb (hts _ kv_11) hK hP hD hS hA (by decide) (by decide) (by decide) (show 13 + 1 ≤ 14 from by decide) (show 2817 + 250 ≤ 3067 from by decide) dn_Te_111 (fun q111 H hP hD hS => ?_)
  have hP : va_P D kcl [(h0, .inr (3, [.ref q5, .ref q22, .ref q31, .ref q40, .ref q49, .ref q58, .ref q67, .ref q76, .ref q85, .ref q93, .ref q102, .null, .null, .int 0, .int 0])), (q5, .inr (2, [.ref (u0 0), .ref (u0 1), .int 0])), ((u0 0), .inl (cI, 250, .inl ko_z)), ((u0 1), .inl (cI, 250, .inl (ko_f 250 (-1) ko_z))), (q22, .inl (cI, 250, .inl ko_z)), (q31, .inl (cI, 250, .inl ko_z)), (q40, .inl (cI, 250, .inl ko_z)), (q49, .inl (cI, 250, .inl ko_z)), (q58, .inl (cZ, 250, .inl ko_z)), (q67, .inl (cZ, 250, .inl ko_z)), (q76, .inl (cZ, 250, .inl ko_z)), (q85, .inl (cI, 250, .inl ko_z)), (q93, .inl (cI, 64, .inl ko_z)), (q102, .inl (cI, 250, .inl ko_z)), (q111, .inl (cI, 250, .inl ko_z))] H := hP
  have hD : va_D A [(h0, .inr (3, [.ref q5, .ref q22, .ref q31, .ref q40, .ref q49, .ref q58, .ref q67, .ref q76, .ref q85, .ref q93, .ref q102, .null, .null, .int 0, .int 0])), (q5, .inr (2, [.ref (u0 0), .ref (u0 1), .int 0])), ((u0 0), .inl (cI, 250, .inl ko_z)), ((u0 1), .inl (cI, 250, .inl (ko_f 250 (-1) ko_z))), (q22, .inl (cI, 250, .inl ko_z)), (q31, .inl (cI, 250, .inl ko_z)), (q40, .inl (cI, 250, .inl ko_z)), (q49, .inl (cI, 250, .inl ko_z)), (q58, .inl (cZ, 250, .inl ko_z)), (q67, .inl (cZ, 250, .inl ko_z)), (q76, .inl (cZ, 250, .inl ko_z)), (q85, .inl (cI, 250, .inl ko_z)), (q93, .inl (cI, 64, .inl ko_z)), (q102, .inl (cI, 250, .inl ko_z)), (q111, .inl (cI, 250, .inl ko_z))] := hD
  refine co_cs (k := 14) (n := 3067) rfl rfl ?_
  refine va_putF (D := D) (ci := 3) (v := .ref q111) (ty := .array .int) (C := kR3) (T := kT3) (N := 15) hx hb hts kjn3 kt3 kty3 knm3 hown hK hP hD hS 0 rfl rfl 11 (by decide) (hts _ kv_54) (fun _ h9 => h9) rfl hin rfl (by decide +kernel) rfl rfl (Nat.le_of_ble_eq_true rfl) dn_Te_113 (fun H locs hP hD hS => ?_)
  have hP : va_P D kcl [(h0, .inr (3, [.ref q5, .ref q22, .ref q31, .ref q40, .ref q49, .ref q58, .ref q67, .ref q76, .ref q85, .ref q93, .ref q102, .ref q111, .null, .int 0, .int 0])), (q5, .inr (2, [.ref (u0 0), .ref (u0 1), .int 0])), ((u0 0), .inl (cI, 250, .inl ko_z)), ((u0 1), .inl (cI, 250, .inl (ko_f 250 (-1) ko_z))), (q22, .inl (cI, 250, .inl ko_z)), (q31, .inl (cI, 250, .inl ko_z)), (q40, .inl (cI, 250, .inl ko_z)), (q49, .inl (cI, 250, .inl ko_z)), (q58, .inl (cZ, 250, .inl ko_z)), (q67, .inl (cZ, 250, .inl ko_z)), (q76, .inl (cZ, 250, .inl ko_z)), (q85, .inl (cI, 250, .inl ko_z)), (q93, .inl (cI, 64, .inl ko_z)), (q102, .inl (cI, 250, .inl ko_z)), (q111, .inl (cI, 250, .inl ko_z))] H := hP
  have hD : va_D A [(h0, .inr (3, [.ref q5, .ref q22, .ref q31, .ref q40, .ref q49, .ref q58, .ref q67, .ref q76, .ref q85, .ref q93, .ref q102, .ref q111, .null, .int 0, .int 0])), (q5, .inr (2, [.ref (u0 0), .ref (u0 1), .int 0])), ((u0 0), .inl (cI, 250, .inl ko_z)), ((u0 1), .inl (cI, 250, .inl (ko_f 250 (-1) ko_z))), (q22, .inl (cI, 250, .inl ko_z)), (q31, .inl (cI, 250, .inl ko_z)), (q40, .inl (cI, 250, .inl ko_z)), (q49, .inl (cI, 250, .inl ko_z)), (q58, .inl (cZ, 250, .inl ko_z)), (q67, .inl (cZ, 250, .inl ko_z)), (q76, .inl (cZ, 250, .inl ko_z)), (q85, .inl (cI, 250, .inl ko_z)), (q93, .inl (cI, 64, .inl ko_z)), (q102, .inl (cI, 250, .inl ko_z)), (q111, .inl (cI, 250, .inl ko_z))] := hD
  refine lv_aload_n hx hb dn_Te_116 rfl (lv_at hl 0 rfl) ?_
  refine lv_aload_n hx hb dn_Te_117 rfl (lv_at hl 1 rfl) ?_
  refine va_putF (D := D) (ci := 3) (v := .ref g0) (ty := .object "SequentKernel$Types") (C := kR3) (T := kT3) (N := 15) hx hb hts kjn3 kt3 kty3 knm3 hown hK hP hD hS 0 rfl rfl 12 (by decide) (hts _ kv_55) (fun _ h9 => h9) rfl hin rfl (by decide +kernel) rfl rfl (Nat.le_of_ble_eq_true rfl) dn_Te_118 (fun H locs hP hD hS => ?_)
  have hP : va_P D kcl [(h0, .inr (3, [.ref q5, .ref q22, .ref q31, .ref q40, .ref q49, .ref q58, .ref q67, .ref q76, .ref q85, .ref q93, .ref q102, .ref q111, .ref g0, .int 0, .int 0])), (q5, .inr (2, [.ref (u0 0), .ref (u0 1), .int 0])), ((u0 0), .inl (cI, 250, .inl ko_z)), ((u0 1), .inl (cI, 250, .inl (ko_f 250 (-1) ko_z))), (q22, .inl (cI, 250, .inl ko_z)), (q31, .inl (cI, 250, .inl ko_z)), (q40, .inl (cI, 250, .inl ko_z)), (q49, .inl (cI, 250, .inl ko_z)), (q58, .inl (cZ, 250, .inl ko_z)), (q67, .inl (cZ, 250, .inl ko_z)), (q76, .inl (cZ, 250, .inl ko_z)), (q85, .inl (cI, 250, .inl ko_z)), (q93, .inl (cI, 64, .inl ko_z)), (q102, .inl (cI, 250, .inl ko_z)), (q111, .inl (cI, 250, .inl ko_z))] H := hP
  have hD : va_D A [(h0, .inr (3, [.ref q5, .ref q22, .ref q31, .ref q40, .ref q49, .ref q58, .ref q67, .ref q76, .ref q85, .ref q93, .ref q102, .ref q111, .ref g0, .int 0, .int 0])), (q5, .inr (2, [.ref (u0 0), .ref (u0 1), .int 0])), ((u0 0), .inl (cI, 250, .inl ko_z)), ((u0 1), .inl (cI, 250, .inl (ko_f 250 (-1) ko_z))), (q22, .inl (cI, 250, .inl ko_z)), (q31, .inl (cI, 250, .inl ko_z)), (q40, .inl (cI, 250, .inl ko_z)), (q49, .inl (cI, 250, .inl ko_z)), (q58, .inl (cZ, 250, .inl ko_z)), (q67, .inl (cZ, 250, .inl ko_z)), (q76, .inl (cZ, 250, .inl ko_z)), (q85, .inl (cI, 250, .inl ko_z)), (q93, .inl (cI, 64, .inl ko_z)), (q102, .inl (cI, 250, .inl ko_z)), (q111, .inl (cI, 250, .inl ko_z))] := hD
  refine lv_aload_n hx hb dn_Te_121 rfl (lv_at hl 0 rfl) ?_
  refine va_get (D := D) (ci := 3) (v := .ref q93) (C := kR3) (T := kT3) (N := 15) hx hb hts kjn3 hown hK hP 0 rfl rfl 9 (by decide) (hts _ kv_52) (fun _ h9 => h9) rfl dn_Te_122 ?_
  refine lv_iconst (v := (-1)) hx hb dn_Te_125 (by decide) ?_
  refine co_v (wc := [(q93, .inl (cI, 64, .inl ko_z))]) (wr := [(h0, .inr (3, [.ref q5, .ref q22, .ref q31, .ref q40, .ref q49, .ref q58, .ref q67, .ref q76, .ref q85, .ref q93, .ref q102, .ref q111, .ref g0, .int 0, .int 0])), (q5, .inr (2, [.ref (u0 0), .ref (u0 1), .int 0])), ((u0 0), .inl (cI, 250, .inl ko_z)), ((u0 1), .inl (cI, 250, .inl (ko_f 250 (-1) ko_z))), (q22, .inl (cI, 250, .inl ko_z)), (q31, .inl (cI, 250, .inl ko_z)), (q40, .inl (cI, 250, .inl ko_z)), (q49, .inl (cI, 250, .inl ko_z)), (q58, .inl (cZ, 250, .inl ko_z)), (q67, .inl (cZ, 250, .inl ko_z)), (q76, .inl (cZ, 250, .inl ko_z)), (q85, .inl (cI, 250, .inl ko_z)), (q102, .inl (cI, 250, .inl ko_z)), (q111, .inl (cI, 250, .inl ko_z))]) (w1 := fun u => [(q93, .inl (cI, 64, .inl (ko_f 64 (-1) ko_z)))]) (va_runS (As := [.ref q93, .int (-1)]) (rest := []) ⟨hx, hb, hml, hown, hts⟩ (co_fill (n := 64) (v := (-1)) (f := ko_z) l D cI cZ q93 H.size (by decide)) ⟨callB_of 2 hts (kgI kv_14) rfl rfl rfl (hts _ kv_15) (hts _ kv_56) (by decide +kernel) ⟨Nat.le_of_ble_eq_true rfl, Nat.le_of_ble_eq_true rfl⟩, hts _ kv_17⟩ (co_pre hK hP hD [12] rfl (by decide)) rfl rfl hl.1 rfl (lv_room (Nat.le_of_ble_eq_true rfl)) dn_Te_126 ⟨show 14 + 0 ≤ 14 from by decide, show 3067 + 0 ≤ 3067 from by decide⟩) hP hD hS hA [12] [0, 1, 2, 3, 4, 5, 6, 7, 8, 9, 10, 11, 13, 14] rfl rfl (by decide) (by decide) (fun u1 H locs hP hD hS => ?_)
  have hP : va_P D kcl [(h0, .inr (3, [.ref q5, .ref q22, .ref q31, .ref q40, .ref q49, .ref q58, .ref q67, .ref q76, .ref q85, .ref q93, .ref q102, .ref q111, .ref g0, .int 0, .int 0])), (q5, .inr (2, [.ref (u0 0), .ref (u0 1), .int 0])), ((u0 0), .inl (cI, 250, .inl ko_z)), ((u0 1), .inl (cI, 250, .inl (ko_f 250 (-1) ko_z))), (q22, .inl (cI, 250, .inl ko_z)), (q31, .inl (cI, 250, .inl ko_z)), (q40, .inl (cI, 250, .inl ko_z)), (q49, .inl (cI, 250, .inl ko_z)), (q58, .inl (cZ, 250, .inl ko_z)), (q67, .inl (cZ, 250, .inl ko_z)), (q76, .inl (cZ, 250, .inl ko_z)), (q85, .inl (cI, 250, .inl ko_z)), (q102, .inl (cI, 250, .inl ko_z)), (q111, .inl (cI, 250, .inl ko_z)), (q93, .inl (cI, 64, .inl (ko_f 64 (-1) ko_z)))] H := hP
  have hD : va_D A [(h0, .inr (3, [.ref q5, .ref q22, .ref q31, .ref q40, .ref q49, .ref q58, .ref q67, .ref q76, .ref q85, .ref q93, .ref q102, .ref q111, .ref g0, .int 0, .int 0])), (q5, .inr (2, [.ref (u0 0), .ref (u0 1), .int 0])), ((u0 0), .inl (cI, 250, .inl ko_z)), ((u0 1), .inl (cI, 250, .inl (ko_f 250 (-1) ko_z))), (q22, .inl (cI, 250, .inl ko_z)), (q31, .inl (cI, 250, .inl ko_z)), (q40, .inl (cI, 250, .inl ko_z)), (q49, .inl (cI, 250, .inl ko_z)), (q58, .inl (cZ, 250, .inl ko_z)), (q67, .inl (cZ, 250, .inl ko_z)), (q76, .inl (cZ, 250, .inl ko_z)), (q85, .inl (cI, 250, .inl ko_z)), (q102, .inl (cI, 250, .inl ko_z)), (q111, .inl (cI, 250, .inl ko_z)), (q93, .inl (cI, 64, .inl (ko_f 64 (-1) ko_z)))] := hD
  refine co_cs (k := 14) (n := 3067) rfl rfl ?_
  refine co_pc (pc' := 129) rfl ?_
  have hP9 := hP.sub (ws' := [(h0, .inr (3, [.ref q5, .ref q22, .ref q31, .ref q40, .ref q49, .ref q58, .ref q67, .ref q76, .ref q85, .ref q93, .ref q102, .ref q111, .ref g0, .int 0, .int 0])), (q5, .inr (2, [.ref (u0 0), .ref (u0 1), .int 0])), ((u0 0), .inl (cI, 250, .inl ko_z)), ((u0 1), .inl (cI, 250, .inl (ko_f 250 (-1) ko_z))), (q22, .inl (cI, 250, .inl ko_z)), (q31, .inl (cI, 250, .inl ko_z)), (q40, .inl (cI, 250, .inl ko_z)), (q49, .inl (cI, 250, .inl ko_z)), (q58, .inl (cZ, 250, .inl ko_z)), (q67, .inl (cZ, 250, .inl ko_z)), (q76, .inl (cZ, 250, .inl ko_z)), (q85, .inl (cI, 250, .inl ko_z)), (q93, .inl (cI, 64, .inl (ko_f 64 (-1) ko_z))), (q102, .inl (cI, 250, .inl ko_z)), (q111, .inl (cI, 250, .inl ko_z))]) [0, 1, 2, 3, 4, 5, 6, 7, 8, 9, 10, 11, 14, 12, 13] rfl
  have hD9 := hD.sub (ws' := [(h0, .inr (3, [.ref q5, .ref q22, .ref q31, .ref q40, .ref q49, .ref q58, .ref q67, .ref q76, .ref q85, .ref q93, .ref q102, .ref q111, .ref g0, .int 0, .int 0])), (q5, .inr (2, [.ref (u0 0), .ref (u0 1), .int 0])), ((u0 0), .inl (cI, 250, .inl ko_z)), ((u0 1), .inl (cI, 250, .inl (ko_f 250 (-1) ko_z))), (q22, .inl (cI, 250, .inl ko_z)), (q31, .inl (cI, 250, .inl ko_z)), (q40, .inl (cI, 250, .inl ko_z)), (q49, .inl (cI, 250, .inl ko_z)), (q58, .inl (cZ, 250, .inl ko_z)), (q67, .inl (cZ, 250, .inl ko_z)), (q76, .inl (cZ, 250, .inl ko_z)), (q85, .inl (cI, 250, .inl ko_z)), (q93, .inl (cI, 64, .inl (ko_f 64 (-1) ko_z))), (q102, .inl (cI, 250, .inl ko_z)), (q111, .inl (cI, 250, .inl ko_z))]) [0, 1, 2, 3, 4, 5, 6, 7, 8, 9, 10, 11, 14, 12, 13] (by decide) rfl
  exact W.vret hx hb hr (fun t ht hW => ⟨⟨(kix 0 [q5, (u0 0), (u0 1), q22, q31, q40, q49, q58, q67, q76, q85, q93, q102, q111]), rfl, trivial, by rw [ht]; exact hP9, va_K.moved hW.alike hK, hD9⟩, hS.F ht⟩) hS.2.2 dn_Te_129
set_option maxHeartbeats 4000000 in
set_option maxRecDepth 100000 in
theorem cq_Fa_1 (l : Launch) (D : va_G) (cI cZ : ClassId) (h0 sz : Nat) : Met l ⟨"SequentKernel$Facts", "<init>", "()V"⟩ (Cond.code ⟨"SequentKernel$Facts", "<init>", "()V"⟩ prog_3_method_1_code 1 none :: kwl) ({ frames := 1, cells := 4, slots := 852, locals := 12 }) (va_Pc [.ref h0] (coB D cI cZ [(h0, .inr (4, [.null, .null, .null, .null, .int 0, .int 0, .int 0, .int 0]))] sz)) (va_Qv (fun _ : Nat → Nat => True) (coE D cI cZ (va_A [(h0, .inr (4, [.null, .null, .null, .null, .int 0, .int 0, .int 0, .int 0]))] sz) (fun u => [(h0, .inr (4, [.ref (u 0), .ref (u 1), .ref (u 2), .ref (u 3), .int 0, .int 0, .int 0, .int 0])), ((u 0), .inl (cI, 60, .inl ko_z)), ((u 1), .inl (cI, 60, .inl ko_z)), ((u 2), .inl (cI, 720, .inl ko_z)), ((u 3), .inl (cI, 12, .inl ko_z))])) (va_A [(h0, .inr (4, [.null, .null, .null, .null, .int 0, .int 0, .int 0, .int 0]))] sz)) 4 852 (va_A [(h0, .inr (4, [.null, .null, .null, .null, .int 0, .int 0, .int 0, .int 0]))] sz) := by
  refine Met.ofW (cc := prog_3_method_1_code) (maxL := 1) (ret := none) (by decide +kernel) rfl ?_
  intro p e s m args below meth c s₁ B hml hv
  obtain ⟨rfl, hsz, hP, hK, hD0⟩ := hv
  have hx := B.exec
  have hb := B.bytes
  have hr : meth.sig.returnType = none := B.returns
  have hts : ∀ w ∈ kwl, w.before ([.ref h0] : List Value).toArray s = true := fun w h => atoms_spec (ws := (Cond.code ⟨"SequentKernel$Facts", "<init>", "()V"⟩ prog_3_method_1_code 1 none :: kwl)) B.pre w (List.mem_cons_of_mem _ h)
  have hown : s.vm.findClass kR4 = some m.cls := findClass_of_methodNamed B.named
  have hlocks := B.notSynchronized
  have hin : meth.name = "<init>" := (name_of_methodNamed B.named B.method).1
  subst hsz
  have hD := hD0.self (sz := s.heap.size)
  generalize hAe : va_A [(h0, .inr (4, [.null, .null, .null, .null, .int 0, .int 0, .int 0, .int 0]))] s.heap.size = A at hD ⊢
  have hA : ∀ q : Nat, s.heap.size ≤ q → A q := fun q h => by rw [← hAe]; exact Or.inr h
  have hS : va_S A s.heap s.heap [] := va_S.rf
  have hl := lv_entry ([.ref h0]) (n := 1) (Nat.le_of_ble_eq_true rfl)
  rw [lg_entry_eq]
  generalize (lg_sl ([.ref h0]) ++ List.replicate (1 - (lg_sl ([.ref h0])).length) Slot.unset).toArray = ls at hl ⊢
  have hl : lv_has ls 1 [(0, .ref h0)] := hl
  refine lv_aload_n hx hb dn_Fa_0 rfl (lv_at hl 0 rfl) ?_
  refine W.objInit hx hb hown (hts _ kv_64) (hts _ kv_1) (hts _ kv_2) rfl (by rw [hml]; exact hl.1) rfl dn_Fa_1 (Nat.le_of_ble_eq_true rfl) (Nat.le_of_ble_eq_true rfl) ?_
  refine W.eq (g2 := F0 m 4 ls []) rfl ?_
  refine lv_aload_n hx hb dn_Fa_4 rfl (lv_at hl 0 rfl) ?_
  refine lv_bipush (v := 60) hx hb dn_Fa_5 (by decide) ?_
  refine co_newI (N := 60) hx hb (hts _ kv_11) hK hP hD hS hA (by decide) (by decide) (by decide) (show 0 + 1 ≤ 4 from by decide) (show 0 + 60 ≤ 852 from by decide) dn_Fa_7 (fun q7 H hP hD hS => ?_)
  have hP : va_P D kcl [(h0, .inr (4, [.null, .null, .null, .null, .int 0, .int 0, .int 0, .int 0])), (q7, .inl (cI, 60, .inl ko_z))] H := hP
  have hD : va_D A [(h0, .inr (4, [.null, .null, .null, .null, .int 0, .int 0, .int 0, .int 0])), (q7, .inl (cI, 60, .inl ko_z))] := hD
  refine co_cs (k := 1) (n := 60) rfl rfl ?_
  refine va_putF (D := D) (ci := 4) (v := .ref q7) (ty := .array .int) (C := kR4) (T := kT4) (N := 8) hx hb hts kjn4 kt4 kty4 knm4 hown hK hP hD hS 0 rfl rfl 0 (by decide) (hts _ kv_65) (fun _ h9 => h9) rfl hin rfl (by decide +kernel) rfl rfl (Nat.le_of_ble_eq_true rfl) dn_Fa_9 (fun H locs hP hD hS => ?_)
  have hP : va_P D kcl [(h0, .inr (4, [.ref q7, .null, .null, .null, .int 0, .int 0, .int 0, .int 0])), (q7, .inl (cI, 60, .inl ko_z))] H := hP
  have hD : va_D A [(h0, .inr (4, [.ref q7, .null, .null, .null, .int 0, .int 0, .int 0, .int 0])), (q7, .inl (cI, 60, .inl ko_z))] := hD
  refine lv_aload_n hx hb dn_Fa_12 rfl (lv_at hl 0 rfl) ?_
  refine lv_bipush (v := 60) hx hb dn_Fa_13 (by decide) ?_
  refine co_newI (N := 60) hx hb (hts _ kv_11) hK hP hD hS hA (by decide) (by decide) (by decide) (show 1 + 1 ≤ 4 from by decide) (show 60 + 60 ≤ 852 from by decide) dn_Fa_15 (fun q15 H hP hD hS => ?_)
  have hP : va_P D kcl [(h0, .inr (4, [.ref q7, .null, .null, .null, .int 0, .int 0, .int 0, .int 0])), (q7, .inl (cI, 60, .inl ko_z)), (q15, .inl (cI, 60, .inl ko_z))] H := hP
  have hD : va_D A [(h0, .inr (4, [.ref q7, .null, .null, .null, .int 0, .int 0, .int 0, .int 0])), (q7, .inl (cI, 60, .inl ko_z)), (q15, .inl (cI, 60, .inl ko_z))] := hD
  refine co_cs (k := 2) (n := 120) rfl rfl ?_
  refine co_pc (pc' := 17) rfl ?_
  refine va_putF (D := D) (ci := 4) (v := .ref q15) (ty := .array .int) (C := kR4) (T := kT4) (N := 8) hx hb hts kjn4 kt4 kty4 knm4 hown hK hP hD hS 0 rfl rfl 1 (by decide) (hts _ kv_66) (fun _ h9 => h9) rfl hin rfl (by decide +kernel) rfl rfl (Nat.le_of_ble_eq_true rfl) dn_Fa_17 (fun H locs hP hD hS => ?_)
  have hP : va_P D kcl [(h0, .inr (4, [.ref q7, .ref q15, .null, .null, .int 0, .int 0, .int 0, .int 0])), (q7, .inl (cI, 60, .inl ko_z)), (q15, .inl (cI, 60, .inl ko_z))] H := hP
  have hD : va_D A [(h0, .inr (4, [.ref q7, .ref q15, .null, .null, .int 0, .int 0, .int 0, .int 0])), (q7, .inl (cI, 60, .inl ko_z)), (q15, .inl (cI, 60, .inl ko_z))] := hD
  refine lv_aload_n hx hb dn_Fa_20 rfl (lv_at hl 0 rfl) ?_
  refine lv_sipush (v := 720) hx hb dn_Fa_21 (by decide) ?_
  refine co_newI (N := 720) hx hb (hts _ kv_11) hK hP hD hS hA (by decide) (by decide) (by decide) (show 2 + 1 ≤ 4 from by decide) (show 120 + 720 ≤ 852 from by decide) dn_Fa_24 (fun q24 H hP hD hS => ?_)
  have hP : va_P D kcl [(h0, .inr (4, [.ref q7, .ref q15, .null, .null, .int 0, .int 0, .int 0, .int 0])), (q7, .inl (cI, 60, .inl ko_z)), (q15, .inl (cI, 60, .inl ko_z)), (q24, .inl (cI, 720, .inl ko_z))] H := hP
  have hD : va_D A [(h0, .inr (4, [.ref q7, .ref q15, .null, .null, .int 0, .int 0, .int 0, .int 0])), (q7, .inl (cI, 60, .inl ko_z)), (q15, .inl (cI, 60, .inl ko_z)), (q24, .inl (cI, 720, .inl ko_z))] := hD
  refine co_cs (k := 3) (n := 840) rfl rfl ?_
  refine va_putF (D := D) (ci := 4) (v := .ref q24) (ty := .array .int) (C := kR4) (T := kT4) (N := 8) hx hb hts kjn4 kt4 kty4 knm4 hown hK hP hD hS 0 rfl rfl 2 (by decide) (hts _ kv_67) (fun _ h9 => h9) rfl hin rfl (by decide +kernel) rfl rfl (Nat.le_of_ble_eq_true rfl) dn_Fa_26 (fun H locs hP hD hS => ?_)
  have hP : va_P D kcl [(h0, .inr (4, [.ref q7, .ref q15, .ref q24, .null, .int 0, .int 0, .int 0, .int 0])), (q7, .inl (cI, 60, .inl ko_z)), (q15, .inl (cI, 60, .inl ko_z)), (q24, .inl (cI, 720, .inl ko_z))] H := hP
  have hD : va_D A [(h0, .inr (4, [.ref q7, .ref q15, .ref q24, .null, .int 0, .int 0, .int 0, .int 0])), (q7, .inl (cI, 60, .inl ko_z)), (q15, .inl (cI, 60, .inl ko_z)), (q24, .inl (cI, 720, .inl ko_z))] := hD
  refine lv_aload_n hx hb dn_Fa_29 rfl (lv_at hl 0 rfl) ?_
  refine lv_bipush (v := 12) hx hb dn_Fa_30 (by decide) ?_
  refine co_newI (N := 12) hx hb (hts _ kv_11) hK hP hD hS hA (by decide) (by decide) (by decide) (show 3 + 1 ≤ 4 from by decide) (show 840 + 12 ≤ 852 from by decide) dn_Fa_32 (fun q32 H hP hD hS => ?_)
  have hP : va_P D kcl [(h0, .inr (4, [.ref q7, .ref q15, .ref q24, .null, .int 0, .int 0, .int 0, .int 0])), (q7, .inl (cI, 60, .inl ko_z)), (q15, .inl (cI, 60, .inl ko_z)), (q24, .inl (cI, 720, .inl ko_z)), (q32, .inl (cI, 12, .inl ko_z))] H := hP
  have hD : va_D A [(h0, .inr (4, [.ref q7, .ref q15, .ref q24, .null, .int 0, .int 0, .int 0, .int 0])), (q7, .inl (cI, 60, .inl ko_z)), (q15, .inl (cI, 60, .inl ko_z)), (q24, .inl (cI, 720, .inl ko_z)), (q32, .inl (cI, 12, .inl ko_z))] := hD
  refine co_cs (k := 4) (n := 852) rfl rfl ?_
  refine va_putF (D := D) (ci := 4) (v := .ref q32) (ty := .array .int) (C := kR4) (T := kT4) (N := 8) hx hb hts kjn4 kt4 kty4 knm4 hown hK hP hD hS 0 rfl rfl 3 (by decide) (hts _ kv_68) (fun _ h9 => h9) rfl hin rfl (by decide +kernel) rfl rfl (Nat.le_of_ble_eq_true rfl) dn_Fa_34 (fun H locs hP hD hS => ?_)
  have hP : va_P D kcl [(h0, .inr (4, [.ref q7, .ref q15, .ref q24, .ref q32, .int 0, .int 0, .int 0, .int 0])), (q7, .inl (cI, 60, .inl ko_z)), (q15, .inl (cI, 60, .inl ko_z)), (q24, .inl (cI, 720, .inl ko_z)), (q32, .inl (cI, 12, .inl ko_z))] H := hP
  have hD : va_D A [(h0, .inr (4, [.ref q7, .ref q15, .ref q24, .ref q32, .int 0, .int 0, .int 0, .int 0])), (q7, .inl (cI, 60, .inl ko_z)), (q15, .inl (cI, 60, .inl ko_z)), (q24, .inl (cI, 720, .inl ko_z)), (q32, .inl (cI, 12, .inl ko_z))] := hD
  have hP9 := hP.sub (ws' := [(h0, .inr (4, [.ref q7, .ref q15, .ref q24, .ref q32, .int 0, .int 0, .int 0, .int 0])), (q7, .inl (cI, 60, .inl ko_z)), (q15, .inl (cI, 60, .inl ko_z)), (q24, .inl (cI, 720, .inl ko_z)), (q32, .inl (cI, 12, .inl ko_z))]) [0, 1, 2, 3, 4] rfl
  have hD9 := hD.sub (ws' := [(h0, .inr (4, [.ref q7, .ref q15, .ref q24, .ref q32, .int 0, .int 0, .int 0, .int 0])), (q7, .inl (cI, 60, .inl ko_z)), (q15, .inl (cI, 60, .inl ko_z)), (q24, .inl (cI, 720, .inl ko_z)), (q32, .inl (cI, 12, .inl ko_z))]) [0, 1, 2, 3, 4] (by decide) rfl
  exact W.vret hx hb hr (fun t ht hW => ⟨⟨(kix 0 [q7, q15, q24, q32]), rfl, trivial, by rw [ht]; exact hP9, va_K.moved hW.alike hK, hD9⟩, hS.F ht⟩) hS.2.2 dn_Fa_37
set_option maxHeartbeats 4000000 in
set_option maxRecDepth 100000 in
theorem cq_Ch_1 (l : Launch) (D : va_G) (cI cZ : ClassId) (h0 g0 g1 sz : Nat) : Met l ⟨"SequentKernel$Change", "<init>", "(LSequentKernel$Types;LSequentKernel$Terms;)V"⟩ (Cond.code ⟨"SequentKernel$Change", "<init>", "(LSequentKernel$Types;LSequentKernel$Terms;)V"⟩ prog_2_method_1_code 3 none :: kwl) ({ frames := 1, cells := 2, slots := 5050, locals := 12 }) (va_Pc [.ref h0, .ref g0, .ref g1] (coB D cI cZ [(h0, .inr (5, [.null, .null, .null, .null, .int 0, .int 0, .int 0, .int 0]))] sz)) (va_Qv (fun _ : Nat → Nat => True) (coE D cI cZ (va_A [(h0, .inr (5, [.null, .null, .null, .null, .int 0, .int 0, .int 0, .int 0]))] sz) (fun u => [(h0, .inr (5, [.ref g0, .ref g1, .ref (u 0), .ref (u 1), .int 0, .int 0, .int 0, .int 0])), ((u 0), .inl (cI, 5000, .inl ko_z)), ((u 1), .inl (cI, 50, .inl ko_z))])) (va_A [(h0, .inr (5, [.null, .null, .null, .null, .int 0, .int 0, .int 0, .int 0]))] sz)) 2 5050 (va_A [(h0, .inr (5, [.null, .null, .null, .null, .int 0, .int 0, .int 0, .int 0]))] sz) := by
  refine Met.ofW (cc := prog_2_method_1_code) (maxL := 3) (ret := none) (by decide +kernel) rfl ?_
  intro p e s m args below meth c s₁ B hml hv
  obtain ⟨rfl, hsz, hP, hK, hD0⟩ := hv
  have hx := B.exec
  have hb := B.bytes
  have hr : meth.sig.returnType = none := B.returns
  have hts : ∀ w ∈ kwl, w.before ([.ref h0, .ref g0, .ref g1] : List Value).toArray s = true := fun w h => atoms_spec (ws := (Cond.code ⟨"SequentKernel$Change", "<init>", "(LSequentKernel$Types;LSequentKernel$Terms;)V"⟩ prog_2_method_1_code 3 none :: kwl)) B.pre w (List.mem_cons_of_mem _ h)
  have hown : s.vm.findClass kR5 = some m.cls := findClass_of_methodNamed B.named
  have hlocks := B.notSynchronized
  have hin : meth.name = "<init>" := (name_of_methodNamed B.named B.method).1
  subst hsz
  have hD := hD0.self (sz := s.heap.size)
  generalize hAe : va_A [(h0, .inr (5, [.null, .null, .null, .null, .int 0, .int 0, .int 0, .int 0]))] s.heap.size = A at hD ⊢
  have hA : ∀ q : Nat, s.heap.size ≤ q → A q := fun q h => by rw [← hAe]; exact Or.inr h
  have hS : va_S A s.heap s.heap [] := va_S.rf
  have hl := lv_entry ([.ref h0, .ref g0, .ref g1]) (n := 3) (Nat.le_of_ble_eq_true rfl)
  rw [lg_entry_eq]
  generalize (lg_sl ([.ref h0, .ref g0, .ref g1]) ++ List.replicate (3 - (lg_sl ([.ref h0, .ref g0, .ref g1])).length) Slot.unset).toArray = ls at hl ⊢
  have hl : lv_has ls 3 [(0, .ref h0), (1, .ref g0), (2, .ref g1)] := hl
  refine lv_aload_n hx hb dn_Ch_0 rfl (lv_at hl 0 rfl) ?_
  refine W.objInit hx hb hown (hts _ kv_75) (hts _ kv_1) (hts _ kv_2) rfl (by rw [hml]; exact hl.1) rfl dn_Ch_1 (Nat.le_of_ble_eq_true rfl) (Nat.le_of_ble_eq_true rfl) ?_
  refine W.eq (g2 := F0 m 4 ls []) rfl ?_
  refine lv_aload_n hx hb dn_Ch_4 rfl (lv_at hl 0 rfl) ?_
  refine lv_sipush (v := 5000) hx hb dn_Ch_5 (by decide) ?_
  refine co_newI (N := 5000) hx hb (hts _ kv_11) hK hP hD hS hA (by decide) (by decide) (by decide) (show 0 + 1 ≤ 2 from by decide) (show 0 + 5000 ≤ 5050 from by decide) dn_Ch_8 (fun q8 H hP hD hS => ?_)
  have hP : va_P D kcl [(h0, .inr (5, [.null, .null, .null, .null, .int 0, .int 0, .int 0, .int 0])), (q8, .inl (cI, 5000, .inl ko_z))] H := hP
  have hD : va_D A [(h0, .inr (5, [.null, .null, .null, .null, .int 0, .int 0, .int 0, .int 0])), (q8, .inl (cI, 5000, .inl ko_z))] := hD
  refine co_cs (k := 1) (n := 5000) rfl rfl ?_
  refine va_putF (D := D) (ci := 5) (v := .ref q8) (ty := .array .int) (C := kR5) (T := kT5) (N := 8) hx hb hts kjn5 kt5 kty5 knm5 hown hK hP hD hS 0 rfl rfl 2 (by decide) (hts _ kv_76) (fun _ h9 => h9) rfl hin rfl (by decide +kernel) rfl rfl (Nat.le_of_ble_eq_true rfl) dn_Ch_10 (fun H locs hP hD hS => ?_)
  have hP : va_P D kcl [(h0, .inr (5, [.null, .null, .ref q8, .null, .int 0, .int 0, .int 0, .int 0])), (q8, .inl (cI, 5000, .inl ko_z))] H := hP
  have hD : va_D A [(h0, .inr (5, [.null, .null, .ref q8, .null, .int 0, .int 0, .int 0, .int 0])), (q8, .inl (cI, 5000, .inl ko_z))] := hD
  refine lv_aload_n hx hb dn_Ch_13 rfl (lv_at hl 0 rfl) ?_
  refine lv_bipush (v := 50) hx hb dn_Ch_14 (by decide) ?_
  refine co_newI (N := 50) hx hb (hts _ kv_11) hK hP hD hS hA (by decide) (by decide) (by decide) (show 1 + 1 ≤ 2 from by decide) (show 5000 + 50 ≤ 5050 from by decide) dn_Ch_16 (fun q16 H hP hD hS => ?_)
  have hP : va_P D kcl [(h0, .inr (5, [.null, .null, .ref q8, .null, .int 0, .int 0, .int 0, .int 0])), (q8, .inl (cI, 5000, .inl ko_z)), (q16, .inl (cI, 50, .inl ko_z))] H := hP
  have hD : va_D A [(h0, .inr (5, [.null, .null, .ref q8, .null, .int 0, .int 0, .int 0, .int 0])), (q8, .inl (cI, 5000, .inl ko_z)), (q16, .inl (cI, 50, .inl ko_z))] := hD
  refine co_cs (k := 2) (n := 5050) rfl rfl ?_
  refine co_pc (pc' := 18) rfl ?_
  refine va_putF (D := D) (ci := 5) (v := .ref q16) (ty := .array .int) (C := kR5) (T := kT5) (N := 8) hx hb hts kjn5 kt5 kty5 knm5 hown hK hP hD hS 0 rfl rfl 3 (by decide) (hts _ kv_77) (fun _ h9 => h9) rfl hin rfl (by decide +kernel) rfl rfl (Nat.le_of_ble_eq_true rfl) dn_Ch_18 (fun H locs hP hD hS => ?_)
  have hP : va_P D kcl [(h0, .inr (5, [.null, .null, .ref q8, .ref q16, .int 0, .int 0, .int 0, .int 0])), (q8, .inl (cI, 5000, .inl ko_z)), (q16, .inl (cI, 50, .inl ko_z))] H := hP
  have hD : va_D A [(h0, .inr (5, [.null, .null, .ref q8, .ref q16, .int 0, .int 0, .int 0, .int 0])), (q8, .inl (cI, 5000, .inl ko_z)), (q16, .inl (cI, 50, .inl ko_z))] := hD
  refine lv_aload_n hx hb dn_Ch_21 rfl (lv_at hl 0 rfl) ?_
  refine lv_aload_n hx hb dn_Ch_22 rfl (lv_at hl 1 rfl) ?_
  refine va_putF (D := D) (ci := 5) (v := .ref g0) (ty := .object "SequentKernel$Types") (C := kR5) (T := kT5) (N := 8) hx hb hts kjn5 kt5 kty5 knm5 hown hK hP hD hS 0 rfl rfl 0 (by decide) (hts _ kv_78) (fun _ h9 => h9) rfl hin rfl (by decide +kernel) rfl rfl (Nat.le_of_ble_eq_true rfl) dn_Ch_23 (fun H locs hP hD hS => ?_)
  have hP : va_P D kcl [(h0, .inr (5, [.ref g0, .null, .ref q8, .ref q16, .int 0, .int 0, .int 0, .int 0])), (q8, .inl (cI, 5000, .inl ko_z)), (q16, .inl (cI, 50, .inl ko_z))] H := hP
  have hD : va_D A [(h0, .inr (5, [.ref g0, .null, .ref q8, .ref q16, .int 0, .int 0, .int 0, .int 0])), (q8, .inl (cI, 5000, .inl ko_z)), (q16, .inl (cI, 50, .inl ko_z))] := hD
  refine lv_aload_n hx hb dn_Ch_26 rfl (lv_at hl 0 rfl) ?_
  refine lv_aload_n hx hb dn_Ch_27 rfl (lv_at hl 2 rfl) ?_
  refine va_putF (D := D) (ci := 5) (v := .ref g1) (ty := .object "SequentKernel$Terms") (C := kR5) (T := kT5) (N := 8) hx hb hts kjn5 kt5 kty5 knm5 hown hK hP hD hS 0 rfl rfl 1 (by decide) (hts _ kv_79) (fun _ h9 => h9) rfl hin rfl (by decide +kernel) rfl rfl (Nat.le_of_ble_eq_true rfl) dn_Ch_28 (fun H locs hP hD hS => ?_)
  have hP : va_P D kcl [(h0, .inr (5, [.ref g0, .ref g1, .ref q8, .ref q16, .int 0, .int 0, .int 0, .int 0])), (q8, .inl (cI, 5000, .inl ko_z)), (q16, .inl (cI, 50, .inl ko_z))] H := hP
  have hD : va_D A [(h0, .inr (5, [.ref g0, .ref g1, .ref q8, .ref q16, .int 0, .int 0, .int 0, .int 0])), (q8, .inl (cI, 5000, .inl ko_z)), (q16, .inl (cI, 50, .inl ko_z))] := hD
  have hP9 := hP.sub (ws' := [(h0, .inr (5, [.ref g0, .ref g1, .ref q8, .ref q16, .int 0, .int 0, .int 0, .int 0])), (q8, .inl (cI, 5000, .inl ko_z)), (q16, .inl (cI, 50, .inl ko_z))]) [0, 1, 2] rfl
  have hD9 := hD.sub (ws' := [(h0, .inr (5, [.ref g0, .ref g1, .ref q8, .ref q16, .int 0, .int 0, .int 0, .int 0])), (q8, .inl (cI, 5000, .inl ko_z)), (q16, .inl (cI, 50, .inl ko_z))]) [0, 1, 2] (by decide) rfl
  exact W.vret hx hb hr (fun t ht hW => ⟨⟨(kix 0 [q8, q16]), rfl, trivial, by rw [ht]; exact hP9, va_K.moved hW.alike hK, hD9⟩, hS.F ht⟩) hS.2.2 dn_Ch_31
set_option maxHeartbeats 4000000 in
set_option maxRecDepth 100000 in
theorem cq_Ru_1 (l : Launch) (D : va_G) (cI cZ : ClassId) (h0 g0 g1 g2 g3 sz : Nat) : Met l ⟨"SequentKernel$Rules", "<init>", "(LSequentKernel$Types;LSequentKernel$Terms;LSequentKernel$Facts;LSequentKernel$Change;)V"⟩ (Cond.code ⟨"SequentKernel$Rules", "<init>", "(LSequentKernel$Types;LSequentKernel$Terms;LSequentKernel$Facts;LSequentKernel$Change;)V"⟩ prog_5_method_1_code 5 none :: kwl) ({ frames := 1, cells := 0, slots := 0, locals := 12 }) (va_Pc [.ref h0, .ref g0, .ref g1, .ref g2, .ref g3] (coB D cI cZ [(h0, .inr (6, [.null, .null, .null, .null, .int 0, .int 0]))] sz)) (va_Qv (fun _ : Nat → Nat => True) (coE D cI cZ (va_A [(h0, .inr (6, [.null, .null, .null, .null, .int 0, .int 0]))] sz) (fun u => [(h0, .inr (6, [.ref g0, .ref g1, .ref g2, .ref g3, .int 0, .int 0]))])) (va_A [(h0, .inr (6, [.null, .null, .null, .null, .int 0, .int 0]))] sz)) 0 0 (va_A [(h0, .inr (6, [.null, .null, .null, .null, .int 0, .int 0]))] sz) := by
  refine Met.ofW (cc := prog_5_method_1_code) (maxL := 5) (ret := none) (by decide +kernel) rfl ?_
  intro p e s m args below meth c s₁ B hml hv
  obtain ⟨rfl, hsz, hP, hK, hD0⟩ := hv
  have hx := B.exec
  have hb := B.bytes
  have hr : meth.sig.returnType = none := B.returns
  have hts : ∀ w ∈ kwl, w.before ([.ref h0, .ref g0, .ref g1, .ref g2, .ref g3] : List Value).toArray s = true := fun w h => atoms_spec (ws := (Cond.code ⟨"SequentKernel$Rules", "<init>", "(LSequentKernel$Types;LSequentKernel$Terms;LSequentKernel$Facts;LSequentKernel$Change;)V"⟩ prog_5_method_1_code 5 none :: kwl)) B.pre w (List.mem_cons_of_mem _ h)
  have hown : s.vm.findClass kR6 = some m.cls := findClass_of_methodNamed B.named
  have hlocks := B.notSynchronized
  have hin : meth.name = "<init>" := (name_of_methodNamed B.named B.method).1
  subst hsz
  have hD := hD0.self (sz := s.heap.size)
  generalize hAe : va_A [(h0, .inr (6, [.null, .null, .null, .null, .int 0, .int 0]))] s.heap.size = A at hD ⊢
  have hA : ∀ q : Nat, s.heap.size ≤ q → A q := fun q h => by rw [← hAe]; exact Or.inr h
  have hS : va_S A s.heap s.heap [] := va_S.rf
  have hl := lv_entry ([.ref h0, .ref g0, .ref g1, .ref g2, .ref g3]) (n := 5) (Nat.le_of_ble_eq_true rfl)
  rw [lg_entry_eq]
  generalize (lg_sl ([.ref h0, .ref g0, .ref g1, .ref g2, .ref g3]) ++ List.replicate (5 - (lg_sl ([.ref h0, .ref g0, .ref g1, .ref g2, .ref g3])).length) Slot.unset).toArray = ls at hl ⊢
  have hl : lv_has ls 5 [(0, .ref h0), (1, .ref g0), (2, .ref g1), (3, .ref g2), (4, .ref g3)] := hl
  refine lv_aload_n hx hb dn_Ru_0 rfl (lv_at hl 0 rfl) ?_
  refine W.objInit hx hb hown (hts _ kv_87) (hts _ kv_1) (hts _ kv_2) rfl (by rw [hml]; exact hl.1) rfl dn_Ru_1 (Nat.le_of_ble_eq_true rfl) (Nat.le_of_ble_eq_true rfl) ?_
  refine W.eq (g2 := F0 m 4 ls []) rfl ?_
  refine lv_aload_n hx hb dn_Ru_4 rfl (lv_at hl 0 rfl) ?_
  refine lv_aload_n hx hb dn_Ru_5 rfl (lv_at hl 1 rfl) ?_
  refine va_putF (D := D) (ci := 6) (v := .ref g0) (ty := .object "SequentKernel$Types") (C := kR6) (T := kT6) (N := 6) hx hb hts kjn6 kt6 kty6 knm6 hown hK hP hD hS 0 rfl rfl 0 (by decide) (hts _ kv_88) (fun _ h9 => h9) rfl hin rfl (by decide +kernel) rfl rfl (Nat.le_of_ble_eq_true rfl) dn_Ru_6 (fun H locs hP hD hS => ?_)
  have hP : va_P D kcl [(h0, .inr (6, [.ref g0, .null, .null, .null, .int 0, .int 0]))] H := hP
  have hD : va_D A [(h0, .inr (6, [.ref g0, .null, .null, .null, .int 0, .int 0]))] := hD
  refine lv_aload_n hx hb dn_Ru_9 rfl (lv_at hl 0 rfl) ?_
  refine lv_aload_n hx hb dn_Ru_10 rfl (lv_at hl 2 rfl) ?_
  refine va_putF (D := D) (ci := 6) (v := .ref g1) (ty := .object "SequentKernel$Terms") (C := kR6) (T := kT6) (N := 6) hx hb hts kjn6 kt6 kty6 knm6 hown hK hP hD hS 0 rfl rfl 1 (by decide) (hts _ kv_89) (fun _ h9 => h9) rfl hin rfl (by decide +kernel) rfl rfl (Nat.le_of_ble_eq_true rfl) dn_Ru_11 (fun H locs hP hD hS => ?_)
  have hP : va_P D kcl [(h0, .inr (6, [.ref g0, .ref g1, .null, .null, .int 0, .int 0]))] H := hP
  have hD : va_D A [(h0, .inr (6, [.ref g0, .ref g1, .null, .null, .int 0, .int 0]))] := hD
  refine lv_aload_n hx hb dn_Ru_14 rfl (lv_at hl 0 rfl) ?_
  refine co_pc (pc' := 15) rfl ?_
  refine lv_aload_n hx hb dn_Ru_15 rfl (lv_at hl 3 rfl) ?_
  refine va_putF (D := D) (ci := 6) (v := .ref g2) (ty := .object "SequentKernel$Facts") (C := kR6) (T := kT6) (N := 6) hx hb hts kjn6 kt6 kty6 knm6 hown hK hP hD hS 0 rfl rfl 2 (by decide) (hts _ kv_90) (fun _ h9 => h9) rfl hin rfl (by decide +kernel) rfl rfl (Nat.le_of_ble_eq_true rfl) dn_Ru_16 (fun H locs hP hD hS => ?_)
  have hP : va_P D kcl [(h0, .inr (6, [.ref g0, .ref g1, .ref g2, .null, .int 0, .int 0]))] H := hP
  have hD : va_D A [(h0, .inr (6, [.ref g0, .ref g1, .ref g2, .null, .int 0, .int 0]))] := hD
  refine lv_aload_n hx hb dn_Ru_19 rfl (lv_at hl 0 rfl) ?_
  refine lv_aload hx hb dn_Ru_20 (lv_at hl 4 rfl) ?_
  refine va_putF (D := D) (ci := 6) (v := .ref g3) (ty := .object "SequentKernel$Change") (C := kR6) (T := kT6) (N := 6) hx hb hts kjn6 kt6 kty6 knm6 hown hK hP hD hS 0 rfl rfl 3 (by decide) (hts _ kv_91) (fun _ h9 => h9) rfl hin rfl (by decide +kernel) rfl rfl (Nat.le_of_ble_eq_true rfl) dn_Ru_22 (fun H locs hP hD hS => ?_)
  have hP : va_P D kcl [(h0, .inr (6, [.ref g0, .ref g1, .ref g2, .ref g3, .int 0, .int 0]))] H := hP
  have hD : va_D A [(h0, .inr (6, [.ref g0, .ref g1, .ref g2, .ref g3, .int 0, .int 0]))] := hD
  have hP9 := hP.sub (ws' := [(h0, .inr (6, [.ref g0, .ref g1, .ref g2, .ref g3, .int 0, .int 0]))]) [0] rfl
  have hD9 := hD.sub (ws' := [(h0, .inr (6, [.ref g0, .ref g1, .ref g2, .ref g3, .int 0, .int 0]))]) [0] (by decide) rfl
  exact W.vret hx hb hr (fun t ht hW => ⟨⟨(kix 0 []), rfl, trivial, by rw [ht]; exact hP9, va_K.moved hW.alike hK, hD9⟩, hS.F ht⟩) hS.2.2 dn_Ru_25
set_option maxHeartbeats 4000000 in
set_option maxRecDepth 100000 in
theorem cq_Tr_1 (l : Launch) (D : va_G) (cI cZ : ClassId) (h0 sz : Nat) : Met l ⟨"SequentKernel$Trace", "<init>", "()V"⟩ (Cond.code ⟨"SequentKernel$Trace", "<init>", "()V"⟩ prog_7_method_1_code 1 none :: kwl) ({ frames := 1, cells := 4, slots := 48, locals := 12 }) (va_Pc [.ref h0] (coB D cI cZ [(h0, .inr (7, [.null, .null, .null, .null, .int 0]))] sz)) (va_Qv (fun _ : Nat → Nat => True) (coE D cI cZ (va_A [(h0, .inr (7, [.null, .null, .null, .null, .int 0]))] sz) (fun u => [(h0, .inr (7, [.ref (u 0), .ref (u 1), .ref (u 2), .ref (u 3), .int 0])), ((u 0), .inl (cI, 12, .inl ko_z)), ((u 1), .inl (cI, 12, .inl ko_z)), ((u 2), .inl (cI, 12, .inl ko_z)), ((u 3), .inl (cI, 12, .inl ko_z))])) (va_A [(h0, .inr (7, [.null, .null, .null, .null, .int 0]))] sz)) 4 48 (va_A [(h0, .inr (7, [.null, .null, .null, .null, .int 0]))] sz) := by
  refine Met.ofW (cc := prog_7_method_1_code) (maxL := 1) (ret := none) (by decide +kernel) rfl ?_
  intro p e s m args below meth c s₁ B hml hv
  obtain ⟨rfl, hsz, hP, hK, hD0⟩ := hv
  have hx := B.exec
  have hb := B.bytes
  have hr : meth.sig.returnType = none := B.returns
  have hts : ∀ w ∈ kwl, w.before ([.ref h0] : List Value).toArray s = true := fun w h => atoms_spec (ws := (Cond.code ⟨"SequentKernel$Trace", "<init>", "()V"⟩ prog_7_method_1_code 1 none :: kwl)) B.pre w (List.mem_cons_of_mem _ h)
  have hown : s.vm.findClass kR7 = some m.cls := findClass_of_methodNamed B.named
  have hlocks := B.notSynchronized
  have hin : meth.name = "<init>" := (name_of_methodNamed B.named B.method).1
  subst hsz
  have hD := hD0.self (sz := s.heap.size)
  generalize hAe : va_A [(h0, .inr (7, [.null, .null, .null, .null, .int 0]))] s.heap.size = A at hD ⊢
  have hA : ∀ q : Nat, s.heap.size ≤ q → A q := fun q h => by rw [← hAe]; exact Or.inr h
  have hS : va_S A s.heap s.heap [] := va_S.rf
  have hl := lv_entry ([.ref h0]) (n := 1) (Nat.le_of_ble_eq_true rfl)
  rw [lg_entry_eq]
  generalize (lg_sl ([.ref h0]) ++ List.replicate (1 - (lg_sl ([.ref h0])).length) Slot.unset).toArray = ls at hl ⊢
  have hl : lv_has ls 1 [(0, .ref h0)] := hl
  refine lv_aload_n hx hb dn_Tr_0 rfl (lv_at hl 0 rfl) ?_
  refine W.objInit hx hb hown (hts _ kv_99) (hts _ kv_1) (hts _ kv_2) rfl (by rw [hml]; exact hl.1) rfl dn_Tr_1 (Nat.le_of_ble_eq_true rfl) (Nat.le_of_ble_eq_true rfl) ?_
  refine W.eq (g2 := F0 m 4 ls []) rfl ?_
  refine lv_aload_n hx hb dn_Tr_4 rfl (lv_at hl 0 rfl) ?_
  refine lv_bipush (v := 12) hx hb dn_Tr_5 (by decide) ?_
  refine co_newI (N := 12) hx hb (hts _ kv_11) hK hP hD hS hA (by decide) (by decide) (by decide) (show 0 + 1 ≤ 4 from by decide) (show 0 + 12 ≤ 48 from by decide) dn_Tr_7 (fun q7 H hP hD hS => ?_)
  have hP : va_P D kcl [(h0, .inr (7, [.null, .null, .null, .null, .int 0])), (q7, .inl (cI, 12, .inl ko_z))] H := hP
  have hD : va_D A [(h0, .inr (7, [.null, .null, .null, .null, .int 0])), (q7, .inl (cI, 12, .inl ko_z))] := hD
  refine co_cs (k := 1) (n := 12) rfl rfl ?_
  refine va_putF (D := D) (ci := 7) (v := .ref q7) (ty := .array .int) (C := kR7) (T := kT7) (N := 5) hx hb hts kjn7 kt7 kty7 knm7 hown hK hP hD hS 0 rfl rfl 0 (by decide) (hts _ kv_100) (fun _ h9 => h9) rfl hin rfl (by decide +kernel) rfl rfl (Nat.le_of_ble_eq_true rfl) dn_Tr_9 (fun H locs hP hD hS => ?_)
  have hP : va_P D kcl [(h0, .inr (7, [.ref q7, .null, .null, .null, .int 0])), (q7, .inl (cI, 12, .inl ko_z))] H := hP
  have hD : va_D A [(h0, .inr (7, [.ref q7, .null, .null, .null, .int 0])), (q7, .inl (cI, 12, .inl ko_z))] := hD
  refine lv_aload_n hx hb dn_Tr_12 rfl (lv_at hl 0 rfl) ?_
  refine lv_bipush (v := 12) hx hb dn_Tr_13 (by decide) ?_
  refine co_newI (N := 12) hx hb (hts _ kv_11) hK hP hD hS hA (by decide) (by decide) (by decide) (show 1 + 1 ≤ 4 from by decide) (show 12 + 12 ≤ 48 from by decide) dn_Tr_15 (fun q15 H hP hD hS => ?_)
  have hP : va_P D kcl [(h0, .inr (7, [.ref q7, .null, .null, .null, .int 0])), (q7, .inl (cI, 12, .inl ko_z)), (q15, .inl (cI, 12, .inl ko_z))] H := hP
  have hD : va_D A [(h0, .inr (7, [.ref q7, .null, .null, .null, .int 0])), (q7, .inl (cI, 12, .inl ko_z)), (q15, .inl (cI, 12, .inl ko_z))] := hD
  refine co_cs (k := 2) (n := 24) rfl rfl ?_
  refine co_pc (pc' := 17) rfl ?_
  refine va_putF (D := D) (ci := 7) (v := .ref q15) (ty := .array .int) (C := kR7) (T := kT7) (N := 5) hx hb hts kjn7 kt7 kty7 knm7 hown hK hP hD hS 0 rfl rfl 1 (by decide) (hts _ kv_101) (fun _ h9 => h9) rfl hin rfl (by decide +kernel) rfl rfl (Nat.le_of_ble_eq_true rfl) dn_Tr_17 (fun H locs hP hD hS => ?_)
  have hP : va_P D kcl [(h0, .inr (7, [.ref q7, .ref q15, .null, .null, .int 0])), (q7, .inl (cI, 12, .inl ko_z)), (q15, .inl (cI, 12, .inl ko_z))] H := hP
  have hD : va_D A [(h0, .inr (7, [.ref q7, .ref q15, .null, .null, .int 0])), (q7, .inl (cI, 12, .inl ko_z)), (q15, .inl (cI, 12, .inl ko_z))] := hD
  refine lv_aload_n hx hb dn_Tr_20 rfl (lv_at hl 0 rfl) ?_
  refine lv_bipush (v := 12) hx hb dn_Tr_21 (by decide) ?_
  refine co_newI (N := 12) hx hb (hts _ kv_11) hK hP hD hS hA (by decide) (by decide) (by decide) (show 2 + 1 ≤ 4 from by decide) (show 24 + 12 ≤ 48 from by decide) dn_Tr_23 (fun q23 H hP hD hS => ?_)
  have hP : va_P D kcl [(h0, .inr (7, [.ref q7, .ref q15, .null, .null, .int 0])), (q7, .inl (cI, 12, .inl ko_z)), (q15, .inl (cI, 12, .inl ko_z)), (q23, .inl (cI, 12, .inl ko_z))] H := hP
  have hD : va_D A [(h0, .inr (7, [.ref q7, .ref q15, .null, .null, .int 0])), (q7, .inl (cI, 12, .inl ko_z)), (q15, .inl (cI, 12, .inl ko_z)), (q23, .inl (cI, 12, .inl ko_z))] := hD
  refine co_cs (k := 3) (n := 36) rfl rfl ?_
  refine va_putF (D := D) (ci := 7) (v := .ref q23) (ty := .array .int) (C := kR7) (T := kT7) (N := 5) hx hb hts kjn7 kt7 kty7 knm7 hown hK hP hD hS 0 rfl rfl 2 (by decide) (hts _ kv_102) (fun _ h9 => h9) rfl hin rfl (by decide +kernel) rfl rfl (Nat.le_of_ble_eq_true rfl) dn_Tr_25 (fun H locs hP hD hS => ?_)
  have hP : va_P D kcl [(h0, .inr (7, [.ref q7, .ref q15, .ref q23, .null, .int 0])), (q7, .inl (cI, 12, .inl ko_z)), (q15, .inl (cI, 12, .inl ko_z)), (q23, .inl (cI, 12, .inl ko_z))] H := hP
  have hD : va_D A [(h0, .inr (7, [.ref q7, .ref q15, .ref q23, .null, .int 0])), (q7, .inl (cI, 12, .inl ko_z)), (q15, .inl (cI, 12, .inl ko_z)), (q23, .inl (cI, 12, .inl ko_z))] := hD
  refine lv_aload_n hx hb dn_Tr_28 rfl (lv_at hl 0 rfl) ?_
  refine lv_bipush (v := 12) hx hb dn_Tr_29 (by decide) ?_
  refine co_newI (N := 12) hx hb (hts _ kv_11) hK hP hD hS hA (by decide) (by decide) (by decide) (show 3 + 1 ≤ 4 from by decide) (show 36 + 12 ≤ 48 from by decide) dn_Tr_31 (fun q31 H hP hD hS => ?_)
  have hP : va_P D kcl [(h0, .inr (7, [.ref q7, .ref q15, .ref q23, .null, .int 0])), (q7, .inl (cI, 12, .inl ko_z)), (q15, .inl (cI, 12, .inl ko_z)), (q23, .inl (cI, 12, .inl ko_z)), (q31, .inl (cI, 12, .inl ko_z))] H := hP
  have hD : va_D A [(h0, .inr (7, [.ref q7, .ref q15, .ref q23, .null, .int 0])), (q7, .inl (cI, 12, .inl ko_z)), (q15, .inl (cI, 12, .inl ko_z)), (q23, .inl (cI, 12, .inl ko_z)), (q31, .inl (cI, 12, .inl ko_z))] := hD
  refine co_cs (k := 4) (n := 48) rfl rfl ?_
  refine va_putF (D := D) (ci := 7) (v := .ref q31) (ty := .array .int) (C := kR7) (T := kT7) (N := 5) hx hb hts kjn7 kt7 kty7 knm7 hown hK hP hD hS 0 rfl rfl 3 (by decide) (hts _ kv_103) (fun _ h9 => h9) rfl hin rfl (by decide +kernel) rfl rfl (Nat.le_of_ble_eq_true rfl) dn_Tr_33 (fun H locs hP hD hS => ?_)
  have hP : va_P D kcl [(h0, .inr (7, [.ref q7, .ref q15, .ref q23, .ref q31, .int 0])), (q7, .inl (cI, 12, .inl ko_z)), (q15, .inl (cI, 12, .inl ko_z)), (q23, .inl (cI, 12, .inl ko_z)), (q31, .inl (cI, 12, .inl ko_z))] H := hP
  have hD : va_D A [(h0, .inr (7, [.ref q7, .ref q15, .ref q23, .ref q31, .int 0])), (q7, .inl (cI, 12, .inl ko_z)), (q15, .inl (cI, 12, .inl ko_z)), (q23, .inl (cI, 12, .inl ko_z)), (q31, .inl (cI, 12, .inl ko_z))] := hD
  have hP9 := hP.sub (ws' := [(h0, .inr (7, [.ref q7, .ref q15, .ref q23, .ref q31, .int 0])), (q7, .inl (cI, 12, .inl ko_z)), (q15, .inl (cI, 12, .inl ko_z)), (q23, .inl (cI, 12, .inl ko_z)), (q31, .inl (cI, 12, .inl ko_z))]) [0, 1, 2, 3, 4] rfl
  have hD9 := hD.sub (ws' := [(h0, .inr (7, [.ref q7, .ref q15, .ref q23, .ref q31, .int 0])), (q7, .inl (cI, 12, .inl ko_z)), (q15, .inl (cI, 12, .inl ko_z)), (q23, .inl (cI, 12, .inl ko_z)), (q31, .inl (cI, 12, .inl ko_z))]) [0, 1, 2, 3, 4] (by decide) rfl
  exact W.vret hx hb hr (fun t ht hW => ⟨⟨(kix 0 [q7, q15, q23, q31]), rfl, trivial, by rw [ht]; exact hP9, va_K.moved hW.alike hK, hD9⟩, hS.F ht⟩) hS.2.2 dn_Tr_36
