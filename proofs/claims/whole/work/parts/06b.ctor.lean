/-! ===== CONSTRUCTORS: worlds that grow ===== -/
theorem kgI {w0 : Cond} (h : w0 ∈ kwl) : GoodIn kwl (w0 :: kwl) := by
  intro w hw
  have hm : w ∈ kwl := by
    rcases List.mem_cons.mp hw with e | e
    · rw [e]; exact h
    · exact e
  exact ⟨hm, good_of_word (List.mem_filter.mp hm).2⟩
abbrev coB (D : va_G) (cI cZ : ClassId) (w : va_W) (sz : Nat) : State → Prop := fun U => U.heap.size = sz ∧ va_P D kcl w U.heap ∧ va_K D kcl (kTy cI cZ) U ∧ va_D (fun _ => True) w
abbrev coE (D : va_G) (cI cZ : ClassId) (A : Nat → Prop) (w : (Nat → Nat) → va_W) : (Nat → Nat) → State → Prop := fun u t => va_P D kcl (w u) t.heap ∧ va_K D kcl (kTy cI cZ) t ∧ va_D A (w u)
theorem co_blind {av : List Value} {D : va_G} {cI cZ : ClassId} {w : va_W} {sz : Nat} : FrameBlind (va_Pc av (coB D cI cZ w sz)) := fun a U g mk q => by
  obtain ⟨q0, q1, qP, qK, qD⟩ := q
  exact ⟨q0, q1, qP, va_K.moved (u := U) (U := U.calling g mk a) (Vm.Alike.refl U.vm) qK, qD⟩
section CO
variable {p : Program} {l : Launch} {e : Env} {R : Room} {s : State} {m : MethodId} {args : Array Value} {below : List Frame} {meth : Method} {c : Code} {H : Heap} {locs : List Loc} {cells slots : Nat} {Q : State → Prop}
variable {pc : Nat} {ls : Array Slot} {rest st0 : List Value} {D : va_G} {cI cZ : ClassId} {A : Nat → Prop} {cc : ByteArray} {w : va_W} {H0 : Heap} {mc ms : Nat}
theorem co_pre {av : List Value} {wc : va_W} (hK : va_K D kcl (kTy cI cZ) s) (hP : va_P D kcl w H) (hD : va_D A w) (isC : List Nat) (hC : isC.map (fun i => w[i]?) = wc.map some) (hn : va_nd isC = true) : PreS s H (va_Pc av (coB D cI cZ wc H.size)) av := by
  refine ⟨co_blind, fun U hU hW => ⟨rfl, by rw [hU], ?_, va_K.moved hW.alike hK, (hD.sub isC hn hC).weaken (fun _ _ _ _ => trivial)⟩⟩
  rw [hU]
  intro k q hk
  have h1 : (isC.map (fun i => w[i]?))[k]? = some (some q) := by rw [hC, List.getElem?_map, hk]; rfl
  rw [List.getElem?_map] at h1
  cases hi : isC[k]? with
  | none => rw [hi] at h1; cases h1
  | some i => rw [hi] at h1; exact hP i q (Option.some.inj h1)
/-- behind a call without an answer -/
theorem co_v {a : Array Value} {wc wr : va_W} {w1 : (Nat → Nat) → va_W} (hr : va_Run p l e R s m args below meth c H locs cells slots mc ms (F0 m pc ls st0) rest (va_Qv (fun _ : Nat → Nat => True) (coE D cI cZ (va_A wc H.size) w1) (va_A wc H.size) a) (va_A wc H.size)) (hP : va_P D kcl w H) (hD : va_D A w) (hS : va_S A H0 H locs) (hA : ∀ q, H0.size ≤ q → A q) (isC isR : List Nat) (hC : isC.map (fun i => w[i]?) = wc.map some) (hR : isR.map (fun i => w[i]?) = wr.map some) (hn : va_nd isR = true) (hdis : ∀ i ∈ isR, i ∉ isC)
    (kk : ∀ (u : Nat → Nat) (H1 : Heap) (locs1 : List Loc), va_P D kcl (wr ++ w1 u) H1 → va_D A (wr ++ w1 u) → va_S A H0 H1 locs1 → W p l e R s m args below meth c H1 locs1 (cells + mc) (slots + ms) Q (F0 m (pc + 3) ls rest)) : W p l e R s m args below meth c H locs cells slots Q (F0 m pc ls st0) := by
  have hFc := va_free (wc := wc) hD hS hA isC hC
  refine va_callv hr hS (fun q _ h => hFc q h) hFc (fun u t H1 locs1 ht hvm _ hB hz1 hk1 hS1 => ?_)
  obtain ⟨hP1, hK1, hD1⟩ := hB
  rw [ht] at hP1
  obtain ⟨hP2, hD2⟩ := va_join (wr := wr) (w1 := w1 u) hP hD isC isR hC hR hn hdis hk1 hFc hP1 hD1
  exact kk u H1 locs1 hP2 hD2 hS1
/-- behind a call with an answer -/
theorem co_i {a : Array Value} {wc wr : va_W} {v : Int32} {w1 : (Nat → Nat) → va_W} (hr : va_Run p l e R s m args below meth c H locs cells slots mc ms (F0 m pc ls st0) rest (va_Qi (fun (r : Int32) (_ : Nat → Nat) => r = v) (coE D cI cZ (va_A wc H.size) w1) (va_A wc H.size) a) (va_A wc H.size)) (hP : va_P D kcl w H) (hD : va_D A w) (hS : va_S A H0 H locs) (hA : ∀ q, H0.size ≤ q → A q) (isC isR : List Nat) (hC : isC.map (fun i => w[i]?) = wc.map some) (hR : isR.map (fun i => w[i]?) = wr.map some) (hn : va_nd isR = true) (hdis : ∀ i ∈ isR, i ∉ isC)
    (kk : ∀ (u : Nat → Nat) (H1 : Heap) (locs1 : List Loc), va_P D kcl (wr ++ w1 u) H1 → va_D A (wr ++ w1 u) → va_S A H0 H1 locs1 → W p l e R s m args below meth c H1 locs1 (cells + mc) (slots + ms) Q (F0 m (pc + 3) ls (.int v :: rest))) : W p l e R s m args below meth c H locs cells slots Q (F0 m pc ls st0) := by
  have hFc := va_free (wc := wc) hD hS hA isC hC
  refine va_calli hr hS (fun q _ h => hFc q h) hFc (fun r u t H1 locs1 ht hvm hrv hB hz1 hk1 hS1 => ?_)
  subst hrv
  obtain ⟨hP1, hK1, hD1⟩ := hB
  rw [ht] at hP1
  obtain ⟨hP2, hD2⟩ := va_join (wr := wr) (w1 := w1 u) hP hD isC isR hC hR hn hdis hk1 hFc hP1 hD1
  exact kk u H1 locs1 hP2 hD2 hS1
theorem co_newI (hexec : p.tables.exec = Jvm.exec) (hb : c.code = cc) (harr : (Cond.arrayClass .int).before args s = true) (hK : va_K D kcl (kTy cI cZ) s) (hP : va_P D kcl w H) (hD : va_D A w) (hS : va_S A H0 H locs) (hA : ∀ q, H0.size ≤ q → A q) {n : Int32} {N : Nat} (hn : ¬ n < 0) (hN : n.toNatClampNeg = N) (hbytes : N * 4 ≤ 536870912) (hcells : cells + 1 ≤ R.cells) (hslots : slots + N ≤ R.slots) (hdg : decode cc pc = .ok (.newarray .int, 2))
    (kk : ∀ (q : Nat) (H1 : Heap), va_P D kcl (w ++ [(q, .inl (cI, N, .inl ko_z))]) H1 → va_D A (w ++ [(q, .inl (cI, N, .inl ko_z))]) → va_S A H0 H1 locs → W p l e R s m args below meth c H1 locs (cells + 1) (slots + N) Q (F0 m (pc + 2) ls (.ref q :: rest))) : W p l e R s m args below meth c H locs cells slots Q (F0 m pc ls (.int n :: rest)) := by
  refine va_newa hexec hb (atype := .int) harr (ty := .int) rfl hK hP hD hS hA (a0 := (N, .inl ko_z)) (fun cA => rfl) hn hN hbytes hcells hslots hdg (fun q cA H1 hK1 hP1 hD1 hS1 => ?_)
  have h1 := va_nm_int (hK1.2 2 (cA, .int) rfl).2
  have h2 := va_nm_int (hK.2 0 (cI, .int) rfl).2
  have h3 : cA = cI := Option.some.inj (h1.symm.trans h2)
  subst h3
  exact kk q H1 hP1 hD1 hS1
theorem co_newZ (hexec : p.tables.exec = Jvm.exec) (hb : c.code = cc) (harr : (Cond.arrayClass .boolean).before args s = true) (hK : va_K D kcl (kTy cI cZ) s) (hP : va_P D kcl w H) (hD : va_D A w) (hS : va_S A H0 H locs) (hA : ∀ q, H0.size ≤ q → A q) {n : Int32} {N : Nat} (hn : ¬ n < 0) (hN : n.toNatClampNeg = N) (hbytes : N * 1 ≤ 536870912) (hcells : cells + 1 ≤ R.cells) (hslots : slots + N ≤ R.slots) (hdg : decode cc pc = .ok (.newarray .boolean, 2))
    (kk : ∀ (q : Nat) (H1 : Heap), va_P D kcl (w ++ [(q, .inl (cZ, N, .inl ko_z))]) H1 → va_D A (w ++ [(q, .inl (cZ, N, .inl ko_z))]) → va_S A H0 H1 locs → W p l e R s m args below meth c H1 locs (cells + 1) (slots + N) Q (F0 m (pc + 2) ls (.ref q :: rest))) : W p l e R s m args below meth c H locs cells slots Q (F0 m pc ls (.int n :: rest)) := by
  refine va_newa hexec hb (atype := .boolean) harr (ty := .boolean) rfl hK hP hD hS hA (a0 := (N, .inl ko_z)) (fun cA => rfl) hn hN hbytes hcells hslots hdg (fun q cA H1 hK1 hP1 hD1 hS1 => ?_)
  have h1 := va_nm_boolean (hK1.2 2 (cA, .boolean) rfl).2
  have h2 := va_nm_boolean (hK.2 1 (cZ, .boolean) rfl).2
  have h3 : cA = cZ := Option.some.inj (h1.symm.trans h2)
  subst h3
  exact kk q H1 hP1 hD1 hS1
theorem co_iald (hexec : p.tables.exec = Jvm.exec) (hb : c.code = cc) (hK : va_K D kcl (kTy cI cZ) s) (hP : va_P D kcl w H) (q0 : Nat) {a n : Nat} {f : Nat → Int32} (ha : w[q0]? = some (a, .inl (cI, n, .inl f))) {i v : Int32} (hin : vp_in i n) (hv : f i.toNatClampNeg = v) (hdg : decode cc pc = .ok (.iaload, 1))
    (kk : W p l e R s m args below meth c H locs cells slots Q (F0 m (pc + 1) ls (.int v :: rest))) : W p l e R s m args below meth c H locs cells slots Q (F0 m pc ls (.int i :: .ref a :: rest)) := by
  subst hv
  exact va_iald hexec hb hK hP q0 0 ha rfl hin hdg kk
theorem co_iast (hexec : p.tables.exec = Jvm.exec) (hb : c.code = cc) (hK : va_K D kcl (kTy cI cZ) s) (hP : va_P D kcl w H) (hD : va_D A w) (hS : va_S A H0 H locs) (q0 : Nat) {a n k : Nat} {f : Nat → Int32} (ha : w[q0]? = some (a, .inl (cI, n, .inl f))) {i x : Int32} (hin : vp_in i n) (hk : i.toNatClampNeg = k) (hdg : decode cc pc = .ok (.iastore, 1))
    (kk : ∀ (H1 : Heap) (locs1 : List Loc), va_P D kcl (w.set q0 (a, .inl (cI, n, .inl (upd f k x)))) H1 → va_D A (w.set q0 (a, .inl (cI, n, .inl (upd f k x)))) → va_S A H0 H1 locs1 → W p l e R s m args below meth c H1 locs1 cells slots Q (F0 m (pc + 1) ls rest)) : W p l e R s m args below meth c H locs cells slots Q (F0 m pc ls (.int x :: .int i :: .ref a :: rest)) := by
  subst hk
  exact va_iast hexec hb hK hP hD hS q0 0 ha rfl hin hdg kk
theorem co_zast (hexec : p.tables.exec = Jvm.exec) (hb : c.code = cc) (hK : va_K D kcl (kTy cI cZ) s) (hP : va_P D kcl w H) (hD : va_D A w) (hS : va_S A H0 H locs) (q0 : Nat) {a n k : Nat} {f : Nat → Int32} (ha : w[q0]? = some (a, .inl (cZ, n, .inl f))) {i x y : Int32} (hin : vp_in i n) (hk : i.toNatClampNeg = k) (hy : vp_nar .boolean x = y) (hdg : decode cc pc = .ok (.bastore, 1))
    (kk : ∀ (H1 : Heap) (locs1 : List Loc), va_P D kcl (w.set q0 (a, .inl (cZ, n, .inl (upd f k y)))) H1 → va_D A (w.set q0 (a, .inl (cZ, n, .inl (upd f k y)))) → va_S A H0 H1 locs1 → W p l e R s m args below meth c H1 locs1 cells slots Q (F0 m (pc + 1) ls rest)) : W p l e R s m args below meth c H locs cells slots Q (F0 m pc ls (.int x :: .int i :: .ref a :: rest)) := by
  subst hk
  subst hy
  exact va_zast hexec hb hK hP hD hS q0 1 ha rfl hin hdg kk
theorem co_top {x v : Int32} (h : x = v) (kk : W p l e R s m args below meth c H locs cells slots Q (F0 m pc ls (.int v :: rest))) : W p l e R s m args below meth c H locs cells slots Q (F0 m pc ls (.int x :: rest)) := by
  subst h
  exact kk
theorem co_cs {k n : Nat} {g : JFrame} (h1 : cells = k) (h2 : slots = n) (kk : W p l e R s m args below meth c H locs k n Q g) : W p l e R s m args below meth c H locs cells slots Q g := by
  subst h1
  subst h2
  exact kk
theorem co_pc {pc' : Nat} (h : pc = pc') (kk : W p l e R s m args below meth c H locs cells slots Q (F0 m pc' ls rest)) : W p l e R s m args below meth c H locs cells slots Q (F0 m pc ls rest) := by
  subst h
  exact kk
end CO
theorem ko_f0 {v : Int32} {f : Nat → Int32} : ko_f 0 v f = f := funext fun j => if_neg (Nat.not_lt_zero j)
theorem ko_fs {k : Nat} {v : Int32} {f : Nat → Int32} : upd (ko_f k v f) k v = ko_f (k + 1) v f := by
  funext j
  show (if j = k then v else if j < k then v else f j) = if j < k + 1 then v else f j
  by_cases h1 : j = k
  · rw [if_pos h1, if_pos (by omega)]
  · by_cases h2 : j < k
    · rw [if_neg h1, if_pos h2, if_pos (by omega)]
    · rw [if_neg h1, if_neg h2, if_neg (by omega)]
