/-! ===== SOUNDNESS: the pure machine over the bytecode ===== -/
def kvv (ad : Nat → Nat) (v : kV) : Value := match v with
  | .inl x => .int x
  | .inr o => .ref (ad o)
theorem kvv_cat (ad : Nat → Nat) (v : kV) : (kvv ad v).category = 1 := by cases v <;> rfl
def klv (ad : Nat → Nat) (lo : kL) : List (Nat × Value) := lo.zipIdx.filterMap (fun q => q.1.map (fun v => (q.2, kvv ad v)))
theorem klv_mem {ad : Nat → Nat} {lo : kL} {i : Nat} {w : Value} : (i, w) ∈ klv ad lo ↔ ∃ v, lo[i]? = some (some v) ∧ kvv ad v = w := by
  unfold klv
  rw [List.mem_filterMap]
  constructor
  · rintro ⟨⟨o, j⟩, h1, h2⟩
    have h3 := List.mk_mem_zipIdx_iff_getElem?.mp h1
    cases o with
    | none => simp at h2
    | some v =>
      simp at h2
      obtain ⟨h4, h5⟩ := h2
      subst h4
      exact ⟨v, h3, h5⟩
  · rintro ⟨v, h1, rfl⟩
    exact ⟨(some v, i), List.mk_mem_zipIdx_iff_getElem?.mpr h1, rfl⟩
theorem klv_rd {ad : Nat → Nat} {lo : kL} {i n : Nat} {v : kV} {ls : Array Slot} (h : lv_has ls n (klv ad lo)) (hv : lo[i]? = some (some v)) : ls[i]? = some (.val (kvv ad v)) := h.2.2 (i, _) (klv_mem.mpr ⟨v, hv, rfl⟩)
theorem klv_set {ad : Nat → Nat} {lo : kL} {i n : Nat} {v : kV} {ls : Array Slot} (h : lv_has ls n ((i, kvv ad v) :: (klv ad lo).filter (fun q => !(q.1 == i) && !(q.1 + 1 == i && q.2.category == 2)))) : lv_has ls n (klv ad (lo.set i (some v))) := by
  refine ⟨h.1, h.2.1, fun q hq => ?_⟩
  obtain ⟨j, w⟩ := q
  obtain ⟨u, h1, rfl⟩ := klv_mem.mp hq
  rw [List.getElem?_set] at h1
  by_cases hij : i = j
  · subst hij
    rw [if_pos rfl] at h1
    split at h1
    · cases h1
      exact h.2.2 _ List.mem_cons_self
    · cases h1
  · rw [if_neg hij] at h1
    refine h.2.2 _ (List.mem_cons_of_mem _ (List.mem_filter.mpr ⟨klv_mem.mpr ⟨u, h1, rfl⟩, ?_⟩))
    have h9 : (j == i) = false := by simp; exact fun e => hij e.symm
    simp [h9, kvv_cat]
/-- a cell's fields, and the world -/
def kfv (ad : Nat → Nat) (S : kS) (o j : Nat) (f : Option Nat) : Value := match f with
  | none => Value.int (S o j)
  | some o' => Value.ref (ad o')
def kfs (ad : Nat → Nat) (S : kS) (o : Nat) (fs : List (Option Nat)) : List Value := fs.zipIdx.map (fun q => kfv ad S o q.2 q.1)
def kce (cI cZ : ClassId) (ad : Nat → Nat) (S : kS) (o : Nat) (d : (Nat × Nat) ⊕ (Nat × List (Option Nat))) : va_E := match d with
  | .inl q => .inl (bif Nat.beq q.1 0 then cI else cZ, q.2, .inl (S o))
  | .inr q => .inr (q.1, kfs ad S o q.2)
def kw (cI cZ : ClassId) (ad : Nat → Nat) (S : kS) : va_W := kD.zipIdx.map (fun q => (ad q.2, kce cI cZ ad S q.2 q.1))
theorem kw_at {cI cZ : ClassId} {ad : Nat → Nat} {S : kS} {o : Nat} {d : (Nat × Nat) ⊕ (Nat × List (Option Nat))} (h : kD[o]? = some d) : (kw cI cZ ad S)[o]? = some (ad o, kce cI cZ ad S o d) := by
  unfold kw
  rw [List.getElem?_map, List.getElem?_zipIdx, h]
  simp
theorem kw_no {cI cZ : ClassId} {ad : Nat → Nat} {S : kS} {o : Nat} (h : kD[o]? = none) : (kw cI cZ ad S)[o]? = none := by
  unfold kw
  rw [List.getElem?_map, List.getElem?_zipIdx, h]
  simp
theorem kw_inv {cI cZ : ClassId} {ad : Nat → Nat} {S : kS} {o : Nat} {q : Nat × va_E} (h : (kw cI cZ ad S)[o]? = some q) : ∃ d, kD[o]? = some d ∧ q = (ad o, kce cI cZ ad S o d) := by
  cases hd : kD[o]? with
  | none => rw [kw_no hd] at h; cases h
  | some d => rw [kw_at hd] at h; exact ⟨d, rfl, (Option.some.inj h).symm⟩
theorem kce_congr {cI cZ : ClassId} {ad : Nat → Nat} {S S' : kS} {o : Nat} {d : (Nat × Nat) ⊕ (Nat × List (Option Nat))} (h : S o = S' o) : kce cI cZ ad S o d = kce cI cZ ad S' o d := by
  unfold kce kfs kfv
  rw [h]
theorem kw_set {cI cZ : ClassId} {ad : Nat → Nat} {S S' : kS} {o : Nat} {d : (Nat × Nat) ⊕ (Nat × List (Option Nat))} {E : va_E} (h : kD[o]? = some d) (hE : kce cI cZ ad S' o d = E) (ho : ∀ j, j ≠ o → S' j = S j) : (kw cI cZ ad S).set o (ad o, E) = kw cI cZ ad S' := by
  apply List.ext_getElem?
  intro j
  rw [List.getElem?_set]
  by_cases hj : o = j
  · subst hj
    have hlt : o < (kw cI cZ ad S).length := (List.getElem?_eq_some_iff.mp (kw_at h)).1
    rw [if_pos rfl, if_pos hlt, kw_at h, hE]
  · rw [if_neg hj]
    cases hd : kD[j]? with
    | none => rw [kw_no hd, kw_no hd]
    | some d => rw [kw_at hd, kw_at hd, kce_congr (ho j (fun e => hj e.symm))]
theorem kfs_at {ad : Nat → Nat} {S : kS} {o j : Nat} {fs : List (Option Nat)} {f : Option Nat} (h : fs[j]? = some f) : (kfs ad S o fs)[j]? = some (kfv ad S o j f) := by
  unfold kfs
  rw [List.getElem?_map, List.getElem?_zipIdx, h]
  simp
theorem kfs_len {ad : Nat → Nat} {S : kS} {o : Nat} {fs : List (Option Nat)} : (kfs ad S o fs).length = fs.length := by
  unfold kfs
  simp
theorem kfs_set {ad : Nat → Nat} {S : kS} {o j : Nat} {x : Int32} {fs : List (Option Nat)} (h : fs[j]? = some none) : kfs ad (ku S o j x) o fs = (kfs ad S o fs).set j (.int x) := by
  apply List.ext_getElem?
  intro k
  rw [List.getElem?_set]
  by_cases hj : j = k
  · subst hj
    have hlt : j < (kfs ad S o fs).length := by rw [kfs_len]; exact (List.getElem?_eq_some_iff.mp h).1
    rw [if_pos rfl, if_pos hlt, kfs_at h]
    show some (Value.int (ku S o j x o j)) = _
    rw [ku_self]
  · rw [if_neg hj]
    cases hf : fs[k]? with
    | none =>
      have hk : fs.length ≤ k := List.getElem?_eq_none_iff.mp hf
      rw [List.getElem?_eq_none (by rw [kfs_len]; exact hk), List.getElem?_eq_none (by rw [kfs_len]; exact hk)]
    | some f =>
      rw [kfs_at hf, kfs_at hf]
      cases f with
      | none =>
        show some (Value.int (ku S o j x o k)) = some (Value.int (S o k))
        rw [ku_i (fun e => hj e.symm)]
      | some _ => rfl
def kA (ad : Nat → Nat) : Nat → Prop := fun q => ∃ o, o < kD.length ∧ ad o = q
def kInj (ad : Nat → Nat) : Prop := ∀ i j, i < kD.length → j < kD.length → ad i = ad j → i = j
theorem kw_D {cI cZ : ClassId} {ad : Nat → Nat} {S : kS} (h : kInj ad) : va_D (kA ad) (kw cI cZ ad S) := by
  refine ⟨fun i j p q hi hj e => ?_, fun k q hk => ?_⟩
  · obtain ⟨d1, h1, rfl⟩ := kw_inv hi
    obtain ⟨d2, h2, rfl⟩ := kw_inv hj
    exact h i j (List.getElem?_eq_some_iff.mp h1).1 (List.getElem?_eq_some_iff.mp h2).1 e
  · obtain ⟨d1, h1, rfl⟩ := kw_inv hk
    exact ⟨k, (List.getElem?_eq_some_iff.mp h1).1, rfl⟩
abbrev kTy (cI cZ : ClassId) : List (ClassId × FieldType) := [(cI, .int), (cZ, .boolean)]
def kB (D : va_G) (cI cZ : ClassId) (ad : Nat → Nat) (S : kS) (U : State) : Prop := va_P D kcl (kw cI cZ ad S) U.heap ∧ va_K D kcl (kTy cI cZ) U
def krm (d : Nat) : Room := { frames := d, cells := 0, slots := 0, locals := 40 * d }
/-- the words that stay whatever is called -/
def kwl : List Cond := lw_tbl.filter goodWord
theorem kwl_in {w : Cond} (h : w ∈ lw_tbl) (g : goodWord w = true) : w ∈ kwl := List.mem_filter.mpr ⟨h, g⟩
def kws (μ : Nat) : List Cond := Cond.code (ky μ) (kby μ) (kmx μ) (krt μ) :: kwl
def kQc (D : va_G) (cI cZ : ClassId) (ad : Nat → Nat) (μ : Nat) (Q : kP) : Array Value → State → Outcome → State → Prop := match krt μ with
  | none => va_Qv (fun S' => Q none S') (kB D cI cZ ad) (kA ad)
  | some _ => va_Qi (fun r S' => Q (some r) S') (kB D cI cZ ad) (kA ad)
def kMet (l : Launch) (D : va_G) (cI cZ : ClassId) (ad : Nat → Nat) (d μ : Nat) (as : List kV) (S : kS) (Q : kP) : Prop := as.length = kar μ → Met l (ky μ) (kws μ) (krm d) (va_Pc (as.map (kvv ad)) (kB D cI cZ ad S)) (kQc D cI cZ ad μ Q) 0 0 (kA ad)
/-- where a method stands -/
def kX (p : Program) (l : Launch) (s : State) (m : MethodId) (args : Array Value) (meth : Method) (c : Code) (D : va_G) (cI cZ : ClassId) (ad : Nat → Nat) (d μ : Nat) (P Q : kP) : Prop :=
  p.tables.exec = Jvm.exec ∧ c.code = kby μ ∧ c.maxLocals = kmx μ ∧ s.vm.findClass (ky μ).cls = some m.cls ∧ (∀ w ∈ kwl, w.before args s = true) ∧ meth.sig.returnType = krt μ ∧ meth.locks = false ∧ va_K D kcl (kTy cI cZ) s ∧ kInj ad ∧ (∀ μ' as S Q', kspec kC kmx d μ' as S Q' → kMet l D cI cZ ad d μ' as S Q') ∧ (∀ r S, P r S → Q r S)
def kW (p : Program) (l : Launch) (e : Env) (s : State) (m : MethodId) (args : Array Value) (below : List Frame) (meth : Method) (c : Code) (D : va_G) (cI cZ : ClassId) (ad : Nat → Nat) (d μ : Nat) (Q : kP) : kG := fun pc lo st S =>
  ∀ (H : Heap) (locs : List Loc) (ls : Array Slot), lv_has ls (kmx μ) (klv ad lo) → va_P D kcl (kw cI cZ ad S) H → va_S (kA ad) s.heap H locs → W p l e (krm (d + 1)) s m args below meth c H locs 0 0 (MQ below (kQc D cI cZ ad μ Q) args s 0 0 (kA ad)) (F0 m pc ls (st.map (kvv ad)))
def kSnd (μ pc : Nat) (i : kI) : Prop := ∀ (p : Program) (l : Launch) (e : Env) (s : State) (m : MethodId) (args : Array Value) (below : List Frame) (meth : Method) (c : Code) (D : va_G) (cI cZ : ClassId) (ad : Nat → Nat) (d : Nat) (P Q : kP),
  kX p l s m args meth c D cI cZ ad d μ P Q → ∀ (lo : kL) (st : List kV) (S : kS), i (kspec kC kmx d) P (kW p l e s m args below meth c D cI cZ ad d μ Q) lo st S → kW p l e s m args below meth c D cI cZ ad d μ Q pc lo st S
section KSND
variable {μ pc : Nat}
theorem s_iconst {n : Int} {x : Int32} (hd : decode (kby μ) pc = .ok (.iconst n, 1)) (hv : Int32.ofInt n = x) : kSnd μ pc (i_k x (pc + 1)) := by
  intro p l e s m args below meth c D cI cZ ad d P Q X lo st S h H locs ls hl hP hS
  exact lv_iconst X.1 X.2.1 hd hv (h H locs ls hl hP hS)
theorem s_bipush {n : Int} {x : Int32} (hd : decode (kby μ) pc = .ok (.bipush n, 2)) (hv : (Int8.ofInt n).toInt32 = x) : kSnd μ pc (i_k x (pc + 2)) := by
  intro p l e s m args below meth c D cI cZ ad d P Q X lo st S h H locs ls hl hP hS
  exact lv_bipush X.1 X.2.1 hd hv (h H locs ls hl hP hS)
theorem s_sipush {n : Int} {x : Int32} (hd : decode (kby μ) pc = .ok (.sipush n, 3)) (hv : (Int16.ofInt n).toInt32 = x) : kSnd μ pc (i_k x (pc + 3)) := by
  intro p l e s m args below meth c D cI cZ ad d P Q X lo st S h H locs ls hl hP hS
  exact lv_sipush X.1 X.2.1 hd hv (h H locs ls hl hP hS)
theorem s_iload_n {k : Fin 4} {i : Nat} (hd : decode (kby μ) pc = .ok (.iload_n k, 1)) (hi : (k : Nat) = i) : kSnd μ pc (i_ild i (pc + 1)) := by
  intro p l e s m args below meth c D cI cZ ad d P Q X lo st S h H locs ls hl hP hS
  unfold i_ild at h
  split at h
  · rename_i x hx
    exact lv_iload_n X.1 X.2.1 hd hi (klv_rd hl hx) (h H locs ls hl hP hS)
  · exact h.elim
theorem s_iload {i : Nat} (hd : decode (kby μ) pc = .ok (.iload i, 2)) : kSnd μ pc (i_ild i (pc + 2)) := by
  intro p l e s m args below meth c D cI cZ ad d P Q X lo st S h H locs ls hl hP hS
  unfold i_ild at h
  split at h
  · rename_i x hx
    exact lv_iload X.1 X.2.1 hd (klv_rd hl hx) (h H locs ls hl hP hS)
  · exact h.elim
theorem s_aload_n {k : Fin 4} {i : Nat} (hd : decode (kby μ) pc = .ok (.aload_n k, 1)) (hi : (k : Nat) = i) : kSnd μ pc (i_ald i (pc + 1)) := by
  intro p l e s m args below meth c D cI cZ ad d P Q X lo st S h H locs ls hl hP hS
  unfold i_ald at h
  split at h
  · rename_i x hx
    exact lv_aload_n X.1 X.2.1 hd hi (klv_rd hl hx) (h H locs ls hl hP hS)
  · exact h.elim
theorem s_istore_n {k : Fin 4} {i : Nat} (hd : decode (kby μ) pc = .ok (.istore_n k, 1)) (hi : (k : Nat) = i) (hn : i < kmx μ) : kSnd μ pc (i_ist i (pc + 1)) := by
  intro p l e s m args below meth c D cI cZ ad d P Q X lo st S h H locs ls hl hP hS
  unfold i_ist at h
  split at h
  · exact lv_istore_n X.1 X.2.1 hd hi hl hn rfl (fun ls' hl' => h H locs ls' (klv_set (v := .inl _) hl') hP hS)
  · exact h.elim
theorem s_istore {i : Nat} (hd : decode (kby μ) pc = .ok (.istore i, 2)) (hn : i < kmx μ) : kSnd μ pc (i_ist i (pc + 2)) := by
  intro p l e s m args below meth c D cI cZ ad d P Q X lo st S h H locs ls hl hP hS
  unfold i_ist at h
  split at h
  · exact lv_istore X.1 X.2.1 hd hl hn rfl (fun ls' hl' => h H locs ls' (klv_set (v := .inl _) hl') hP hS)
  · exact h.elim
theorem s_iinc {i : Nat} {n : Int} {x : Int32} (hd : decode (kby μ) pc = .ok (.iinc i n, 3)) (hx : Int32.ofInt n = x) (hn : i < kmx μ) : kSnd μ pc (i_inc i x (pc + 3)) := by
  intro p l e s m args below meth c D cI cZ ad d P Q X lo st S h H locs ls hl hP hS
  unfold i_inc at h
  split at h
  · rename_i y hy
    obtain ⟨k, hk⟩ := List.getElem?_of_mem (klv_mem (ad := ad).mpr ⟨_, hy, rfl⟩)
    subst hx
    exact lv_iinc X.1 X.2.1 hd hl hk rfl hn rfl (fun ls' hl' => h H locs ls' (klv_set (v := .inl _) hl') hP hS)
  · exact h.elim
theorem s_iadd (hd : decode (kby μ) pc = .ok (.iadd, 1)) : kSnd μ pc (i_b2 (fun x y => x + y) (pc + 1)) := by
  intro p l e s m args below meth c D cI cZ ad d P Q X lo st S h H locs ls hl hP hS
  unfold i_b2 at h
  split at h
  · exact lv_iadd X.1 X.2.1 hd (h H locs ls hl hP hS)
  · exact h.elim
theorem s_isub (hd : decode (kby μ) pc = .ok (.isub, 1)) : kSnd μ pc (i_b2 (fun x y => x - y) (pc + 1)) := by
  intro p l e s m args below meth c D cI cZ ad d P Q X lo st S h H locs ls hl hP hS
  unfold i_b2 at h
  split at h
  · exact lv_isub X.1 X.2.1 hd (h H locs ls hl hP hS)
  · exact h.elim
theorem s_imul (hd : decode (kby μ) pc = .ok (.imul, 1)) : kSnd μ pc (i_b2 (fun x y => x * y) (pc + 1)) := by
  intro p l e s m args below meth c D cI cZ ad d P Q X lo st S h H locs ls hl hP hS
  unfold i_b2 at h
  split at h
  · exact lv_imul X.1 X.2.1 hd (h H locs ls hl hP hS)
  · exact h.elim
theorem s_iand (hd : decode (kby μ) pc = .ok (.iand, 1)) : kSnd μ pc (i_b2 (fun x y => x &&& y) (pc + 1)) := by
  intro p l e s m args below meth c D cI cZ ad d P Q X lo st S h H locs ls hl hP hS
  unfold i_b2 at h
  split at h
  · exact lv_iand X.1 X.2.1 hd (h H locs ls hl hP hS)
  · exact h.elim
theorem s_ior (hd : decode (kby μ) pc = .ok (.ior, 1)) : kSnd μ pc (i_b2 (fun x y => x ||| y) (pc + 1)) := by
  intro p l e s m args below meth c D cI cZ ad d P Q X lo st S h H locs ls hl hP hS
  unfold i_b2 at h
  split at h
  · exact lv_ior X.1 X.2.1 hd (h H locs ls hl hP hS)
  · exact h.elim
theorem s_ishl (hd : decode (kby μ) pc = .ok (.ishl, 1)) : kSnd μ pc (i_b2 (fun x y => x <<< (y &&& 31)) (pc + 1)) := by
  intro p l e s m args below meth c D cI cZ ad d P Q X lo st S h H locs ls hl hP hS
  unfold i_b2 at h
  split at h
  · exact lv_ishl X.1 X.2.1 hd (h H locs ls hl hP hS)
  · exact h.elim
theorem s_ishr (hd : decode (kby μ) pc = .ok (.ishr, 1)) : kSnd μ pc (i_b2 (fun x y => x >>> (y &&& 31)) (pc + 1)) := by
  intro p l e s m args below meth c D cI cZ ad d P Q X lo st S h H locs ls hl hP hS
  unfold i_b2 at h
  split at h
  · exact lv_ishr X.1 X.2.1 hd (h H locs ls hl hP hS)
  · exact h.elim
theorem s_idiv (hd : decode (kby μ) pc = .ok (.idiv, 1)) : kSnd μ pc (i_d2 (fun x y => x / y) (pc + 1)) := by
  intro p l e s m args below meth c D cI cZ ad d P Q X lo st S h H locs ls hl hP hS
  unfold i_d2 at h
  split at h
  · exact lv_idiv X.1 X.2.1 hd h.1 (h.2 H locs ls hl hP hS)
  · exact h.elim
theorem s_irem (hd : decode (kby μ) pc = .ok (.irem, 1)) : kSnd μ pc (i_d2 (fun x y => x - x / y * y) (pc + 1)) := by
  intro p l e s m args below meth c D cI cZ ad d P Q X lo st S h H locs ls hl hP hS
  unfold i_d2 at h
  split at h
  · exact lv_irem X.1 X.2.1 hd h.1 (h.2 H locs ls hl hP hS)
  · exact h.elim
theorem s_ineg (hd : decode (kby μ) pc = .ok (.ineg, 1)) : kSnd μ pc (i_neg (pc + 1)) := by
  intro p l e s m args below meth c D cI cZ ad d P Q X lo st S h H locs ls hl hP hS
  unfold i_neg at h
  split at h
  · exact lv_ineg X.1 X.2.1 hd (h H locs ls hl hP hS)
  · exact h.elim
theorem s_pop (hd : decode (kby μ) pc = .ok (.pop, 1)) : kSnd μ pc (i_pop (pc + 1)) := by
  intro p l e s m args below meth c D cI cZ ad d P Q X lo st S h H locs ls hl hP hS
  unfold i_pop at h
  split at h
  · exact lv_pop X.1 X.2.1 hd (kvv_cat _ _) (h H locs ls hl hP hS)
  · exact h.elim
theorem s_dup (hd : decode (kby μ) pc = .ok (.dup, 1)) : kSnd μ pc (i_dup (pc + 1)) := by
  intro p l e s m args below meth c D cI cZ ad d P Q X lo st S h H locs ls hl hP hS
  unfold i_dup at h
  split at h
  · exact lv_dup X.1 X.2.1 hd (kvv_cat _ _) (h H locs ls hl hP hS)
  · exact h.elim
theorem s_dup_x1 (hd : decode (kby μ) pc = .ok (.dup_x1, 1)) : kSnd μ pc (i_dx1 (pc + 1)) := by
  intro p l e s m args below meth c D cI cZ ad d P Q X lo st S h H locs ls hl hP hS
  unfold i_dx1 at h
  split at h
  · exact lv_dup_x1 X.1 X.2.1 hd (kvv_cat _ _) (kvv_cat _ _) (h H locs ls hl hP hS)
  · exact h.elim
theorem s_goto {off : Int} {t : Nat} (hd : decode (kby μ) pc = .ok (.goto off, 3)) (ht : (pc : Int) + off = (t : Int)) : kSnd μ pc (i_go t) := by
  intro p l e s m args below meth c D cI cZ ad d P Q X lo st S h H locs ls hl hP hS
  exact lv_goto X.1 X.2.1 hd ht (h H locs ls hl hP hS)
theorem s_if_eq {off : Int} {t : Nat} (hd : decode (kby μ) pc = .ok (.ifCond .eq off, 3)) (ht : (pc : Int) + off = (t : Int)) : kSnd μ pc (i_if (fun x => x = 0) t (pc + 3)) := by
  intro p l e s m args below meth c D cI cZ ad d P Q X lo st S h H locs ls hl hP hS
  unfold i_if at h
  split at h
  · exact lv_if_eq X.1 X.2.1 hd ht (fun q => h.1 q H locs ls hl hP hS) (fun q => h.2 q H locs ls hl hP hS)
  · exact h.elim
theorem s_if_ne {off : Int} {t : Nat} (hd : decode (kby μ) pc = .ok (.ifCond .ne off, 3)) (ht : (pc : Int) + off = (t : Int)) : kSnd μ pc (i_if (fun x => ¬ x = 0) t (pc + 3)) := by
  intro p l e s m args below meth c D cI cZ ad d P Q X lo st S h H locs ls hl hP hS
  unfold i_if at h
  split at h
  · exact lv_if_ne X.1 X.2.1 hd ht (fun q => h.1 q H locs ls hl hP hS) (fun q => h.2 (fun n => n q) H locs ls hl hP hS)
  · exact h.elim
theorem s_if_lt {off : Int} {t : Nat} (hd : decode (kby μ) pc = .ok (.ifCond .lt off, 3)) (ht : (pc : Int) + off = (t : Int)) : kSnd μ pc (i_if (fun x => x < 0) t (pc + 3)) := by
  intro p l e s m args below meth c D cI cZ ad d P Q X lo st S h H locs ls hl hP hS
  unfold i_if at h
  split at h
  · exact lv_if_lt X.1 X.2.1 hd ht (fun q => h.1 q H locs ls hl hP hS) (fun q => h.2 q H locs ls hl hP hS)
  · exact h.elim
theorem s_if_ge {off : Int} {t : Nat} (hd : decode (kby μ) pc = .ok (.ifCond .ge off, 3)) (ht : (pc : Int) + off = (t : Int)) : kSnd μ pc (i_if (fun x => 0 ≤ x) t (pc + 3)) := by
  intro p l e s m args below meth c D cI cZ ad d P Q X lo st S h H locs ls hl hP hS
  unfold i_if at h
  split at h
  · exact lv_if_ge X.1 X.2.1 hd ht (fun q => h.1 q H locs ls hl hP hS) (fun q => h.2 q H locs ls hl hP hS)
  · exact h.elim
theorem s_if_gt {off : Int} {t : Nat} (hd : decode (kby μ) pc = .ok (.ifCond .gt off, 3)) (ht : (pc : Int) + off = (t : Int)) : kSnd μ pc (i_if (fun x => 0 < x) t (pc + 3)) := by
  intro p l e s m args below meth c D cI cZ ad d P Q X lo st S h H locs ls hl hP hS
  unfold i_if at h
  split at h
  · exact lv_if_gt X.1 X.2.1 hd ht (fun q => h.1 q H locs ls hl hP hS) (fun q => h.2 q H locs ls hl hP hS)
  · exact h.elim
theorem s_if_le {off : Int} {t : Nat} (hd : decode (kby μ) pc = .ok (.ifCond .le off, 3)) (ht : (pc : Int) + off = (t : Int)) : kSnd μ pc (i_if (fun x => x ≤ 0) t (pc + 3)) := by
  intro p l e s m args below meth c D cI cZ ad d P Q X lo st S h H locs ls hl hP hS
  unfold i_if at h
  split at h
  · exact lv_if_le X.1 X.2.1 hd ht (fun q => h.1 q H locs ls hl hP hS) (fun q => h.2 q H locs ls hl hP hS)
  · exact h.elim
theorem s_icmp_eq {off : Int} {t : Nat} (hd : decode (kby μ) pc = .ok (.if_icmp .eq off, 3)) (ht : (pc : Int) + off = (t : Int)) : kSnd μ pc (i_ic (fun x y => x = y) t (pc + 3)) := by
  intro p l e s m args below meth c D cI cZ ad d P Q X lo st S h H locs ls hl hP hS
  unfold i_ic at h
  split at h
  · exact lv_icmp_eq X.1 X.2.1 hd ht (fun q => h.1 q H locs ls hl hP hS) (fun q => h.2 q H locs ls hl hP hS)
  · exact h.elim
theorem s_icmp_ne {off : Int} {t : Nat} (hd : decode (kby μ) pc = .ok (.if_icmp .ne off, 3)) (ht : (pc : Int) + off = (t : Int)) : kSnd μ pc (i_ic (fun x y => ¬ x = y) t (pc + 3)) := by
  intro p l e s m args below meth c D cI cZ ad d P Q X lo st S h H locs ls hl hP hS
  unfold i_ic at h
  split at h
  · exact lv_icmp_ne X.1 X.2.1 hd ht (fun q => h.1 q H locs ls hl hP hS) (fun q => h.2 (fun n => n q) H locs ls hl hP hS)
  · exact h.elim
theorem s_icmp_lt {off : Int} {t : Nat} (hd : decode (kby μ) pc = .ok (.if_icmp .lt off, 3)) (ht : (pc : Int) + off = (t : Int)) : kSnd μ pc (i_ic (fun x y => x < y) t (pc + 3)) := by
  intro p l e s m args below meth c D cI cZ ad d P Q X lo st S h H locs ls hl hP hS
  unfold i_ic at h
  split at h
  · exact lv_icmp_lt X.1 X.2.1 hd ht (fun q => h.1 q H locs ls hl hP hS) (fun q => h.2 q H locs ls hl hP hS)
  · exact h.elim
theorem s_icmp_ge {off : Int} {t : Nat} (hd : decode (kby μ) pc = .ok (.if_icmp .ge off, 3)) (ht : (pc : Int) + off = (t : Int)) : kSnd μ pc (i_ic (fun x y => y ≤ x) t (pc + 3)) := by
  intro p l e s m args below meth c D cI cZ ad d P Q X lo st S h H locs ls hl hP hS
  unfold i_ic at h
  split at h
  · exact lv_icmp_ge X.1 X.2.1 hd ht (fun q => h.1 q H locs ls hl hP hS) (fun q => h.2 q H locs ls hl hP hS)
  · exact h.elim
theorem s_icmp_gt {off : Int} {t : Nat} (hd : decode (kby μ) pc = .ok (.if_icmp .gt off, 3)) (ht : (pc : Int) + off = (t : Int)) : kSnd μ pc (i_ic (fun x y => y < x) t (pc + 3)) := by
  intro p l e s m args below meth c D cI cZ ad d P Q X lo st S h H locs ls hl hP hS
  unfold i_ic at h
  split at h
  · exact lv_icmp_gt X.1 X.2.1 hd ht (fun q => h.1 q H locs ls hl hP hS) (fun q => h.2 q H locs ls hl hP hS)
  · exact h.elim
theorem s_icmp_le {off : Int} {t : Nat} (hd : decode (kby μ) pc = .ok (.if_icmp .le off, 3)) (ht : (pc : Int) + off = (t : Int)) : kSnd μ pc (i_ic (fun x y => x ≤ y) t (pc + 3)) := by
  intro p l e s m args below meth c D cI cZ ad d P Q X lo st S h H locs ls hl hP hS
  unfold i_ic at h
  split at h
  · exact lv_icmp_le X.1 X.2.1 hd ht (fun q => h.1 q H locs ls hl hP hS) (fun q => h.2 q H locs ls hl hP hS)
  · exact h.elim
theorem ksw_in {F : Nat → Prop} {x : Int32} {dt : Nat} : ∀ (ts : List Nat) (k j t : Nat), ksw F x dt k ts → ts[j]? = some t → x = Int32.ofNat (k + j) → F t
  | [], _, _, _, _, hj, _ => by simp at hj
  | t0 :: ts, k, 0, t, h, hj, hx => by
    simp at hj
    subst hj
    exact h.1 hx
  | t0 :: ts, k, j + 1, t, h, hj, hx => ksw_in ts (k + 1) j t h.2 (by simpa using hj) (by rw [hx]; congr 1; omega)
theorem ksw_out {F : Nat → Prop} {x : Int32} {dt : Nat} : ∀ (ts : List Nat) (k : Nat), ksw F x dt k ts → (x < 0 ∨ Int32.ofNat (k + ts.length) ≤ x) → F dt
  | [], k, h, hx => h hx
  | t0 :: ts, k, h, hx => ksw_out ts (k + 1) h.2 (by rw [List.length_cons] at hx; rw [Nat.add_assoc, Nat.add_comm 1]; exact hx)
/-- the switch's targets as the instruction has them -/
def kswOk (pc : Nat) (dflt hi : Int) (offs : Array Int) (ts : List Nat) (dt : Nat) : Bool := (decide ((pc : Int) + dflt = (dt : Int)) && decide ((ts.length : Int) = hi + 1) && decide (ts.length < 1000)) && (List.range ts.length).all (fun j => match offs[j]?, ts[j]? with
  | some o, some t => decide ((pc : Int) + o = (t : Int))
  | _, _ => false)
theorem s_switch {dflt hi : Int} {offs : Array Int} {len dt : Nat} {ts : List Nat} (hd : decode (kby μ) pc = .ok (.tableswitch dflt 0 hi offs, len)) (hk : kswOk pc dflt hi offs ts dt = true) : kSnd μ pc (i_sw ts dt) := by
  intro p l e s m args below meth c D cI cZ ad d P Q X lo st S h H locs ls hl hP hS
  unfold kswOk at hk
  simp only [Bool.and_eq_true, decide_eq_true_eq, List.all_eq_true, List.mem_range] at hk
  obtain ⟨⟨⟨h1, h2⟩, h3⟩, h4⟩ := hk
  unfold i_sw at h
  split at h
  · rename_i x r
    by_cases hx : x.toInt < 0 ∨ hi < x.toInt
    · refine lv_tableOut X.1 X.2.1 hd hx h1 (ksw_out ts 0 h ?_ H locs ls hl hP hS)
      rcases hx with hx | hx
      · left
        rw [Int32.lt_iff_toInt_lt]; simpa using hx
      · right
        have e : nI (0 + ts.length) ≤ x := by
          rw [Int32.le_iff_toInt_le, nI_toInt (by omega)]; omega
        exact e
    · have hx1 : ¬ x.toInt < 0 := fun q => hx (Or.inl q)
      have hx2 : ¬ hi < x.toInt := fun q => hx (Or.inr q)
      have hj : x.toInt.toNat < ts.length := by omega
      have h5 := h4 _ hj
      cases ho : offs[x.toInt.toNat]? with
      | none => rw [ho] at h5; simp at h5
      | some o =>
        cases ht : ts[x.toInt.toNat]? with
        | none => rw [ho, ht] at h5; simp at h5
        | some t =>
          rw [ho, ht] at h5
          simp at h5
          refine lv_tableIn X.1 X.2.1 hd hx1 hx2 (off := o) (by rw [Int.sub_zero]; exact ho) h5 (ksw_in ts 0 _ t h ht ?_ H locs ls hl hP hS)
          apply Int32.toInt_inj.mp
          have e : (nI (0 + x.toInt.toNat)).toInt = x.toInt := by rw [nI_toInt (by omega)]; omega
          exact e.symm
  · exact h.elim
theorem kfl_d {ci o j : Nat} {f : Option Nat} (h : kfl ci o j = some f) : ∃ fs, kD[o]? = some (.inr (ci, fs)) ∧ fs[j]? = some f := by
  unfold kfl at h
  split at h
  · rename_i q hq
    cases hb : Nat.beq q.1 ci with
    | false => rw [hb] at h; cases h
    | true =>
      rw [hb] at h
      have e := Nat.eq_of_beq_eq_true hb
      subst e
      exact ⟨q.2, hq, h⟩
  · cases h
theorem kln_d {o : Nat} {q : Nat × Nat} (h : kln o = some q) : kD[o]? = some (.inl q) := by
  unfold kln at h
  split at h
  · rename_i z hz
    cases h
    exact hz
  · cases h
theorem kci_d {o k : Nat} (h : kci o = some k) : ∃ fs, kD[o]? = some (.inr (k, fs)) := by
  unfold kci at h
  split at h
  · rename_i q hq
    cases h
    exact ⟨q.2, hq⟩
  · cases h
theorem s_get {ci j idx : Nat} {C : String} {T : u_T} {N : Nat} (hd : decode (kby μ) pc = .ok (.getfield idx, 3)) (hc : kcl[ci]? = some (C, T, N)) (hw : ∀ w ∈ u_ws C T N, w ∈ kwl) (hj : j < N) (hr : (T j).1 = C) (hl0 : Cond.fieldLink (ky μ).cls idx C (T j).2.1 (T j).2.2.1 ∈ kwl) : kSnd μ pc (i_get ci j (pc + 3)) := by
  intro p l e s m args below meth c D cI cZ ad d P Q X lo st S h H locs ls hl hP hS
  unfold i_get at h
  split at h
  · rename_i o r
    split at h
    · rename_i hf
      obtain ⟨fs, h1, h2⟩ := kfl_d hf
      exact va_get (D := D) (ci := ci) (v := .int (S o j)) (C := C) (T := T) (N := N) X.1 X.2.1 X.2.2.2.2.1 hw X.2.2.2.1 X.2.2.2.2.2.2.2.1 hP o (kw_at h1) hc j hj (X.2.2.2.2.1 _ hl0) (fun _ h9 => by rw [hr] at h9; exact h9) (kfs_at h2) hd (h H locs ls hl hP hS)
    · rename_i o' hf
      obtain ⟨fs, h1, h2⟩ := kfl_d hf
      exact va_get (D := D) (ci := ci) (v := .ref (ad o')) (C := C) (T := T) (N := N) X.1 X.2.1 X.2.2.2.2.1 hw X.2.2.2.1 X.2.2.2.2.2.2.2.1 hP o (kw_at h1) hc j hj (X.2.2.2.2.1 _ hl0) (fun _ h9 => by rw [hr] at h9; exact h9) (kfs_at h2) hd (h H locs ls hl hP hS)
    · exact h.elim
  · exact h.elim
/-- putfield of an int or a boolean, of the world's objects -/
theorem s_putx {ci j idx : Nat} {C : String} {T : u_T} {N : Nat} {ty : FieldType} {x : Int32} {o : Nat} {r : List kV} (hd : decode (kby μ) pc = .ok (.putfield idx, 3)) (hc : kcl[ci]? = some (C, T, N)) (hw : ∀ w ∈ u_ws C T N, w ∈ kwl) (hj : j < N) (hr : (T j).1 = C) (hl0 : Cond.fieldLink (ky μ).cls idx C (T j).2.1 (T j).2.2.1 ∈ kwl)
    (tys : Nat → FieldType) (htys : ∀ k, k < N → parseFieldDescriptor (T k).2.2.1 = some (tys k)) (hnm : ∀ a, a < N → ∀ b, b < N → a ≠ b → (T a).2.1 ≠ (T b).2.1) (hfin : (T j).2.2.2 = false) (hty : parseFieldDescriptor (T j).2.2.1 = some ty) (hn : narrow ty (.int x) = .int x) (hfit : fits ty (.int x) = true)
    {p : Program} {l : Launch} {e : Env} {s : State} {m : MethodId} {args : Array Value} {below : List Frame} {meth : Method} {c : Code} {D : va_G} {cI cZ : ClassId} {ad : Nat → Nat} {d : Nat} {P Q : kP} (X : kX p l s m args meth c D cI cZ ad d μ P Q) {lo : kL} {S : kS} (hf : kfl ci o j = some none)
    (h : kW p l e s m args below meth c D cI cZ ad d μ Q (pc + 3) lo r (ku S o j x)) : kW p l e s m args below meth c D cI cZ ad d μ Q pc lo (.inl x :: .inr o :: r) S := by
  intro H locs ls hl hP hS
  obtain ⟨fs, h1, h2⟩ := kfl_d hf
  have hlt : j < (kfs ad S o fs).length := by rw [kfs_len]; exact (List.getElem?_eq_some_iff.mp h2).1
  refine va_put (D := D) (ci := ci) (v := .int x) (ty := ty) (C := C) (T := T) (N := N) X.1 X.2.1 X.2.2.2.2.1 hw tys htys hnm X.2.2.2.1 X.2.2.2.2.2.2.2.1 hP (kw_D X.2.2.2.2.2.2.2.2.1) hS o (kw_at h1) hc j hj (X.2.2.2.2.1 _ hl0) (fun _ h9 => by rw [hr] at h9; exact h9) hfin hty hn hfit hlt hd (fun H1 locs1 hP1 _ hS1 => ?_)
  refine h H1 locs1 ls hl ?_ hS1
  rw [← kw_set (S' := ku S o j x) h1 (show kce cI cZ ad (ku S o j x) o (.inr (ci, fs)) = .inr (ci, (kfs ad S o fs).set j (.int x)) from by show Sum.inr (ci, kfs ad (ku S o j x) o fs) = _; rw [kfs_set h2]) (fun k hk => ku_o hk)]
  exact hP1
theorem s_put {ci j idx : Nat} {C : String} {T : u_T} {N : Nat} (hd : decode (kby μ) pc = .ok (.putfield idx, 3)) (hc : kcl[ci]? = some (C, T, N)) (hw : ∀ w ∈ u_ws C T N, w ∈ kwl) (hj : j < N) (hr : (T j).1 = C) (hl0 : Cond.fieldLink (ky μ).cls idx C (T j).2.1 (T j).2.2.1 ∈ kwl)
    (tys : Nat → FieldType) (htys : ∀ k, k < N → parseFieldDescriptor (T k).2.2.1 = some (tys k)) (hnm : ∀ a, a < N → ∀ b, b < N → a ≠ b → (T a).2.1 ≠ (T b).2.1) (hfin : (T j).2.2.2 = false) (hty : parseFieldDescriptor (T j).2.2.1 = some .int) : kSnd μ pc (i_put ci j (pc + 3)) := by
  intro p l e s m args below meth c D cI cZ ad d P Q X lo st S h
  unfold i_put at h
  split at h
  · split at h
    · rename_i hf
      exact s_putx hd hc hw hj hr hl0 tys htys hnm hfin hty rfl rfl X hf h
    · exact h.elim
  · exact h.elim
theorem s_putz {ci j idx : Nat} {C : String} {T : u_T} {N : Nat} (hd : decode (kby μ) pc = .ok (.putfield idx, 3)) (hc : kcl[ci]? = some (C, T, N)) (hw : ∀ w ∈ u_ws C T N, w ∈ kwl) (hj : j < N) (hr : (T j).1 = C) (hl0 : Cond.fieldLink (ky μ).cls idx C (T j).2.1 (T j).2.2.1 ∈ kwl)
    (tys : Nat → FieldType) (htys : ∀ k, k < N → parseFieldDescriptor (T k).2.2.1 = some (tys k)) (hnm : ∀ a, a < N → ∀ b, b < N → a ≠ b → (T a).2.1 ≠ (T b).2.1) (hfin : (T j).2.2.2 = false) (hty : parseFieldDescriptor (T j).2.2.1 = some .boolean) : kSnd μ pc (i_putz ci j (pc + 3)) := by
  intro p l e s m args below meth c D cI cZ ad d P Q X lo st S h
  unfold i_putz at h
  split at h
  · split at h
    · rename_i hf
      rcases h.1 with rfl | rfl
      · exact s_putx hd hc hw hj hr hl0 tys htys hnm hfin hty (by decide +kernel) (by decide +kernel) X hf h.2
      · exact s_putx hd hc hw hj hr hl0 tys htys hnm hfin hty (by decide +kernel) (by decide +kernel) X hf h.2
    · exact h.elim
  · exact h.elim
theorem s_iaload (hd : decode (kby μ) pc = .ok (.iaload, 1)) : kSnd μ pc (i_ial (pc + 1)) := by
  intro p l e s m args below meth c D cI cZ ad d P Q X lo st S h H locs ls hl hP hS
  unfold i_ial at h
  split at h
  · rename_i i o r
    split at h
    · rename_i n hn
      exact va_iald (cA := cI) X.1 X.2.1 X.2.2.2.2.2.2.2.1 hP o 0 (kw_at (kln_d hn)) rfl h.1 hd (h.2 H locs ls hl hP hS)
    · exact h.elim
  · exact h.elim
theorem s_baload (hd : decode (kby μ) pc = .ok (.baload, 1)) : kSnd μ pc (i_bal (pc + 1)) := by
  intro p l e s m args below meth c D cI cZ ad d P Q X lo st S h H locs ls hl hP hS
  unfold i_bal at h
  split at h
  · rename_i i o r
    split at h
    · rename_i n hn
      exact va_zald (cA := cZ) X.1 X.2.1 X.2.2.2.2.2.2.2.1 hP o 1 (kw_at (kln_d hn)) rfl h.1 hd (h.2 H locs ls hl hP hS)
    · exact h.elim
  · exact h.elim
theorem s_iastore (hd : decode (kby μ) pc = .ok (.iastore, 1)) : kSnd μ pc (i_ias (pc + 1)) := by
  intro p l e s m args below meth c D cI cZ ad d P Q X lo st S h H locs ls hl hP hS
  unfold i_ias at h
  split at h
  · rename_i x i o r
    split at h
    · rename_i n hn
      have h1 := kln_d hn
      refine va_iast (cA := cI) (n := n) (f := S o) X.1 X.2.1 X.2.2.2.2.2.2.2.1 hP (kw_D X.2.2.2.2.2.2.2.2.1) hS o 0 (kw_at h1) rfl h.1 hd (fun H1 locs1 hP1 _ hS1 => h.2 H1 locs1 ls hl ?_ hS1)
      rw [← kw_set (S' := ku S o i.toNatClampNeg x) h1 (show kce cI cZ ad (ku S o i.toNatClampNeg x) o (.inl (0, n)) = .inl (cI, n, .inl (upd (S o) i.toNatClampNeg x)) from by show Sum.inl (cI, n, Sum.inl (ku S o i.toNatClampNeg x o)) = _; rw [ku_upd]) (fun k hk => ku_o hk)]
      exact hP1
    · exact h.elim
  · exact h.elim
theorem s_bastore (hd : decode (kby μ) pc = .ok (.bastore, 1)) : kSnd μ pc (i_bas (pc + 1)) := by
  intro p l e s m args below meth c D cI cZ ad d P Q X lo st S h H locs ls hl hP hS
  unfold i_bas at h
  split at h
  · rename_i x i o r
    split at h
    · rename_i n hn
      have h1 := kln_d hn
      refine va_zast (cA := cZ) (n := n) (f := S o) X.1 X.2.1 X.2.2.2.2.2.2.2.1 hP (kw_D X.2.2.2.2.2.2.2.2.1) hS o 1 (kw_at h1) rfl h.1 hd (fun H1 locs1 hP1 _ hS1 => h.2 H1 locs1 ls hl ?_ hS1)
      rw [← kw_set (S' := ku S o i.toNatClampNeg (vp_nar .boolean x)) h1 (show kce cI cZ ad (ku S o i.toNatClampNeg (vp_nar .boolean x)) o (.inl (1, n)) = .inl (cZ, n, .inl (upd (S o) i.toNatClampNeg (vp_nar .boolean x))) from by show Sum.inl (cZ, n, Sum.inl (ku S o i.toNatClampNeg (vp_nar .boolean x) o)) = _; rw [ku_upd]) (fun k hk => ku_o hk)]
      exact hP1
    · exact h.elim
  · exact h.elim
theorem s_arraylength (hd : decode (kby μ) pc = .ok (.arraylength, 1)) : kSnd μ pc (i_len (pc + 1)) := by
  intro p l e s m args below meth c D cI cZ ad d P Q X lo st S h H locs ls hl hP hS
  unfold i_len at h
  split at h
  · rename_i o r
    split at h
    · rename_i t n hn
      have h1 := kln_d hn
      cases hb : Nat.beq t 0 with
      | true => exact va_alen (cA := cI) (x := (n, .inl (S o))) X.1 X.2.1 X.2.2.2.2.2.2.2.1 hP o 0 (by rw [kw_at h1]; show some (ad o, Sum.inl (bif Nat.beq t 0 then cI else cZ, _)) = _; rw [hb]; rfl) rfl rfl hd (h H locs ls hl hP hS)
      | false => exact va_alen (cA := cZ) (x := (n, .inl (S o))) X.1 X.2.1 X.2.2.2.2.2.2.2.1 hP o 1 (by rw [kw_at h1]; show some (ad o, Sum.inl (bif Nat.beq t 0 then cI else cZ, _)) = _; rw [hb]; rfl) rfl rfl hd (h H locs ls hl hP hS)
    · exact h.elim
  · exact h.elim
theorem kcat_sum {ad : Nat → Nat} : ∀ r : List kV, ((r.map (kvv ad)).map fun v => v.category).sum = r.length
  | [] => rfl
  | v :: r => by
    rw [List.map_cons, List.map_cons, List.sum_cons, kcat_sum r, kvv_cat, List.length_cons]
    omega
theorem s_max {idx : Nat} (hd : decode (kby μ) pc = .ok (.invokestatic idx, 3)) (h1 : Cond.methodLink (ky μ).cls idx Lib.Math.max.name ∈ kwl) (h2 : Cond.static Lib.Math.max.name ∈ kwl) (h3 : Cond.initialized "java/lang/Math" ∈ kwl) (h4 : Cond.code Lib.Math.max.name Lib.Math.max.code 2 (some .int) ∈ kwl) : kSnd μ pc (i_max (pc + 3)) := by
  intro p l e s m args below meth c D cI cZ ad d P Q X lo st S h H locs ls hl hP hS
  unfold i_max at h
  split at h
  · rename_i y x r
    have hk := kcat_sum (ad := ad) r
    refine va_mmax X.1 X.2.1 (by rw [X.2.2.1, hl.1]) X.2.2.2.1 (X.2.2.2.2.1 _ h1) (X.2.2.2.2.1 _ h2) (X.2.2.2.2.1 _ h3) (X.2.2.2.2.1 _ h4) (show 1 ≤ d + 1 by omega) ?_ (Nat.zero_le _) (Nat.zero_le _) hd (h.2 H locs ls hl hP hS)
    have h9 := h.1
    show ((r.map (kvv ad)).map fun v => v.category).sum + 13 ≤ 40 * (d + 1)
    rw [hk]
    omega
  · exact h.elim
theorem s_copy {idx : Nat} (hd : decode (kby μ) pc = .ok (.invokestatic idx, 3)) (h1 : Cond.methodLink (ky μ).cls idx arraycopyName ∈ kwl) (h2 : Cond.native arraycopyName ∈ kwl) (h3 : Cond.static arraycopyName ∈ kwl) (h4 : Cond.initialized "java/lang/System" ∈ kwl) (hwd : nativeFrameWords "java/lang/System" "arraycopy" 5 ≤ 20) : kSnd μ pc (i_cpy (pc + 3)) := by
  intro p l e s m args below meth c D cI cZ ad d P Q X lo st S h H locs ls hl hP hS
  unfold i_cpy at h
  split at h
  · rename_i n dp b sp a r
    split at h
    · rename_i na nb ha hb
      have e1 := kln_d ha
      have e2 := kln_d hb
      have hk := kcat_sum (ad := ad) r
      obtain ⟨h5, ⟨g1, g2, g3, g4, g5⟩, h6⟩ := h
      refine va_copyi (ty := .int) (c0 := cI) (c1 := cI) (n0 := na) (n1 := nb) (f := S a) (g := S b) X.1 X.2.1 (by rw [X.2.2.1, hl.1]) X.2.2.2.1 (X.2.2.2.2.1 _ h1) (X.2.2.2.2.1 _ h2) (X.2.2.2.2.1 _ h3) (X.2.2.2.2.1 _ h4) X.2.2.2.2.2.2.2.1 hP (kw_D X.2.2.2.2.2.2.2.2.1) hS a b 0 0 (kw_at e1) (kw_at e2) rfl rfl rfl g1 g2 g3 g4 g5 (fun _ _ => rfl) (show 1 ≤ d + 1 by omega) ?_ hd (fun H1 locs1 hP1 _ hS1 => h6 H1 locs1 ls hl ?_ hS1)
      · show ((r.map (kvv ad)).map fun v => v.category).sum + (nativeFrameWords "java/lang/System" "arraycopy" 5 + 11) ≤ 40 * (d + 1)
        rw [hk]
        omega
      · rw [← kw_set (S' := kc S a sp b dp n) e2 (show kce cI cZ ad (kc S a sp b dp n) b (.inl (0, nb)) = .inl (cI, nb, .inl (va_cpy (S a) (S b) sp.toNatClampNeg dp.toNatClampNeg n.toNatClampNeg)) from by show Sum.inl (cI, nb, Sum.inl (kc S a sp b dp n b)) = _; rw [kc_self]) (fun k hk => kc_o hk)]
        exact hP1
    · exact h.elim
  · exact h.elim
theorem kgood : ∀ w ∈ kwl, goodWord w = true := fun _ h => (List.mem_filter.mp h).2
/-- what is known of a callee -/
def kOK (μ : Nat) : Prop := Cond.initialized (ky μ).cls ∈ kwl ∧ Cond.code (ky μ) (kby μ) (kmx μ) (krt μ) ∈ kwl ∧ kmx μ ≤ 20 ∧ ((ky μ).cls ≠ "java/lang/invoke/MethodHandle" ∧ (ky μ).cls ≠ "java/lang/invoke/VarHandle")
theorem kgi_V {own : String} {idx μ' : Nat} (h1 : Cond.methodLink own idx (ky μ') ∈ kwl) (h2 : Cond.instanceMethod (ky μ') ∈ kwl) (h3 : Cond.selects (ky μ').cls (ky μ') (ky μ') ∈ kwl) (h0 : kOK μ') : GoodIn kwl (wsV own idx (ky μ').cls (ky μ') (kws μ')) := by
  intro w hw
  have hm : w ∈ kwl := by
    have h4 := h0.1
    have h5 := h0.2.1
    unfold wsV kws at hw
    simp only [List.mem_append, List.mem_cons, List.not_mem_nil, or_false] at hw
    rcases hw with (rfl | rfl | rfl | rfl) | rfl | hw <;> assumption
  exact ⟨hm, good_of_word (kgood w hm)⟩
theorem kgi_S {own : String} {idx μ' : Nat} (h1 : Cond.methodLink own idx (ky μ') ∈ kwl) (h2 : Cond.static (ky μ') ∈ kwl) (h3 : (ky μ').cls = own) (h0 : kOK μ') : GoodIn kwl (wsS own idx (ky μ') (kws μ')) := by
  intro w hw
  have hm : w ∈ kwl := by
    have h4 := h0.1
    have h5 := h0.2.1
    rw [h3] at h4
    unfold wsS kws at hw
    simp only [List.mem_append, List.mem_cons, List.not_mem_nil, or_false] at hw
    rcases hw with (rfl | rfl | rfl) | rfl | hw <;> assumption
  exact ⟨hm, good_of_word (kgood w hm)⟩
theorem kblind {D : va_G} {cI cZ : ClassId} {ad : Nat → Nat} {S : kS} {av : List Value} : FrameBlind (va_Pc av (kB D cI cZ ad S)) := fun a U g mk q => ⟨q.1, q.2.1, va_K.moved (u := U) (U := U.calling g mk a) (Vm.Alike.refl U.vm) q.2.2⟩
theorem kstack {ad : Nat → Nat} {st : List kV} {n : Nat} {as : List kV} (h : (st.take n).reverse = as) : st.map (kvv ad) = (as.map (kvv ad)).reverse ++ (st.drop n).map (kvv ad) := by
  have e2 : st.take n = as.reverse := by rw [← h, List.reverse_reverse]
  calc st.map (kvv ad) = (st.take n ++ st.drop n).map (kvv ad) := by rw [List.take_append_drop]
    _ = _ := by rw [List.map_append, e2, List.map_reverse]
theorem s_cv {μ' n k idx : Nat} {T : u_T} {N : Nat} {ty : FieldType} (hd : decode (kby μ) pc = .ok (.invokevirtual idx, 3)) (h1 : Cond.methodLink (ky μ).cls idx (ky μ') ∈ kwl) (h2 : Cond.instanceMethod (ky μ') ∈ kwl) (h3 : Cond.selects (ky μ').cls (ky μ') (ky μ') ∈ kwl) (h0 : kOK μ') (har : kar μ' = n + 1) (hdsc : (parseMethodDescriptor (ky μ').desc).map (fun d => d.parameters.length) = some n) (hk : kcl[k]? = some ((ky μ').cls, T, N)) (hrt : krt μ' = some ty) : kSnd μ pc (i_cv μ' (n + 1) k (pc + 3)) := by
  intro p l e s m args below meth c D cI cZ ad d P Q X lo st S h H locs ls hl hP hS
  obtain ⟨h8, h⟩ := h
  split at h
  · rename_i o as has
    obtain ⟨hc, hlen, hM⟩ := h
    obtain ⟨fs, hfs⟩ := kci_d hc
    have hmet := X.2.2.2.2.2.2.2.2.2.1 μ' _ S _ hM (by rw [har, List.length_cons]; exact hlen)
    have hst : st.map (kvv ad) = (as.map (kvv ad)).reverse ++ .ref (ad o) :: (st.drop (n + 1)).map (kvv ad) := by
      rw [kstack has, List.map_cons, List.reverse_cons, List.append_assoc]
      rfl
    unfold kQc at hmet
    rw [hrt] at hmet
    rw [hst]
    refine va_calli (va_runV (As := as.map (kvv ad)) (rest := (st.drop (n + 1)).map (kvv ad)) (C := (ky μ').cls) (bytes := kby μ') (maxL := kmx μ') (ret := krt μ') (n := n) ⟨X.1, X.2.1, X.2.2.1, X.2.2.2.1, X.2.2.2.2.1⟩ hmet (cwV n X.2.2.2.2.1 (kgi_V h1 h2 h3 h0) rfl rfl rfl ⟨rfl, h0.2.2.2.1, h0.2.2.2.2, hdsc⟩ ⟨Nat.le_refl _, ?_⟩) ⟨kblind, va_recv X.2.2.2.2.2.2.2.1 hP hk (kw_at hfs), fun U hU hW => ⟨rfl, by rw [hU]; exact hP, va_K.moved hW.alike X.2.2.2.2.2.2.2.1⟩⟩ rfl ?_ hl.1 rfl (lv_room ?_) hd ⟨Nat.zero_le _, Nat.zero_le _⟩) hS (fun q _ h => h) (fun q h => h) (fun r u t H1 locs1 ht hvm hp hB hz hk1 hS1 => ?_)
    · have h9 := h0.2.2.1
      show 8 + (kmx μ' + 11) + 40 * d ≤ 40 * (d + 1)
      omega
    · rw [List.length_map]
      omega
    · rw [kcat_sum]
      exact h8
    · obtain ⟨x, hx, hG⟩ := hp
      cases hx
      exact hG H1 locs1 ls hl (by rw [← ht]; exact hB.1) hS1
  · exact h.elim
theorem s_cw {μ' n k idx : Nat} {T : u_T} {N : Nat} (hd : decode (kby μ) pc = .ok (.invokevirtual idx, 3)) (h1 : Cond.methodLink (ky μ).cls idx (ky μ') ∈ kwl) (h2 : Cond.instanceMethod (ky μ') ∈ kwl) (h3 : Cond.selects (ky μ').cls (ky μ') (ky μ') ∈ kwl) (h0 : kOK μ') (har : kar μ' = n + 1) (hdsc : (parseMethodDescriptor (ky μ').desc).map (fun d => d.parameters.length) = some n) (hk : kcl[k]? = some ((ky μ').cls, T, N)) (hrt : krt μ' = none) : kSnd μ pc (i_cw μ' (n + 1) k (pc + 3)) := by
  intro p l e s m args below meth c D cI cZ ad d P Q X lo st S h H locs ls hl hP hS
  obtain ⟨h8, h⟩ := h
  split at h
  · rename_i o as has
    obtain ⟨hc, hlen, hM⟩ := h
    obtain ⟨fs, hfs⟩ := kci_d hc
    have hmet := X.2.2.2.2.2.2.2.2.2.1 μ' _ S _ hM (by rw [har, List.length_cons]; exact hlen)
    have hst : st.map (kvv ad) = (as.map (kvv ad)).reverse ++ .ref (ad o) :: (st.drop (n + 1)).map (kvv ad) := by
      rw [kstack has, List.map_cons, List.reverse_cons, List.append_assoc]
      rfl
    unfold kQc at hmet
    rw [hrt] at hmet
    rw [hst]
    refine va_callv (va_runV (As := as.map (kvv ad)) (rest := (st.drop (n + 1)).map (kvv ad)) (C := (ky μ').cls) (bytes := kby μ') (maxL := kmx μ') (ret := krt μ') (n := n) ⟨X.1, X.2.1, X.2.2.1, X.2.2.2.1, X.2.2.2.2.1⟩ hmet (cwV n X.2.2.2.2.1 (kgi_V h1 h2 h3 h0) rfl rfl rfl ⟨rfl, h0.2.2.2.1, h0.2.2.2.2, hdsc⟩ ⟨Nat.le_refl _, ?_⟩) ⟨kblind, va_recv X.2.2.2.2.2.2.2.1 hP hk (kw_at hfs), fun U hU hW => ⟨rfl, by rw [hU]; exact hP, va_K.moved hW.alike X.2.2.2.2.2.2.2.1⟩⟩ rfl ?_ hl.1 rfl (lv_room ?_) hd ⟨Nat.zero_le _, Nat.zero_le _⟩) hS (fun q _ h => h) (fun q h => h) (fun u t H1 locs1 ht hvm hp hB hz hk1 hS1 => ?_)
    · have h9 := h0.2.2.1
      show 8 + (kmx μ' + 11) + 40 * d ≤ 40 * (d + 1)
      omega
    · rw [List.length_map]
      omega
    · rw [kcat_sum]
      exact h8
    · exact hp.2 H1 locs1 ls hl (by rw [← ht]; exact hB.1) hS1
  · exact h.elim
theorem s_cs {μ' n idx : Nat} {ty : FieldType} (hd : decode (kby μ) pc = .ok (.invokestatic idx, 3)) (h1 : Cond.methodLink (ky μ).cls idx (ky μ') ∈ kwl) (h2 : Cond.static (ky μ') ∈ kwl) (h3 : (ky μ').cls = (ky μ).cls) (h0 : kOK μ') (har : kar μ' = n) (hdsc : (parseMethodDescriptor (ky μ').desc).map (fun d => d.parameters.length) = some n) (hrt : krt μ' = some ty) : kSnd μ pc (i_cs μ' n (pc + 3)) := by
  intro p l e s m args below meth c D cI cZ ad d P Q X lo st S h H locs ls hl hP hS
  obtain ⟨h8, hlen, hM⟩ := h
  have hmet := X.2.2.2.2.2.2.2.2.2.1 μ' _ S _ hM (by rw [har, List.length_reverse]; exact hlen)
  unfold kQc at hmet
  rw [hrt] at hmet
  rw [kstack (n := n) rfl]
  refine va_calli (va_runS (As := (st.take n).reverse.map (kvv ad)) (rest := (st.drop n).map (kvv ad)) (bytes := kby μ') (maxL := kmx μ') (ret := krt μ') (n := n) ⟨X.1, X.2.1, X.2.2.1, X.2.2.2.1, X.2.2.2.2.1⟩ hmet (cwS n X.2.2.2.2.1 (kgi_S h1 h2 h3 h0) rfl rfl rfl ⟨h3, h0.2.2.2.1, h0.2.2.2.2, hdsc⟩ ⟨Nat.le_refl _, ?_⟩) ⟨kblind, fun U hU hW => ⟨rfl, by rw [hU]; exact hP, va_K.moved hW.alike X.2.2.2.2.2.2.2.1⟩⟩ rfl ?_ hl.1 rfl (lv_room ?_) hd ⟨Nat.zero_le _, Nat.zero_le _⟩) hS (fun q _ h => h) (fun q h => h) (fun r u t H1 locs1 ht hvm hp hB hz hk1 hS1 => ?_)
  · have h9 := h0.2.2.1
    show 8 + (kmx μ' + 11) + 40 * d ≤ 40 * (d + 1)
    omega
  · rw [List.length_map, List.length_reverse]
    exact hlen
  · rw [kcat_sum]
    exact h8
  · obtain ⟨x, hx, hG⟩ := hp
    cases hx
    exact hG H1 locs1 ls hl (by rw [← ht]; exact hB.1) hS1
theorem s_ret (hd : decode (kby μ) pc = .ok (.ireturn, 1)) (hr : krt μ = some .int) : kSnd μ pc i_ret := by
  intro p l e s m args below meth c D cI cZ ad d P Q X lo st S h H locs ls hl hP hS
  unfold i_ret at h
  split at h
  · rename_i x
    refine W.iret (v := x) X.1 X.2.1 (X.2.2.2.2.2.1.trans hr) (fun t ht hW => ?_) hS.2.2 hd X.2.2.2.2.2.2.1
    unfold kQc
    rw [hr]
    exact ⟨⟨x, S, rfl, X.2.2.2.2.2.2.2.2.2.2 _ _ h, by rw [ht]; exact hP, va_K.moved hW.alike X.2.2.2.2.2.2.2.1⟩, hS.F ht⟩
  · exact h.elim
theorem s_retz (hd : decode (kby μ) pc = .ok (.ireturn, 1)) (hr : krt μ = some .boolean) : kSnd μ pc i_retz := by
  intro p l e s m args below meth c D cI cZ ad d P Q X lo st S h H locs ls hl hP hS
  unfold i_retz at h
  split at h
  · rename_i x
    refine W.zret (v := x) (ty := .boolean) X.1 X.2.1 (X.2.2.2.2.2.1.trans hr) (by rcases h.1 with rfl | rfl <;> decide +kernel) (fun t ht hW => ?_) hS.2.2 hd X.2.2.2.2.2.2.1
    unfold kQc
    rw [hr]
    exact ⟨⟨x, S, rfl, X.2.2.2.2.2.2.2.2.2.2 _ _ h.2, by rw [ht]; exact hP, va_K.moved hW.alike X.2.2.2.2.2.2.2.1⟩, hS.F ht⟩
  · exact h.elim
theorem s_rv (hd : decode (kby μ) pc = .ok (.return_, 1)) (hr : krt μ = none) : kSnd μ pc i_rv := by
  intro p l e s m args below meth c D cI cZ ad d P Q X lo st S h H locs ls hl hP hS
  unfold i_rv at h
  split at h
  · refine W.vret X.1 X.2.1 (X.2.2.2.2.2.1.trans hr) (fun t ht hW => ?_) hS.2.2 hd X.2.2.2.2.2.2.1
    unfold kQc
    rw [hr]
    exact ⟨⟨S, rfl, X.2.2.2.2.2.2.2.2.2.2 _ _ h, by rw [ht]; exact hP, va_K.moved hW.alike X.2.2.2.2.2.2.2.1⟩, hS.F ht⟩
  · exact h.elim
end KSND
theorem kargs_mem {ad : Nat → Nat} : ∀ (as : List kV) (k i : Nat) (v : kV), as[i]? = some v → (k + i, kvv ad v) ∈ lv_args k (as.map (kvv ad))
  | [], _, _, _, h => by simp at h
  | a :: as, k, 0, v, h => by
    simp at h
    subst h
    exact List.mem_cons_self
  | a :: as, k, i + 1, v, h => by
    rw [List.map_cons]
    unfold lv_args
    rw [if_neg (by rw [kvv_cat]; decide)]
    have := kargs_mem (ad := ad) as (k + 1) i v (by simpa using h)
    rw [show k + (i + 1) = k + 1 + i by omega]
    exact List.mem_cons_of_mem _ this
theorem ksl_len {ad : Nat → Nat} : ∀ as : List kV, (lg_sl (as.map (kvv ad))).length = as.length
  | [] => rfl
  | a :: as => by
    have := ksl_len (ad := ad) as
    unfold lg_sl at this ⊢
    rw [List.map_cons, List.flatMap_cons, List.length_append, this, if_neg (by rw [kvv_cat]; decide), List.length_cons]
    simp
    omega
theorem kentry {ad : Nat → Nat} {as : List kV} {E : Nat → Nat} {μ : Nat} (h : as.length ≤ E μ) : lv_has ((lg_sl (as.map (kvv ad)) ++ List.replicate (E μ - (lg_sl (as.map (kvv ad))).length) Slot.unset).toArray) (E μ) (klv ad (kent E μ as)) := by
  have h0 := lv_entry (as.map (kvv ad)) (n := E μ) (by rw [ksl_len]; exact h)
  refine ⟨h0.1, h0.2.1, fun q hq => ?_⟩
  obtain ⟨i, w⟩ := q
  obtain ⟨v, h1, rfl⟩ := klv_mem.mp hq
  refine h0.2.2 _ ?_
  unfold kent at h1
  by_cases hi : i < as.length
  · rw [List.getElem?_append_left (by simpa using hi), List.getElem?_map] at h1
    cases hv : as[i]? with
    | none => rw [hv] at h1; simp at h1
    | some u =>
      rw [hv] at h1
      simp at h1
      subst h1
      have := kargs_mem (ad := ad) as 0 i u hv
      rw [Nat.zero_add] at this
      exact this
  · rw [List.getElem?_append_right (by simpa using Nat.not_lt.mp hi), List.getElem?_replicate] at h1
    split at h1 <;> simp at h1
/-- THE MACHINE MEETS WHAT THE PURE MACHINE SAYS -/
theorem kmain (hT : ∀ μ pc i, kC μ pc = some i → kSnd μ pc i) (hok : ∀ μ pc i, kC μ pc = some i → plainName (ky μ).cls = true ∧ kar μ ≤ kmx μ) {l : Launch} {D : va_G} {cI cZ : ClassId} {ad : Nat → Nat} (hinj : kInj ad) : ∀ (d μ : Nat) (as : List kV) (S : kS) (Q : kP), kspec kC kmx d μ as S Q → kMet l D cI cZ ad d μ as S Q
  | 0, _, _, _, _, h => h.elim
  | d + 1, μ, as, S, Q, ⟨P, hPQ, h⟩ => by
    intro hlen
    by_cases hμ : ∃ pc i, kC μ pc = some i
    · obtain ⟨pc0, i0, hi0⟩ := hμ
      have hp := hok μ pc0 i0 hi0
      refine Met.ofW (cc := kby μ) (maxL := kmx μ) (ret := krt μ) hp.1 rfl ?_
      intro p e s m args below meth c s₁ B hml hv
      obtain ⟨rfl, hP, hK⟩ := hv
      have hts := atoms_spec (ws := kws μ) B.pre
      have X : kX p l s m (as.map (kvv ad)).toArray meth c D cI cZ ad d μ P Q := ⟨B.exec, B.bytes, hml, findClass_of_methodNamed B.named, fun w hw => hts w (List.mem_cons_of_mem _ hw), B.returns, B.notSynchronized, hK, hinj, fun μ' as' S' Q' h' => kmain hT hok hinj d μ' as' S' Q' h', hPQ⟩
      have hw := h (kW p l e s m (as.map (kvv ad)).toArray below meth c D cI cZ ad d μ Q) (fun pc i lo st S' hi hh => hT μ pc i hi p l e s m _ below meth c D cI cZ ad d P Q X lo st S' hh)
      rw [lg_entry_eq]
      exact hw s.heap [] _ (kentry (by omega)) hP va_S.rf
    · exact (h (fun _ _ _ _ => False) (fun pc i _ _ _ hi _ => hμ ⟨pc, i, hi⟩)).elim
def kall (μ : Nat) : Nat → List (Option kI) → Prop
  | _, [] => True
  | pc, none :: l => kall μ (pc + 1) l
  | pc, some i :: l => kSnd μ pc i ∧ kall μ (pc + 1) l
theorem kall_at {μ : Nat} {i : kI} : ∀ (l : List (Option kI)) (pc j : Nat), kall μ pc l → kix none l j = some i → kSnd μ (pc + j) i
  | [], _, _, _, h => by cases h
  | none :: l, pc, 0, _, h => by cases h
  | none :: l, pc, j + 1, hl, h => by
    have := kall_at l (pc + 1) j hl h
    rw [show pc + (j + 1) = pc + 1 + j by omega]
    exact this
  | some i0 :: l, pc, 0, hl, h => by
    cases h
    exact hl.1
  | some i0 :: l, pc, j + 1, hl, h => by
    have := kall_at l (pc + 1) j hl.2 h
    rw [show pc + (j + 1) = pc + 1 + j by omega]
    exact this
