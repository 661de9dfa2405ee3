/-! ===== A CALL OUT OF THE LAW ===== -/
section LC
variable {p : Program} {l : Launch} {e : Env} {R : Room} {s : State} {m : MethodId} {args : Array Value} {below : List Frame} {meth : Method} {c : Code} {H : Heap} {locs : List Loc} {cells slots : Nat} {Q : State → Prop}
variable {pc nL : Nat} {ls : Array Slot} {rest : List Value} {D : va_G} {cI cZ : ClassId} {ad : Nat → Nat} {S : kS} {A : Nat → Prop} {cc : ByteArray} {own : String}
theorem lc_call {d μ' n k idx o : Nat} {T : u_T} {N : Nat} {ty : FieldType} {fs : List (Option Nat)} {F : Int32 → kS → Prop} {as : List kV} (X : CallFix p m c cc nL s args kwl own) (hdg : decode cc pc = .ok (.invokevirtual idx, 3)) (h1 : Cond.methodLink own idx (ky μ') ∈ kwl) (h2 : Cond.instanceMethod (ky μ') ∈ kwl) (h3 : Cond.selects (ky μ').cls (ky μ') (ky μ') ∈ kwl) (h0 : kOK μ') (har : kar μ' = n + 1) (hdsc : (parseMethodDescriptor (ky μ').desc).map (fun d => d.parameters.length) = some n) (hk : kcl[k]? = some ((ky μ').cls, T, N)) (hrt : krt μ' = some ty) (hR1 : d + 1 ≤ R.frames) (hR2 : 39 + 40 * d ≤ R.locals) (hR3 : cells ≤ R.cells) (hR4 : slots ≤ R.slots) (hinj : kInj ad) (hK : va_K D kcl (kTy cI cZ) s) (hfs : kD[o]? = some (.inr (k, fs))) (hlen : as.length = n) (hM : kK d μ' (.inr o :: as) S (kq F)) (hsz : ls.size = nL) (hroom : (rest.map fun v => v.category).sum ≤ 8) (hP : va_P D kcl (kw cI cZ ad S) H) (hS : va_S A s.heap H locs) (hA : ∀ q, kA ad q → A q)
    (kk : ∀ (r : Int32) (S1 : kS) (H1 : Heap) (locs1 : List Loc), F r S1 → va_P D kcl (kw cI cZ ad S1) H1 → va_S A s.heap H1 locs1 → W p l e R s m args below meth c H1 locs1 cells slots Q (F0 m (pc + 3) ls (.int r :: rest))) :
    W p l e R s m args below meth c H locs cells slots Q (F0 m pc ls ((as.map (kvv ad)).reverse ++ .ref (ad o) :: rest)) := by
  have hmet := k_met (l := l) (D := D) (cI := cI) (cZ := cZ) hinj hM (by rw [har, List.length_cons, hlen])
  unfold kQc at hmet
  rw [hrt] at hmet
  refine va_calli (va_runV (As := as.map (kvv ad)) (rest := rest) (C := (ky μ').cls) (bytes := kby μ') (maxL := kmx μ') (ret := krt μ') (n := n) X hmet (cwV n X.2.2.2.2 (kgi_V h1 h2 h3 h0) rfl rfl rfl ⟨rfl, h0.2.2.2.1, h0.2.2.2.2, hdsc⟩ ⟨hR1, ?_⟩) ⟨kblind, va_recv hK hP hk (kw_at hfs), fun U hU hW => ⟨rfl, by rw [hU]; exact hP, va_K.moved hW.alike hK⟩⟩ rfl ?_ hsz rfl (lv_room hroom) hdg ⟨hR3, hR4⟩) hS (fun q _ h => hA q h) (fun q h => hA q h) (fun r u t H1 locs1 ht hvm hp hB hz hk1 hS1 => ?_)
  · have h9 := h0.2.2.1
    show 8 + (kmx μ' + 11) + 40 * d ≤ R.locals
    omega
  · rw [List.length_map]
    exact hlen
  · obtain ⟨x, hx, hG⟩ := hp
    cases hx
    exact kk r u H1 locs1 hG (by rw [← ht]; exact hB.1) hS1
/-- the law's locals -/
def lcl (b : Nat) (ad : Nat → Nat) (i : Int32) : List (Nat × Value) := [(3, .int i), (2, .ref (ad 39)), (1, .ref (ad 0)), (0, .ref b)]
/-- script[i + k] -/
theorem lc_arg {b L : Nat} {xs : Nat → Int32} {i k : Int32} {z : Int} (hx : p.tables.exec = Jvm.exec) (hb : c.code = cc) (hl : lv_has ls 4 (lcl b ad i)) (hX : va_X b L xs s s.heap) (hbl : b < s.heap.size) (hbA : ¬ A b) (hS : va_S A s.heap H locs) (d0 : decode cc pc = .ok (.aload_n 0, 1)) (d1 : decode cc (pc + 1) = .ok (.iload_n 3, 1)) (d2 : decode cc (pc + 2) = .ok (.iconst z, 1)) (hk : Int32.ofInt z = k) (d3 : decode cc (pc + 3) = .ok (.iadd, 1)) (d4 : decode cc (pc + 4) = .ok (.iaload, 1)) (hin : vp_in (i + k) L)
    (kk : W p l e R s m args below meth c H locs cells slots Q (F0 m (pc + 5) ls (.int (xs (i + k).toNatClampNeg) :: rest))) : W p l e R s m args below meth c H locs cells slots Q (F0 m pc ls rest) := by
  refine lv_aload_n hx hb d0 rfl (lv_at hl 3 rfl) ?_
  refine lv_iload_n hx hb d1 rfl (lv_at hl 0 rfl) ?_
  refine lv_iconst hx hb d2 hk ?_
  refine lv_iadd hx hb d3 ?_
  exact va_sld hx hb hX hbl hbA hS hin d4 kk
end LC
/-- where the law stands -/
def lcX (p : Program) (s : State) (m : MethodId) (args : Array Value) (c : Code) (b L : Nat) (xs : Nat → Int32) (D : va_G) (cI cZ : ClassId) (ad : Nat → Nat) : Prop := CallFix p m c code 4 s args kwl "SequentKernelLaw" ∧ va_X b L xs s s.heap ∧ b < s.heap.size ∧ va_K D kcl (kTy cI cZ) s ∧ kInj ad ∧ ∀ q, kA ad q → s.heap.size ≤ q
def lcS (s : State) : Nat → Prop := fun q => s.heap.size ≤ q
theorem lc_le {L a : Nat} (hL : L ≤ 2560) (ha : a ≤ 2560) : kn L - 5 < kn a ↔ L < a + 5 := by
  by_cases h : 5 ≤ L
  · rw [show (5 : Int32) = kn 5 from rfl, kn_sub h, kn_lt (by omega) (by omega)]
    omega
  · have h1 : kn L - 5 < 0 := by
      rcases (show L = 0 ∨ L = 1 ∨ L = 2 ∨ L = 3 ∨ L = 4 by omega) with rfl | rfl | rfl | rfl | rfl <;> decide
    constructor
    · intro _
      omega
    · intro _
      have h2 : (0 : Int32) ≤ kn a := kn_ge (by omega)
      rw [Int32.lt_iff_toInt_lt] at h1 ⊢
      rw [Int32.le_iff_toInt_le] at h2
      omega
