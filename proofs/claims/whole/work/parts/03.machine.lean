/-! ===== THE PURE MACHINE: values, states, instructions as predicate transformers ===== -/
abbrev kV : Type := Int32 ⊕ Nat
abbrev kS : Type := Nat → Nat → Int32
abbrev kL : Type := List (Option kV)
abbrev kG : Type := Nat → kL → List kV → kS → Prop
abbrev kP : Type := Option Int32 → kS → Prop
abbrev kM : Type := Nat → List kV → kS → kP → Prop
abbrev kI : Type := kM → kP → kG → kL → List kV → kS → Prop
/-- one cell's one place -/
def ku (S : kS) (o i : Nat) (x : Int32) : kS := fun o' i' => bif (Nat.beq o' o && Nat.beq i' i) then x else S o' i'
/-- a stretch of array a laid into array b -/
def kc (S : kS) (a : Nat) (sp : Int32) (b : Nat) (dp n : Int32) : kS := fun o' => bif Nat.beq o' b then va_cpy (S a) (S b) sp.toNatClampNeg dp.toNatClampNeg n.toNatClampNeg else S o'
def kq (F : Int32 → kS → Prop) : kP := fun r S => ∃ x, r = some x ∧ F x S
def kv (F : kS → Prop) : kP := fun r S => r = none ∧ F S
def kz (x : Int32) : Prop := x = 0 ∨ x = 1
/-- a field of a cell: none, an int or a boolean; some, the cell that it names -/
def kfl (ci o j : Nat) : Option (Option Nat) := match kD[o]? with
  | some (.inr q) => bif Nat.beq q.1 ci then q.2[j]? else none
  | _ => none
/-- an array cell: its kind (0 int, 1 boolean) and its length -/
def kln (o : Nat) : Option (Nat × Nat) := match kD[o]? with
  | some (.inl q) => some q
  | _ => none
/-- an object's class -/
def kci (o : Nat) : Option Nat := match kD[o]? with
  | some (.inr q) => some q.1
  | _ => none
def i_k (x : Int32) (nx : Nat) : kI := fun _ _ G lo st S => G nx lo (.inl x :: st) S
def i_ild (i nx : Nat) : kI := fun _ _ G lo st S => match lo[i]? with
  | some (some (.inl x)) => G nx lo (.inl x :: st) S
  | _ => False
def i_ald (i nx : Nat) : kI := fun _ _ G lo st S => match lo[i]? with
  | some (some (.inr o)) => G nx lo (.inr o :: st) S
  | _ => False
def i_ist (i nx : Nat) : kI := fun _ _ G lo st S => match st with
  | .inl x :: r => G nx (lo.set i (some (.inl x))) r S
  | _ => False
def i_inc (i : Nat) (n : Int32) (nx : Nat) : kI := fun _ _ G lo st S => match lo[i]? with
  | some (some (.inl x)) => G nx (lo.set i (some (.inl (x + n)))) st S
  | _ => False
def i_b2 (f : Int32 → Int32 → Int32) (nx : Nat) : kI := fun _ _ G lo st S => match st with
  | .inl y :: .inl x :: r => G nx lo (.inl (f x y) :: r) S
  | _ => False
def i_d2 (f : Int32 → Int32 → Int32) (nx : Nat) : kI := fun _ _ G lo st S => match st with
  | .inl y :: .inl x :: r => ¬ y = 0 ∧ G nx lo (.inl (f x y) :: r) S
  | _ => False
def i_neg (nx : Nat) : kI := fun _ _ G lo st S => match st with
  | .inl x :: r => G nx lo (.inl (-x) :: r) S
  | _ => False
def i_pop (nx : Nat) : kI := fun _ _ G lo st S => match st with
  | _ :: r => G nx lo r S
  | _ => False
def i_dup (nx : Nat) : kI := fun _ _ G lo st S => match st with
  | v :: r => G nx lo (v :: v :: r) S
  | _ => False
def i_dx1 (nx : Nat) : kI := fun _ _ G lo st S => match st with
  | v :: w :: r => G nx lo (v :: w :: v :: r) S
  | _ => False
def i_go (t : Nat) : kI := fun _ _ G lo st S => G t lo st S
def i_if (c : Int32 → Prop) (t nx : Nat) : kI := fun _ _ G lo st S => match st with
  | .inl x :: r => (c x → G t lo r S) ∧ (¬ c x → G nx lo r S)
  | _ => False
def i_ic (c : Int32 → Int32 → Prop) (t nx : Nat) : kI := fun _ _ G lo st S => match st with
  | .inl y :: .inl x :: r => (c x y → G t lo r S) ∧ (¬ c x y → G nx lo r S)
  | _ => False
/-- a switch over 0, 1, ..: the targets in their order, then the default's -/
def ksw (F : Nat → Prop) (x : Int32) (dt : Nat) : Nat → List Nat → Prop
  | k, [] => (x < 0 ∨ Int32.ofNat k ≤ x) → F dt
  | k, t :: ts => (x = Int32.ofNat k → F t) ∧ ksw F x dt (k + 1) ts
def i_sw (ts : List Nat) (dt : Nat) : kI := fun _ _ G lo st S => match st with
  | .inl x :: r => ksw (fun t => G t lo r S) x dt 0 ts
  | _ => False
def i_get (ci j nx : Nat) : kI := fun _ _ G lo st S => match st with
  | .inr o :: r => (match kfl ci o j with
    | some none => G nx lo (.inl (S o j) :: r) S
    | some (some o') => G nx lo (.inr o' :: r) S
    | none => False)
  | _ => False
def i_put (ci j nx : Nat) : kI := fun _ _ G lo st S => match st with
  | .inl x :: .inr o :: r => (match kfl ci o j with
    | some none => G nx lo r (ku S o j x)
    | _ => False)
  | _ => False
def i_putz (ci j nx : Nat) : kI := fun _ _ G lo st S => match st with
  | .inl x :: .inr o :: r => (match kfl ci o j with
    | some none => kz x ∧ G nx lo r (ku S o j x)
    | _ => False)
  | _ => False
def i_ial (nx : Nat) : kI := fun _ _ G lo st S => match st with
  | .inl i :: .inr o :: r => (match kln o with
    | some (0, n) => vp_in i n ∧ G nx lo (.inl (S o i.toNatClampNeg) :: r) S
    | _ => False)
  | _ => False
def i_bal (nx : Nat) : kI := fun _ _ G lo st S => match st with
  | .inl i :: .inr o :: r => (match kln o with
    | some (1, n) => vp_in i n ∧ G nx lo (.inl (S o i.toNatClampNeg) :: r) S
    | _ => False)
  | _ => False
def i_ias (nx : Nat) : kI := fun _ _ G lo st S => match st with
  | .inl x :: .inl i :: .inr o :: r => (match kln o with
    | some (0, n) => vp_in i n ∧ G nx lo r (ku S o i.toNatClampNeg x)
    | _ => False)
  | _ => False
def i_bas (nx : Nat) : kI := fun _ _ G lo st S => match st with
  | .inl x :: .inl i :: .inr o :: r => (match kln o with
    | some (1, n) => vp_in i n ∧ G nx lo r (ku S o i.toNatClampNeg (vp_nar .boolean x))
    | _ => False)
  | _ => False
def i_len (nx : Nat) : kI := fun _ _ G lo st S => match st with
  | .inr o :: r => (match kln o with
    | some (_, n) => G nx lo (.inl (Int32.ofNat n) :: r) S
    | _ => False)
  | _ => False
def km (x y : Int32) : Int32 := if x < y then y else x
def i_max (nx : Nat) : kI := fun _ _ G lo st S => match st with
  | .inl y :: .inl x :: r => r.length ≤ 8 ∧ G nx lo (.inl (km x y) :: r) S
  | _ => False
def i_cpy (nx : Nat) : kI := fun _ _ G lo st S => match st with
  | .inl n :: .inl dp :: .inr b :: .inl sp :: .inr a :: r => (match kln a, kln b with
    | some (0, na), some (0, nb) => r.length ≤ 8 ∧ (¬ sp < 0 ∧ ¬ dp < 0 ∧ ¬ n < 0 ∧ sp.toNatClampNeg + n.toNatClampNeg ≤ na ∧ dp.toNatClampNeg + n.toNatClampNeg ≤ nb) ∧ G nx lo r (kc S a sp b dp n)
    | _, _ => False)
  | _ => False
/-- a call of method μ with n arguments, the object among them; k: the number of the object's class -/
def i_cv (μ n k nx : Nat) : kI := fun M _ G lo st S => (st.drop n).length ≤ 8 ∧ (match (st.take n).reverse with
  | .inr o :: as => kci o = some k ∧ as.length + 1 = n ∧ M μ (.inr o :: as) S (kq fun x S' => G nx lo (.inl x :: st.drop n) S')
  | _ => False)
def i_cw (μ n k nx : Nat) : kI := fun M _ G lo st S => (st.drop n).length ≤ 8 ∧ (match (st.take n).reverse with
  | .inr o :: as => kci o = some k ∧ as.length + 1 = n ∧ M μ (.inr o :: as) S (kv fun S' => G nx lo (st.drop n) S')
  | _ => False)
def i_cs (μ n nx : Nat) : kI := fun M _ G lo st S => (st.drop n).length ≤ 8 ∧ (st.take n).length = n ∧ M μ (st.take n).reverse S (kq fun x S' => G nx lo (.inl x :: st.drop n) S')
def i_ret : kI := fun _ Q _ _ st S => match st with
  | [.inl x] => Q (some x) S
  | _ => False
def i_retz : kI := fun _ Q _ _ st S => match st with
  | [.inl x] => kz x ∧ Q (some x) S
  | _ => False
def i_rv : kI := fun _ Q _ _ st S => match st with
  | [] => Q none S
  | _ => False
/-- the frame predicate G is closed under method μ's code -/
def kCl (C : Nat → Nat → Option kI) (M : kM) (Q : kP) (μ : Nat) (G : kG) : Prop := ∀ (pc : Nat) (i : kI) (lo : kL) (st : List kV) (S : kS), C μ pc = some i → i M Q G lo st S → G pc lo st S
def kent (E : Nat → Nat) (μ : Nat) (as : List kV) : kL := as.map some ++ List.replicate (E μ - as.length) none
/-- method μ at depth d, on arguments as, from state S, comes to an answer and a state with Q -/
def kspec (C : Nat → Nat → Option kI) (E : Nat → Nat) : Nat → kM
  | 0 => fun _ _ _ _ => False
  | d + 1 => fun μ as S Q => ∃ P : kP, (∀ r S', P r S' → Q r S') ∧ ∀ G : kG, kCl C (kspec C E d) P μ G → G 0 (kent E μ as) [] S
theorem kspec_mono {C : Nat → Nat → Option kI} {E : Nat → Nat} {d μ : Nat} {as : List kV} {S : kS} {Q Q' : kP} (h : kspec C E d μ as S Q) (k : ∀ r S', Q r S' → Q' r S') : kspec C E d μ as S Q' := by
  cases d with
  | zero => exact h.elim
  | succ d =>
    obtain ⟨P, h1, h2⟩ := h
    exact ⟨P, fun r S' q => k r S' (h1 r S' q), h2⟩
theorem kspec_of {C : Nat → Nat → Option kI} {E : Nat → Nat} {d μ : Nat} {as : List kV} {S : kS} {Q : kP} (h : ∀ G : kG, kCl C (kspec C E d) Q μ G → G 0 (kent E μ as) [] S) : kspec C E (d + 1) μ as S Q := ⟨Q, fun _ _ q => q, h⟩
/-- what a region's lemma needs of the calls below it -/
def kMo (M : kM) : Prop := ∀ (μ : Nat) (as : List kV) (S : kS) (Q Q' : kP), M μ as S Q → (∀ r S', Q r S' → Q' r S') → M μ as S Q'
theorem kspec_Mo {C : Nat → Nat → Option kI} {E : Nat → Nat} {d : Nat} : kMo (kspec C E d) := fun _ _ _ _ _ h k => kspec_mono h k
theorem kMo.q {M : kM} (hM : kMo M) {μ : Nat} {as : List kV} {S : kS} {F F' : Int32 → kS → Prop} (h : M μ as S (kq F)) (k : ∀ x S', F x S' → F' x S') : M μ as S (kq F') := hM _ _ _ _ _ h fun _ _ ⟨x, e, f⟩ => ⟨x, e, k x _ f⟩
theorem kMo.v {M : kM} (hM : kMo M) {μ : Nat} {as : List kV} {S : kS} {F F' : kS → Prop} (h : M μ as S (kv F)) (k : ∀ S', F S' → F' S') : M μ as S (kv F') := hM _ _ _ _ _ h fun _ _ ⟨e, f⟩ => ⟨e, k _ f⟩
theorem kCl.s {C : Nat → Nat → Option kI} {M : kM} {Q : kP} {μ : Nat} {G : kG} (h : kCl C M Q μ G) (pc : Nat) {i : kI} {lo : kL} {st : List kV} {S : kS} (e : C μ pc = some i) (k : i M Q G lo st S) : G pc lo st S := h pc i lo st S e k
theorem ku_self {S : kS} {o i : Nat} {x : Int32} : ku S o i x o i = x := by
  show (bif (Nat.beq o o && Nat.beq i i) then x else S o i) = x
  rw [Nat.beq_refl, Nat.beq_refl]; rfl
theorem kbeq_ne {a b : Nat} (h : a ≠ b) : Nat.beq a b = false := by
  cases e : Nat.beq a b with
  | false => rfl
  | true => exact absurd (Nat.eq_of_beq_eq_true e) h
theorem ku_o {S : kS} {o i o' : Nat} {x : Int32} (h : o' ≠ o) : ku S o i x o' = S o' := by
  funext k
  show (bif (Nat.beq o' o && Nat.beq k i) then x else S o' k) = S o' k
  rw [kbeq_ne h]; rfl
theorem ku_i {S : kS} {o i i' o' : Nat} {x : Int32} (h : i' ≠ i) : ku S o i x o' i' = S o' i' := by
  show (bif (Nat.beq o' o && Nat.beq i' i) then x else S o' i') = S o' i'
  rw [kbeq_ne h, Bool.and_false]; rfl
theorem ku_upd {S : kS} {o i : Nat} {x : Int32} : ku S o i x o = upd (S o) i x := by
  funext k
  by_cases h : k = i
  · subst h
    rw [ku_self]; simp [upd]
  · rw [ku_i h]; simp [upd, h]
theorem kc_self {S : kS} {a b : Nat} {sp dp n : Int32} : kc S a sp b dp n b = va_cpy (S a) (S b) sp.toNatClampNeg dp.toNatClampNeg n.toNatClampNeg := by
  show (bif Nat.beq b b then _ else _) = _
  rw [Nat.beq_refl]; rfl
theorem kc_o {S : kS} {a b o : Nat} {sp dp n : Int32} (h : o ≠ b) : kc S a sp b dp n o = S o := by
  show (bif Nat.beq o b then _ else _) = _
  rw [kbeq_ne h]; rfl
theorem kq_mk {F : Int32 → kS → Prop} {x : Int32} {S : kS} (h : F x S) : kq F (some x) S := ⟨x, rfl, h⟩
theorem kv_mk {F : kS → Prop} {S : kS} (h : F S) : kv F none S := ⟨rfl, h⟩
