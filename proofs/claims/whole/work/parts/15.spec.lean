/-! ===== WHAT THE RULES MAKE, IN TREES ===== -/
noncomputable def sp_if {α : Type} (p : Prop) (x : Option α) : Option α := @ite _ p (Classical.propDecidable p) x none
theorem sp_if_pos {α : Type} {p : Prop} {x : Option α} (h : p) : sp_if p x = x := if_pos h
theorem sp_if_neg {α : Type} {p : Prop} {x : Option α} (h : ¬ p) : sp_if p x = none := if_neg h
/-- what a number names -/
def sp_at {α : Type} (L : List α) (x : Int32) : Option α := if x < 0 then none else L[x.toNatClampNeg]?
theorem sp_at_neg {α : Type} {L : List α} {x : Int32} (h : x < 0) : sp_at L x = none := if_pos h
theorem sp_at_kn {α : Type} {L : List α} {n : Nat} (h : n < 2147483648) : sp_at L (kn n) = L[n]? := by
  unfold sp_at
  rw [if_neg (kn_nn h), kn_tn h]
/-- an equation -/
def sp_eq (x y : kF) : kF := fo_ap (fo_ap (fo_lf 1 0 (fo_ar (fo_ty x) (fo_ar (fo_ty x) (fo_tb 0)))) x) y
/-- the sides of an equation -/
noncomputable def sp_sd (t : kF) : Option (kF × kF) := match t with
  | .append (.append e l) r => sp_if (∃ A, e = fo_lf 1 0 A) (some (l, r))
  | _ => none
/-- function and argument -/
def sp_fa (t : kF) : Option (kF × kF) := match t with
  | .append f x => some (f, x)
  | _ => none
noncomputable def sp_iA (x t : kF) : kF := fo_ab (fo_ty x) (fo_im (fo_sA x) id t 0)
noncomputable def sp_iO (u b : kF) : kF := fo_im (fo_sO u) id b 0
noncomputable def sp_iR (x y t : kF) : kF := fo_im (fo_sR x y) id t 0
noncomputable def sp_iT (j : Nat) (c t : kF) : kF := fo_im fo_sN (fo_rt j c) t 0
noncomputable def sp_bt (q : kF) (l : List kF) : List kF := l.filter (fun h => @decide (h ≠ q) (Classical.propDecidable _))
/-- the rules on their arguments: the conclusion, and the hypotheses as they are given one after the other -/
abbrev kQ : Type := kF × List kF
noncomputable def sp_r0 (t : Option kF) : Option kQ := t.bind fun t => some (sp_eq t t, [])
noncomputable def sp_r1 (p q : Option kQ) : Option kQ := p.bind fun p => q.bind fun q => (sp_sd p.1).bind fun l => (sp_sd q.1).bind fun m => sp_if (l.2 = m.1) (some (sp_eq l.1 m.2, p.2 ++ q.2))
noncomputable def sp_r2 (p q : Option kQ) : Option kQ := p.bind fun p => q.bind fun q => (sp_sd p.1).bind fun l => (sp_sd q.1).bind fun m => sp_if (∃ B, fo_ty l.1 = fo_ar (fo_ty m.1) B) (some (sp_eq (fo_ap l.1 m.1) (fo_ap l.2 m.2), p.2 ++ q.2))
noncomputable def sp_r3 (x : Option kF) (q : Option kQ) : Option kQ := x.bind fun x => q.bind fun q => (sp_sd q.1).bind fun m => sp_if ((∃ k A, x = fo_lf 0 k A) ∧ ∀ h, h ∈ q.2 → ¬ fo_oc x h) (some (sp_eq (sp_iA x m.1) (sp_iA x m.2), q.2))
/-- the body of an abstraction -/
def sp_bd (t : kF) : Option kF := match t with
  | .group (.append _ b) _ => some b
  | _ => none
noncomputable def sp_r4 (t : Option kF) : Option kQ := t.bind fun t => (sp_fa t).bind fun f => (sp_bd f.1).bind fun b => some (sp_eq t (sp_iO f.2 b), [])
noncomputable def sp_r5 (t : Option kF) : Option kQ := t.bind fun t => sp_if (fo_ty t = fo_tb 0) (some (t, [t]))
noncomputable def sp_r6 (p q : Option kQ) : Option kQ := p.bind fun p => q.bind fun q => (sp_sd p.1).bind fun l => sp_if (l.1 = q.1) (some (l.2, p.2 ++ q.2))
noncomputable def sp_r7 (p q : Option kQ) : Option kQ := p.bind fun p => q.bind fun q => some (sp_eq p.1 q.1, sp_bt q.1 p.2 ++ sp_bt p.1 q.2)
noncomputable def sp_r8 (p : Option kQ) (x y : Option kF) : Option kQ := p.bind fun p => x.bind fun x => y.bind fun y => sp_if ((∃ k A, x = fo_lf 0 k A) ∧ fo_ty y = fo_ty x) (some (sp_iR x y p.1, p.2.map (sp_iR x y)))
/-- which type variable a type is -/
noncomputable def sp_tv (t : kF) : Option Nat := match t with
  | .tag j .nil => sp_if (2 ≤ j ∧ j < 6) (some j)
  | _ => none
noncomputable def sp_r9 (p : Option kQ) (x y : Option kF) : Option kQ := p.bind fun p => x.bind fun x => y.bind fun y => (sp_tv x).bind fun j => some (sp_iT j y p.1, p.2.map (sp_iT j y))
noncomputable def sp_r10 (p q : Option kQ) : Option kQ := p.bind fun p => q.bind fun q => (sp_sd p.1).bind fun l => some (sp_iR l.1 l.2 q.1, p.2 ++ q.2)
noncomputable def sp_rl (fx : Int32 → Int32) (NT NM : List kF) (FS : List kQ) (op : Nat) (a b c : Int32) : Option kQ :=
  match op with
  | 0 => sp_r0 (sp_at NM a)
  | 1 => sp_r1 (sp_at FS (fx a)) (sp_at FS (fx b))
  | 2 => sp_r2 (sp_at FS (fx a)) (sp_at FS (fx b))
  | 3 => sp_r3 (sp_at NM a) (sp_at FS (fx b))
  | 4 => sp_r4 (sp_at NM a)
  | 5 => sp_r5 (sp_at NM a)
  | 6 => sp_r6 (sp_at FS (fx a)) (sp_at FS (fx b))
  | 7 => sp_r7 (sp_at FS (fx a)) (sp_at FS (fx b))
  | 8 => sp_r8 (sp_at FS (fx a)) (sp_at NM b) (sp_at NM c)
  | 9 => sp_r9 (sp_at FS (fx a)) (sp_at NT b) (sp_at NT c)
  | 10 => sp_r10 (sp_at FS (fx a)) (sp_at FS (fx b))
  | _ => none
/-- the hypotheses that a fact is given, one after the other: each once, at most twelve -/
noncomputable def sp_ds (D : List kF) (b : Bool) : List kF → List kF × Bool
  | [] => (D, b)
  | h :: l => @ite _ (h ∈ D) (Classical.propDecidable _) (sp_ds D b l) (if D.length < 12 then sp_ds (D ++ [h]) b l else sp_ds D true l)
theorem sp_ds_in {D : List kF} {b : Bool} {h : kF} {l : List kF} (e : h ∈ D) : sp_ds D b (h :: l) = sp_ds D b l := if_pos e
theorem sp_ds_new {D : List kF} {b : Bool} {h : kF} {l : List kF} (e : h ∉ D) (n : D.length < 12) : sp_ds D b (h :: l) = sp_ds (D ++ [h]) b l := (if_neg e).trans (if_pos n)
theorem sp_ds_full {D : List kF} {b : Bool} {h : kF} {l : List kF} (e : h ∉ D) (n : ¬ D.length < 12) : sp_ds D b (h :: l) = sp_ds D true l := (if_neg e).trans (if_neg n)
theorem sp_ds_app : ∀ (l m : List kF) (D : List kF) (b : Bool), sp_ds D b (l ++ m) = sp_ds (sp_ds D b l).1 (sp_ds D b l).2 m
  | [], m, D, b => rfl
  | h :: l, m, D, b => by
    rw [List.cons_append]
    by_cases e : h ∈ D
    · rw [sp_ds_in e, sp_ds_in e, sp_ds_app l m]
    · by_cases n : D.length < 12
      · rw [sp_ds_new e n, sp_ds_new e n, sp_ds_app l m]
      · rw [sp_ds_full e n, sp_ds_full e n, sp_ds_app l m]
theorem sp_ds_bad : ∀ (l : List kF) (D : List kF), (sp_ds D true l).2 = true
  | [], D => rfl
  | h :: l, D => by
    by_cases e : h ∈ D
    · rw [sp_ds_in e]; exact sp_ds_bad l D
    · by_cases n : D.length < 12
      · rw [sp_ds_new e n]; exact sp_ds_bad l _
      · rw [sp_ds_full e n]; exact sp_ds_bad l D
/-- what a rule makes -/
def sp_g (c : kF) (raw : List kF) : kU := fun _ V => V c ∧ ∀ h, h ∈ raw → V h
/-- line -1 - a of a replay, or fact a -/
def sp_fx (n0 m : Int32) (a : Int32) : Int32 := if a < 0 then (if -1 - a < m then n0 + (-1 - a) else -1) else a
