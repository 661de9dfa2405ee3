/-! ===== THE START: what the constructors leave ===== -/
/-- the cells as the constructors leave them -/
def kS0 : kS := fun o => match o with
  | 1 => fun i => match i with
    | 6 => 2
    | 7 => 2
    | _ => 0
  | 2 => fun i => match i with
    | 2 => 2
    | _ => 0
  | 3 => upd (upd ko_z 0 0) 1 1
  | 4 => upd (upd (ko_f 50 (-1) ko_z) 0 0) 1 1
  | 5 => upd (upd ko_z 0 0) 1 0
  | 6 => upd (upd ko_z 0 0) 1 1
  | 7 => upd (upd ko_z 0 0) 1 0
  | 8 => upd (upd ko_z 0 0) 1 0
  | 9 => upd (upd ko_z 0 1) 1 1
  | 13 => ko_f 250 (-1) ko_z
  | 22 => ko_f 64 (-1) ko_z
  | 39 => fun i => match i with
    | 0 => 2
    | 8 => 2
    | _ => 0
  | 40 => upd ko_z 1 1
  | 43 => upd (upd ko_z 0 1) 1 1
  | 45 => upd ko_z 1 1
  | 46 => upd ko_z 1 1
  | _ => ko_z
def kM0 : kO := (fun x => x ∈ [fo_tb 0, fo_tb 1], fun x => x ∈ ([] : List kF), [fo_tb 0, fo_tb 1], [], [], 0, 0, [])
theorem k0_nd : [fo_tb 0, fo_tb 1].Nodup := by
  refine List.nodup_cons.mpr ⟨fun h => ?_, List.nodup_cons.mpr ⟨fun h => (by cases h), List.nodup_nil⟩⟩
  have h1 := List.mem_singleton.mp h
  unfold fo_tb at h1
  injection h1 with h2 h3
  exact absurd h2 (by decide)
theorem k0_at {k : Nat} {t : kF} (h : [fo_tb 0, fo_tb 1][k]? = some t) : k < 2 ∧ t = fo_tb k := by
  match k, h with
  | 0, h => exact ⟨by decide, (Option.some.inj h).symm⟩
  | 1, h => exact ⟨by decide, (Option.some.inj h).symm⟩
  | k + 2, h => cases h
theorem k0_in {t : kF} (h : t ∈ [fo_tb 0, fo_tb 1]) : ∃ k, k < 2 ∧ t = fo_tb k := by
  obtain ⟨k, hk⟩ := List.getElem?_of_mem h
  exact ⟨k, k0_at hk⟩
theorem k0_SL : fo_SL [fo_tb 0, fo_tb 1] [] := by
  refine ⟨k0_nd, List.nodup_nil, ⟨fun a b h => ?_, fun t h => (by cases h), fun f x h => (by cases h), fun A b h => (by cases h)⟩, fun x h => ?_, fun x h => (by cases h), by decide, by decide, rfl⟩
  · obtain ⟨k, _, e⟩ := k0_in h
    cases e
  · obtain ⟨k, hk, rfl⟩ := k0_in h
    exact ⟨fo_tw_tb (by omega), by show (1 : Nat) ≤ 10; decide⟩
theorem k0_tb {i j : Nat} (h : fo_tb i = fo_tb j) : i = j := by
  unfold fo_tb at h
  injection h
theorem k0_Tc : rp_T kS0 5 6 7 9 8 3 rc_b [fo_tb 0, fo_tb 1] := by
  intro k t h
  obtain ⟨hk, rfl⟩ := k0_at h
  rcases (show k = 0 ∨ k = 1 by omega) with rfl | rfl
  · refine ⟨by decide, by decide, fun j e => ?_, fun a b e => (by cases e)⟩
    have := k0_tb e
    subst this
    decide
  · refine ⟨by decide, by decide, fun j e => ?_, fun a b e => (by cases e)⟩
    have := k0_tb e
    subst this
    decide
theorem k0_Tr : rp_T kS0 40 41 42 43 44 4 rr_b [fo_tb 0, fo_tb 1] := by
  intro k t h
  obtain ⟨hk, rfl⟩ := k0_at h
  rcases (show k = 0 ∨ k = 1 by omega) with rfl | rfl
  · refine ⟨by decide, by decide, fun j e => ?_, fun a b e => (by cases e)⟩
    have := k0_tb e
    subst this
    decide
  · refine ⟨by decide, by decide, fun j e => ?_, fun a b e => (by cases e)⟩
    have := k0_tb e
    subst this
    decide
theorem k0_Nc : rp_N kS0 3 4 [fo_tb 0, fo_tb 1] [fo_tb 0, fo_tb 1] := by
  refine ⟨k0_nd, fun j t h => ?_, fun k t h => Or.inl ?_⟩
  · refine ⟨j, h, ?_⟩
    obtain ⟨hk, _⟩ := k0_at h
    rcases (show j = 0 ∨ j = 1 by omega) with rfl | rfl <;> decide
  · refine ⟨k, h, ?_⟩
    obtain ⟨hk, _⟩ := k0_at h
    rcases (show k = 0 ∨ k = 1 by omega) with rfl | rfl <;> decide
theorem k0_Nr : rp_N kS0 46 45 [fo_tb 0, fo_tb 1] [fo_tb 0, fo_tb 1] := by
  refine ⟨k0_nd, fun j t h => ?_, fun k t h => Or.inl ?_⟩
  · refine ⟨j, h, ?_⟩
    obtain ⟨hk, _⟩ := k0_at h
    rcases (show j = 0 ∨ j = 1 by omega) with rfl | rfl <;> decide
  · refine ⟨k, h, ?_⟩
    obtain ⟨hk, _⟩ := k0_at h
    rcases (show k = 0 ∨ k = 1 by omega) with rfl | rfl <;> decide
theorem k0_N0 (cp cn : Nat) : rp_N kS0 cp cn [] [] := ⟨List.nodup_nil, fun j t h => (by cases h), fun k t h => (by cases h)⟩
theorem k0_num {k : Nat} (h1 : 2 ≤ k) (h2 : k < 50) : kS0 4 k = -1 := by
  show (if k = 1 then (1 : Int32) else if k = 0 then 0 else if k < 50 then -1 else 0) = -1
  rw [if_neg (by omega), if_neg (by omega), if_pos h2]
theorem k0_rc : rc_R kS0 kM0 0 := by
  refine ⟨[fo_tb 0, fo_tb 1], [], ⟨⟨k0_SL, by decide, by decide, k0_Tc, fun k t h => (by cases h), ?_⟩, ⟨by decide, by decide, fun k c hs h => (by cases h)⟩, ⟨k0_Nc, by decide, fun k h1 h2 => k0_num h1 h2⟩, ⟨k0_N0 12 13, by decide, fun k _ h2 => ?_⟩⟩, ⟨by decide, by decide, by decide⟩, ⟨by decide, fun u i _ _ => ⟨0, 0, by decide, by decide, rfl⟩, fun i _ => ⟨0, 0, by decide, by decide, rfl⟩⟩, fun x => Iff.rfl, fun x => Iff.rfl, ⟨by decide, by decide, by decide, by decide, ⟨by decide, by decide, fun i o a b c h => (by cases h)⟩⟩⟩
  · refine ⟨fun p h => absurd h (Nat.not_lt_zero p), fun p h => absurd h (Nat.not_lt_zero p), fun h hh => Or.inl ⟨?_, fun q hq => absurd hq (Nat.not_lt_zero q)⟩, fun p h => absurd h (Nat.not_lt_zero p)⟩
    show (if h < 64 then (-1 : Int32) else 0) = -1
    rw [if_pos hh]
  · show (if k < 250 then (-1 : Int32) else 0) = -1
    rw [if_pos h2]
theorem k0_rr : rr_R kS0 kM0 := by
  refine ⟨[fo_tb 0, fo_tb 1], [], ⟨k0_SL, by decide, by decide, k0_Tr, fun k t h => (by cases h), fun k _ => ⟨0, by decide, rfl⟩, k0_Nr, k0_N0 53 52⟩, ⟨by decide, by decide, fun k c hs h => (by cases h)⟩, by decide, by decide, fun x => Iff.rfl, fun x => Iff.rfl, ⟨by decide, by decide, by decide, by decide, ⟨by decide, by decide, fun i o a b c h => (by cases h)⟩⟩⟩
theorem k0_kM : sp_kM kM0 := ⟨⟨fun t h => (by cases h), fun q h => (by cases h)⟩, fun t h => by
  obtain ⟨k, hk, rfl⟩ := k0_in h
  exact fo_tw_tb (by omega)⟩
theorem k0_both : kBoth kS0 kM0 0 := ⟨k0_rc, k0_rr, k0_kM⟩
