/-! ===== THE REFERENCE: a new type ===== -/
section JPUB5
variable {d : Nat} {S : kS} {LT LM NT NM : List kF} {g : kU} {S1 : kS} {LT1 LM1 : List kF} {b : Bool} {F : Int32 → kS → Prop}
theorem rm_leaf {s n : Nat} {A : kF} {r1 : Int32} (h : rr_J S LT LM NT NM g S1 LT1 LM1 b) (hA : rr_v LT1 50 b A r1) (hs : s = 0 ∨ s = 2) (hn : n < 8) (hg : s = 2 → fo_gt A = false) (hw : fo_tw A) (need : ∀ U V, fo_Cl U V → g U V → V (fo_lf s n A))
    (k : ∀ r S2 LM2 b2, rr_J S LT LM NT NM g S2 LT1 LM2 b2 → LM1 <+: LM2 → rr_FC S1 S2 → (b2 = false → b = false) → rr_v LM2 250 b2 (fo_lf s n A) r → F r S2) : kK (d + 1) m_Mo_term [.inr 39, .inl (kn s), .inl (kn n), .inl 0, .inl r1] S1 (kq F) := by
  refine rm_term (t := fo_lf s n A) (c := 0) h (by omega) (by omega) (by decide) (fun hb => ?_) need (fun r S2 LM2 b2 J2 p2 f2 q2 i2 v2 => k r S2 LM2 b2 J2 p2 f2 i2 v2)
  obtain ⟨y, hy, ey⟩ := hA.2 hb
  refine ⟨y, ey, ⟨hy, Or.inl ⟨A, rfl, rfl, by omega, by omega⟩⟩, [], fo_wf_lf ⟨hw, ?_⟩⟩
  rcases hs with hs | hs
  · exact Or.inl ⟨hs, hn⟩
  · exact Or.inr (Or.inr (Or.inl ⟨hs, hn, hg hs⟩))
theorem rm_around {f u z : kF} {r1 r2 r3 : Int32} (h : rr_J S LT LM NT NM g S1 LT1 LM1 b) (hf : rr_v LM1 250 b f r1) (hu : rr_v LM1 250 b u r2) (hz : rr_v LM1 250 b z r3) (w1 : fo_wf [] (fo_ap u z)) (w2 : fo_wf [] (fo_ap f (fo_ap u z))) (wz : fo_wf [] z) (et : fo_ty (fo_ap f (fo_ap u z)) = fo_ty z) (need : ∀ U V, fo_Cl U V → g U V → V (sp_eq (fo_ap f (fo_ap u z)) z))
    (k : ∀ r S2 LT2 LM2 b2, rr_J S LT LM NT NM g S2 LT2 LM2 b2 → LT1 <+: LT2 → LM1 <+: LM2 → rr_FC S1 S2 → (b2 = false → b = false) → rr_v LM2 250 b2 (sp_eq (fo_ap f (fo_ap u z)) z) r → F r S2) : kK (d + 4) m_Mo_around [.inr 39, .inl r1, .inl r2, .inl r3] S1 (kq F) := by
  have n2 : ∀ U V, fo_Cl U V → g U V → V (fo_ap f (fo_ap u z)) := fun U V hc hg => (hc.2.2.1 _ _ (hc.2.2.1 _ _ (need U V hc hg)).1).2
  have n1 : ∀ U V, fo_Cl U V → g U V → V (fo_ap u z) := fun U V hc hg => (hc.2.2.1 _ _ (n2 U V hc hg)).2
  refine g_Mo_around ⟨fun _ => ?_, fun e => ?_⟩
  · refine rm_app h hu hz (fun _ => ⟨[], w1⟩) n1 (fun r2 S2 LM2 b2 J2 p2 f2 q2 i2 v2 => ?_)
    refine rm_app J2 (rr_v_gr hf p2 i2) v2 (fun _ => ⟨[], w2⟩) n2 (fun r3 S3 LM3 b3 J3 p3 f3 q3 i3 v3 => ?_)
    exact rm_eqn J3 v3 (rr_v_gr hz (p2.trans p3) (fun e => i2 (i3 e))) (fun _ => ⟨[], w2, wz⟩) (fun _ => et) need (fun r4 S4 LT4 LM4 b4 J4 p4 p4' f4 q4 i4 v4 => k r4 S4 LT4 LM4 b4 J4 p4 (p2.trans (p3.trans p4')) (rr_FC_tr f2 (rr_FC_tr f3 f4)) (fun e => i2 (i3 (i4 e))) v4)
  · have hb : b = true := kb_nz.mp (by rw [← h.2.1]; exact e)
    subst hb
    exact k 0 S1 LT1 LM1 true h (List.prefix_refl _) (List.prefix_refl _) rr_FC_rf id ⟨⟨0, by decide, rfl⟩, fun e => by cases e⟩
theorem rm_fact_bad {r : Int32} (hb : ¬ S1 39 33 = 0) (k : F (-1) (ku S1 39 33 1)) : kK (d + 1) m_Mo_fact [.inr 39, .inl r] S1 (kq F) := g_Mo_fact (fun G hG => ⟨fun _ => k, fun e => absurd hb e⟩)
end JPUB5
