/-! printed: regions, their weakest preconditions -/
-- Fa_sizeOf cuts []
set_option maxRecDepth 20000 in
theorem f_Fa_sizeOf_0 {M : kM} (hM : kMo M) {F : Int32 → kS → Prop} {G : kG} (h : kCl kC M (kq F) 49 G) {S : kS} {a0 : Int32} (q :
  M m_Fa_isFact [.inr 25, .inl a0] S (kq fun r2 S1 =>
    (r2 = 0 →
      F ((-1)) S1) ∧
    (¬ (r2 = 0) →
      vp_in a0 60 ∧
      F (S1 27 (a0.toNatClampNeg)) S1))) :
  G 0 [some (.inr 25), some (.inl a0)] [] S :=
  (h.s 0 rfl (h.s 1 rfl (h.s 2 rfl (And.intro (Nat.le_of_ble_eq_true rfl) (And.intro rfl (And.intro rfl (hM.q q (fun r2 S1 q3 => (h.s 5 rfl (And.intro (fun e4 => (h.s 17 rfl (h.s 18 rfl (kq_mk (q3.1 e4))))) (fun e4 => (h.s 8 rfl (h.s 9 rfl (h.s 12 rfl (h.s 13 rfl (And.intro (q3.2 e4).1 (h.s 14 rfl (h.s 18 rfl (kq_mk (q3.2 e4).2)))))))))))))))))))
theorem g_Fa_sizeOf {d : Nat} {F : Int32 → kS → Prop} {S : kS} {a0 : Int32} (q :
  kK d m_Fa_isFact [.inr 25, .inl a0] S (kq fun r2 S1 =>
    (r2 = 0 →
      F ((-1)) S1) ∧
    (¬ (r2 = 0) →
      vp_in a0 60 ∧
      F (S1 27 (a0.toNatClampNeg)) S1))) :
  kK (d + 1) m_Fa_sizeOf [.inr 25, .inl a0] S (kq F) := kspec_of (fun _ h => f_Fa_sizeOf_0 kspec_Mo h q)
-- Fa_hypothesis cuts []
set_option maxRecDepth 20000 in
theorem f_Fa_hypothesis_0 {M : kM} (hM : kMo M) {F : Int32 → kS → Prop} {G : kG} (h : kCl kC M (kq F) 50 G) {S : kS} {a0 a1 : Int32} (q :
  vp_in ((a0 * 12) + a1) 720 ∧
  F (S 28 (((a0 * 12) + a1).toNatClampNeg)) S) :
  G 0 [some (.inr 25), some (.inl a0), some (.inl a1)] [] S :=
  (h.s 0 rfl (h.s 1 rfl (h.s 4 rfl (h.s 5 rfl (h.s 7 rfl (h.s 8 rfl (h.s 9 rfl (h.s 10 rfl (And.intro q.1 (h.s 11 rfl (kq_mk q.2)))))))))))
theorem g_Fa_hypothesis {d : Nat} {F : Int32 → kS → Prop} {S : kS} {a0 a1 : Int32} (q :
  vp_in ((a0 * 12) + a1) 720 ∧
  F (S 28 (((a0 * 12) + a1).toNatClampNeg)) S) :
  kK (d + 1) m_Fa_hypothesis [.inr 25, .inl a0, .inl a1] S (kq F) := kspec_of (fun _ h => f_Fa_hypothesis_0 kspec_Mo h q)
-- Fa_assume cuts [2]
set_option maxRecDepth 20000 in
theorem f_Fa_assume_0 {M : kM} (hM : kMo M) {F : kS → Prop} {G : kG} (h : kCl kC M (kv F) 51 G) {S : kS} {a0 : Int32} (q :
  G 2 [some (.inr 25), some (.inl a0), some (.inl 0)] [] S) :
  G 0 [some (.inr 25), some (.inl a0), none] [] S :=
  (h.s 0 rfl (h.s 1 rfl q))
theorem g_Fa_assume {d : Nat} {F : kS → Prop} {S : kS} {a0 : Int32} (q : ∀ G : kG, kCl kC (kK d) (kv F) 51 G →
  G 2 [some (.inr 25), some (.inl a0), some (.inl 0)] [] S) :
  kK (d + 1) m_Fa_assume [.inr 25, .inl a0] S (kv F) := kspec_of (fun G h => f_Fa_assume_0 kspec_Mo h (q G h))
set_option maxRecDepth 20000 in
theorem f_Fa_assume_2 {M : kM} (hM : kMo M) {F : kS → Prop} {G : kG} (h : kCl kC M (kv F) 51 G) {S : kS} {v1 v2 : Int32} (q :
  ((S 25 4) ≤ v2 →
    (v1 < 0 →
      F (ku S 25 5 1)) ∧
    (¬ (v1 < 0) →
      ((S 25 4) < 12 →
        vp_in (S 25 4) 12 ∧
        F (ku (ku S 29 ((S 25 4).toNatClampNeg) v1) 25 4 ((S 25 4) + 1))) ∧
      (¬ ((S 25 4) < 12) →
        F (ku S 25 5 1)))) ∧
  (¬ ((S 25 4) ≤ v2) →
    vp_in v2 12 ∧
    (¬ (S 29 (v2.toNatClampNeg)) = v1 →
      G 2 [some (.inr 25), some (.inl v1), some (.inl (v2 + 1))] [] S) ∧
    (¬ (¬ (S 29 (v2.toNatClampNeg)) = v1) →
      F S))) :
  G 2 [some (.inr 25), some (.inl v1), some (.inl v2)] [] S :=
  (h.s 2 rfl (h.s 3 rfl (h.s 4 rfl (h.s 7 rfl (And.intro (fun e1 => (h.s 27 rfl (h.s 28 rfl (And.intro (fun e2 => (h.s 40 rfl (h.s 41 rfl (h.s 42 rfl (And.intro (Or.inr rfl) (h.s 45 rfl (kv_mk ((q.1 e1).1 e2)))))))) (fun e2 => (h.s 31 rfl (h.s 32 rfl (h.s 35 rfl (h.s 37 rfl (And.intro (fun e3 => (h.s 46 rfl (h.s 47 rfl (h.s 50 rfl (h.s 51 rfl (h.s 54 rfl (h.s 55 rfl (And.intro (((q.1 e1).2 e2).1 e3).1 (h.s 56 rfl (h.s 57 rfl (h.s 58 rfl (h.s 61 rfl (h.s 62 rfl (h.s 63 rfl (h.s 66 rfl (kv_mk (((q.1 e1).2 e2).1 e3).2)))))))))))))))) (fun e3 => (h.s 40 rfl (h.s 41 rfl (h.s 42 rfl (And.intro (Or.inr rfl) (h.s 45 rfl (kv_mk (((q.1 e1).2 e2).2 e3)))))))))))))))))) (fun e1 => (h.s 10 rfl (h.s 11 rfl (h.s 14 rfl (h.s 15 rfl (And.intro (q.2 e1).1 (h.s 16 rfl (h.s 17 rfl (And.intro (fun e4 => (h.s 21 rfl (h.s 24 rfl ((q.2 e1).2.1 e4)))) (fun e4 => (h.s 20 rfl (kv_mk ((q.2 e1).2.2 e4))))))))))))))))))
-- Ru_congruence cuts []
set_option maxRecDepth 20000 in
theorem f_Ru_congruence_0 {M : kM} (hM : kMo M) {F : Int32 → kS → Prop} {G : kG} (h : kCl kC M (kq F) 52 G) {S : kS} {a0 a1 : Int32} (q :
  M m_Ru_leftOf [.inr 33, .inl a0] S (kq fun r2 S1 =>
    M m_Ru_leftOf [.inr 33, .inl a1] S1 (kq fun r4 S3 =>
      (r2 < 0 →
        F ((-1)) S3) ∧
      (¬ (r2 < 0) →
        (0 ≤ r4 →
          M m_Te_application [.inr 10, .inl r2, .inl r4] S3 (kq fun r6 S5 =>
            M m_Ru_rightOf [.inr 33, .inl a0] S5 (kq fun r8 S7 =>
              M m_Ru_rightOf [.inr 33, .inl a1] S7 (kq fun r10 S9 =>
                M m_Te_application [.inr 10, .inl r8, .inl r10] S9 (kq fun r12 S11 =>
                  M m_Te_equation [.inr 10, .inl r6, .inl r12] S11 (kq fun r14 S13 =>
                    M m_Ru_closeWithBoth [.inr 33, .inl a0, .inl a1, .inl r14] S13 (kq fun r16 S15 =>
                      F r16 S15))))))) ∧
        (¬ (0 ≤ r4) →
          F ((-1)) S3))))) :
  G 0 [some (.inr 33), some (.inl a0), some (.inl a1), none, none, none, none] [] S :=
  (h.s 0 rfl (h.s 1 rfl (h.s 2 rfl (And.intro (Nat.le_of_ble_eq_true rfl) (And.intro rfl (And.intro rfl (hM.q q (fun r2 S1 q17 => (h.s 5 rfl (h.s 6 rfl (h.s 7 rfl (h.s 8 rfl (And.intro (Nat.le_of_ble_eq_true rfl) (And.intro rfl (And.intro rfl (hM.q q17 (fun r4 S3 q18 => (h.s 11 rfl (h.s 13 rfl (h.s 14 rfl (And.intro (fun e19 => (h.s 22 rfl (h.s 23 rfl (kq_mk (q18.1 e19))))) (fun e19 => (h.s 17 rfl (h.s 19 rfl (And.intro (fun e20 => (h.s 24 rfl (h.s 25 rfl (h.s 28 rfl (h.s 29 rfl (h.s 31 rfl (And.intro (Nat.le_of_ble_eq_true rfl) (And.intro rfl (And.intro rfl (hM.q ((q18.2 e19).1 e20) (fun r6 S5 q21 => (h.s 34 rfl (h.s 36 rfl (h.s 37 rfl (h.s 40 rfl (h.s 41 rfl (h.s 42 rfl (And.intro (Nat.le_of_ble_eq_true rfl) (And.intro rfl (And.intro rfl (hM.q q21 (fun r8 S7 q22 => (h.s 45 rfl (h.s 46 rfl (h.s 47 rfl (And.intro (Nat.le_of_ble_eq_true rfl) (And.intro rfl (And.intro rfl (hM.q q22 (fun r10 S9 q23 => (h.s 50 rfl (And.intro (Nat.le_of_ble_eq_true rfl) (And.intro rfl (And.intro rfl (hM.q q23 (fun r12 S11 q24 => (h.s 53 rfl (h.s 55 rfl (h.s 56 rfl (h.s 57 rfl (h.s 58 rfl (h.s 59 rfl (h.s 62 rfl (h.s 64 rfl (h.s 66 rfl (And.intro (Nat.le_of_ble_eq_true rfl) (And.intro rfl (And.intro rfl (hM.q q24 (fun r14 S13 q25 => (h.s 69 rfl (And.intro (Nat.le_of_ble_eq_true rfl) (And.intro rfl (And.intro rfl (hM.q q25 (fun r16 S15 q26 => (h.s 72 rfl (kq_mk q26)))))))))))))))))))))))))))))))))))))))))))))))))))))))))) (fun e20 => (h.s 22 rfl (h.s 23 rfl (kq_mk ((q18.2 e19).2 e20))))))))))))))))))))))))))))))
theorem g_Ru_congruence {d : Nat} {F : Int32 → kS → Prop} {S : kS} {a0 a1 : Int32} (q :
  kK d m_Ru_leftOf [.inr 33, .inl a0] S (kq fun r2 S1 =>
    kK d m_Ru_leftOf [.inr 33, .inl a1] S1 (kq fun r4 S3 =>
      (r2 < 0 →
        F ((-1)) S3) ∧
      (¬ (r2 < 0) →
        (0 ≤ r4 →
          kK d m_Te_application [.inr 10, .inl r2, .inl r4] S3 (kq fun r6 S5 =>
            kK d m_Ru_rightOf [.inr 33, .inl a0] S5 (kq fun r8 S7 =>
              kK d m_Ru_rightOf [.inr 33, .inl a1] S7 (kq fun r10 S9 =>
                kK d m_Te_application [.inr 10, .inl r8, .inl r10] S9 (kq fun r12 S11 =>
                  kK d m_Te_equation [.inr 10, .inl r6, .inl r12] S11 (kq fun r14 S13 =>
                    kK d m_Ru_closeWithBoth [.inr 33, .inl a0, .inl a1, .inl r14] S13 (kq fun r16 S15 =>
                      F r16 S15))))))) ∧
        (¬ (0 ≤ r4) →
          F ((-1)) S3))))) :
  kK (d + 1) m_Ru_congruence [.inr 33, .inl a0, .inl a1] S (kq F) := kspec_of (fun _ h => f_Ru_congruence_0 kspec_Mo h q)
-- Ru_underAbstraction cuts []
set_option maxRecDepth 20000 in
theorem f_Ru_underAbstraction_0 {M : kM} (hM : kMo M) {F : Int32 → kS → Prop} {G : kG} (h : kCl kC M (kq F) 53 G) {S : kS} {a0 a1 : Int32} (q :
  M m_Ru_leftOf [.inr 33, .inl a1] S (kq fun r2 S1 =>
    (r2 < 0 →
      F ((-1)) S1) ∧
    (¬ (r2 < 0) →
      M m_Te_sortAt [.inr 10, .inl a0] S1 (kq fun r4 S3 =>
        (¬ r4 = 0 →
          F ((-1)) S3) ∧
        (¬ (¬ r4 = 0) →
          M m_Ru_isAssumedOf [.inr 33, .inl a0, .inl a1] S3 (kq fun r6 S5 =>
            (r6 = 0 →
              M m_Fa_assumeAllBut [.inr 25, .inl a1, .inl ((-1))] S5 (kv fun S7 =>
                M m_Ch_abstracted [.inr 30, .inl a0, .inl r2] S7 (kq fun r9 S8 =>
                  M m_Ru_rightOf [.inr 33, .inl a1] S8 (kq fun r11 S10 =>
                    M m_Ch_abstracted [.inr 30, .inl a0, .inl r11] S10 (kq fun r13 S12 =>
                      M m_Te_equation [.inr 10, .inl r9, .inl r13] S12 (kq fun r15 S14 =>
                        M m_Fa_close [.inr 25, .inl r15] S14 (kq fun r17 S16 =>
                          F r17 S16))))))) ∧
            (¬ (r6 = 0) →
              F ((-1)) S5))))))) :
  G 0 [some (.inr 33), some (.inl a0), some (.inl a1), none, none] [] S :=
  (h.s 0 rfl (h.s 1 rfl (h.s 2 rfl (And.intro (Nat.le_of_ble_eq_true rfl) (And.intro rfl (And.intro rfl (hM.q q (fun r2 S1 q18 => (h.s 5 rfl (h.s 6 rfl (h.s 7 rfl (And.intro (fun e19 => (h.s 30 rfl (h.s 31 rfl (kq_mk (q18.1 e19))))) (fun e19 => (h.s 10 rfl (h.s 11 rfl (h.s 14 rfl (h.s 15 rfl (And.intro (Nat.le_of_ble_eq_true rfl) (And.intro rfl (And.intro rfl (hM.q (q18.2 e19) (fun r4 S3 q20 => (h.s 18 rfl (And.intro (fun e21 => (h.s 30 rfl (h.s 31 rfl (kq_mk (q20.1 e21))))) (fun e21 => (h.s 21 rfl (h.s 22 rfl (h.s 23 rfl (h.s 24 rfl (And.intro (Nat.le_of_ble_eq_true rfl) (And.intro rfl (And.intro rfl (hM.q (q20.2 e21) (fun r6 S5 q22 => (h.s 27 rfl (And.intro (fun e23 => (h.s 32 rfl (h.s 33 rfl (h.s 36 rfl (h.s 37 rfl (h.s 38 rfl (And.intro (Nat.le_of_ble_eq_true rfl) (And.intro rfl (And.intro rfl (hM.v (q22.1 e23) (fun S7 q24 => (h.s 41 rfl (h.s 42 rfl (h.s 45 rfl (h.s 46 rfl (h.s 47 rfl (And.intro (Nat.le_of_ble_eq_true rfl) (And.intro rfl (And.intro rfl (hM.q q24 (fun r9 S8 q25 => (h.s 50 rfl (h.s 52 rfl (h.s 53 rfl (h.s 56 rfl (h.s 57 rfl (h.s 60 rfl (h.s 62 rfl (h.s 63 rfl (h.s 66 rfl (h.s 67 rfl (h.s 68 rfl (h.s 69 rfl (And.intro (Nat.le_of_ble_eq_true rfl) (And.intro rfl (And.intro rfl (hM.q q25 (fun r11 S10 q26 => (h.s 72 rfl (And.intro (Nat.le_of_ble_eq_true rfl) (And.intro rfl (And.intro rfl (hM.q q26 (fun r13 S12 q27 => (h.s 75 rfl (And.intro (Nat.le_of_ble_eq_true rfl) (And.intro rfl (And.intro rfl (hM.q q27 (fun r15 S14 q28 => (h.s 78 rfl (And.intro (Nat.le_of_ble_eq_true rfl) (And.intro rfl (And.intro rfl (hM.q q28 (fun r17 S16 q29 => (h.s 81 rfl (kq_mk q29)))))))))))))))))))))))))))))))))))))))))))))))))))))))))) (fun e23 => (h.s 30 rfl (h.s 31 rfl (kq_mk (q22.2 e23)))))))))))))))))))))))))))))))))))))))))
theorem g_Ru_underAbstraction {d : Nat} {F : Int32 → kS → Prop} {S : kS} {a0 a1 : Int32} (q :
  kK d m_Ru_leftOf [.inr 33, .inl a1] S (kq fun r2 S1 =>
    (r2 < 0 →
      F ((-1)) S1) ∧
    (¬ (r2 < 0) →
      kK d m_Te_sortAt [.inr 10, .inl a0] S1 (kq fun r4 S3 =>
        (¬ r4 = 0 →
          F ((-1)) S3) ∧
        (¬ (¬ r4 = 0) →
          kK d m_Ru_isAssumedOf [.inr 33, .inl a0, .inl a1] S3 (kq fun r6 S5 =>
            (r6 = 0 →
              kK d m_Fa_assumeAllBut [.inr 25, .inl a1, .inl ((-1))] S5 (kv fun S7 =>
                kK d m_Ch_abstracted [.inr 30, .inl a0, .inl r2] S7 (kq fun r9 S8 =>
                  kK d m_Ru_rightOf [.inr 33, .inl a1] S8 (kq fun r11 S10 =>
                    kK d m_Ch_abstracted [.inr 30, .inl a0, .inl r11] S10 (kq fun r13 S12 =>
                      kK d m_Te_equation [.inr 10, .inl r9, .inl r13] S12 (kq fun r15 S14 =>
                        kK d m_Fa_close [.inr 25, .inl r15] S14 (kq fun r17 S16 =>
                          F r17 S16))))))) ∧
            (¬ (r6 = 0) →
              F ((-1)) S5))))))) :
  kK (d + 1) m_Ru_underAbstraction [.inr 33, .inl a0, .inl a1] S (kq F) := kspec_of (fun _ h => f_Ru_underAbstraction_0 kspec_Mo h q)
-- Ru_isAssumedOf cuts [10]
set_option maxRecDepth 20000 in
theorem f_Ru_isAssumedOf_0 {M : kM} (hM : kMo M) {F : Int32 → kS → Prop} {G : kG} (h : kCl kC M (kq F) 54 G) {S : kS} {a0 a1 : Int32} (q :
  M m_Te_mark [.inr 10, .inl a0] S (kv fun S1 =>
    G 10 [some (.inr 33), some (.inl a0), some (.inl a1), some (.inl 0)] [] S1)) :
  G 0 [some (.inr 33), some (.inl a0), some (.inl a1), none] [] S :=
  (h.s 0 rfl (h.s 1 rfl (h.s 4 rfl (h.s 5 rfl (And.intro (Nat.le_of_ble_eq_true rfl) (And.intro rfl (And.intro rfl (hM.v q (fun S1 q2 => (h.s 8 rfl (h.s 9 rfl q2)))))))))))
theorem g_Ru_isAssumedOf {d : Nat} {F : Int32 → kS → Prop} {S : kS} {a0 a1 : Int32} (q : ∀ G : kG, kCl kC (kK d) (kq F) 54 G →
  kK d m_Te_mark [.inr 10, .inl a0] S (kv fun S1 =>
    G 10 [some (.inr 33), some (.inl a0), some (.inl a1), some (.inl 0)] [] S1)) :
  kK (d + 1) m_Ru_isAssumedOf [.inr 33, .inl a0, .inl a1] S (kq F) := kspec_of (fun G h => f_Ru_isAssumedOf_0 kspec_Mo h (q G h))
set_option maxRecDepth 20000 in
theorem f_Ru_isAssumedOf_10 {M : kM} (hM : kMo M) {F : Int32 → kS → Prop} {G : kG} (h : kCl kC M (kq F) 54 G) {S : kS} {v1 v2 v3 : Int32} (q :
  M m_Fa_sizeOf [.inr 25, .inl v2] S (kq fun r2 S1 =>
    (r2 ≤ v3 →
      F 0 S1) ∧
    (¬ (r2 ≤ v3) →
      M m_Fa_hypothesis [.inr 25, .inl v2, .inl v3] S1 (kq fun r4 S3 =>
        vp_in r4 250 ∧
        ((S3 19 (r4.toNatClampNeg)) = 0 →
          G 10 [some (.inr 33), some (.inl v1), some (.inl v2), some (.inl (v3 + 1))] [] S3) ∧
        (¬ ((S3 19 (r4.toNatClampNeg)) = 0) →
          F 1 S3))))) :
  G 10 [some (.inr 33), some (.inl v1), some (.inl v2), some (.inl v3)] [] S :=
  (h.s 10 rfl (h.s 11 rfl (h.s 12 rfl (h.s 15 rfl (h.s 16 rfl (And.intro (Nat.le_of_ble_eq_true rfl) (And.intro rfl (And.intro rfl (hM.q q (fun r2 S1 q5 => (h.s 19 rfl (And.intro (fun e6 => (h.s 50 rfl (h.s 51 rfl (And.intro (Or.inl rfl) (kq_mk (q5.1 e6)))))) (fun e6 => (h.s 22 rfl (h.s 23 rfl (h.s 26 rfl (h.s 29 rfl (h.s 30 rfl (h.s 33 rfl (h.s 34 rfl (h.s 35 rfl (And.intro (Nat.le_of_ble_eq_true rfl) (And.intro rfl (And.intro rfl (hM.q (q5.2 e6) (fun r4 S3 q7 => (h.s 38 rfl (And.intro q7.1 (h.s 39 rfl (And.intro (fun e8 => (h.s 44 rfl (h.s 47 rfl (q7.2.1 e8)))) (fun e8 => (h.s 42 rfl (h.s 43 rfl (And.intro (Or.inr rfl) (kq_mk (q7.2.2 e8))))))))))))))))))))))))))))))))))))
-- Te_mark cuts [2]
set_option maxRecDepth 20000 in
theorem f_Te_mark_0 {M : kM} (hM : kMo M) {F : kS → Prop} {G : kG} (h : kCl kC M (kv F) 55 G) {S : kS} {a0 : Int32} (q :
  G 2 [some (.inr 10), some (.inl a0), some (.inl 0)] [] S) :
  G 0 [some (.inr 10), some (.inl a0), none] [] S :=
  (h.s 0 rfl (h.s 1 rfl q))
theorem g_Te_mark {d : Nat} {F : kS → Prop} {S : kS} {a0 : Int32} (q : ∀ G : kG, kCl kC (kK d) (kv F) 55 G →
  G 2 [some (.inr 10), some (.inl a0), some (.inl 0)] [] S) :
  kK (d + 1) m_Te_mark [.inr 10, .inl a0] S (kv F) := kspec_of (fun G h => f_Te_mark_0 kspec_Mo h (q G h))
set_option maxRecDepth 20000 in
theorem f_Te_mark_2 {M : kM} (hM : kMo M) {F : kS → Prop} {G : kG} (h : kCl kC M (kv F) 55 G) {S : kS} {v1 v2 : Int32} (q :
  ((S 10 13) ≤ v2 →
    F S) ∧
  (¬ ((S 10 13) ≤ v2) →
    (v2 = v1 →
      vp_in v2 250 ∧
      G 2 [some (.inr 10), some (.inl v1), some (.inl (v2 + 1))] [] (ku S 19 (v2.toNatClampNeg) (vp_nar .boolean 1))) ∧
    (¬ (v2 = v1) →
      M m_Te_hasParts [.inr 10, .inl v2] S (kq fun r2 S1 =>
        (r2 = 0 →
          vp_in v2 250 ∧
          G 2 [some (.inr 10), some (.inl v1), some (.inl (v2 + 1))] [] (ku S1 19 (v2.toNatClampNeg) (vp_nar .boolean 0))) ∧
        (¬ (r2 = 0) →
          vp_in v2 250 ∧
          vp_in (S1 15 (v2.toNatClampNeg)) 250 ∧
          (¬ (S1 19 ((S1 15 (v2.toNatClampNeg)).toNatClampNeg)) = 0 →
            vp_in v2 250 ∧
            G 2 [some (.inr 10), some (.inl v1), some (.inl (v2 + 1))] [] (ku S1 19 (v2.toNatClampNeg) (vp_nar .boolean 1))) ∧
          (¬ (¬ (S1 19 ((S1 15 (v2.toNatClampNeg)).toNatClampNeg)) = 0) →
            vp_in v2 250 ∧
            vp_in (S1 16 (v2.toNatClampNeg)) 250 ∧
            ((S1 19 ((S1 16 (v2.toNatClampNeg)).toNatClampNeg)) = 0 →
              vp_in v2 250 ∧
              G 2 [some (.inr 10), some (.inl v1), some (.inl (v2 + 1))] [] (ku S1 19 (v2.toNatClampNeg) (vp_nar .boolean 0))) ∧
            (¬ ((S1 19 ((S1 16 (v2.toNatClampNeg)).toNatClampNeg)) = 0) →
              vp_in v2 250 ∧
              G 2 [some (.inr 10), some (.inl v1), some (.inl (v2 + 1))] [] (ku S1 19 (v2.toNatClampNeg) (vp_nar .boolean 1))))))))) :
  G 2 [some (.inr 10), some (.inl v1), some (.inl v2)] [] S :=
  (h.s 2 rfl (h.s 3 rfl (h.s 4 rfl (h.s 7 rfl (And.intro (fun e3 => (h.s 68 rfl (kv_mk (q.1 e3)))) (fun e3 => (h.s 10 rfl (h.s 11 rfl (h.s 14 rfl (h.s 15 rfl (h.s 16 rfl (h.s 17 rfl (And.intro (fun e4 => (h.s 56 rfl (h.s 57 rfl (h.s 61 rfl (And.intro ((q.2 e3).1 e4).1 (h.s 62 rfl (h.s 65 rfl ((q.2 e3).1 e4).2))))))) (fun e4 => (h.s 20 rfl (h.s 21 rfl (h.s 22 rfl (And.intro (Nat.le_of_ble_eq_true rfl) (And.intro rfl (And.intro rfl (hM.q ((q.2 e3).2 e4) (fun r2 S1 q5 => (h.s 25 rfl (And.intro (fun e6 => (h.s 60 rfl (h.s 61 rfl (And.intro (q5.1 e6).1 (h.s 62 rfl (h.s 65 rfl (q5.1 e6).2)))))) (fun e6 => (h.s 28 rfl (h.s 29 rfl (h.s 32 rfl (h.s 33 rfl (h.s 36 rfl (h.s 37 rfl (And.intro (q5.2 e6).1 (h.s 38 rfl (And.intro (q5.2 e6).2.1 (h.s 39 rfl (And.intro (fun e7 => (h.s 56 rfl (h.s 57 rfl (h.s 61 rfl (And.intro ((q5.2 e6).2.2.1 e7).1 (h.s 62 rfl (h.s 65 rfl ((q5.2 e6).2.2.1 e7).2))))))) (fun e7 => (h.s 42 rfl (h.s 43 rfl (h.s 46 rfl (h.s 47 rfl (h.s 50 rfl (h.s 51 rfl (And.intro ((q5.2 e6).2.2.2 e7).1 (h.s 52 rfl (And.intro ((q5.2 e6).2.2.2 e7).2.1 (h.s 53 rfl (And.intro (fun e8 => (h.s 60 rfl (h.s 61 rfl (And.intro (((q5.2 e6).2.2.2 e7).2.2.1 e8).1 (h.s 62 rfl (h.s 65 rfl (((q5.2 e6).2.2.2 e7).2.2.1 e8).2)))))) (fun e8 => (h.s 56 rfl (h.s 57 rfl (h.s 61 rfl (And.intro (((q5.2 e6).2.2.2 e7).2.2.2 e8).1 (h.s 62 rfl (h.s 65 rfl (((q5.2 e6).2.2.2 e7).2.2.2 e8).2)))))))))))))))))))))))))))))))))))))))))))))))))))))))
-- Te_hasParts cuts []
set_option maxRecDepth 20000 in
theorem f_Te_hasParts_0 {M : kM} (hM : kMo M) {F : Int32 → kS → Prop} {G : kG} (h : kCl kC M (kq F) 56 G) {S : kS} {a0 : Int32} (q :
  vp_in a0 250 ∧
  ((S 14 (a0.toNatClampNeg)) = 3 →
    F 1 S) ∧
  (¬ ((S 14 (a0.toNatClampNeg)) = 3) →
    vp_in a0 250 ∧
    (¬ (S 14 (a0.toNatClampNeg)) = 4 →
      F 0 S) ∧
    (¬ (¬ (S 14 (a0.toNatClampNeg)) = 4) →
      F 1 S))) :
  G 0 [some (.inr 10), some (.inl a0)] [] S :=
  (h.s 0 rfl (h.s 1 rfl (h.s 4 rfl (h.s 5 rfl (And.intro q.1 (h.s 6 rfl (h.s 7 rfl (And.intro (fun e1 => (h.s 20 rfl (h.s 21 rfl (h.s 25 rfl (And.intro (Or.inr rfl) (kq_mk (q.2.1 e1))))))) (fun e1 => (h.s 10 rfl (h.s 11 rfl (h.s 14 rfl (h.s 15 rfl (And.intro (q.2.2 e1).1 (h.s 16 rfl (h.s 17 rfl (And.intro (fun e2 => (h.s 24 rfl (h.s 25 rfl (And.intro (Or.inl rfl) (kq_mk ((q.2.2 e1).2.1 e2)))))) (fun e2 => (h.s 20 rfl (h.s 21 rfl (h.s 25 rfl (And.intro (Or.inr rfl) (kq_mk ((q.2.2 e1).2.2 e2))))))))))))))))))))))))
theorem g_Te_hasParts {d : Nat} {F : Int32 → kS → Prop} {S : kS} {a0 : Int32} (q :
  vp_in a0 250 ∧
  ((S 14 (a0.toNatClampNeg)) = 3 →
    F 1 S) ∧
  (¬ ((S 14 (a0.toNatClampNeg)) = 3) →
    vp_in a0 250 ∧
    (¬ (S 14 (a0.toNatClampNeg)) = 4 →
      F 0 S) ∧
    (¬ (¬ (S 14 (a0.toNatClampNeg)) = 4) →
      F 1 S))) :
  kK (d + 1) m_Te_hasParts [.inr 10, .inl a0] S (kq F) := kspec_of (fun _ h => f_Te_hasParts_0 kspec_Mo h q)
-- Ru_opening cuts []
set_option maxRecDepth 20000 in
theorem f_Ru_opening_0 {M : kM} (hM : kMo M) {F : Int32 → kS → Prop} {G : kG} (h : kCl kC M (kq F) 57 G) {S : kS} {a0 : Int32} (q :
  M m_Te_functionOf [.inr 10, .inl a0] S (kq fun r2 S1 =>
    M m_Te_sortAt [.inr 10, .inl r2] S1 (kq fun r4 S3 =>
      (r4 = 4 →
        M m_Te_argumentOf [.inr 10, .inl a0] S3 (kq fun r6 S5 =>
          M m_Ch_opened [.inr 30, .inl r2, .inl r6] S5 (kq fun r8 S7 =>
            M m_Te_equation [.inr 10, .inl a0, .inl r8] S7 (kq fun r10 S9 =>
              M m_Fa_close [.inr 25, .inl r10] S9 (kq fun r12 S11 =>
                F r12 S11))))) ∧
      (¬ (r4 = 4) →
        F ((-1)) S3)))) :
  G 0 [some (.inr 33), some (.inl a0), none] [] S :=
  (h.s 0 rfl (h.s 1 rfl (h.s 4 rfl (h.s 5 rfl (And.intro (Nat.le_of_ble_eq_true rfl) (And.intro rfl (And.intro rfl (hM.q q (fun r2 S1 q13 => (h.s 8 rfl (h.s 9 rfl (h.s 10 rfl (h.s 13 rfl (h.s 14 rfl (And.intro (Nat.le_of_ble_eq_true rfl) (And.intro rfl (And.intro rfl (hM.q q13 (fun r4 S3 q14 => (h.s 17 rfl (h.s 18 rfl (And.intro (fun e15 => (h.s 23 rfl (h.s 24 rfl (h.s 27 rfl (h.s 28 rfl (h.s 31 rfl (h.s 32 rfl (h.s 33 rfl (h.s 36 rfl (h.s 37 rfl (h.s 38 rfl (h.s 41 rfl (h.s 42 rfl (And.intro (Nat.le_of_ble_eq_true rfl) (And.intro rfl (And.intro rfl (hM.q (q14.1 e15) (fun r6 S5 q16 => (h.s 45 rfl (And.intro (Nat.le_of_ble_eq_true rfl) (And.intro rfl (And.intro rfl (hM.q q16 (fun r8 S7 q17 => (h.s 48 rfl (And.intro (Nat.le_of_ble_eq_true rfl) (And.intro rfl (And.intro rfl (hM.q q17 (fun r10 S9 q18 => (h.s 51 rfl (And.intro (Nat.le_of_ble_eq_true rfl) (And.intro rfl (And.intro rfl (hM.q q18 (fun r12 S11 q19 => (h.s 54 rfl (kq_mk q19)))))))))))))))))))))))))))))))))))))) (fun e15 => (h.s 21 rfl (h.s 22 rfl (kq_mk (q14.2 e15)))))))))))))))))))))))))))
theorem g_Ru_opening {d : Nat} {F : Int32 → kS → Prop} {S : kS} {a0 : Int32} (q :
  kK d m_Te_functionOf [.inr 10, .inl a0] S (kq fun r2 S1 =>
    kK d m_Te_sortAt [.inr 10, .inl r2] S1 (kq fun r4 S3 =>
      (r4 = 4 →
        kK d m_Te_argumentOf [.inr 10, .inl a0] S3 (kq fun r6 S5 =>
          kK d m_Ch_opened [.inr 30, .inl r2, .inl r6] S5 (kq fun r8 S7 =>
            kK d m_Te_equation [.inr 10, .inl a0, .inl r8] S7 (kq fun r10 S9 =>
              kK d m_Fa_close [.inr 25, .inl r10] S9 (kq fun r12 S11 =>
                F r12 S11))))) ∧
      (¬ (r4 = 4) →
        F ((-1)) S3)))) :
  kK (d + 1) m_Ru_opening [.inr 33, .inl a0] S (kq F) := kspec_of (fun _ h => f_Ru_opening_0 kspec_Mo h q)
-- Ch_opened cuts []
set_option maxRecDepth 20000 in
theorem f_Ch_opened_0 {M : kM} (hM : kMo M) {F : Int32 → kS → Prop} {G : kG} (h : kCl kC M (kq F) 58 G) {S : kS} {a0 a1 : Int32} (q :
  M m_Ch_begin [.inr 30, .inl 3, .inl ((-1)), .inl a1] S (kv fun S1 =>
    vp_in a0 250 ∧
    M m_Ch_changed [.inr 30, .inl (S1 15 (a0.toNatClampNeg)), .inl 0, .inl 0] S1 (kq fun r3 S2 =>
      F r3 S2))) :
  G 0 [some (.inr 30), some (.inl a0), some (.inl a1)] [] S :=
  (h.s 0 rfl (h.s 1 rfl (h.s 2 rfl (h.s 3 rfl (h.s 4 rfl (And.intro (Nat.le_of_ble_eq_true rfl) (And.intro rfl (And.intro rfl (hM.v q (fun S1 q4 => (h.s 7 rfl (h.s 8 rfl (h.s 9 rfl (h.s 12 rfl (h.s 15 rfl (h.s 16 rfl (And.intro q4.1 (h.s 17 rfl (h.s 18 rfl (h.s 19 rfl (And.intro (Nat.le_of_ble_eq_true rfl) (And.intro rfl (And.intro rfl (hM.q q4.2 (fun r3 S2 q5 => (h.s 22 rfl (kq_mk q5)))))))))))))))))))))))))))
theorem g_Ch_opened {d : Nat} {F : Int32 → kS → Prop} {S : kS} {a0 a1 : Int32} (q :
  kK d m_Ch_begin [.inr 30, .inl 3, .inl ((-1)), .inl a1] S (kv fun S1 =>
    vp_in a0 250 ∧
    kK d m_Ch_changed [.inr 30, .inl (S1 15 (a0.toNatClampNeg)), .inl 0, .inl 0] S1 (kq fun r3 S2 =>
      F r3 S2))) :
  kK (d + 1) m_Ch_opened [.inr 30, .inl a0, .inl a1] S (kq F) := kspec_of (fun _ h => f_Ch_opened_0 kspec_Mo h q)
-- Ru_assumption cuts []
set_option maxRecDepth 20000 in
theorem f_Ru_assumption_0 {M : kM} (hM : kMo M) {F : Int32 → kS → Prop} {G : kG} (h : kCl kC M (kq F) 59 G) {S : kS} {a0 : Int32} (q :
  M m_Te_typeAt [.inr 10, .inl a0] S (kq fun r2 S1 =>
    (r2 = 0 →
      M m_Fa_assume [.inr 25, .inl a0] S1 (kv fun S3 =>
        M m_Fa_close [.inr 25, .inl a0] S3 (kq fun r5 S4 =>
          F r5 S4))) ∧
    (¬ (r2 = 0) →
      F ((-1)) S1))) :
  G 0 [some (.inr 33), some (.inl a0)] [] S :=
  (h.s 0 rfl (h.s 1 rfl (h.s 4 rfl (h.s 5 rfl (And.intro (Nat.le_of_ble_eq_true rfl) (And.intro rfl (And.intro rfl (hM.q q (fun r2 S1 q6 => (h.s 8 rfl (And.intro (fun e7 => (h.s 13 rfl (h.s 14 rfl (h.s 17 rfl (h.s 18 rfl (And.intro (Nat.le_of_ble_eq_true rfl) (And.intro rfl (And.intro rfl (hM.v (q6.1 e7) (fun S3 q8 => (h.s 21 rfl (h.s 22 rfl (h.s 25 rfl (h.s 26 rfl (And.intro (Nat.le_of_ble_eq_true rfl) (And.intro rfl (And.intro rfl (hM.q q8 (fun r5 S4 q9 => (h.s 29 rfl (kq_mk q9))))))))))))))))))))) (fun e7 => (h.s 11 rfl (h.s 12 rfl (kq_mk (q6.2 e7))))))))))))))))
theorem g_Ru_assumption {d : Nat} {F : Int32 → kS → Prop} {S : kS} {a0 : Int32} (q :
  kK d m_Te_typeAt [.inr 10, .inl a0] S (kq fun r2 S1 =>
    (r2 = 0 →
      kK d m_Fa_assume [.inr 25, .inl a0] S1 (kv fun S3 =>
        kK d m_Fa_close [.inr 25, .inl a0] S3 (kq fun r5 S4 =>
          F r5 S4))) ∧
    (¬ (r2 = 0) →
      F ((-1)) S1))) :
  kK (d + 1) m_Ru_assumption [.inr 33, .inl a0] S (kq F) := kspec_of (fun _ h => f_Ru_assumption_0 kspec_Mo h q)
-- Ru_equalTruth cuts []
set_option maxRecDepth 20000 in
theorem f_Ru_equalTruth_0 {M : kM} (hM : kMo M) {F : Int32 → kS → Prop} {G : kG} (h : kCl kC M (kq F) 60 G) {S : kS} {a0 a1 : Int32} (q :
  M m_Ru_leftOf [.inr 33, .inl a0] S (kq fun r2 S1 =>
    (r2 < 0 →
      F ((-1)) S1) ∧
    (¬ (r2 < 0) →
      M m_Fa_conclusionOf [.inr 25, .inl a1] S1 (kq fun r4 S3 =>
        (r2 = r4 →
          M m_Ru_rightOf [.inr 33, .inl a0] S3 (kq fun r6 S5 =>
            M m_Ru_closeWithBoth [.inr 33, .inl a0, .inl a1, .inl r6] S5 (kq fun r8 S7 =>
              F r8 S7))) ∧
        (¬ (r2 = r4) →
          F ((-1)) S3))))) :
  G 0 [some (.inr 33), some (.inl a0), some (.inl a1), none] [] S :=
  (h.s 0 rfl (h.s 1 rfl (h.s 2 rfl (And.intro (Nat.le_of_ble_eq_true rfl) (And.intro rfl (And.intro rfl (hM.q q (fun r2 S1 q9 => (h.s 5 rfl (h.s 6 rfl (h.s 7 rfl (And.intro (fun e10 => (h.s 22 rfl (h.s 23 rfl (kq_mk (q9.1 e10))))) (fun e10 => (h.s 10 rfl (h.s 11 rfl (h.s 12 rfl (h.s 15 rfl (h.s 16 rfl (And.intro (Nat.le_of_ble_eq_true rfl) (And.intro rfl (And.intro rfl (hM.q (q9.2 e10) (fun r4 S3 q11 => (h.s 19 rfl (And.intro (fun e12 => (h.s 24 rfl (h.s 25 rfl (h.s 26 rfl (h.s 27 rfl (h.s 28 rfl (h.s 29 rfl (And.intro (Nat.le_of_ble_eq_true rfl) (And.intro rfl (And.intro rfl (hM.q (q11.1 e12) (fun r6 S5 q13 => (h.s 32 rfl (And.intro (Nat.le_of_ble_eq_true rfl) (And.intro rfl (And.intro rfl (hM.q q13 (fun r8 S7 q14 => (h.s 35 rfl (kq_mk q14)))))))))))))))))))) (fun e12 => (h.s 22 rfl (h.s 23 rfl (kq_mk (q11.2 e12))))))))))))))))))))))))))))))
theorem g_Ru_equalTruth {d : Nat} {F : Int32 → kS → Prop} {S : kS} {a0 a1 : Int32} (q :
  kK d m_Ru_leftOf [.inr 33, .inl a0] S (kq fun r2 S1 =>
    (r2 < 0 →
      F ((-1)) S1) ∧
    (¬ (r2 < 0) →
      kK d m_Fa_conclusionOf [.inr 25, .inl a1] S1 (kq fun r4 S3 =>
        (r2 = r4 →
          kK d m_Ru_rightOf [.inr 33, .inl a0] S3 (kq fun r6 S5 =>
            kK d m_Ru_closeWithBoth [.inr 33, .inl a0, .inl a1, .inl r6] S5 (kq fun r8 S7 =>
              F r8 S7))) ∧
        (¬ (r2 = r4) →
          F ((-1)) S3))))) :
  kK (d + 1) m_Ru_equalTruth [.inr 33, .inl a0, .inl a1] S (kq F) := kspec_of (fun _ h => f_Ru_equalTruth_0 kspec_Mo h q)
-- Ru_equivalence cuts []
set_option maxRecDepth 20000 in
theorem f_Ru_equivalence_0 {M : kM} (hM : kMo M) {F : Int32 → kS → Prop} {G : kG} (h : kCl kC M (kq F) 61 G) {S : kS} {a0 a1 : Int32} (q :
  M m_Fa_conclusionOf [.inr 25, .inl a0] S (kq fun r2 S1 =>
    M m_Fa_conclusionOf [.inr 25, .inl a1] S1 (kq fun r4 S3 =>
      M m_Fa_assumeAllBut [.inr 25, .inl a0, .inl r4] S3 (kv fun S5 =>
        M m_Fa_assumeAllBut [.inr 25, .inl a1, .inl r2] S5 (kv fun S6 =>
          M m_Te_equation [.inr 10, .inl r2, .inl r4] S6 (kq fun r8 S7 =>
            M m_Fa_close [.inr 25, .inl r8] S7 (kq fun r10 S9 =>
              F r10 S9))))))) :
  G 0 [some (.inr 33), some (.inl a0), some (.inl a1), none, none] [] S :=
  (h.s 0 rfl (h.s 1 rfl (h.s 4 rfl (h.s 5 rfl (And.intro (Nat.le_of_ble_eq_true rfl) (And.intro rfl (And.intro rfl (hM.q q (fun r2 S1 q11 => (h.s 8 rfl (h.s 9 rfl (h.s 10 rfl (h.s 13 rfl (h.s 14 rfl (And.intro (Nat.le_of_ble_eq_true rfl) (And.intro rfl (And.intro rfl (hM.q q11 (fun r4 S3 q12 => (h.s 17 rfl (h.s 19 rfl (h.s 20 rfl (h.s 23 rfl (h.s 24 rfl (h.s 26 rfl (And.intro (Nat.le_of_ble_eq_true rfl) (And.intro rfl (And.intro rfl (hM.v q12 (fun S5 q13 => (h.s 29 rfl (h.s 30 rfl (h.s 33 rfl (h.s 34 rfl (h.s 35 rfl (And.intro (Nat.le_of_ble_eq_true rfl) (And.intro rfl (And.intro rfl (hM.v q13 (fun S6 q14 => (h.s 38 rfl (h.s 39 rfl (h.s 42 rfl (h.s 43 rfl (h.s 46 rfl (h.s 47 rfl (h.s 49 rfl (And.intro (Nat.le_of_ble_eq_true rfl) (And.intro rfl (And.intro rfl (hM.q q14 (fun r8 S7 q15 => (h.s 52 rfl (And.intro (Nat.le_of_ble_eq_true rfl) (And.intro rfl (And.intro rfl (hM.q q15 (fun r10 S9 q16 => (h.s 55 rfl (kq_mk q16))))))))))))))))))))))))))))))))))))))))))))))))))))))))))))
theorem g_Ru_equivalence {d : Nat} {F : Int32 → kS → Prop} {S : kS} {a0 a1 : Int32} (q :
  kK d m_Fa_conclusionOf [.inr 25, .inl a0] S (kq fun r2 S1 =>
    kK d m_Fa_conclusionOf [.inr 25, .inl a1] S1 (kq fun r4 S3 =>
      kK d m_Fa_assumeAllBut [.inr 25, .inl a0, .inl r4] S3 (kv fun S5 =>
        kK d m_Fa_assumeAllBut [.inr 25, .inl a1, .inl r2] S5 (kv fun S6 =>
          kK d m_Te_equation [.inr 10, .inl r2, .inl r4] S6 (kq fun r8 S7 =>
            kK d m_Fa_close [.inr 25, .inl r8] S7 (kq fun r10 S9 =>
              F r10 S9))))))) :
  kK (d + 1) m_Ru_equivalence [.inr 33, .inl a0, .inl a1] S (kq F) := kspec_of (fun _ h => f_Ru_equivalence_0 kspec_Mo h q)
-- Ru_beginsWithTerm cuts []
set_option maxRecDepth 20000 in
theorem f_Ru_beginsWithTerm_0 {M : kM} (hM : kMo M) {F : Int32 → kS → Prop} {G : kG} (h : kCl kC M (kq F) 62 G) {S : kS} {a0 a1 : Int32} (q :
  M m_Te_sortAt [.inr 10, .inl a0] S (kq fun r2 S1 =>
    (¬ r2 = 0 →
      F 0 S1) ∧
    (¬ (¬ r2 = 0) →
      M m_Te_typeAt [.inr 10, .inl a1] S1 (kq fun r4 S3 =>
        vp_in a0 250 ∧
        (r4 = (S3 17 (a0.toNatClampNeg)) →
          M m_Ch_begin [.inr 30, .inl 0, .inl a0, .inl a1] S3 (kv fun S5 =>
            F 1 S5)) ∧
        (¬ (r4 = (S3 17 (a0.toNatClampNeg))) →
          F 0 S3))))) :
  G 0 [some (.inr 33), some (.inl a0), some (.inl a1)] [] S :=
  (h.s 0 rfl (h.s 1 rfl (h.s 4 rfl (h.s 5 rfl (And.intro (Nat.le_of_ble_eq_true rfl) (And.intro rfl (And.intro rfl (hM.q q (fun r2 S1 q6 => (h.s 8 rfl (And.intro (fun e7 => (h.s 31 rfl (h.s 32 rfl (And.intro (Or.inl rfl) (kq_mk (q6.1 e7)))))) (fun e7 => (h.s 11 rfl (h.s 12 rfl (h.s 15 rfl (h.s 16 rfl (And.intro (Nat.le_of_ble_eq_true rfl) (And.intro rfl (And.intro rfl (hM.q (q6.2 e7) (fun r4 S3 q8 => (h.s 19 rfl (h.s 20 rfl (h.s 23 rfl (h.s 26 rfl (h.s 27 rfl (And.intro q8.1 (h.s 28 rfl (And.intro (fun e9 => (h.s 33 rfl (h.s 34 rfl (h.s 37 rfl (h.s 38 rfl (h.s 39 rfl (h.s 40 rfl (And.intro (Nat.le_of_ble_eq_true rfl) (And.intro rfl (And.intro rfl (hM.v (q8.2.1 e9) (fun S5 q10 => (h.s 43 rfl (h.s 44 rfl (And.intro (Or.inr rfl) (kq_mk q10)))))))))))))))) (fun e9 => (h.s 31 rfl (h.s 32 rfl (And.intro (Or.inl rfl) (kq_mk (q8.2.2 e9)))))))))))))))))))))))))))))))))))
theorem g_Ru_beginsWithTerm {d : Nat} {F : Int32 → kS → Prop} {S : kS} {a0 a1 : Int32} (q :
  kK d m_Te_sortAt [.inr 10, .inl a0] S (kq fun r2 S1 =>
    (¬ r2 = 0 →
      F 0 S1) ∧
    (¬ (¬ r2 = 0) →
      kK d m_Te_typeAt [.inr 10, .inl a1] S1 (kq fun r4 S3 =>
        vp_in a0 250 ∧
        (r4 = (S3 17 (a0.toNatClampNeg)) →
          kK d m_Ch_begin [.inr 30, .inl 0, .inl a0, .inl a1] S3 (kv fun S5 =>
            F 1 S5)) ∧
        (¬ (r4 = (S3 17 (a0.toNatClampNeg))) →
          F 0 S3))))) :
  kK (d + 1) m_Ru_beginsWithTerm [.inr 33, .inl a0, .inl a1] S (kq F) := kspec_of (fun _ h => f_Ru_beginsWithTerm_0 kspec_Mo h q)
-- Ru_instance cuts [8]
set_option maxRecDepth 20000 in
theorem f_Ru_instance_0 {M : kM} (hM : kMo M) {F : Int32 → kS → Prop} {G : kG} (h : kCl kC M (kq F) 63 G) {S : kS} {a0 a1 : Int32} (q :
  (¬ a1 = 0 →
    G 8 [some (.inr 33), some (.inl a0), some (.inl a1), some (.inl 0)] [] S) ∧
  (¬ (¬ a1 = 0) →
    F ((-1)) S)) :
  G 0 [some (.inr 33), some (.inl a0), some (.inl a1), none] [] S :=
  (h.s 0 rfl (h.s 1 rfl (And.intro (fun e1 => (h.s 6 rfl (h.s 7 rfl (q.1 e1)))) (fun e1 => (h.s 4 rfl (h.s 5 rfl (kq_mk (q.2 e1))))))))
theorem g_Ru_instance {d : Nat} {F : Int32 → kS → Prop} {S : kS} {a0 a1 : Int32} (q : ∀ G : kG, kCl kC (kK d) (kq F) 63 G →
  (¬ a1 = 0 →
    G 8 [some (.inr 33), some (.inl a0), some (.inl a1), some (.inl 0)] [] S) ∧
  (¬ (¬ a1 = 0) →
    F ((-1)) S)) :
  kK (d + 1) m_Ru_instance [.inr 33, .inl a0, .inl a1] S (kq F) := kspec_of (fun G h => f_Ru_instance_0 kspec_Mo h (q G h))
set_option maxRecDepth 20000 in
theorem f_Ru_instance_8 {M : kM} (hM : kMo M) {F : Int32 → kS → Prop} {G : kG} (h : kCl kC M (kq F) 63 G) {S : kS} {v1 v2 v3 : Int32} (q :
  M m_Fa_sizeOf [.inr 25, .inl v1] S (kq fun r2 S1 =>
    (r2 ≤ v3 →
      M m_Fa_conclusionOf [.inr 25, .inl v1] S1 (kq fun r4 S3 =>
        M m_Ch_of [.inr 30, .inl r4] S3 (kq fun r6 S5 =>
          M m_Fa_close [.inr 25, .inl r6] S5 (kq fun r8 S7 =>
            F r8 S7)))) ∧
    (¬ (r2 ≤ v3) →
      M m_Fa_hypothesis [.inr 25, .inl v1, .inl v3] S1 (kq fun r10 S9 =>
        M m_Ch_of [.inr 30, .inl r10] S9 (kq fun r12 S11 =>
          M m_Fa_assume [.inr 25, .inl r12] S11 (kv fun S13 =>
            G 8 [some (.inr 33), some (.inl v1), some (.inl v2), some (.inl (v3 + 1))] [] S13)))))) :
  G 8 [some (.inr 33), some (.inl v1), some (.inl v2), some (.inl v3)] [] S :=
  (h.s 8 rfl (h.s 9 rfl (h.s 10 rfl (h.s 13 rfl (h.s 14 rfl (And.intro (Nat.le_of_ble_eq_true rfl) (And.intro rfl (And.intro rfl (hM.q q (fun r2 S1 q14 => (h.s 17 rfl (And.intro (fun e15 => (h.s 49 rfl (h.s 50 rfl (h.s 53 rfl (h.s 54 rfl (h.s 57 rfl (h.s 58 rfl (h.s 61 rfl (h.s 62 rfl (And.intro (Nat.le_of_ble_eq_true rfl) (And.intro rfl (And.intro rfl (hM.q (q14.1 e15) (fun r4 S3 q16 => (h.s 65 rfl (And.intro (Nat.le_of_ble_eq_true rfl) (And.intro rfl (And.intro rfl (hM.q q16 (fun r6 S5 q17 => (h.s 68 rfl (And.intro (Nat.le_of_ble_eq_true rfl) (And.intro rfl (And.intro rfl (hM.q q17 (fun r8 S7 q18 => (h.s 71 rfl (kq_mk q18)))))))))))))))))))))))))))) (fun e15 => (h.s 20 rfl (h.s 21 rfl (h.s 24 rfl (h.s 25 rfl (h.s 28 rfl (h.s 29 rfl (h.s 32 rfl (h.s 33 rfl (h.s 34 rfl (And.intro (Nat.le_of_ble_eq_true rfl) (And.intro rfl (And.intro rfl (hM.q (q14.2 e15) (fun r10 S9 q19 => (h.s 37 rfl (And.intro (Nat.le_of_ble_eq_true rfl) (And.intro rfl (And.intro rfl (hM.q q19 (fun r12 S11 q20 => (h.s 40 rfl (And.intro (Nat.le_of_ble_eq_true rfl) (And.intro rfl (And.intro rfl (hM.v q20 (fun S13 q21 => (h.s 43 rfl (h.s 46 rfl q21)))))))))))))))))))))))))))))))))))))))))
-- Ch_of cuts []
set_option maxRecDepth 20000 in
theorem f_Ch_of_0 {M : kM} (hM : kMo M) {F : Int32 → kS → Prop} {G : kG} (h : kCl kC M (kq F) 64 G) {S : kS} {a0 : Int32} (q :
  M m_Ch_changed [.inr 30, .inl a0, .inl 0, .inl 0] S (kq fun r2 S1 =>
    F r2 S1)) :
  G 0 [some (.inr 30), some (.inl a0)] [] S :=
  (h.s 0 rfl (h.s 1 rfl (h.s 2 rfl (h.s 3 rfl (h.s 4 rfl (And.intro (Nat.le_of_ble_eq_true rfl) (And.intro rfl (And.intro rfl (hM.q q (fun r2 S1 q3 => (h.s 7 rfl (kq_mk q3))))))))))))
theorem g_Ch_of {d : Nat} {F : Int32 → kS → Prop} {S : kS} {a0 : Int32} (q :
  kK d m_Ch_changed [.inr 30, .inl a0, .inl 0, .inl 0] S (kq fun r2 S1 =>
    F r2 S1)) :
  kK (d + 1) m_Ch_of [.inr 30, .inl a0] S (kq F) := kspec_of (fun _ h => f_Ch_of_0 kspec_Mo h q)
-- Ru_typeAt cuts []
set_option maxRecDepth 20000 in
theorem f_Ru_typeAt_0 {M : kM} (hM : kMo M) {F : Int32 → kS → Prop} {G : kG} (h : kCl kC M (kq F) 65 G) {S : kS} {a0 : Int32} (q :
  M m_Nu_placeOf [.inr 2, .inl a0] S (kq fun r2 S1 =>
    F r2 S1)) :
  G 0 [some (.inr 33), some (.inl a0)] [] S :=
  (h.s 0 rfl (h.s 1 rfl (h.s 4 rfl (h.s 7 rfl (h.s 8 rfl (And.intro (Nat.le_of_ble_eq_true rfl) (And.intro rfl (And.intro rfl (hM.q q (fun r2 S1 q3 => (h.s 11 rfl (kq_mk q3))))))))))))
theorem g_Ru_typeAt {d : Nat} {F : Int32 → kS → Prop} {S : kS} {a0 : Int32} (q :
  kK d m_Nu_placeOf [.inr 2, .inl a0] S (kq fun r2 S1 =>
    F r2 S1)) :
  kK (d + 1) m_Ru_typeAt [.inr 33, .inl a0] S (kq F) := kspec_of (fun _ h => f_Ru_typeAt_0 kspec_Mo h q)
-- Ru_beginsWithType cuts []
set_option maxRecDepth 20000 in
theorem f_Ru_beginsWithType_0 {M : kM} (hM : kMo M) {F : Int32 → kS → Prop} {G : kG} (h : kCl kC M (kq F) 66 G) {S : kS} {a0 a1 : Int32} (q :
  M m_Ty_isVariable [.inr 1, .inl a0] S (kq fun r2 S1 =>
    (r2 = 0 →
      F 0 S1) ∧
    (¬ (r2 = 0) →
      (0 ≤ a1 →
        M m_Ch_begin [.inr 30, .inl 1, .inl a0, .inl a1] S1 (kv fun S3 =>
          F 1 S3)) ∧
      (¬ (0 ≤ a1) →
        F 0 S1)))) :
  G 0 [some (.inr 33), some (.inl a0), some (.inl a1)] [] S :=
  (h.s 0 rfl (h.s 1 rfl (h.s 4 rfl (h.s 5 rfl (And.intro (Nat.le_of_ble_eq_true rfl) (And.intro rfl (And.intro rfl (hM.q q (fun r2 S1 q4 => (h.s 8 rfl (And.intro (fun e5 => (h.s 15 rfl (h.s 16 rfl (And.intro (Or.inl rfl) (kq_mk (q4.1 e5)))))) (fun e5 => (h.s 11 rfl (h.s 12 rfl (And.intro (fun e6 => (h.s 17 rfl (h.s 18 rfl (h.s 21 rfl (h.s 22 rfl (h.s 23 rfl (h.s 24 rfl (And.intro (Nat.le_of_ble_eq_true rfl) (And.intro rfl (And.intro rfl (hM.v ((q4.2 e5).1 e6) (fun S3 q7 => (h.s 27 rfl (h.s 28 rfl (And.intro (Or.inr rfl) (kq_mk q7)))))))))))))))) (fun e6 => (h.s 15 rfl (h.s 16 rfl (And.intro (Or.inl rfl) (kq_mk ((q4.2 e5).2 e6)))))))))))))))))))))
theorem g_Ru_beginsWithType {d : Nat} {F : Int32 → kS → Prop} {S : kS} {a0 a1 : Int32} (q :
  kK d m_Ty_isVariable [.inr 1, .inl a0] S (kq fun r2 S1 =>
    (r2 = 0 →
      F 0 S1) ∧
    (¬ (r2 = 0) →
      (0 ≤ a1 →
        kK d m_Ch_begin [.inr 30, .inl 1, .inl a0, .inl a1] S1 (kv fun S3 =>
          F 1 S3)) ∧
      (¬ (0 ≤ a1) →
        F 0 S1)))) :
  kK (d + 1) m_Ru_beginsWithType [.inr 33, .inl a0, .inl a1] S (kq F) := kspec_of (fun _ h => f_Ru_beginsWithType_0 kspec_Mo h q)
-- Ty_isVariable cuts []
set_option maxRecDepth 20000 in
theorem f_Ty_isVariable_0 {M : kM} (hM : kMo M) {F : Int32 → kS → Prop} {G : kG} (h : kCl kC M (kq F) 67 G) {S : kS} {a0 : Int32} (q :
  (a0 < 0 →
    F 0 S) ∧
  (¬ (a0 < 0) →
    vp_in a0 50 ∧
    (¬ (S 5 (a0.toNatClampNeg)) = 1 →
      F 0 S) ∧
    (¬ (¬ (S 5 (a0.toNatClampNeg)) = 1) →
      F 1 S))) :
  G 0 [some (.inr 1), some (.inl a0)] [] S :=
  (h.s 0 rfl (h.s 1 rfl (And.intro (fun e1 => (h.s 18 rfl (h.s 19 rfl (And.intro (Or.inl rfl) (kq_mk (q.1 e1)))))) (fun e1 => (h.s 4 rfl (h.s 5 rfl (h.s 8 rfl (h.s 9 rfl (And.intro (q.2 e1).1 (h.s 10 rfl (h.s 11 rfl (And.intro (fun e2 => (h.s 18 rfl (h.s 19 rfl (And.intro (Or.inl rfl) (kq_mk ((q.2 e1).2.1 e2)))))) (fun e2 => (h.s 14 rfl (h.s 15 rfl (h.s 19 rfl (And.intro (Or.inr rfl) (kq_mk ((q.2 e1).2.2 e2)))))))))))))))))))
theorem g_Ty_isVariable {d : Nat} {F : Int32 → kS → Prop} {S : kS} {a0 : Int32} (q :
  (a0 < 0 →
    F 0 S) ∧
  (¬ (a0 < 0) →
    vp_in a0 50 ∧
    (¬ (S 5 (a0.toNatClampNeg)) = 1 →
      F 0 S) ∧
    (¬ (¬ (S 5 (a0.toNatClampNeg)) = 1) →
      F 1 S))) :
  kK (d + 1) m_Ty_isVariable [.inr 1, .inl a0] S (kq F) := kspec_of (fun _ h => f_Ty_isVariable_0 kspec_Mo h q)
-- Ru_rewriting cuts []
set_option maxRecDepth 20000 in
theorem f_Ru_rewriting_0 {M : kM} (hM : kMo M) {F : Int32 → kS → Prop} {G : kG} (h : kCl kC M (kq F) 68 G) {S : kS} {a0 a1 : Int32} (q :
  M m_Ru_leftOf [.inr 33, .inl a0] S (kq fun r2 S1 =>
    (0 ≤ r2 →
      M m_Ru_rightOf [.inr 33, .inl a0] S1 (kq fun r4 S3 =>
        M m_Ch_begin [.inr 30, .inl 0, .inl r2, .inl r4] S3 (kv fun S5 =>
          M m_Fa_conclusionOf [.inr 25, .inl a1] S5 (kq fun r7 S6 =>
            M m_Ch_of [.inr 30, .inl r7] S6 (kq fun r9 S8 =>
              M m_Ru_closeWithBoth [.inr 33, .inl a0, .inl a1, .inl r9] S8 (kq fun r11 S10 =>
                F r11 S10)))))) ∧
    (¬ (0 ≤ r2) →
      F ((-1)) S1))) :
  G 0 [some (.inr 33), some (.inl a0), some (.inl a1), none] [] S :=
  (h.s 0 rfl (h.s 1 rfl (h.s 2 rfl (And.intro (Nat.le_of_ble_eq_true rfl) (And.intro rfl (And.intro rfl (hM.q q (fun r2 S1 q12 => (h.s 5 rfl (h.s 6 rfl (h.s 7 rfl (And.intro (fun e13 => (h.s 12 rfl (h.s 13 rfl (h.s 16 rfl (h.s 17 rfl (h.s 18 rfl (h.s 19 rfl (h.s 20 rfl (And.intro (Nat.le_of_ble_eq_true rfl) (And.intro rfl (And.intro rfl (hM.q (q12.1 e13) (fun r4 S3 q14 => (h.s 23 rfl (And.intro (Nat.le_of_ble_eq_true rfl) (And.intro rfl (And.intro rfl (hM.v q14 (fun S5 q15 => (h.s 26 rfl (h.s 27 rfl (h.s 28 rfl (h.s 29 rfl (h.s 30 rfl (h.s 33 rfl (h.s 34 rfl (h.s 37 rfl (h.s 38 rfl (And.intro (Nat.le_of_ble_eq_true rfl) (And.intro rfl (And.intro rfl (hM.q q15 (fun r7 S6 q16 => (h.s 41 rfl (And.intro (Nat.le_of_ble_eq_true rfl) (And.intro rfl (And.intro rfl (hM.q q16 (fun r9 S8 q17 => (h.s 44 rfl (And.intro (Nat.le_of_ble_eq_true rfl) (And.intro rfl (And.intro rfl (hM.q q17 (fun r11 S10 q18 => (h.s 47 rfl (kq_mk q18))))))))))))))))))))))))))))))))))))))))))))))) (fun e13 => (h.s 10 rfl (h.s 11 rfl (kq_mk (q12.2 e13)))))))))))))))))
theorem g_Ru_rewriting {d : Nat} {F : Int32 → kS → Prop} {S : kS} {a0 a1 : Int32} (q :
  kK d m_Ru_leftOf [.inr 33, .inl a0] S (kq fun r2 S1 =>
    (0 ≤ r2 →
      kK d m_Ru_rightOf [.inr 33, .inl a0] S1 (kq fun r4 S3 =>
        kK d m_Ch_begin [.inr 30, .inl 0, .inl r2, .inl r4] S3 (kv fun S5 =>
          kK d m_Fa_conclusionOf [.inr 25, .inl a1] S5 (kq fun r7 S6 =>
            kK d m_Ch_of [.inr 30, .inl r7] S6 (kq fun r9 S8 =>
              kK d m_Ru_closeWithBoth [.inr 33, .inl a0, .inl a1, .inl r9] S8 (kq fun r11 S10 =>
                F r11 S10)))))) ∧
    (¬ (0 ≤ r2) →
      F ((-1)) S1))) :
  kK (d + 1) m_Ru_rewriting [.inr 33, .inl a0, .inl a1] S (kq F) := kspec_of (fun _ h => f_Ru_rewriting_0 kspec_Mo h q)
-- K_define cuts []
set_option maxRecDepth 20000 in
theorem f_K_define_0 {M : kM} (hM : kMo M) {F : Int32 → kS → Prop} {G : kG} (h : kCl kC M (kq F) 69 G) {S : kS} {a0 : Int32} (q :
  M m_Nu_placeOf [.inr 11, .inl a0] S (kq fun r2 S1 =>
    M m_Te_isFixed [.inr 10, .inl r2] S1 (kq fun r4 S3 =>
      (r4 = 0 →
        F ((-1)) S3) ∧
      (¬ (r4 = 0) →
        ((S3 0 6) < 8 →
          M m_Te_typeAt [.inr 10, .inl r2] S3 (kq fun r6 S5 =>
            M m_Te_store [.inr 10, .inl 2, .inl (S3 0 6), .inl 0, .inl r6] S5 (kq fun r8 S7 =>
              M m_Fa_open [.inr 25] S7 (kv fun S9 =>
                M m_Te_equation [.inr 10, .inl r8, .inl r2] S9 (kq fun r11 S10 =>
                  M m_Fa_close [.inr 25, .inl r11] S10 (kq fun r13 S12 =>
                    M m_K_settled [.inr 0, .inl r13] S12 (kq fun r15 S14 =>
                      (r15 < 0 →
                        F r15 S14) ∧
                      (¬ (r15 < 0) →
                        F r15 (ku S14 0 6 ((S14 0 6) + 1)))))))))) ∧
        (¬ ((S3 0 6) < 8) →
          F ((-1)) S3))))) :
  G 0 [some (.inr 0), some (.inl a0), none, none, none] [] S :=
  (h.s 0 rfl (h.s 1 rfl (h.s 4 rfl (h.s 7 rfl (h.s 8 rfl (And.intro (Nat.le_of_ble_eq_true rfl) (And.intro rfl (And.intro rfl (hM.q q (fun r2 S1 q16 => (h.s 11 rfl (h.s 12 rfl (h.s 13 rfl (h.s 16 rfl (h.s 17 rfl (And.intro (Nat.le_of_ble_eq_true rfl) (And.intro rfl (And.intro rfl (hM.q q16 (fun r4 S3 q17 => (h.s 20 rfl (And.intro (fun e18 => (h.s 32 rfl (h.s 33 rfl (kq_mk (q17.1 e18))))) (fun e18 => (h.s 23 rfl (h.s 24 rfl (h.s 27 rfl (h.s 29 rfl (And.intro (fun e19 => (h.s 34 rfl (h.s 35 rfl (h.s 38 rfl (h.s 39 rfl (h.s 40 rfl (h.s 43 rfl (h.s 44 rfl (h.s 45 rfl (h.s 48 rfl (h.s 49 rfl (And.intro (Nat.le_of_ble_eq_true rfl) (And.intro rfl (And.intro rfl (hM.q ((q17.2 e18).1 e19) (fun r6 S5 q20 => (h.s 52 rfl (And.intro (Nat.le_of_ble_eq_true rfl) (And.intro rfl (And.intro rfl (hM.q q20 (fun r8 S7 q21 => (h.s 55 rfl (h.s 56 rfl (h.s 57 rfl (h.s 60 rfl (And.intro (Nat.le_of_ble_eq_true rfl) (And.intro rfl (And.intro rfl (hM.v q21 (fun S9 q22 => (h.s 63 rfl (h.s 64 rfl (h.s 65 rfl (h.s 68 rfl (h.s 69 rfl (h.s 72 rfl (h.s 73 rfl (h.s 74 rfl (And.intro (Nat.le_of_ble_eq_true rfl) (And.intro rfl (And.intro rfl (hM.q q22 (fun r11 S10 q23 => (h.s 77 rfl (And.intro (Nat.le_of_ble_eq_true rfl) (And.intro rfl (And.intro rfl (hM.q q23 (fun r13 S12 q24 => (h.s 80 rfl (And.intro (Nat.le_of_ble_eq_true rfl) (And.intro rfl (And.intro rfl (hM.q q24 (fun r15 S14 q25 => (h.s 83 rfl (h.s 85 rfl (h.s 87 rfl (And.intro (fun e26 => (h.s 100 rfl (h.s 102 rfl (kq_mk (q25.1 e26))))) (fun e26 => (h.s 90 rfl (h.s 91 rfl (h.s 92 rfl (h.s 95 rfl (h.s 96 rfl (h.s 97 rfl (h.s 100 rfl (h.s 102 rfl (kq_mk (q25.2 e26))))))))))))))))))))))))))))))))))))))))))))))))))))))))))))))))))))))) (fun e19 => (h.s 32 rfl (h.s 33 rfl (kq_mk ((q17.2 e18).2 e19)))))))))))))))))))))))))))))))))
theorem g_K_define {d : Nat} {F : Int32 → kS → Prop} {S : kS} {a0 : Int32} (q :
  kK d m_Nu_placeOf [.inr 11, .inl a0] S (kq fun r2 S1 =>
    kK d m_Te_isFixed [.inr 10, .inl r2] S1 (kq fun r4 S3 =>
      (r4 = 0 →
        F ((-1)) S3) ∧
      (¬ (r4 = 0) →
        ((S3 0 6) < 8 →
          kK d m_Te_typeAt [.inr 10, .inl r2] S3 (kq fun r6 S5 =>
            kK d m_Te_store [.inr 10, .inl 2, .inl (S3 0 6), .inl 0, .inl r6] S5 (kq fun r8 S7 =>
              kK d m_Fa_open [.inr 25] S7 (kv fun S9 =>
                kK d m_Te_equation [.inr 10, .inl r8, .inl r2] S9 (kq fun r11 S10 =>
                  kK d m_Fa_close [.inr 25, .inl r11] S10 (kq fun r13 S12 =>
                    kK d m_K_settled [.inr 0, .inl r13] S12 (kq fun r15 S14 =>
                      (r15 < 0 →
                        F r15 S14) ∧
                      (¬ (r15 < 0) →
                        F r15 (ku S14 0 6 ((S14 0 6) + 1)))))))))) ∧
        (¬ ((S3 0 6) < 8) →
          F ((-1)) S3))))) :
  kK (d + 1) m_K_define [.inr 0, .inl a0] S (kq F) := kspec_of (fun _ h => f_K_define_0 kspec_Mo h q)
-- Te_isFixed cuts []
set_option maxRecDepth 20000 in
theorem f_Te_isFixed_0 {M : kM} (hM : kMo M) {F : Int32 → kS → Prop} {G : kG} (h : kCl kC M (kq F) 70 G) {S : kS} {a0 : Int32} (q :
  (a0 < 0 →
    F 0 S) ∧
  (¬ (a0 < 0) →
    vp_in a0 250 ∧
    (¬ (S 20 (a0.toNatClampNeg)) = 0 →
      F 0 S) ∧
    (¬ (¬ (S 20 (a0.toNatClampNeg)) = 0) →
      vp_in a0 250 ∧
      (¬ (S 18 (a0.toNatClampNeg)) = 0 →
        F 0 S) ∧
      (¬ (¬ (S 18 (a0.toNatClampNeg)) = 0) →
        F 1 S)))) :
  G 0 [some (.inr 10), some (.inl a0)] [] S :=
  (h.s 0 rfl (h.s 1 rfl (And.intro (fun e1 => (h.s 26 rfl (h.s 27 rfl (And.intro (Or.inl rfl) (kq_mk (q.1 e1)))))) (fun e1 => (h.s 4 rfl (h.s 5 rfl (h.s 8 rfl (h.s 9 rfl (And.intro (q.2 e1).1 (h.s 10 rfl (And.intro (fun e2 => (h.s 26 rfl (h.s 27 rfl (And.intro (Or.inl rfl) (kq_mk ((q.2 e1).2.1 e2)))))) (fun e2 => (h.s 13 rfl (h.s 14 rfl (h.s 17 rfl (h.s 18 rfl (And.intro ((q.2 e1).2.2 e2).1 (h.s 19 rfl (And.intro (fun e3 => (h.s 26 rfl (h.s 27 rfl (And.intro (Or.inl rfl) (kq_mk (((q.2 e1).2.2 e2).2.1 e3)))))) (fun e3 => (h.s 22 rfl (h.s 23 rfl (h.s 27 rfl (And.intro (Or.inr rfl) (kq_mk (((q.2 e1).2.2 e2).2.2 e3))))))))))))))))))))))))))
theorem g_Te_isFixed {d : Nat} {F : Int32 → kS → Prop} {S : kS} {a0 : Int32} (q :
  (a0 < 0 →
    F 0 S) ∧
  (¬ (a0 < 0) →
    vp_in a0 250 ∧
    (¬ (S 20 (a0.toNatClampNeg)) = 0 →
      F 0 S) ∧
    (¬ (¬ (S 20 (a0.toNatClampNeg)) = 0) →
      vp_in a0 250 ∧
      (¬ (S 18 (a0.toNatClampNeg)) = 0 →
        F 0 S) ∧
      (¬ (¬ (S 18 (a0.toNatClampNeg)) = 0) →
        F 1 S)))) :
  kK (d + 1) m_Te_isFixed [.inr 10, .inl a0] S (kq F) := kspec_of (fun _ h => f_Te_isFixed_0 kspec_Mo h q)
-- K_defineType cuts []
set_option maxRecDepth 20000 in
theorem f_K_defineType_0 {M : kM} (hM : kMo M) {F : Int32 → kS → Prop} {G : kG} (h : kCl kC M (kq F) 71 G) {S : kS} {a0 : Int32} (q :
  M m_Fa_conclusionOf [.inr 25, .inl a0] S (kq fun r2 S1 =>
    M m_Te_functionOf [.inr 10, .inl r2] S1 (kq fun r4 S3 =>
      M m_Te_isFixed [.inr 10, .inl r4] S3 (kq fun r6 S5 =>
        (r6 = 0 →
          F ((-1)) S5) ∧
        (¬ (r6 = 0) →
          M m_Fa_sizeOf [.inr 25, .inl a0] S5 (kq fun r8 S7 =>
            (¬ r8 = 0 →
              F ((-1)) S7) ∧
            (¬ (¬ r8 = 0) →
              (3 ≤ (S7 0 7) →
                F ((-1)) S7) ∧
              (¬ (3 ≤ (S7 0 7)) →
                (((S7 0 6) + 2) ≤ 8 →
                  M m_Te_argumentOf [.inr 10, .inl r2] S7 (kq fun r10 S9 =>
                    M m_Te_typeAt [.inr 10, .inl r10] S9 (kq fun r12 S11 =>
                      M m_K_newTypeFacts [.inr 0, .inl r4, .inl r12] S11 (kq fun r14 S13 =>
                        M m_K_settled [.inr 0, .inl r14] S13 (kq fun r16 S15 =>
                          (r16 < 0 →
                            F r16 S15) ∧
                          (¬ (r16 < 0) →
                            F r16 (ku (ku S15 0 7 ((S15 0 7) + 1)) 0 6 ((S15 0 6) + 2)))))))) ∧
                (¬ (((S7 0 6) + 2) ≤ 8) →
                  F ((-1)) S7))))))))) :
  G 0 [some (.inr 0), some (.inl a0), none, none, none] [] S :=
  (h.s 0 rfl (h.s 1 rfl (h.s 4 rfl (h.s 5 rfl (And.intro (Nat.le_of_ble_eq_true rfl) (And.intro rfl (And.intro rfl (hM.q q (fun r2 S1 q17 => (h.s 8 rfl (h.s 9 rfl (h.s 10 rfl (h.s 13 rfl (h.s 14 rfl (And.intro (Nat.le_of_ble_eq_true rfl) (And.intro rfl (And.intro rfl (hM.q q17 (fun r4 S3 q18 => (h.s 17 rfl (h.s 18 rfl (h.s 19 rfl (h.s 22 rfl (h.s 23 rfl (And.intro (Nat.le_of_ble_eq_true rfl) (And.intro rfl (And.intro rfl (hM.q q18 (fun r6 S5 q19 => (h.s 26 rfl (And.intro (fun e20 => (h.s 59 rfl (h.s 60 rfl (kq_mk (q19.1 e20))))) (fun e20 => (h.s 29 rfl (h.s 30 rfl (h.s 33 rfl (h.s 34 rfl (And.intro (Nat.le_of_ble_eq_true rfl) (And.intro rfl (And.intro rfl (hM.q (q19.2 e20) (fun r8 S7 q21 => (h.s 37 rfl (And.intro (fun e22 => (h.s 59 rfl (h.s 60 rfl (kq_mk (q21.1 e22))))) (fun e22 => (h.s 40 rfl (h.s 41 rfl (h.s 44 rfl (h.s 45 rfl (And.intro (fun e23 => (h.s 59 rfl (h.s 60 rfl (kq_mk ((q21.2 e22).1 e23))))) (fun e23 => (h.s 48 rfl (h.s 49 rfl (h.s 52 rfl (h.s 53 rfl (h.s 54 rfl (h.s 56 rfl (And.intro (fun e24 => (h.s 61 rfl (h.s 62 rfl (h.s 63 rfl (h.s 64 rfl (h.s 65 rfl (h.s 68 rfl (h.s 69 rfl (h.s 72 rfl (h.s 73 rfl (And.intro (Nat.le_of_ble_eq_true rfl) (And.intro rfl (And.intro rfl (hM.q (((q21.2 e22).2 e23).1 e24) (fun r10 S9 q25 => (h.s 76 rfl (And.intro (Nat.le_of_ble_eq_true rfl) (And.intro rfl (And.intro rfl (hM.q q25 (fun r12 S11 q26 => (h.s 79 rfl (And.intro (Nat.le_of_ble_eq_true rfl) (And.intro rfl (And.intro rfl (hM.q q26 (fun r14 S13 q27 => (h.s 82 rfl (And.intro (Nat.le_of_ble_eq_true rfl) (And.intro rfl (And.intro rfl (hM.q q27 (fun r16 S15 q28 => (h.s 85 rfl (h.s 87 rfl (h.s 89 rfl (And.intro (fun e29 => (h.s 112 rfl (h.s 114 rfl (kq_mk (q28.1 e29))))) (fun e29 => (h.s 92 rfl (h.s 93 rfl (h.s 94 rfl (h.s 97 rfl (h.s 98 rfl (h.s 99 rfl (h.s 102 rfl (h.s 103 rfl (h.s 104 rfl (h.s 107 rfl (h.s 108 rfl (h.s 109 rfl (h.s 112 rfl (h.s 114 rfl (kq_mk (q28.2 e29)))))))))))))))))))))))))))))))))))))))))))))))))))))) (fun e24 => (h.s 59 rfl (h.s 60 rfl (kq_mk (((q21.2 e22).2 e23).2 e24))))))))))))))))))))))))))))))))))))))))))))))))))))))))))))))
theorem g_K_defineType {d : Nat} {F : Int32 → kS → Prop} {S : kS} {a0 : Int32} (q :
  kK d m_Fa_conclusionOf [.inr 25, .inl a0] S (kq fun r2 S1 =>
    kK d m_Te_functionOf [.inr 10, .inl r2] S1 (kq fun r4 S3 =>
      kK d m_Te_isFixed [.inr 10, .inl r4] S3 (kq fun r6 S5 =>
        (r6 = 0 →
          F ((-1)) S5) ∧
        (¬ (r6 = 0) →
          kK d m_Fa_sizeOf [.inr 25, .inl a0] S5 (kq fun r8 S7 =>
            (¬ r8 = 0 →
              F ((-1)) S7) ∧
            (¬ (¬ r8 = 0) →
              (3 ≤ (S7 0 7) →
                F ((-1)) S7) ∧
              (¬ (3 ≤ (S7 0 7)) →
                (((S7 0 6) + 2) ≤ 8 →
                  kK d m_Te_argumentOf [.inr 10, .inl r2] S7 (kq fun r10 S9 =>
                    kK d m_Te_typeAt [.inr 10, .inl r10] S9 (kq fun r12 S11 =>
                      kK d m_K_newTypeFacts [.inr 0, .inl r4, .inl r12] S11 (kq fun r14 S13 =>
                        kK d m_K_settled [.inr 0, .inl r14] S13 (kq fun r16 S15 =>
                          (r16 < 0 →
                            F r16 S15) ∧
                          (¬ (r16 < 0) →
                            F r16 (ku (ku S15 0 7 ((S15 0 7) + 1)) 0 6 ((S15 0 6) + 2)))))))) ∧
                (¬ (((S7 0 6) + 2) ≤ 8) →
                  F ((-1)) S7))))))))) :
  kK (d + 1) m_K_defineType [.inr 0, .inl a0] S (kq F) := kspec_of (fun _ h => f_K_defineType_0 kspec_Mo h q)
-- K_newTypeFacts cuts []
set_option maxRecDepth 20000 in
theorem f_K_newTypeFacts_0 {M : kM} (hM : kMo M) {F : Int32 → kS → Prop} {G : kG} (h : kCl kC M (kq F) 72 G) {S : kS} {a0 a1 : Int32} (q :
  M m_Ty_store [.inr 1, .inl 2, .inl (S 0 7), .inl 0] S (kq fun r2 S1 =>
    M m_Ty_store [.inr 1, .inl 3, .inl a1, .inl r2] S1 (kq fun r4 S3 =>
      M m_Te_store [.inr 10, .inl 2, .inl (S1 0 6), .inl 0, .inl r4] S3 (kq fun r6 S5 =>
        M m_Ty_store [.inr 1, .inl 3, .inl r2, .inl a1] S5 (kq fun r8 S7 =>
          M m_Te_store [.inr 10, .inl 2, .inl ((S5 0 6) + 1), .inl 0, .inl r8] S7 (kq fun r10 S9 =>
            M m_Te_store [.inr 10, .inl 0, .inl 0, .inl 0, .inl r2] S9 (kq fun r12 S11 =>
              M m_Te_store [.inr 10, .inl 0, .inl 0, .inl 0, .inl a1] S11 (kq fun r14 S13 =>
                M m_Te_application [.inr 10, .inl r10, .inl r12] S13 (kq fun r16 S15 =>
                  M m_Te_application [.inr 10, .inl r6, .inl r16] S15 (kq fun r18 S17 =>
                    M m_Te_equation [.inr 10, .inl r18, .inl r12] S17 (kq fun r20 S19 =>
                      M m_Te_application [.inr 10, .inl r6, .inl r14] S19 (kq fun r22 S21 =>
                        M m_Te_application [.inr 10, .inl r10, .inl r22] S21 (kq fun r24 S23 =>
                          M m_Te_equation [.inr 10, .inl r24, .inl r14] S23 (kq fun r26 S25 =>
                            M m_Fa_open [.inr 25] S25 (kv fun S27 =>
                              M m_Fa_close [.inr 25, .inl r20] S27 (kq fun r29 S28 =>
                                M m_Te_application [.inr 10, .inl a0, .inl r14] S28 (kq fun r31 S30 =>
                                  M m_Te_equation [.inr 10, .inl r31, .inl r26] S30 (kq fun r33 S32 =>
                                    M m_Fa_close [.inr 25, .inl r33] S32 (kq fun r35 S34 =>
                                      (0 ≤ r35 →
                                        F r29 S34) ∧
                                      (¬ (0 ≤ r35) →
                                        F ((-1)) S34)))))))))))))))))))) :
  G 0 [some (.inr 0), some (.inl a0), some (.inl a1), none, none, none, none, none, none, none, none, none] [] S :=
  (h.s 0 rfl (h.s 1 rfl (h.s 4 rfl (h.s 5 rfl (h.s 6 rfl (h.s 9 rfl (h.s 10 rfl (And.intro (Nat.le_of_ble_eq_true rfl) (And.intro rfl (And.intro rfl (hM.q q (fun r2 S1 q36 => (h.s 13 rfl (h.s 14 rfl (h.s 15 rfl (h.s 18 rfl (h.s 19 rfl (h.s 20 rfl (h.s 23 rfl (h.s 24 rfl (h.s 25 rfl (h.s 28 rfl (h.s 29 rfl (h.s 30 rfl (h.s 31 rfl (And.intro (Nat.le_of_ble_eq_true rfl) (And.intro rfl (And.intro rfl (hM.q q36 (fun r4 S3 q37 => (h.s 34 rfl (And.intro (Nat.le_of_ble_eq_true rfl) (And.intro rfl (And.intro rfl (hM.q q37 (fun r6 S5 q38 => (h.s 37 rfl (h.s 39 rfl (h.s 40 rfl (h.s 43 rfl (h.s 44 rfl (h.s 45 rfl (h.s 48 rfl (h.s 49 rfl (h.s 50 rfl (h.s 51 rfl (h.s 52 rfl (h.s 55 rfl (h.s 56 rfl (h.s 57 rfl (h.s 58 rfl (And.intro (Nat.le_of_ble_eq_true rfl) (And.intro rfl (And.intro rfl (hM.q q38 (fun r8 S7 q39 => (h.s 61 rfl (And.intro (Nat.le_of_ble_eq_true rfl) (And.intro rfl (And.intro rfl (hM.q q39 (fun r10 S9 q40 => (h.s 64 rfl (h.s 66 rfl (h.s 67 rfl (h.s 70 rfl (h.s 71 rfl (h.s 72 rfl (h.s 73 rfl (h.s 74 rfl (And.intro (Nat.le_of_ble_eq_true rfl) (And.intro rfl (And.intro rfl (hM.q q40 (fun r12 S11 q41 => (h.s 77 rfl (h.s 79 rfl (h.s 80 rfl (h.s 83 rfl (h.s 84 rfl (h.s 85 rfl (h.s 86 rfl (h.s 87 rfl (And.intro (Nat.le_of_ble_eq_true rfl) (And.intro rfl (And.intro rfl (hM.q q41 (fun r14 S13 q42 => (h.s 90 rfl (h.s 92 rfl (h.s 93 rfl (h.s 96 rfl (h.s 97 rfl (h.s 100 rfl (h.s 102 rfl (h.s 103 rfl (h.s 106 rfl (h.s 108 rfl (h.s 110 rfl (And.intro (Nat.le_of_ble_eq_true rfl) (And.intro rfl (And.intro rfl (hM.q q42 (fun r16 S15 q43 => (h.s 113 rfl (And.intro (Nat.le_of_ble_eq_true rfl) (And.intro rfl (And.intro rfl (hM.q q43 (fun r18 S17 q44 => (h.s 116 rfl (h.s 118 rfl (And.intro (Nat.le_of_ble_eq_true rfl) (And.intro rfl (And.intro rfl (hM.q q44 (fun r20 S19 q45 => (h.s 121 rfl (h.s 123 rfl (h.s 124 rfl (h.s 127 rfl (h.s 128 rfl (h.s 131 rfl (h.s 133 rfl (h.s 134 rfl (h.s 137 rfl (h.s 139 rfl (h.s 141 rfl (And.intro (Nat.le_of_ble_eq_true rfl) (And.intro rfl (And.intro rfl (hM.q q45 (fun r22 S21 q46 => (h.s 144 rfl (And.intro (Nat.le_of_ble_eq_true rfl) (And.intro rfl (And.intro rfl (hM.q q46 (fun r24 S23 q47 => (h.s 147 rfl (h.s 149 rfl (And.intro (Nat.le_of_ble_eq_true rfl) (And.intro rfl (And.intro rfl (hM.q q47 (fun r26 S25 q48 => (h.s 152 rfl (h.s 154 rfl (h.s 155 rfl (h.s 158 rfl (And.intro (Nat.le_of_ble_eq_true rfl) (And.intro rfl (And.intro rfl (hM.v q48 (fun S27 q49 => (h.s 161 rfl (h.s 162 rfl (h.s 165 rfl (h.s 167 rfl (And.intro (Nat.le_of_ble_eq_true rfl) (And.intro rfl (And.intro rfl (hM.q q49 (fun r29 S28 q50 => (h.s 170 rfl (h.s 172 rfl (h.s 173 rfl (h.s 176 rfl (h.s 177 rfl (h.s 180 rfl (h.s 181 rfl (h.s 184 rfl (h.s 185 rfl (h.s 187 rfl (And.intro (Nat.le_of_ble_eq_true rfl) (And.intro rfl (And.intro rfl (hM.q q50 (fun r31 S30 q51 => (h.s 190 rfl (h.s 192 rfl (And.intro (Nat.le_of_ble_eq_true rfl) (And.intro rfl (And.intro rfl (hM.q q51 (fun r33 S32 q52 => (h.s 195 rfl (And.intro (Nat.le_of_ble_eq_true rfl) (And.intro rfl (And.intro rfl (hM.q q52 (fun r35 S34 q53 => (h.s 198 rfl (h.s 200 rfl (h.s 202 rfl (And.intro (fun e54 => (h.s 209 rfl (h.s 211 rfl (kq_mk (q53.1 e54))))) (fun e54 => (h.s 205 rfl (h.s 206 rfl (h.s 211 rfl (kq_mk (q53.2 e54))))))))))))))))))))))))))))))))))))))))))))))))))))))))))))))))))))))))))))))))))))))))))))))))))))))))))))))))))))))))))))))))))))))))))))))))))))))))))))))))))))))))))))))))))))))))))))))))))))))))))
theorem g_K_newTypeFacts {d : Nat} {F : Int32 → kS → Prop} {S : kS} {a0 a1 : Int32} (q :
  kK d m_Ty_store [.inr 1, .inl 2, .inl (S 0 7), .inl 0] S (kq fun r2 S1 =>
    kK d m_Ty_store [.inr 1, .inl 3, .inl a1, .inl r2] S1 (kq fun r4 S3 =>
      kK d m_Te_store [.inr 10, .inl 2, .inl (S1 0 6), .inl 0, .inl r4] S3 (kq fun r6 S5 =>
        kK d m_Ty_store [.inr 1, .inl 3, .inl r2, .inl a1] S5 (kq fun r8 S7 =>
          kK d m_Te_store [.inr 10, .inl 2, .inl ((S5 0 6) + 1), .inl 0, .inl r8] S7 (kq fun r10 S9 =>
            kK d m_Te_store [.inr 10, .inl 0, .inl 0, .inl 0, .inl r2] S9 (kq fun r12 S11 =>
              kK d m_Te_store [.inr 10, .inl 0, .inl 0, .inl 0, .inl a1] S11 (kq fun r14 S13 =>
                kK d m_Te_application [.inr 10, .inl r10, .inl r12] S13 (kq fun r16 S15 =>
                  kK d m_Te_application [.inr 10, .inl r6, .inl r16] S15 (kq fun r18 S17 =>
                    kK d m_Te_equation [.inr 10, .inl r18, .inl r12] S17 (kq fun r20 S19 =>
                      kK d m_Te_application [.inr 10, .inl r6, .inl r14] S19 (kq fun r22 S21 =>
                        kK d m_Te_application [.inr 10, .inl r10, .inl r22] S21 (kq fun r24 S23 =>
                          kK d m_Te_equation [.inr 10, .inl r24, .inl r14] S23 (kq fun r26 S25 =>
                            kK d m_Fa_open [.inr 25] S25 (kv fun S27 =>
                              kK d m_Fa_close [.inr 25, .inl r20] S27 (kq fun r29 S28 =>
                                kK d m_Te_application [.inr 10, .inl a0, .inl r14] S28 (kq fun r31 S30 =>
                                  kK d m_Te_equation [.inr 10, .inl r31, .inl r26] S30 (kq fun r33 S32 =>
                                    kK d m_Fa_close [.inr 25, .inl r33] S32 (kq fun r35 S34 =>
                                      (0 ≤ r35 →
                                        F r29 S34) ∧
                                      (¬ (0 ≤ r35) →
                                        F ((-1)) S34)))))))))))))))))))) :
  kK (d + 1) m_K_newTypeFacts [.inr 0, .inl a0, .inl a1] S (kq F) := kspec_of (fun _ h => f_K_newTypeFacts_0 kspec_Mo h q)
-- K_line cuts []
set_option maxRecDepth 20000 in
theorem f_K_line_0 {M : kM} (hM : kMo M) {F : Int32 → kS → Prop} {G : kG} (h : kCl kC M (kq F) 73 G) {S : kS} {a0 a1 a2 a3 : Int32} (q :
  M m_Ru_has [.inr 33, .inl a0] S (kq fun r2 S1 =>
    (r2 = 0 →
      F ((-1)) S1) ∧
    (¬ (r2 = 0) →
      M m_Tr_add [.inr 34, .inl a0, .inl a1, .inl a2, .inl a3] S1 (kq fun r4 S3 =>
        F r4 S3)))) :
  G 0 [some (.inr 0), some (.inl a0), some (.inl a1), some (.inl a2), some (.inl a3)] [] S :=
  (h.s 0 rfl (h.s 1 rfl (h.s 4 rfl (h.s 5 rfl (And.intro (Nat.le_of_ble_eq_true rfl) (And.intro rfl (And.intro rfl (hM.q q (fun r2 S1 q5 => (h.s 8 rfl (And.intro (fun e6 => (h.s 26 rfl (h.s 27 rfl (kq_mk (q5.1 e6))))) (fun e6 => (h.s 11 rfl (h.s 12 rfl (h.s 15 rfl (h.s 16 rfl (h.s 17 rfl (h.s 18 rfl (h.s 20 rfl (And.intro (Nat.le_of_ble_eq_true rfl) (And.intro rfl (And.intro rfl (hM.q (q5.2 e6) (fun r4 S3 q7 => (h.s 23 rfl (h.s 27 rfl (kq_mk q7)))))))))))))))))))))))))))
theorem g_K_line {d : Nat} {F : Int32 → kS → Prop} {S : kS} {a0 a1 a2 a3 : Int32} (q :
  kK d m_Ru_has [.inr 33, .inl a0] S (kq fun r2 S1 =>
    (r2 = 0 →
      F ((-1)) S1) ∧
    (¬ (r2 = 0) →
      kK d m_Tr_add [.inr 34, .inl a0, .inl a1, .inl a2, .inl a3] S1 (kq fun r4 S3 =>
        F r4 S3)))) :
  kK (d + 1) m_K_line [.inr 0, .inl a0, .inl a1, .inl a2, .inl a3] S (kq F) := kspec_of (fun _ h => f_K_line_0 kspec_Mo h q)
