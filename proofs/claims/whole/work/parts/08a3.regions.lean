/-! printed: regions, their weakest preconditions -/
-- Ru_has cuts []
set_option maxRecDepth 20000 in
theorem f_Ru_has_0 {M : kM} (hM : kMo M) {F : Int32 → kS → Prop} {G : kG} (h : kCl kC M (kq F) 74 G) {S : kS} {a0 : Int32} (q :
  (a0 < 0 →
    F 0 S) ∧
  (¬ (a0 < 0) →
    (10 < a0 →
      F 0 S) ∧
    (¬ (10 < a0) →
      F 1 S))) :
  G 0 [some (.inr 33), some (.inl a0)] [] S :=
  (h.s 0 rfl (h.s 1 rfl (And.intro (fun e1 => (h.s 14 rfl (h.s 15 rfl (And.intro (Or.inl rfl) (kq_mk (q.1 e1)))))) (fun e1 => (h.s 4 rfl (h.s 5 rfl (h.s 7 rfl (And.intro (fun e2 => (h.s 14 rfl (h.s 15 rfl (And.intro (Or.inl rfl) (kq_mk ((q.2 e1).1 e2)))))) (fun e2 => (h.s 10 rfl (h.s 11 rfl (h.s 15 rfl (And.intro (Or.inr rfl) (kq_mk ((q.2 e1).2 e2)))))))))))))))
theorem g_Ru_has {d : Nat} {F : Int32 → kS → Prop} {S : kS} {a0 : Int32} (q :
  (a0 < 0 →
    F 0 S) ∧
  (¬ (a0 < 0) →
    (10 < a0 →
      F 0 S) ∧
    (¬ (10 < a0) →
      F 1 S))) :
  kK (d + 1) m_Ru_has [.inr 33, .inl a0] S (kq F) := kspec_of (fun _ h => f_Ru_has_0 kspec_Mo h q)
-- Tr_add cuts []
set_option maxRecDepth 20000 in
theorem f_Tr_add_0 {M : kM} (hM : kMo M) {F : Int32 → kS → Prop} {G : kG} (h : kCl kC M (kq F) 75 G) {S : kS} {a0 a1 a2 a3 : Int32} (q :
  ((S 34 4) < 12 →
    vp_in (S 34 4) 12 ∧
    vp_in (S 34 4) 12 ∧
    vp_in (S 34 4) 12 ∧
    vp_in (S 34 4) 12 ∧
    F (S 34 4) (ku (ku (ku (ku (ku S 35 ((S 34 4).toNatClampNeg) a0) 36 ((S 34 4).toNatClampNeg) a1) 37 ((S 34 4).toNatClampNeg) a2) 38 ((S 34 4).toNatClampNeg) a3) 34 4 ((S 34 4) + 1))) ∧
  (¬ ((S 34 4) < 12) →
    F ((-1)) S)) :
  G 0 [some (.inr 34), some (.inl a0), some (.inl a1), some (.inl a2), some (.inl a3)] [] S :=
  (h.s 0 rfl (h.s 1 rfl (h.s 4 rfl (h.s 6 rfl (And.intro (fun e1 => (h.s 11 rfl (h.s 12 rfl (h.s 15 rfl (h.s 16 rfl (h.s 19 rfl (h.s 20 rfl (And.intro (q.1 e1).1 (h.s 21 rfl (h.s 22 rfl (h.s 25 rfl (h.s 26 rfl (h.s 29 rfl (h.s 30 rfl (And.intro (q.1 e1).2.1 (h.s 31 rfl (h.s 32 rfl (h.s 35 rfl (h.s 36 rfl (h.s 39 rfl (h.s 40 rfl (And.intro (q.1 e1).2.2.1 (h.s 41 rfl (h.s 42 rfl (h.s 45 rfl (h.s 46 rfl (h.s 49 rfl (h.s 51 rfl (And.intro (q.1 e1).2.2.2.1 (h.s 52 rfl (h.s 53 rfl (h.s 54 rfl (h.s 57 rfl (h.s 58 rfl (h.s 59 rfl (h.s 60 rfl (h.s 63 rfl (kq_mk (q.1 e1).2.2.2.2)))))))))))))))))))))))))))))))))))))) (fun e1 => (h.s 9 rfl (h.s 10 rfl (kq_mk (q.2 e1))))))))))
theorem g_Tr_add {d : Nat} {F : Int32 → kS → Prop} {S : kS} {a0 a1 a2 a3 : Int32} (q :
  ((S 34 4) < 12 →
    vp_in (S 34 4) 12 ∧
    vp_in (S 34 4) 12 ∧
    vp_in (S 34 4) 12 ∧
    vp_in (S 34 4) 12 ∧
    F (S 34 4) (ku (ku (ku (ku (ku S 35 ((S 34 4).toNatClampNeg) a0) 36 ((S 34 4).toNatClampNeg) a1) 37 ((S 34 4).toNatClampNeg) a2) 38 ((S 34 4).toNatClampNeg) a3) 34 4 ((S 34 4) + 1))) ∧
  (¬ ((S 34 4) < 12) →
    F ((-1)) S)) :
  kK (d + 1) m_Tr_add [.inr 34, .inl a0, .inl a1, .inl a2, .inl a3] S (kq F) := kspec_of (fun _ h => f_Tr_add_0 kspec_Mo h q)
-- K_clear cuts []
set_option maxRecDepth 20000 in
theorem f_K_clear_0 {M : kM} (hM : kMo M) {F : Int32 → kS → Prop} {G : kG} (h : kCl kC M (kq F) 76 G) {S : kS} (q :
  M m_Tr_empty [.inr 34] S (kq fun r2 S1 =>
    F r2 S1)) :
  G 0 [some (.inr 0)] [] S :=
  (h.s 0 rfl (h.s 1 rfl (h.s 4 rfl (And.intro (Nat.le_of_ble_eq_true rfl) (And.intro rfl (And.intro rfl (hM.q q (fun r2 S1 q3 => (h.s 7 rfl (kq_mk q3))))))))))
theorem g_K_clear {d : Nat} {F : Int32 → kS → Prop} {S : kS} (q :
  kK d m_Tr_empty [.inr 34] S (kq fun r2 S1 =>
    F r2 S1)) :
  kK (d + 1) m_K_clear [.inr 0] S (kq F) := kspec_of (fun _ h => f_K_clear_0 kspec_Mo h q)
-- Tr_empty cuts []
set_option maxRecDepth 20000 in
theorem f_Tr_empty_0 {M : kM} (hM : kMo M) {F : Int32 → kS → Prop} {G : kG} (h : kCl kC M (kq F) 77 G) {S : kS} (q :
  F (S 34 4) (ku S 34 4 0)) :
  G 0 [some (.inr 34), none] [] S :=
  (h.s 0 rfl (h.s 1 rfl (h.s 4 rfl (h.s 5 rfl (h.s 6 rfl (h.s 7 rfl (h.s 10 rfl (h.s 11 rfl (kq_mk q)))))))))
theorem g_Tr_empty {d : Nat} {F : Int32 → kS → Prop} {S : kS} (q :
  F (S 34 4) (ku S 34 4 0)) :
  kK (d + 1) m_Tr_empty [.inr 34] S (kq F) := kspec_of (fun _ h => f_Tr_empty_0 kspec_Mo h q)
-- K_replay cuts [10]
set_option maxRecDepth 20000 in
theorem f_K_replay_0 {M : kM} (hM : kMo M) {F : Int32 → kS → Prop} {G : kG} (h : kCl kC M (kq F) 78 G) {S : kS} (q :
  M m_Fa_size [.inr 25] S (kq fun r2 S1 =>
    G 10 [some (.inr 0), some (.inl r2), some (.inl 0)] [] S1)) :
  G 0 [some (.inr 0), none, none] [] S :=
  (h.s 0 rfl (h.s 1 rfl (h.s 4 rfl (And.intro (Nat.le_of_ble_eq_true rfl) (And.intro rfl (And.intro rfl (hM.q q (fun r2 S1 q3 => (h.s 7 rfl (h.s 8 rfl (h.s 9 rfl q3)))))))))))
theorem g_K_replay {d : Nat} {F : Int32 → kS → Prop} {S : kS} (q : ∀ G : kG, kCl kC (kK d) (kq F) 78 G →
  kK d m_Fa_size [.inr 25] S (kq fun r2 S1 =>
    G 10 [some (.inr 0), some (.inl r2), some (.inl 0)] [] S1)) :
  kK (d + 1) m_K_replay [.inr 0] S (kq F) := kspec_of (fun G h => f_K_replay_0 kspec_Mo h (q G h))
set_option maxRecDepth 20000 in
theorem f_K_replay_10 {M : kM} (hM : kMo M) {F : Int32 → kS → Prop} {G : kG} (h : kCl kC M (kq F) 78 G) {S : kS} {v1 v2 : Int32} (q :
  M m_Tr_size [.inr 34] S (kq fun r2 S1 =>
    (r2 ≤ v2 →
      M m_Tr_size [.inr 34] S1 (kq fun r4 S3 =>
        M m_K_settled [.inr 0, .inl r4] S3 (kq fun r6 S5 =>
          F r6 S5))) ∧
    (¬ (r2 ≤ v2) →
      M m_Ru_refer [.inr 33, .inl v1, .inl v2] S1 (kv fun S7 =>
        vp_in v2 12 ∧
        vp_in v2 12 ∧
        vp_in v2 12 ∧
        vp_in v2 12 ∧
        M m_Ru_make [.inr 33, .inl (S7 35 (v2.toNatClampNeg)), .inl (S7 36 (v2.toNatClampNeg)), .inl (S7 37 (v2.toNatClampNeg)), .inl (S7 38 (v2.toNatClampNeg))] S7 (kq fun r9 S8 =>
          (0 ≤ r9 →
            G 10 [some (.inr 0), some (.inl v1), some (.inl (v2 + 1))] [] S8) ∧
          (¬ (0 ≤ r9) →
            M m_K_settled [.inr 0, .inl ((-1))] S8 (kq fun r11 S10 =>
              F (((-1)) - v2) S10))))))) :
  G 10 [some (.inr 0), some (.inl v1), some (.inl v2)] [] S :=
  (h.s 10 rfl (h.s 11 rfl (h.s 12 rfl (h.s 15 rfl (And.intro (Nat.le_of_ble_eq_true rfl) (And.intro rfl (And.intro rfl (hM.q q (fun r2 S1 q12 => (h.s 18 rfl (And.intro (fun e13 => (h.s 92 rfl (h.s 93 rfl (h.s 94 rfl (h.s 97 rfl (And.intro (Nat.le_of_ble_eq_true rfl) (And.intro rfl (And.intro rfl (hM.q (q12.1 e13) (fun r4 S3 q14 => (h.s 100 rfl (And.intro (Nat.le_of_ble_eq_true rfl) (And.intro rfl (And.intro rfl (hM.q q14 (fun r6 S5 q15 => (h.s 103 rfl (kq_mk q15)))))))))))))))))) (fun e13 => (h.s 21 rfl (h.s 22 rfl (h.s 25 rfl (h.s 26 rfl (h.s 27 rfl (And.intro (Nat.le_of_ble_eq_true rfl) (And.intro rfl (And.intro rfl (hM.v (q12.2 e13) (fun S7 q16 => (h.s 30 rfl (h.s 31 rfl (h.s 34 rfl (h.s 35 rfl (h.s 38 rfl (h.s 41 rfl (h.s 42 rfl (And.intro q16.1 (h.s 43 rfl (h.s 44 rfl (h.s 47 rfl (h.s 50 rfl (h.s 51 rfl (And.intro q16.2.1 (h.s 52 rfl (h.s 53 rfl (h.s 56 rfl (h.s 59 rfl (h.s 60 rfl (And.intro q16.2.2.1 (h.s 61 rfl (h.s 62 rfl (h.s 65 rfl (h.s 68 rfl (h.s 69 rfl (And.intro q16.2.2.2.1 (h.s 70 rfl (And.intro (Nat.le_of_ble_eq_true rfl) (And.intro rfl (And.intro rfl (hM.q q16.2.2.2.2 (fun r9 S8 q17 => (h.s 73 rfl (And.intro (fun e18 => (h.s 86 rfl (h.s 89 rfl (q17.1 e18)))) (fun e18 => (h.s 76 rfl (h.s 77 rfl (h.s 78 rfl (And.intro (Nat.le_of_ble_eq_true rfl) (And.intro rfl (And.intro rfl (hM.q (q17.2 e18) (fun r11 S10 q19 => (h.s 81 rfl (h.s 82 rfl (h.s 83 rfl (h.s 84 rfl (h.s 85 rfl (kq_mk q19)))))))))))))))))))))))))))))))))))))))))))))))))))))))))))))))))))))))
-- Tr_size cuts []
set_option maxRecDepth 20000 in
theorem f_Tr_size_0 {M : kM} (hM : kMo M) {F : Int32 → kS → Prop} {G : kG} (h : kCl kC M (kq F) 79 G) {S : kS} (q :
  F (S 34 4) S) :
  G 0 [some (.inr 34)] [] S :=
  (h.s 0 rfl (h.s 1 rfl (h.s 4 rfl (kq_mk q))))
theorem g_Tr_size {d : Nat} {F : Int32 → kS → Prop} {S : kS} (q :
  F (S 34 4) S) :
  kK (d + 1) m_Tr_size [.inr 34] S (kq F) := kspec_of (fun _ h => f_Tr_size_0 kspec_Mo h q)
-- K_typeOf cuts []
set_option maxRecDepth 20000 in
theorem f_K_typeOf_0 {M : kM} (hM : kMo M) {F : Int32 → kS → Prop} {G : kG} (h : kCl kC M (kq F) 80 G) {S : kS} {a0 : Int32} (q :
  M m_Nu_placeOf [.inr 11, .inl a0] S (kq fun r2 S1 =>
    M m_Te_typeAt [.inr 10, .inl r2] S1 (kq fun r4 S3 =>
      M m_Nu_numberOf [.inr 2, .inl r4] S3 (kq fun r6 S5 =>
        F r6 S5)))) :
  G 0 [some (.inr 0), some (.inl a0)] [] S :=
  (h.s 0 rfl (h.s 1 rfl (h.s 4 rfl (h.s 7 rfl (h.s 8 rfl (h.s 11 rfl (h.s 12 rfl (h.s 15 rfl (h.s 18 rfl (h.s 19 rfl (And.intro (Nat.le_of_ble_eq_true rfl) (And.intro rfl (And.intro rfl (hM.q q (fun r2 S1 q7 => (h.s 22 rfl (And.intro (Nat.le_of_ble_eq_true rfl) (And.intro rfl (And.intro rfl (hM.q q7 (fun r4 S3 q8 => (h.s 25 rfl (And.intro (Nat.le_of_ble_eq_true rfl) (And.intro rfl (And.intro rfl (hM.q q8 (fun r6 S5 q9 => (h.s 28 rfl (kq_mk q9)))))))))))))))))))))))))))))
theorem g_K_typeOf {d : Nat} {F : Int32 → kS → Prop} {S : kS} {a0 : Int32} (q :
  kK d m_Nu_placeOf [.inr 11, .inl a0] S (kq fun r2 S1 =>
    kK d m_Te_typeAt [.inr 10, .inl r2] S1 (kq fun r4 S3 =>
      kK d m_Nu_numberOf [.inr 2, .inl r4] S3 (kq fun r6 S5 =>
        F r6 S5)))) :
  kK (d + 1) m_K_typeOf [.inr 0, .inl a0] S (kq F) := kspec_of (fun _ h => f_K_typeOf_0 kspec_Mo h q)
-- K_kind cuts []
set_option maxRecDepth 20000 in
theorem f_K_kind_0 {M : kM} (hM : kMo M) {F : Int32 → kS → Prop} {G : kG} (h : kCl kC M (kq F) 81 G) {S : kS} {a0 : Int32} (q :
  M m_Nu_placeOf [.inr 11, .inl a0] S (kq fun r2 S1 =>
    M m_Te_sortAt [.inr 10, .inl r2] S1 (kq fun r4 S3 =>
      F r4 S3))) :
  G 0 [some (.inr 0), some (.inl a0)] [] S :=
  (h.s 0 rfl (h.s 1 rfl (h.s 4 rfl (h.s 5 rfl (h.s 8 rfl (h.s 11 rfl (h.s 12 rfl (And.intro (Nat.le_of_ble_eq_true rfl) (And.intro rfl (And.intro rfl (hM.q q (fun r2 S1 q5 => (h.s 15 rfl (And.intro (Nat.le_of_ble_eq_true rfl) (And.intro rfl (And.intro rfl (hM.q q5 (fun r4 S3 q6 => (h.s 18 rfl (kq_mk q6))))))))))))))))))))
theorem g_K_kind {d : Nat} {F : Int32 → kS → Prop} {S : kS} {a0 : Int32} (q :
  kK d m_Nu_placeOf [.inr 11, .inl a0] S (kq fun r2 S1 =>
    kK d m_Te_sortAt [.inr 10, .inl r2] S1 (kq fun r4 S3 =>
      F r4 S3))) :
  kK (d + 1) m_K_kind [.inr 0, .inl a0] S (kq F) := kspec_of (fun _ h => f_K_kind_0 kspec_Mo h q)
-- K_part cuts []
set_option maxRecDepth 20000 in
theorem f_K_part_0 {M : kM} (hM : kMo M) {F : Int32 → kS → Prop} {G : kG} (h : kCl kC M (kq F) 82 G) {S : kS} {a0 a1 : Int32} (q :
  M m_Nu_placeOf [.inr 11, .inl a0] S (kq fun r2 S1 =>
    M m_Te_sortAt [.inr 10, .inl r2] S1 (kq fun r4 S3 =>
      (r4 = 0 →
        (¬ a1 = 0 →
          F ((-1)) S3) ∧
        (¬ (¬ a1 = 0) →
          vp_in r2 250 ∧
          F (S3 15 (r2.toNatClampNeg)) S3)) ∧
      (r4 = 1 →
        F ((-1)) S3) ∧
      (r4 = 2 →
        (¬ a1 = 0 →
          F ((-1)) S3) ∧
        (¬ (¬ a1 = 0) →
          vp_in r2 250 ∧
          F (S3 15 (r2.toNatClampNeg)) S3)) ∧
      (r4 = 3 →
        (¬ a1 = 0 →
          (¬ a1 = 1 →
            F ((-1)) S3) ∧
          (¬ (¬ a1 = 1) →
            vp_in r2 250 ∧
            M m_Nu_numberOf [.inr 11, .inl (S3 16 (r2.toNatClampNeg))] S3 (kq fun r6 S5 =>
              F r6 S5))) ∧
        (¬ (¬ a1 = 0) →
          vp_in r2 250 ∧
          M m_Nu_numberOf [.inr 11, .inl (S3 15 (r2.toNatClampNeg))] S3 (kq fun r8 S7 =>
            F r8 S7))) ∧
      ((r4 < 0 ∨ 4 ≤ r4) →
        F ((-1)) S3)))) :
  G 0 [some (.inr 0), some (.inl a0), some (.inl a1), none] [] S :=
  (h.s 0 rfl (h.s 1 rfl (h.s 4 rfl (h.s 7 rfl (h.s 8 rfl (And.intro (Nat.le_of_ble_eq_true rfl) (And.intro rfl (And.intro rfl (hM.q q (fun r2 S1 q9 => (h.s 11 rfl (h.s 12 rfl (h.s 13 rfl (h.s 16 rfl (h.s 17 rfl (And.intro (Nat.le_of_ble_eq_true rfl) (And.intro rfl (And.intro rfl (hM.q q9 (fun r4 S3 q10 => (h.s 20 rfl (And.intro (fun e11 => (h.s 52 rfl (h.s 53 rfl (And.intro (fun e17 => (h.s 68 rfl (h.s 69 rfl (kq_mk ((q10.1 e11).1 e17))))) (fun e17 => (h.s 56 rfl (h.s 57 rfl (h.s 60 rfl (h.s 63 rfl (h.s 64 rfl (And.intro ((q10.1 e11).2 e17).1 (h.s 65 rfl (h.s 69 rfl (kq_mk ((q10.1 e11).2 e17).2)))))))))))))) (And.intro (fun e11 => (h.s 123 rfl (h.s 124 rfl (kq_mk (q10.2.1 e11))))) (And.intro (fun e11 => (h.s 52 rfl (h.s 53 rfl (And.intro (fun e16 => (h.s 68 rfl (h.s 69 rfl (kq_mk ((q10.2.2.1 e11).1 e16))))) (fun e16 => (h.s 56 rfl (h.s 57 rfl (h.s 60 rfl (h.s 63 rfl (h.s 64 rfl (And.intro ((q10.2.2.1 e11).2 e16).1 (h.s 65 rfl (h.s 69 rfl (kq_mk ((q10.2.2.1 e11).2 e16).2)))))))))))))) (And.intro (fun e11 => (h.s 70 rfl (h.s 71 rfl (And.intro (fun e12 => (h.s 94 rfl (h.s 95 rfl (h.s 96 rfl (And.intro (fun e13 => (h.s 121 rfl (h.s 122 rfl (kq_mk (((q10.2.2.2.1 e11).1 e12).1 e13))))) (fun e13 => (h.s 99 rfl (h.s 100 rfl (h.s 103 rfl (h.s 106 rfl (h.s 107 rfl (h.s 110 rfl (h.s 113 rfl (h.s 114 rfl (And.intro (((q10.2.2.2.1 e11).1 e12).2 e13).1 (h.s 115 rfl (And.intro (Nat.le_of_ble_eq_true rfl) (And.intro rfl (And.intro rfl (hM.q (((q10.2.2.2.1 e11).1 e12).2 e13).2 (fun r6 S5 q14 => (h.s 118 rfl (h.s 122 rfl (kq_mk q14)))))))))))))))))))))))) (fun e12 => (h.s 74 rfl (h.s 75 rfl (h.s 78 rfl (h.s 81 rfl (h.s 82 rfl (h.s 85 rfl (h.s 88 rfl (h.s 89 rfl (And.intro ((q10.2.2.2.1 e11).2 e12).1 (h.s 90 rfl (And.intro (Nat.le_of_ble_eq_true rfl) (And.intro rfl (And.intro rfl (hM.q ((q10.2.2.2.1 e11).2 e12).2 (fun r8 S7 q15 => (h.s 93 rfl (kq_mk q15)))))))))))))))))))))) (fun e11 => (h.s 123 rfl (h.s 124 rfl (kq_mk (q10.2.2.2.2 e11))))))))))))))))))))))))))))))
theorem g_K_part {d : Nat} {F : Int32 → kS → Prop} {S : kS} {a0 a1 : Int32} (q :
  kK d m_Nu_placeOf [.inr 11, .inl a0] S (kq fun r2 S1 =>
    kK d m_Te_sortAt [.inr 10, .inl r2] S1 (kq fun r4 S3 =>
      (r4 = 0 →
        (¬ a1 = 0 →
          F ((-1)) S3) ∧
        (¬ (¬ a1 = 0) →
          vp_in r2 250 ∧
          F (S3 15 (r2.toNatClampNeg)) S3)) ∧
      (r4 = 1 →
        F ((-1)) S3) ∧
      (r4 = 2 →
        (¬ a1 = 0 →
          F ((-1)) S3) ∧
        (¬ (¬ a1 = 0) →
          vp_in r2 250 ∧
          F (S3 15 (r2.toNatClampNeg)) S3)) ∧
      (r4 = 3 →
        (¬ a1 = 0 →
          (¬ a1 = 1 →
            F ((-1)) S3) ∧
          (¬ (¬ a1 = 1) →
            vp_in r2 250 ∧
            kK d m_Nu_numberOf [.inr 11, .inl (S3 16 (r2.toNatClampNeg))] S3 (kq fun r6 S5 =>
              F r6 S5))) ∧
        (¬ (¬ a1 = 0) →
          vp_in r2 250 ∧
          kK d m_Nu_numberOf [.inr 11, .inl (S3 15 (r2.toNatClampNeg))] S3 (kq fun r8 S7 =>
            F r8 S7))) ∧
      ((r4 < 0 ∨ 4 ≤ r4) →
        F ((-1)) S3)))) :
  kK (d + 1) m_K_part [.inr 0, .inl a0, .inl a1] S (kq F) := kspec_of (fun _ h => f_K_part_0 kspec_Mo h q)
-- K_free cuts []
set_option maxRecDepth 20000 in
theorem f_K_free_0 {M : kM} (hM : kMo M) {F : Int32 → kS → Prop} {G : kG} (h : kCl kC M (kq F) 83 G) {S : kS} {a0 a1 : Int32} (q :
  M m_Nu_placeOf [.inr 11, .inl a0] S (kq fun r2 S1 =>
    M m_Nu_placeOf [.inr 11, .inl a1] S1 (kq fun r4 S3 =>
      M m_Te_sortAt [.inr 10, .inl r2] S3 (kq fun r6 S5 =>
        (¬ r6 = 0 →
          F 0 S5) ∧
        (¬ (¬ r6 = 0) →
          (0 ≤ r4 →
            M m_Te_mark [.inr 10, .inl r2] S5 (kv fun S7 =>
              vp_in r4 250 ∧
              kz (S7 19 (r4.toNatClampNeg)) ∧ F (S7 19 (r4.toNatClampNeg)) S7)) ∧
          (¬ (0 ≤ r4) →
            F 0 S5)))))) :
  G 0 [some (.inr 0), some (.inl a0), some (.inl a1), none, none] [] S :=
  (h.s 0 rfl (h.s 1 rfl (h.s 4 rfl (h.s 7 rfl (h.s 8 rfl (And.intro (Nat.le_of_ble_eq_true rfl) (And.intro rfl (And.intro rfl (hM.q q (fun r2 S1 q8 => (h.s 11 rfl (h.s 12 rfl (h.s 13 rfl (h.s 16 rfl (h.s 19 rfl (h.s 20 rfl (And.intro (Nat.le_of_ble_eq_true rfl) (And.intro rfl (And.intro rfl (hM.q q8 (fun r4 S3 q9 => (h.s 23 rfl (h.s 25 rfl (h.s 26 rfl (h.s 29 rfl (h.s 30 rfl (And.intro (Nat.le_of_ble_eq_true rfl) (And.intro rfl (And.intro rfl (hM.q q9 (fun r6 S5 q10 => (h.s 33 rfl (And.intro (fun e11 => (h.s 41 rfl (h.s 42 rfl (And.intro (Or.inl rfl) (kq_mk (q10.1 e11)))))) (fun e11 => (h.s 36 rfl (h.s 38 rfl (And.intro (fun e12 => (h.s 43 rfl (h.s 44 rfl (h.s 47 rfl (h.s 48 rfl (And.intro (Nat.le_of_ble_eq_true rfl) (And.intro rfl (And.intro rfl (hM.v ((q10.2 e11).1 e12) (fun S7 q13 => (h.s 51 rfl (h.s 52 rfl (h.s 55 rfl (h.s 58 rfl (h.s 60 rfl (And.intro q13.1 (h.s 61 rfl (And.intro q13.2.1 (kq_mk q13.2.2))))))))))))))))))) (fun e12 => (h.s 41 rfl (h.s 42 rfl (And.intro (Or.inl rfl) (kq_mk ((q10.2 e11).2 e12)))))))))))))))))))))))))))))))))))))))))))
theorem g_K_free {d : Nat} {F : Int32 → kS → Prop} {S : kS} {a0 a1 : Int32} (q :
  kK d m_Nu_placeOf [.inr 11, .inl a0] S (kq fun r2 S1 =>
    kK d m_Nu_placeOf [.inr 11, .inl a1] S1 (kq fun r4 S3 =>
      kK d m_Te_sortAt [.inr 10, .inl r2] S3 (kq fun r6 S5 =>
        (¬ r6 = 0 →
          F 0 S5) ∧
        (¬ (¬ r6 = 0) →
          (0 ≤ r4 →
            kK d m_Te_mark [.inr 10, .inl r2] S5 (kv fun S7 =>
              vp_in r4 250 ∧
              kz (S7 19 (r4.toNatClampNeg)) ∧ F (S7 19 (r4.toNatClampNeg)) S7)) ∧
          (¬ (0 ≤ r4) →
            F 0 S5)))))) :
  kK (d + 1) m_K_free [.inr 0, .inl a0, .inl a1] S (kq F) := kspec_of (fun _ h => f_K_free_0 kspec_Mo h q)
-- K_conclusion cuts []
set_option maxRecDepth 20000 in
theorem f_K_conclusion_0 {M : kM} (hM : kMo M) {F : Int32 → kS → Prop} {G : kG} (h : kCl kC M (kq F) 84 G) {S : kS} {a0 : Int32} (q :
  M m_Fa_conclusionOf [.inr 25, .inl a0] S (kq fun r2 S1 =>
    M m_Nu_numberOf [.inr 11, .inl r2] S1 (kq fun r4 S3 =>
      F r4 S3))) :
  G 0 [some (.inr 0), some (.inl a0)] [] S :=
  (h.s 0 rfl (h.s 1 rfl (h.s 4 rfl (h.s 7 rfl (h.s 8 rfl (h.s 11 rfl (h.s 12 rfl (And.intro (Nat.le_of_ble_eq_true rfl) (And.intro rfl (And.intro rfl (hM.q q (fun r2 S1 q5 => (h.s 15 rfl (And.intro (Nat.le_of_ble_eq_true rfl) (And.intro rfl (And.intro rfl (hM.q q5 (fun r4 S3 q6 => (h.s 18 rfl (kq_mk q6))))))))))))))))))))
theorem g_K_conclusion {d : Nat} {F : Int32 → kS → Prop} {S : kS} {a0 : Int32} (q :
  kK d m_Fa_conclusionOf [.inr 25, .inl a0] S (kq fun r2 S1 =>
    kK d m_Nu_numberOf [.inr 11, .inl r2] S1 (kq fun r4 S3 =>
      F r4 S3))) :
  kK (d + 1) m_K_conclusion [.inr 0, .inl a0] S (kq F) := kspec_of (fun _ h => f_K_conclusion_0 kspec_Mo h q)
-- K_hypotheses cuts []
set_option maxRecDepth 20000 in
theorem f_K_hypotheses_0 {M : kM} (hM : kMo M) {F : Int32 → kS → Prop} {G : kG} (h : kCl kC M (kq F) 85 G) {S : kS} {a0 : Int32} (q :
  M m_Fa_sizeOf [.inr 25, .inl a0] S (kq fun r2 S1 =>
    F r2 S1)) :
  G 0 [some (.inr 0), some (.inl a0)] [] S :=
  (h.s 0 rfl (h.s 1 rfl (h.s 4 rfl (h.s 5 rfl (And.intro (Nat.le_of_ble_eq_true rfl) (And.intro rfl (And.intro rfl (hM.q q (fun r2 S1 q3 => (h.s 8 rfl (kq_mk q3)))))))))))
theorem g_K_hypotheses {d : Nat} {F : Int32 → kS → Prop} {S : kS} {a0 : Int32} (q :
  kK d m_Fa_sizeOf [.inr 25, .inl a0] S (kq fun r2 S1 =>
    F r2 S1)) :
  kK (d + 1) m_K_hypotheses [.inr 0, .inl a0] S (kq F) := kspec_of (fun _ h => f_K_hypotheses_0 kspec_Mo h q)
-- K_assumes cuts []
set_option maxRecDepth 20000 in
theorem f_K_assumes_0 {M : kM} (hM : kMo M) {F : Int32 → kS → Prop} {G : kG} (h : kCl kC M (kq F) 86 G) {S : kS} {a0 a1 : Int32} (q :
  M m_Nu_placeOf [.inr 11, .inl a1] S (kq fun r2 S1 =>
    M m_Fa_has [.inr 25, .inl a0, .inl r2] S1 (kq fun r4 S3 =>
      kz r4 ∧ F r4 S3))) :
  G 0 [some (.inr 0), some (.inl a0), some (.inl a1)] [] S :=
  (h.s 0 rfl (h.s 1 rfl (h.s 4 rfl (h.s 5 rfl (h.s 6 rfl (h.s 9 rfl (h.s 12 rfl (h.s 13 rfl (And.intro (Nat.le_of_ble_eq_true rfl) (And.intro rfl (And.intro rfl (hM.q q (fun r2 S1 q5 => (h.s 16 rfl (And.intro (Nat.le_of_ble_eq_true rfl) (And.intro rfl (And.intro rfl (hM.q q5 (fun r4 S3 q6 => (h.s 19 rfl (And.intro q6.1 (kq_mk q6.2))))))))))))))))))))))
theorem g_K_assumes {d : Nat} {F : Int32 → kS → Prop} {S : kS} {a0 a1 : Int32} (q :
  kK d m_Nu_placeOf [.inr 11, .inl a1] S (kq fun r2 S1 =>
    kK d m_Fa_has [.inr 25, .inl a0, .inl r2] S1 (kq fun r4 S3 =>
      kz r4 ∧ F r4 S3))) :
  kK (d + 1) m_K_assumes [.inr 0, .inl a0, .inl a1] S (kq F) := kspec_of (fun _ h => f_K_assumes_0 kspec_Mo h q)
-- Fa_has cuts [2]
set_option maxRecDepth 20000 in
theorem f_Fa_has_0 {M : kM} (hM : kMo M) {F : Int32 → kS → Prop} {G : kG} (h : kCl kC M (kq F) 87 G) {S : kS} {a0 a1 : Int32} (q :
  G 2 [some (.inr 25), some (.inl a0), some (.inl a1), some (.inl 0)] [] S) :
  G 0 [some (.inr 25), some (.inl a0), some (.inl a1), none] [] S :=
  (h.s 0 rfl (h.s 1 rfl q))
theorem g_Fa_has {d : Nat} {F : Int32 → kS → Prop} {S : kS} {a0 a1 : Int32} (q : ∀ G : kG, kCl kC (kK d) (kq F) 87 G →
  G 2 [some (.inr 25), some (.inl a0), some (.inl a1), some (.inl 0)] [] S) :
  kK (d + 1) m_Fa_has [.inr 25, .inl a0, .inl a1] S (kq F) := kspec_of (fun G h => f_Fa_has_0 kspec_Mo h (q G h))
set_option maxRecDepth 20000 in
theorem f_Fa_has_2 {M : kM} (hM : kMo M) {F : Int32 → kS → Prop} {G : kG} (h : kCl kC M (kq F) 87 G) {S : kS} {v1 v2 v3 : Int32} (q :
  M m_Fa_sizeOf [.inr 25, .inl v1] S (kq fun r2 S1 =>
    (r2 ≤ v3 →
      F 0 S1) ∧
    (¬ (r2 ≤ v3) →
      M m_Fa_hypothesis [.inr 25, .inl v1, .inl v3] S1 (kq fun r4 S3 =>
        (¬ r4 = v2 →
          G 2 [some (.inr 25), some (.inl v1), some (.inl v2), some (.inl (v3 + 1))] [] S3) ∧
        (¬ (¬ r4 = v2) →
          F 1 S3))))) :
  G 2 [some (.inr 25), some (.inl v1), some (.inl v2), some (.inl v3)] [] S :=
  (h.s 2 rfl (h.s 3 rfl (h.s 4 rfl (h.s 5 rfl (And.intro (Nat.le_of_ble_eq_true rfl) (And.intro rfl (And.intro rfl (hM.q q (fun r2 S1 q5 => (h.s 8 rfl (And.intro (fun e6 => (h.s 29 rfl (h.s 30 rfl (And.intro (Or.inl rfl) (kq_mk (q5.1 e6)))))) (fun e6 => (h.s 11 rfl (h.s 12 rfl (h.s 13 rfl (h.s 14 rfl (And.intro (Nat.le_of_ble_eq_true rfl) (And.intro rfl (And.intro rfl (hM.q (q5.2 e6) (fun r4 S3 q7 => (h.s 17 rfl (h.s 18 rfl (And.intro (fun e8 => (h.s 23 rfl (h.s 26 rfl (q7.1 e8)))) (fun e8 => (h.s 21 rfl (h.s 22 rfl (And.intro (Or.inr rfl) (kq_mk (q7.2 e8))))))))))))))))))))))))))))))
-- K_count cuts []
set_option maxRecDepth 20000 in
theorem f_K_count_0 {M : kM} (hM : kMo M) {F : Int32 → kS → Prop} {G : kG} (h : kCl kC M (kq F) 88 G) {S : kS} {a0 : Int32} (q :
  (a0 = 0 →
    M m_Te_size [.inr 10] S (kq fun r2 S1 =>
      F r2 S1)) ∧
  (a0 = 1 →
    M m_Ty_size [.inr 1] S (kq fun r4 S3 =>
      F r4 S3)) ∧
  (a0 = 2 →
    M m_Fa_size [.inr 25] S (kq fun r6 S5 =>
      F r6 S5)) ∧
  (a0 = 3 →
    M m_Nu_size [.inr 11] S (kq fun r8 S7 =>
      F r8 S7)) ∧
  (a0 = 4 →
    M m_Nu_size [.inr 2] S (kq fun r10 S9 =>
      F r10 S9)) ∧
  ((a0 < 0 ∨ 5 ≤ a0) →
    F ((-1)) S)) :
  G 0 [some (.inr 0), some (.inl a0)] [] S :=
  (h.s 0 rfl (h.s 1 rfl (And.intro (fun e11 => (h.s 36 rfl (h.s 37 rfl (h.s 40 rfl (And.intro (Nat.le_of_ble_eq_true rfl) (And.intro rfl (And.intro rfl (hM.q (q.1 e11) (fun r2 S1 q16 => (h.s 43 rfl (kq_mk q16))))))))))) (And.intro (fun e11 => (h.s 44 rfl (h.s 45 rfl (h.s 48 rfl (And.intro (Nat.le_of_ble_eq_true rfl) (And.intro rfl (And.intro rfl (hM.q (q.2.1 e11) (fun r4 S3 q15 => (h.s 51 rfl (kq_mk q15))))))))))) (And.intro (fun e11 => (h.s 52 rfl (h.s 53 rfl (h.s 56 rfl (And.intro (Nat.le_of_ble_eq_true rfl) (And.intro rfl (And.intro rfl (hM.q (q.2.2.1 e11) (fun r6 S5 q14 => (h.s 59 rfl (kq_mk q14))))))))))) (And.intro (fun e11 => (h.s 60 rfl (h.s 61 rfl (h.s 64 rfl (h.s 67 rfl (And.intro (Nat.le_of_ble_eq_true rfl) (And.intro rfl (And.intro rfl (hM.q (q.2.2.2.1 e11) (fun r8 S7 q13 => (h.s 70 rfl (kq_mk q13)))))))))))) (And.intro (fun e11 => (h.s 71 rfl (h.s 72 rfl (h.s 75 rfl (h.s 78 rfl (And.intro (Nat.le_of_ble_eq_true rfl) (And.intro rfl (And.intro rfl (hM.q (q.2.2.2.2.1 e11) (fun r10 S9 q12 => (h.s 81 rfl (kq_mk q12)))))))))))) (fun e11 => (h.s 82 rfl (h.s 83 rfl (kq_mk (q.2.2.2.2.2 e11))))))))))))
theorem g_K_count {d : Nat} {F : Int32 → kS → Prop} {S : kS} {a0 : Int32} (q :
  (a0 = 0 →
    kK d m_Te_size [.inr 10] S (kq fun r2 S1 =>
      F r2 S1)) ∧
  (a0 = 1 →
    kK d m_Ty_size [.inr 1] S (kq fun r4 S3 =>
      F r4 S3)) ∧
  (a0 = 2 →
    kK d m_Fa_size [.inr 25] S (kq fun r6 S5 =>
      F r6 S5)) ∧
  (a0 = 3 →
    kK d m_Nu_size [.inr 11] S (kq fun r8 S7 =>
      F r8 S7)) ∧
  (a0 = 4 →
    kK d m_Nu_size [.inr 2] S (kq fun r10 S9 =>
      F r10 S9)) ∧
  ((a0 < 0 ∨ 5 ≤ a0) →
    F ((-1)) S)) :
  kK (d + 1) m_K_count [.inr 0, .inl a0] S (kq F) := kspec_of (fun _ h => f_K_count_0 kspec_Mo h q)
-- Te_size cuts []
set_option maxRecDepth 20000 in
theorem f_Te_size_0 {M : kM} (hM : kMo M) {F : Int32 → kS → Prop} {G : kG} (h : kCl kC M (kq F) 89 G) {S : kS} (q :
  F (S 10 13) S) :
  G 0 [some (.inr 10)] [] S :=
  (h.s 0 rfl (h.s 1 rfl (h.s 4 rfl (kq_mk q))))
theorem g_Te_size {d : Nat} {F : Int32 → kS → Prop} {S : kS} (q :
  F (S 10 13) S) :
  kK (d + 1) m_Te_size [.inr 10] S (kq F) := kspec_of (fun _ h => f_Te_size_0 kspec_Mo h q)
-- Ty_size cuts []
set_option maxRecDepth 20000 in
theorem f_Ty_size_0 {M : kM} (hM : kMo M) {F : Int32 → kS → Prop} {G : kG} (h : kCl kC M (kq F) 90 G) {S : kS} (q :
  F (S 1 6) S) :
  G 0 [some (.inr 1)] [] S :=
  (h.s 0 rfl (h.s 1 rfl (h.s 4 rfl (kq_mk q))))
theorem g_Ty_size {d : Nat} {F : Int32 → kS → Prop} {S : kS} (q :
  F (S 1 6) S) :
  kK (d + 1) m_Ty_size [.inr 1] S (kq F) := kspec_of (fun _ h => f_Ty_size_0 kspec_Mo h q)
-- Nu_size cuts []
set_option maxRecDepth 20000 in
theorem f_Nu_size_2_0 {M : kM} (hM : kMo M) {F : Int32 → kS → Prop} {G : kG} (h : kCl kC M (kq F) 91 G) {S : kS} (q :
  F (S 2 2) S) :
  G 0 [some (.inr 2)] [] S :=
  (h.s 0 rfl (h.s 1 rfl (h.s 4 rfl (kq_mk q))))
theorem g_Nu_size_2 {d : Nat} {F : Int32 → kS → Prop} {S : kS} (q :
  F (S 2 2) S) :
  kK (d + 1) m_Nu_size [.inr 2] S (kq F) := kspec_of (fun _ h => f_Nu_size_2_0 kspec_Mo h q)
-- Nu_size cuts []
set_option maxRecDepth 20000 in
theorem f_Nu_size_11_0 {M : kM} (hM : kMo M) {F : Int32 → kS → Prop} {G : kG} (h : kCl kC M (kq F) 91 G) {S : kS} (q :
  F (S 11 2) S) :
  G 0 [some (.inr 11)] [] S :=
  (h.s 0 rfl (h.s 1 rfl (h.s 4 rfl (kq_mk q))))
theorem g_Nu_size_11 {d : Nat} {F : Int32 → kS → Prop} {S : kS} (q :
  F (S 11 2) S) :
  kK (d + 1) m_Nu_size [.inr 11] S (kq F) := kspec_of (fun _ h => f_Nu_size_11_0 kspec_Mo h q)
