/-! printed: regions, their weakest preconditions -/
-- Mo_free cuts []
set_option maxRecDepth 20000 in
theorem f_Mo_free_0 {M : kM} (hM : kMo M) {F : Int32 → kS → Prop} {G : kG} (h : kCl kC M (kq F) 142 G) {S : kS} {a0 a1 : Int32} (q :
  M m_Mo_isTerm [.inr 39, .inl a0] S (kq fun r2 S1 =>
    (r2 = 0 →
      F 0 S1) ∧
    (¬ (r2 = 0) →
      M m_Mo_isTerm [.inr 39, .inl a1] S1 (kq fun r4 S3 =>
        (r4 = 0 →
          F 0 S3) ∧
        (¬ (r4 = 0) →
          vp_in a0 250 ∧
          vp_in (S3 53 (a0.toNatClampNeg)) 250 ∧
          (¬ (S3 47 ((S3 53 (a0.toNatClampNeg)).toNatClampNeg)) = 0 →
            F 0 S3) ∧
          (¬ (¬ (S3 47 ((S3 53 (a0.toNatClampNeg)).toNatClampNeg)) = 0) →
            vp_in a1 250 ∧
            vp_in a0 250 ∧
            M m_Mo_has [.inr 39, .inl (S3 53 (a1.toNatClampNeg)), .inl (S3 53 (a0.toNatClampNeg))] S3 (kq fun r6 S5 =>
              (r6 = 0 →
                F 0 S5) ∧
              (¬ (r6 = 0) →
                F 1 S5)))))))) :
  G 0 [some (.inr 39), some (.inl a0), some (.inl a1)] [] S :=
  (h.s 0 rfl (h.s 1 rfl (h.s 2 rfl (And.intro (Nat.le_of_ble_eq_true rfl) (And.intro rfl (And.intro rfl (hM.q q (fun r2 S1 q7 => (h.s 5 rfl (And.intro (fun e8 => (h.s 53 rfl (h.s 54 rfl (And.intro (Or.inl rfl) (kq_mk (q7.1 e8)))))) (fun e8 => (h.s 8 rfl (h.s 9 rfl (h.s 10 rfl (And.intro (Nat.le_of_ble_eq_true rfl) (And.intro rfl (And.intro rfl (hM.q (q7.2 e8) (fun r4 S3 q9 => (h.s 13 rfl (And.intro (fun e10 => (h.s 53 rfl (h.s 54 rfl (And.intro (Or.inl rfl) (kq_mk (q9.1 e10)))))) (fun e10 => (h.s 16 rfl (h.s 17 rfl (h.s 20 rfl (h.s 21 rfl (h.s 24 rfl (h.s 25 rfl (And.intro (q9.2 e10).1 (h.s 26 rfl (And.intro (q9.2 e10).2.1 (h.s 27 rfl (And.intro (fun e11 => (h.s 53 rfl (h.s 54 rfl (And.intro (Or.inl rfl) (kq_mk ((q9.2 e10).2.2.1 e11)))))) (fun e11 => (h.s 30 rfl (h.s 31 rfl (h.s 32 rfl (h.s 35 rfl (h.s 36 rfl (And.intro ((q9.2 e10).2.2.2 e11).1 (h.s 37 rfl (h.s 38 rfl (h.s 41 rfl (h.s 42 rfl (And.intro ((q9.2 e10).2.2.2 e11).2.1 (h.s 43 rfl (And.intro (Nat.le_of_ble_eq_true rfl) (And.intro rfl (And.intro rfl (hM.q ((q9.2 e10).2.2.2 e11).2.2 (fun r6 S5 q12 => (h.s 46 rfl (And.intro (fun e13 => (h.s 53 rfl (h.s 54 rfl (And.intro (Or.inl rfl) (kq_mk (q12.1 e13)))))) (fun e13 => (h.s 49 rfl (h.s 50 rfl (h.s 54 rfl (And.intro (Or.inr rfl) (kq_mk (q12.2 e13))))))))))))))))))))))))))))))))))))))))))))))))))))))))))))
theorem g_Mo_free {d : Nat} {F : Int32 → kS → Prop} {S : kS} {a0 a1 : Int32} (q :
  kK d m_Mo_isTerm [.inr 39, .inl a0] S (kq fun r2 S1 =>
    (r2 = 0 →
      F 0 S1) ∧
    (¬ (r2 = 0) →
      kK d m_Mo_isTerm [.inr 39, .inl a1] S1 (kq fun r4 S3 =>
        (r4 = 0 →
          F 0 S3) ∧
        (¬ (r4 = 0) →
          vp_in a0 250 ∧
          vp_in (S3 53 (a0.toNatClampNeg)) 250 ∧
          (¬ (S3 47 ((S3 53 (a0.toNatClampNeg)).toNatClampNeg)) = 0 →
            F 0 S3) ∧
          (¬ (¬ (S3 47 ((S3 53 (a0.toNatClampNeg)).toNatClampNeg)) = 0) →
            vp_in a1 250 ∧
            vp_in a0 250 ∧
            kK d m_Mo_has [.inr 39, .inl (S3 53 (a1.toNatClampNeg)), .inl (S3 53 (a0.toNatClampNeg))] S3 (kq fun r6 S5 =>
              (r6 = 0 →
                F 0 S5) ∧
              (¬ (r6 = 0) →
                F 1 S5)))))))) :
  kK (d + 1) m_Mo_free [.inr 39, .inl a0, .inl a1] S (kq F) := kspec_of (fun _ h => f_Mo_free_0 kspec_Mo h q)
-- Mo_conclusion cuts []
set_option maxRecDepth 20000 in
theorem f_Mo_conclusion_0 {M : kM} (hM : kMo M) {F : Int32 → kS → Prop} {G : kG} (h : kCl kC M (kq F) 143 G) {S : kS} {a0 : Int32} (q :
  M m_Mo_isFact [.inr 39, .inl a0] S (kq fun r2 S1 =>
    (r2 = 0 →
      F ((-1)) S1) ∧
    (¬ (r2 = 0) →
      vp_in a0 60 ∧
      M m_Mo_numberOf [.inr 39, .inl (S1 54 (a0.toNatClampNeg))] S1 (kq fun r4 S3 =>
        F r4 S3)))) :
  G 0 [some (.inr 39), some (.inl a0)] [] S :=
  (h.s 0 rfl (h.s 1 rfl (h.s 2 rfl (And.intro (Nat.le_of_ble_eq_true rfl) (And.intro rfl (And.intro rfl (hM.q q (fun r2 S1 q5 => (h.s 5 rfl (And.intro (fun e6 => (h.s 21 rfl (h.s 22 rfl (kq_mk (q5.1 e6))))) (fun e6 => (h.s 8 rfl (h.s 9 rfl (h.s 10 rfl (h.s 13 rfl (h.s 14 rfl (And.intro (q5.2 e6).1 (h.s 15 rfl (And.intro (Nat.le_of_ble_eq_true rfl) (And.intro rfl (And.intro rfl (hM.q (q5.2 e6).2 (fun r4 S3 q7 => (h.s 18 rfl (h.s 22 rfl (kq_mk q7))))))))))))))))))))))))))
theorem g_Mo_conclusion {d : Nat} {F : Int32 → kS → Prop} {S : kS} {a0 : Int32} (q :
  kK d m_Mo_isFact [.inr 39, .inl a0] S (kq fun r2 S1 =>
    (r2 = 0 →
      F ((-1)) S1) ∧
    (¬ (r2 = 0) →
      vp_in a0 60 ∧
      kK d m_Mo_numberOf [.inr 39, .inl (S1 54 (a0.toNatClampNeg))] S1 (kq fun r4 S3 =>
        F r4 S3)))) :
  kK (d + 1) m_Mo_conclusion [.inr 39, .inl a0] S (kq F) := kspec_of (fun _ h => f_Mo_conclusion_0 kspec_Mo h q)
-- Mo_hypotheses cuts []
set_option maxRecDepth 20000 in
theorem f_Mo_hypotheses_0 {M : kM} (hM : kMo M) {F : Int32 → kS → Prop} {G : kG} (h : kCl kC M (kq F) 144 G) {S : kS} {a0 : Int32} (q :
  M m_Mo_isFact [.inr 39, .inl a0] S (kq fun r2 S1 =>
    (r2 = 0 →
      F ((-1)) S1) ∧
    (¬ (r2 = 0) →
      vp_in a0 60 ∧
      F (S1 55 (a0.toNatClampNeg)) S1))) :
  G 0 [some (.inr 39), some (.inl a0)] [] S :=
  (h.s 0 rfl (h.s 1 rfl (h.s 2 rfl (And.intro (Nat.le_of_ble_eq_true rfl) (And.intro rfl (And.intro rfl (hM.q q (fun r2 S1 q3 => (h.s 5 rfl (And.intro (fun e4 => (h.s 17 rfl (h.s 18 rfl (kq_mk (q3.1 e4))))) (fun e4 => (h.s 8 rfl (h.s 9 rfl (h.s 12 rfl (h.s 13 rfl (And.intro (q3.2 e4).1 (h.s 14 rfl (h.s 18 rfl (kq_mk (q3.2 e4).2)))))))))))))))))))
theorem g_Mo_hypotheses {d : Nat} {F : Int32 → kS → Prop} {S : kS} {a0 : Int32} (q :
  kK d m_Mo_isFact [.inr 39, .inl a0] S (kq fun r2 S1 =>
    (r2 = 0 →
      F ((-1)) S1) ∧
    (¬ (r2 = 0) →
      vp_in a0 60 ∧
      F (S1 55 (a0.toNatClampNeg)) S1))) :
  kK (d + 1) m_Mo_hypotheses [.inr 39, .inl a0] S (kq F) := kspec_of (fun _ h => f_Mo_hypotheses_0 kspec_Mo h q)
-- Mo_assumes cuts [23]
set_option maxRecDepth 20000 in
theorem f_Mo_assumes_0 {M : kM} (hM : kMo M) {F : Int32 → kS → Prop} {G : kG} (h : kCl kC M (kq F) 145 G) {S : kS} {a0 a1 : Int32} (q :
  M m_Mo_isFact [.inr 39, .inl a0] S (kq fun r2 S1 =>
    (r2 = 0 →
      F 0 S1) ∧
    (¬ (r2 = 0) →
      M m_Mo_isTerm [.inr 39, .inl a1] S1 (kq fun r4 S3 =>
        (¬ r4 = 0 →
          G 23 [some (.inr 39), some (.inl a0), some (.inl a1), some (.inl 0), some (.inl 0)] [] S3) ∧
        (¬ (¬ r4 = 0) →
          F 0 S3))))) :
  G 0 [some (.inr 39), some (.inl a0), some (.inl a1), none, none] [] S :=
  (h.s 0 rfl (h.s 1 rfl (h.s 2 rfl (And.intro (Nat.le_of_ble_eq_true rfl) (And.intro rfl (And.intro rfl (hM.q q (fun r2 S1 q5 => (h.s 5 rfl (And.intro (fun e6 => (h.s 16 rfl (h.s 17 rfl (And.intro (Or.inl rfl) (kq_mk (q5.1 e6)))))) (fun e6 => (h.s 8 rfl (h.s 9 rfl (h.s 10 rfl (And.intro (Nat.le_of_ble_eq_true rfl) (And.intro rfl (And.intro rfl (hM.q (q5.2 e6) (fun r4 S3 q7 => (h.s 13 rfl (And.intro (fun e8 => (h.s 18 rfl (h.s 19 rfl (h.s 20 rfl (h.s 21 rfl (q7.1 e8)))))) (fun e8 => (h.s 16 rfl (h.s 17 rfl (And.intro (Or.inl rfl) (kq_mk (q7.2 e8)))))))))))))))))))))))))))
theorem g_Mo_assumes {d : Nat} {F : Int32 → kS → Prop} {S : kS} {a0 a1 : Int32} (q : ∀ G : kG, kCl kC (kK d) (kq F) 145 G →
  kK d m_Mo_isFact [.inr 39, .inl a0] S (kq fun r2 S1 =>
    (r2 = 0 →
      F 0 S1) ∧
    (¬ (r2 = 0) →
      kK d m_Mo_isTerm [.inr 39, .inl a1] S1 (kq fun r4 S3 =>
        (¬ r4 = 0 →
          G 23 [some (.inr 39), some (.inl a0), some (.inl a1), some (.inl 0), some (.inl 0)] [] S3) ∧
        (¬ (¬ r4 = 0) →
          F 0 S3))))) :
  kK (d + 1) m_Mo_assumes [.inr 39, .inl a0, .inl a1] S (kq F) := kspec_of (fun G h => f_Mo_assumes_0 kspec_Mo h (q G h))
set_option maxRecDepth 20000 in
theorem f_Mo_assumes_23 {M : kM} (hM : kMo M) {F : Int32 → kS → Prop} {G : kG} (h : kCl kC M (kq F) 145 G) {S : kS} {v1 v2 v3 v4 : Int32} (q :
  vp_in v1 60 ∧
  ((S 55 (v1.toNatClampNeg)) ≤ v4 →
    kz v3 ∧ F v3 S) ∧
  (¬ ((S 55 (v1.toNatClampNeg)) ≤ v4) →
    (¬ v3 = 0 →
      G 23 [some (.inr 39), some (.inl v1), some (.inl v2), some (.inl 1), some (.inl (v4 + 1))] [] S) ∧
    (¬ (¬ v3 = 0) →
      vp_in ((12 * v1) + v4) 720 ∧
      vp_in v2 250 ∧
      (¬ (S 56 (((12 * v1) + v4).toNatClampNeg)) = (S 53 (v2.toNatClampNeg)) →
        G 23 [some (.inr 39), some (.inl v1), some (.inl v2), some (.inl 0), some (.inl (v4 + 1))] [] S) ∧
      (¬ (¬ (S 56 (((12 * v1) + v4).toNatClampNeg)) = (S 53 (v2.toNatClampNeg))) →
        G 23 [some (.inr 39), some (.inl v1), some (.inl v2), some (.inl 1), some (.inl (v4 + 1))] [] S)))) :
  G 23 [some (.inr 39), some (.inl v1), some (.inl v2), some (.inl v3), some (.inl v4)] [] S :=
  (h.s 23 rfl (h.s 25 rfl (h.s 26 rfl (h.s 29 rfl (h.s 30 rfl (And.intro q.1 (h.s 31 rfl (And.intro (fun e1 => (h.s 71 rfl (h.s 72 rfl (And.intro (q.2.1 e1).1 (kq_mk (q.2.1 e1).2))))) (fun e1 => (h.s 34 rfl (h.s 35 rfl (And.intro (fun e2 => (h.s 59 rfl (h.s 60 rfl (h.s 64 rfl (h.s 65 rfl (h.s 68 rfl ((q.2.2 e1).1 e2))))))) (fun e2 => (h.s 38 rfl (h.s 39 rfl (h.s 42 rfl (h.s 44 rfl (h.s 45 rfl (h.s 46 rfl (h.s 48 rfl (h.s 49 rfl (And.intro ((q.2.2 e1).2 e2).1 (h.s 50 rfl (h.s 51 rfl (h.s 54 rfl (h.s 55 rfl (And.intro ((q.2.2 e1).2 e2).2.1 (h.s 56 rfl (And.intro (fun e3 => (h.s 63 rfl (h.s 64 rfl (h.s 65 rfl (h.s 68 rfl (((q.2.2 e1).2 e2).2.2.1 e3)))))) (fun e3 => (h.s 59 rfl (h.s 60 rfl (h.s 64 rfl (h.s 65 rfl (h.s 68 rfl (((q.2.2 e1).2 e2).2.2.2 e3))))))))))))))))))))))))))))))))))))
-- Mo_count cuts []
set_option maxRecDepth 20000 in
theorem f_Mo_count_0 {M : kM} (hM : kMo M) {F : Int32 → kS → Prop} {G : kG} (h : kCl kC M (kq F) 146 G) {S : kS} {a0 : Int32} (q :
  (a0 = 0 →
    F (S 39 9) S) ∧
  (a0 = 1 →
    F (S 39 0) S) ∧
  (a0 = 2 →
    F (S 39 20) S) ∧
  (a0 = 3 →
    F (S 39 17) S) ∧
  (a0 = 4 →
    F (S 39 8) S) ∧
  ((a0 < 0 ∨ 5 ≤ a0) →
    F ((-1)) S)) :
  G 0 [some (.inr 39), some (.inl a0)] [] S :=
  (h.s 0 rfl (h.s 1 rfl (And.intro (fun e1 => (h.s 36 rfl (h.s 37 rfl (h.s 40 rfl (kq_mk (q.1 e1)))))) (And.intro (fun e1 => (h.s 41 rfl (h.s 42 rfl (h.s 45 rfl (kq_mk (q.2.1 e1)))))) (And.intro (fun e1 => (h.s 46 rfl (h.s 47 rfl (h.s 50 rfl (kq_mk (q.2.2.1 e1)))))) (And.intro (fun e1 => (h.s 51 rfl (h.s 52 rfl (h.s 55 rfl (kq_mk (q.2.2.2.1 e1)))))) (And.intro (fun e1 => (h.s 56 rfl (h.s 57 rfl (h.s 60 rfl (kq_mk (q.2.2.2.2.1 e1)))))) (fun e1 => (h.s 61 rfl (h.s 62 rfl (kq_mk (q.2.2.2.2.2 e1))))))))))))
theorem g_Mo_count {d : Nat} {F : Int32 → kS → Prop} {S : kS} {a0 : Int32} (q :
  (a0 = 0 →
    F (S 39 9) S) ∧
  (a0 = 1 →
    F (S 39 0) S) ∧
  (a0 = 2 →
    F (S 39 20) S) ∧
  (a0 = 3 →
    F (S 39 17) S) ∧
  (a0 = 4 →
    F (S 39 8) S) ∧
  ((a0 < 0 ∨ 5 ≤ a0) →
    F ((-1)) S)) :
  kK (d + 1) m_Mo_count [.inr 39, .inl a0] S (kq F) := kspec_of (fun _ h => f_Mo_count_0 kspec_Mo h q)
