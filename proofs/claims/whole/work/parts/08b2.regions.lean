/-! printed: regions, their weakest preconditions -/
-- Mo_logical cuts []
set_option maxRecDepth 20000 in
theorem f_Mo_logical_0 {M : kM} (hM : kMo M) {F : Int32 → kS → Prop} {G : kG} (h : kCl kC M (kq F) 128 G) {S : kS} {a0 a1 a2 : Int32} (q :
  (¬ a0 = 5 →
    vp_in a1 60 ∧
    vp_in a2 60 ∧
    (¬ a0 = 6 →
      M m_Mo_assumeAll [.inr 39, .inl a1, .inl (S 54 (a2.toNatClampNeg))] S (kv fun S1 =>
        M m_Mo_assumeAll [.inr 39, .inl a2, .inl (S 54 (a1.toNatClampNeg))] S1 (kv fun S2 =>
          M m_Mo_equation [.inr 39, .inl (S 54 (a1.toNatClampNeg)), .inl (S 54 (a2.toNatClampNeg))] S2 (kq fun r4 S3 =>
            F r4 S3)))) ∧
    (¬ (¬ a0 = 6) →
      M m_Mo_assumeAll [.inr 39, .inl a1, .inl ((-1))] S (kv fun S5 =>
        M m_Mo_assumeAll [.inr 39, .inl a2, .inl ((-1))] S5 (kv fun S6 =>
          M m_Mo_isEquation [.inr 39, .inl (S 54 (a1.toNatClampNeg))] S6 (kq fun r8 S7 =>
            (r8 = 0 →
              F ((-1)) S7) ∧
            (¬ (r8 = 0) →
              M m_Mo_left [.inr 39, .inl (S 54 (a1.toNatClampNeg))] S7 (kq fun r10 S9 =>
                (¬ r10 = (S 54 (a2.toNatClampNeg)) →
                  F ((-1)) S9) ∧
                (¬ (¬ r10 = (S 54 (a2.toNatClampNeg))) →
                  vp_in (S 54 (a1.toNatClampNeg)) 250 ∧
                  F (S9 49 ((S 54 (a1.toNatClampNeg)).toNatClampNeg)) S9)))))))) ∧
  (¬ (¬ a0 = 5) →
    vp_in a1 250 ∧
    M m_Mo_assume [.inr 39, .inl (S 53 (a1.toNatClampNeg))] S (kv fun S11 =>
      vp_in a1 250 ∧
      vp_in (S11 53 (a1.toNatClampNeg)) 250 ∧
      (¬ (S11 50 ((S11 53 (a1.toNatClampNeg)).toNatClampNeg)) = 0 →
        F ((-1)) S11) ∧
      (¬ (¬ (S11 50 ((S11 53 (a1.toNatClampNeg)).toNatClampNeg)) = 0) →
        vp_in a1 250 ∧
        F (S11 53 (a1.toNatClampNeg)) S11)))) :
  G 0 [some (.inr 39), some (.inl a0), some (.inl a1), some (.inl a2), none, none] [] S :=
  (h.s 0 rfl (h.s 1 rfl (h.s 2 rfl (And.intro (fun e12 => (h.s 40 rfl (h.s 41 rfl (h.s 44 rfl (h.s 45 rfl (And.intro (q.1 e12).1 (h.s 46 rfl (h.s 48 rfl (h.s 49 rfl (h.s 52 rfl (h.s 53 rfl (And.intro (q.1 e12).2.1 (h.s 54 rfl (h.s 56 rfl (h.s 57 rfl (h.s 59 rfl (And.intro (fun e13 => (h.s 106 rfl (h.s 107 rfl (h.s 108 rfl (h.s 110 rfl (And.intro (Nat.le_of_ble_eq_true rfl) (And.intro rfl (And.intro rfl (hM.v ((q.1 e12).2.2.1 e13) (fun S1 q14 => (h.s 113 rfl (h.s 114 rfl (h.s 115 rfl (h.s 117 rfl (And.intro (Nat.le_of_ble_eq_true rfl) (And.intro rfl (And.intro rfl (hM.v q14 (fun S2 q15 => (h.s 120 rfl (h.s 121 rfl (h.s 123 rfl (h.s 125 rfl (And.intro (Nat.le_of_ble_eq_true rfl) (And.intro rfl (And.intro rfl (hM.q q15 (fun r4 S3 q16 => (h.s 128 rfl (kq_mk q16)))))))))))))))))))))))))))))) (fun e13 => (h.s 62 rfl (h.s 63 rfl (h.s 64 rfl (h.s 65 rfl (And.intro (Nat.le_of_ble_eq_true rfl) (And.intro rfl (And.intro rfl (hM.v ((q.1 e12).2.2.2 e13) (fun S5 q17 => (h.s 68 rfl (h.s 69 rfl (h.s 70 rfl (h.s 71 rfl (And.intro (Nat.le_of_ble_eq_true rfl) (And.intro rfl (And.intro rfl (hM.v q17 (fun S6 q18 => (h.s 74 rfl (h.s 75 rfl (h.s 77 rfl (And.intro (Nat.le_of_ble_eq_true rfl) (And.intro rfl (And.intro rfl (hM.q q18 (fun r8 S7 q19 => (h.s 80 rfl (And.intro (fun e20 => (h.s 104 rfl (h.s 105 rfl (kq_mk (q19.1 e20))))) (fun e20 => (h.s 83 rfl (h.s 84 rfl (h.s 86 rfl (And.intro (Nat.le_of_ble_eq_true rfl) (And.intro rfl (And.intro rfl (hM.q (q19.2 e20) (fun r10 S9 q21 => (h.s 89 rfl (h.s 91 rfl (And.intro (fun e22 => (h.s 104 rfl (h.s 105 rfl (kq_mk (q21.1 e22))))) (fun e22 => (h.s 94 rfl (h.s 95 rfl (h.s 98 rfl (h.s 100 rfl (And.intro (q21.2 e22).1 (h.s 101 rfl (h.s 105 rfl (kq_mk (q21.2 e22).2))))))))))))))))))))))))))))))))))))))))))))))))))))))))))))))))))) (fun e12 => (h.s 5 rfl (h.s 6 rfl (h.s 7 rfl (h.s 10 rfl (h.s 11 rfl (And.intro (q.2 e12).1 (h.s 12 rfl (And.intro (Nat.le_of_ble_eq_true rfl) (And.intro rfl (And.intro rfl (hM.v (q.2 e12).2 (fun S11 q23 => (h.s 15 rfl (h.s 16 rfl (h.s 19 rfl (h.s 20 rfl (h.s 23 rfl (h.s 24 rfl (And.intro q23.1 (h.s 25 rfl (And.intro q23.2.1 (h.s 26 rfl (And.intro (fun e24 => (h.s 38 rfl (h.s 39 rfl (kq_mk (q23.2.2.1 e24))))) (fun e24 => (h.s 29 rfl (h.s 30 rfl (h.s 33 rfl (h.s 34 rfl (And.intro (q23.2.2.2 e24).1 (h.s 35 rfl (h.s 39 rfl (kq_mk (q23.2.2.2 e24).2)))))))))))))))))))))))))))))))))))))
theorem g_Mo_logical {d : Nat} {F : Int32 → kS → Prop} {S : kS} {a0 a1 a2 : Int32} (q :
  (¬ a0 = 5 →
    vp_in a1 60 ∧
    vp_in a2 60 ∧
    (¬ a0 = 6 →
      kK d m_Mo_assumeAll [.inr 39, .inl a1, .inl (S 54 (a2.toNatClampNeg))] S (kv fun S1 =>
        kK d m_Mo_assumeAll [.inr 39, .inl a2, .inl (S 54 (a1.toNatClampNeg))] S1 (kv fun S2 =>
          kK d m_Mo_equation [.inr 39, .inl (S 54 (a1.toNatClampNeg)), .inl (S 54 (a2.toNatClampNeg))] S2 (kq fun r4 S3 =>
            F r4 S3)))) ∧
    (¬ (¬ a0 = 6) →
      kK d m_Mo_assumeAll [.inr 39, .inl a1, .inl ((-1))] S (kv fun S5 =>
        kK d m_Mo_assumeAll [.inr 39, .inl a2, .inl ((-1))] S5 (kv fun S6 =>
          kK d m_Mo_isEquation [.inr 39, .inl (S 54 (a1.toNatClampNeg))] S6 (kq fun r8 S7 =>
            (r8 = 0 →
              F ((-1)) S7) ∧
            (¬ (r8 = 0) →
              kK d m_Mo_left [.inr 39, .inl (S 54 (a1.toNatClampNeg))] S7 (kq fun r10 S9 =>
                (¬ r10 = (S 54 (a2.toNatClampNeg)) →
                  F ((-1)) S9) ∧
                (¬ (¬ r10 = (S 54 (a2.toNatClampNeg))) →
                  vp_in (S 54 (a1.toNatClampNeg)) 250 ∧
                  F (S9 49 ((S 54 (a1.toNatClampNeg)).toNatClampNeg)) S9)))))))) ∧
  (¬ (¬ a0 = 5) →
    vp_in a1 250 ∧
    kK d m_Mo_assume [.inr 39, .inl (S 53 (a1.toNatClampNeg))] S (kv fun S11 =>
      vp_in a1 250 ∧
      vp_in (S11 53 (a1.toNatClampNeg)) 250 ∧
      (¬ (S11 50 ((S11 53 (a1.toNatClampNeg)).toNatClampNeg)) = 0 →
        F ((-1)) S11) ∧
      (¬ (¬ (S11 50 ((S11 53 (a1.toNatClampNeg)).toNatClampNeg)) = 0) →
        vp_in a1 250 ∧
        F (S11 53 (a1.toNatClampNeg)) S11)))) :
  kK (d + 1) m_Mo_logical [.inr 39, .inl a0, .inl a1, .inl a2] S (kq F) := kspec_of (fun _ h => f_Mo_logical_0 kspec_Mo h q)
-- Mo_replacing cuts [73, 96, 121, 156, 178]
set_option maxRecDepth 20000 in
theorem f_Mo_replacing_0 {M : kM} (hM : kMo M) {F : Int32 → kS → Prop} {G : kG} (h : kCl kC M (kq F) 129 G) {S : kS} {a0 a1 a2 a3 : Int32} (q :
  (¬ a0 = 10 →
    (¬ a0 = 8 →
      G 73 [some (.inr 39), some (.inl a0), some (.inl a1), some (.inl a2), some (.inl a3), none, none, none, none, none] [.inl 3] S) ∧
    (¬ (¬ a0 = 8) →
      G 73 [some (.inr 39), some (.inl a0), some (.inl a1), some (.inl a2), some (.inl a3), none, none, none, none, none] [.inl 2] S)) ∧
  (¬ (¬ a0 = 10) →
    vp_in a1 60 ∧
    M m_Mo_isEquation [.inr 39, .inl (S 54 (a1.toNatClampNeg))] S (kq fun r2 S1 =>
      (¬ r2 = 0 →
        M m_Mo_assumeAll [.inr 39, .inl a1, .inl ((-1))] S1 (kv fun S3 =>
          M m_Mo_assumeAll [.inr 39, .inl a2, .inl ((-1))] S3 (kv fun S4 =>
            vp_in a2 60 ∧
            M m_Mo_left [.inr 39, .inl (S 54 (a1.toNatClampNeg))] S4 (kq fun r6 S5 =>
              vp_in (S 54 (a1.toNatClampNeg)) 250 ∧
              M m_Mo_changed [.inr 39, .inl (S4 54 (a2.toNatClampNeg)), .inl 4, .inl r6, .inl (S5 49 ((S 54 (a1.toNatClampNeg)).toNatClampNeg))] S5 (kq fun r8 S7 =>
                F r8 S7))))) ∧
      (¬ (¬ r2 = 0) →
        F ((-1)) S1)))) :
  G 0 [some (.inr 39), some (.inl a0), some (.inl a1), some (.inl a2), some (.inl a3), none, none, none, none, none] [] S :=
  (h.s 0 rfl (h.s 1 rfl (h.s 3 rfl (And.intro (fun e9 => (h.s 62 rfl (h.s 63 rfl (h.s 65 rfl (And.intro (fun e10 => (h.s 72 rfl ((q.1 e9).1 e10))) (fun e10 => (h.s 68 rfl (h.s 69 rfl ((q.1 e9).2 e10))))))))) (fun e9 => (h.s 6 rfl (h.s 7 rfl (h.s 10 rfl (h.s 11 rfl (And.intro (q.2 e9).1 (h.s 12 rfl (h.s 14 rfl (h.s 15 rfl (h.s 17 rfl (And.intro (Nat.le_of_ble_eq_true rfl) (And.intro rfl (And.intro rfl (hM.q (q.2 e9).2 (fun r2 S1 q11 => (h.s 20 rfl (And.intro (fun e12 => (h.s 25 rfl (h.s 26 rfl (h.s 27 rfl (h.s 28 rfl (And.intro (Nat.le_of_ble_eq_true rfl) (And.intro rfl (And.intro rfl (hM.v (q11.1 e12) (fun S3 q13 => (h.s 31 rfl (h.s 32 rfl (h.s 33 rfl (h.s 34 rfl (And.intro (Nat.le_of_ble_eq_true rfl) (And.intro rfl (And.intro rfl (hM.v q13 (fun S4 q14 => (h.s 37 rfl (h.s 38 rfl (h.s 39 rfl (h.s 42 rfl (h.s 43 rfl (And.intro q14.1 (h.s 44 rfl (h.s 45 rfl (h.s 46 rfl (h.s 48 rfl (And.intro (Nat.le_of_ble_eq_true rfl) (And.intro rfl (And.intro rfl (hM.q q14.2 (fun r6 S5 q15 => (h.s 51 rfl (h.s 52 rfl (h.s 55 rfl (h.s 57 rfl (And.intro q15.1 (h.s 58 rfl (And.intro (Nat.le_of_ble_eq_true rfl) (And.intro rfl (And.intro rfl (hM.q q15.2 (fun r8 S7 q16 => (h.s 61 rfl (kq_mk q16))))))))))))))))))))))))))))))))))))))))))))))) (fun e12 => (h.s 23 rfl (h.s 24 rfl (kq_mk (q11.2 e12))))))))))))))))))))))))))
theorem g_Mo_replacing {d : Nat} {F : Int32 → kS → Prop} {S : kS} {a0 a1 a2 a3 : Int32} (q : ∀ G : kG, kCl kC (kK d) (kq F) 129 G →
  (¬ a0 = 10 →
    (¬ a0 = 8 →
      G 73 [some (.inr 39), some (.inl a0), some (.inl a1), some (.inl a2), some (.inl a3), none, none, none, none, none] [.inl 3] S) ∧
    (¬ (¬ a0 = 8) →
      G 73 [some (.inr 39), some (.inl a0), some (.inl a1), some (.inl a2), some (.inl a3), none, none, none, none, none] [.inl 2] S)) ∧
  (¬ (¬ a0 = 10) →
    vp_in a1 60 ∧
    kK d m_Mo_isEquation [.inr 39, .inl (S 54 (a1.toNatClampNeg))] S (kq fun r2 S1 =>
      (¬ r2 = 0 →
        kK d m_Mo_assumeAll [.inr 39, .inl a1, .inl ((-1))] S1 (kv fun S3 =>
          kK d m_Mo_assumeAll [.inr 39, .inl a2, .inl ((-1))] S3 (kv fun S4 =>
            vp_in a2 60 ∧
            kK d m_Mo_left [.inr 39, .inl (S 54 (a1.toNatClampNeg))] S4 (kq fun r6 S5 =>
              vp_in (S 54 (a1.toNatClampNeg)) 250 ∧
              kK d m_Mo_changed [.inr 39, .inl (S4 54 (a2.toNatClampNeg)), .inl 4, .inl r6, .inl (S5 49 ((S 54 (a1.toNatClampNeg)).toNatClampNeg))] S5 (kq fun r8 S7 =>
                F r8 S7))))) ∧
      (¬ (¬ r2 = 0) →
        F ((-1)) S1)))) :
  kK (d + 1) m_Mo_replacing [.inr 39, .inl a0, .inl a1, .inl a2, .inl a3] S (kq F) := kspec_of (fun G h => f_Mo_replacing_0 kspec_Mo h (q G h))
set_option maxRecDepth 20000 in
theorem f_Mo_replacing_73 {M : kM} (hM : kMo M) {F : Int32 → kS → Prop} {G : kG} (h : kCl kC M (kq F) 129 G) {S : kS} {v1 v2 v3 v4 w0 : Int32} (q :
  (¬ v1 = 8 →
    vp_in v3 50 ∧
    G 96 [some (.inr 39), some (.inl v1), some (.inl v2), some (.inl v3), some (.inl v4), some (.inl w0), none, none, none, none] [.inl (S 46 (v3.toNatClampNeg))] S) ∧
  (¬ (¬ v1 = 8) →
    vp_in v3 250 ∧
    G 96 [some (.inr 39), some (.inl v1), some (.inl v2), some (.inl v3), some (.inl v4), some (.inl w0), none, none, none, none] [.inl (S 53 (v3.toNatClampNeg))] S)) :
  G 73 [some (.inr 39), some (.inl v1), some (.inl v2), some (.inl v3), some (.inl v4), none, none, none, none, none] [.inl w0] S :=
  (h.s 73 rfl (h.s 75 rfl (h.s 76 rfl (h.s 78 rfl (And.intro (fun e1 => (h.s 90 rfl (h.s 91 rfl (h.s 94 rfl (h.s 95 rfl (And.intro (q.1 e1).1 (q.1 e1).2)))))) (fun e1 => (h.s 81 rfl (h.s 82 rfl (h.s 85 rfl (h.s 86 rfl (And.intro (q.2 e1).1 (h.s 87 rfl (q.2 e1).2))))))))))))
set_option maxRecDepth 20000 in
theorem f_Mo_replacing_96 {M : kM} (hM : kMo M) {F : Int32 → kS → Prop} {G : kG} (h : kCl kC M (kq F) 129 G) {S : kS} {v1 v2 v3 v4 v5 w0 : Int32} (q :
  (¬ v1 = 8 →
    vp_in v4 50 ∧
    G 121 [some (.inr 39), some (.inl v1), some (.inl v2), some (.inl v3), some (.inl v4), some (.inl v5), some (.inl w0), none, none, none] [.inl (S 46 (v4.toNatClampNeg))] S) ∧
  (¬ (¬ v1 = 8) →
    vp_in v4 250 ∧
    G 121 [some (.inr 39), some (.inl v1), some (.inl v2), some (.inl v3), some (.inl v4), some (.inl v5), some (.inl w0), none, none, none] [.inl (S 53 (v4.toNatClampNeg))] S)) :
  G 96 [some (.inr 39), some (.inl v1), some (.inl v2), some (.inl v3), some (.inl v4), some (.inl v5), none, none, none, none] [.inl w0] S :=
  (h.s 96 rfl (h.s 98 rfl (h.s 99 rfl (h.s 101 rfl (And.intro (fun e1 => (h.s 114 rfl (h.s 115 rfl (h.s 118 rfl (h.s 120 rfl (And.intro (q.1 e1).1 (q.1 e1).2)))))) (fun e1 => (h.s 104 rfl (h.s 105 rfl (h.s 108 rfl (h.s 110 rfl (And.intro (q.2 e1).1 (h.s 111 rfl (q.2 e1).2))))))))))))
set_option maxRecDepth 20000 in
theorem f_Mo_replacing_121 {M : kM} (hM : kMo M) {F : Int32 → kS → Prop} {G : kG} (h : kCl kC M (kq F) 129 G) {S : kS} {v1 v2 v3 v4 v5 v6 w0 : Int32} (q :
  (¬ v1 = 8 →
    G 156 [some (.inr 39), some (.inl v1), some (.inl v2), some (.inl v3), some (.inl v4), some (.inl v5), some (.inl v6), some (.inl w0), none, none] [] S) ∧
  (¬ (¬ v1 = 8) →
    vp_in v6 250 ∧
    (¬ (S 47 (v6.toNatClampNeg)) = 0 →
      F ((-1)) S) ∧
    (¬ (¬ (S 47 (v6.toNatClampNeg)) = 0) →
      vp_in v6 250 ∧
      vp_in w0 250 ∧
      (¬ (S 50 (v6.toNatClampNeg)) = (S 50 (w0.toNatClampNeg)) →
        F ((-1)) S) ∧
      (¬ (¬ (S 50 (v6.toNatClampNeg)) = (S 50 (w0.toNatClampNeg))) →
        G 156 [some (.inr 39), some (.inl v1), some (.inl v2), some (.inl v3), some (.inl v4), some (.inl v5), some (.inl v6), some (.inl w0), none, none] [] S)))) :
  G 121 [some (.inr 39), some (.inl v1), some (.inl v2), some (.inl v3), some (.inl v4), some (.inl v5), some (.inl v6), none, none, none] [.inl w0] S :=
  (h.s 121 rfl (h.s 123 rfl (h.s 124 rfl (h.s 126 rfl (And.intro (fun e1 => (q.1 e1)) (fun e1 => (h.s 129 rfl (h.s 130 rfl (h.s 133 rfl (h.s 135 rfl (And.intro (q.2 e1).1 (h.s 136 rfl (And.intro (fun e2 => (h.s 173 rfl (h.s 174 rfl (kq_mk ((q.2 e1).2.1 e2))))) (fun e2 => (h.s 139 rfl (h.s 140 rfl (h.s 143 rfl (h.s 145 rfl (And.intro ((q.2 e1).2.2 e2).1 (h.s 146 rfl (h.s 147 rfl (h.s 150 rfl (h.s 152 rfl (And.intro ((q.2 e1).2.2 e2).2.1 (h.s 153 rfl (And.intro (fun e3 => (h.s 173 rfl (h.s 174 rfl (kq_mk (((q.2 e1).2.2 e2).2.2.1 e3))))) (fun e3 => (((q.2 e1).2.2 e2).2.2.2 e3))))))))))))))))))))))))))))
set_option maxRecDepth 20000 in
theorem f_Mo_replacing_156 {M : kM} (hM : kMo M) {F : Int32 → kS → Prop} {G : kG} (h : kCl kC M (kq F) 129 G) {S : kS} {v1 v2 v3 v4 v5 v6 v7 : Int32} (q :
  (¬ v1 = 9 →
    G 178 [some (.inr 39), some (.inl v1), some (.inl v2), some (.inl v3), some (.inl v4), some (.inl v5), some (.inl v6), some (.inl v7), some (.inl 0), none] [] S) ∧
  (¬ (¬ v1 = 9) →
    vp_in v6 50 ∧
    ((S 40 (v6.toNatClampNeg)) = 2 →
      G 178 [some (.inr 39), some (.inl v1), some (.inl v2), some (.inl v3), some (.inl v4), some (.inl v5), some (.inl v6), some (.inl v7), some (.inl 0), none] [] S) ∧
    (¬ ((S 40 (v6.toNatClampNeg)) = 2) →
      F ((-1)) S))) :
  G 156 [some (.inr 39), some (.inl v1), some (.inl v2), some (.inl v3), some (.inl v4), some (.inl v5), some (.inl v6), some (.inl v7), none, none] [] S :=
  (h.s 156 rfl (h.s 157 rfl (h.s 159 rfl (And.intro (fun e1 => (h.s 175 rfl (h.s 176 rfl (q.1 e1)))) (fun e1 => (h.s 162 rfl (h.s 163 rfl (h.s 166 rfl (h.s 168 rfl (And.intro (q.2 e1).1 (h.s 169 rfl (h.s 170 rfl (And.intro (fun e2 => (h.s 175 rfl (h.s 176 rfl ((q.2 e1).2.1 e2)))) (fun e2 => (h.s 173 rfl (h.s 174 rfl (kq_mk ((q.2 e1).2.2 e2))))))))))))))))))
set_option maxRecDepth 20000 in
theorem f_Mo_replacing_178 {M : kM} (hM : kMo M) {F : Int32 → kS → Prop} {G : kG} (h : kCl kC M (kq F) 129 G) {S : kS} {v1 v2 v3 v4 v5 v6 v7 v8 : Int32} {u9 : Option kV} (q :
  vp_in v2 60 ∧
  ((S 55 (v2.toNatClampNeg)) ≤ v8 →
    vp_in v2 60 ∧
    M m_Mo_changed [.inr 39, .inl (S 54 (v2.toNatClampNeg)), .inl v5, .inl v6, .inl v7] S (kq fun r2 S1 =>
      F r2 S1)) ∧
  (¬ ((S 55 (v2.toNatClampNeg)) ≤ v8) →
    vp_in ((12 * v2) + v8) 720 ∧
    M m_Mo_changed [.inr 39, .inl (S 56 (((12 * v2) + v8).toNatClampNeg)), .inl v5, .inl v6, .inl v7] S (kq fun r4 S3 =>
      M m_Mo_assume [.inr 39, .inl r4] S3 (kv fun S5 =>
        G 178 [some (.inr 39), some (.inl v1), some (.inl v2), some (.inl v3), some (.inl v4), some (.inl v5), some (.inl v6), some (.inl v7), some (.inl (v8 + 1)), some (.inl r4)] [] S5)))) :
  G 178 [some (.inr 39), some (.inl v1), some (.inl v2), some (.inl v3), some (.inl v4), some (.inl v5), some (.inl v6), some (.inl v7), some (.inl v8), u9] [] S :=
  (h.s 178 rfl (h.s 180 rfl (h.s 181 rfl (h.s 184 rfl (h.s 185 rfl (And.intro q.1 (h.s 186 rfl (And.intro (fun e6 => (h.s 225 rfl (h.s 226 rfl (h.s 227 rfl (h.s 230 rfl (h.s 231 rfl (And.intro (q.2.1 e6).1 (h.s 232 rfl (h.s 234 rfl (h.s 236 rfl (h.s 238 rfl (And.intro (Nat.le_of_ble_eq_true rfl) (And.intro rfl (And.intro rfl (hM.q (q.2.1 e6).2 (fun r2 S1 q7 => (h.s 241 rfl (kq_mk q7)))))))))))))))))) (fun e6 => (h.s 189 rfl (h.s 190 rfl (h.s 191 rfl (h.s 194 rfl (h.s 196 rfl (h.s 197 rfl (h.s 198 rfl (h.s 200 rfl (h.s 201 rfl (And.intro (q.2.2 e6).1 (h.s 202 rfl (h.s 204 rfl (h.s 206 rfl (h.s 208 rfl (And.intro (Nat.le_of_ble_eq_true rfl) (And.intro rfl (And.intro rfl (hM.q (q.2.2 e6).2 (fun r4 S3 q8 => (h.s 211 rfl (h.s 213 rfl (h.s 214 rfl (h.s 216 rfl (And.intro (Nat.le_of_ble_eq_true rfl) (And.intro rfl (And.intro rfl (hM.v q8 (fun S5 q9 => (h.s 219 rfl (h.s 222 rfl q9)))))))))))))))))))))))))))))))))))))))
-- Mo_fact cuts [48]
set_option maxRecDepth 20000 in
theorem f_Mo_fact_0 {M : kM} (hM : kMo M) {F : Int32 → kS → Prop} {G : kG} (h : kCl kC M (kq F) 130 G) {S : kS} {a0 : Int32} (q :
  (¬ (S 39 33) = 0 →
    F ((-1)) (ku S 39 33 1)) ∧
  (¬ (¬ (S 39 33) = 0) →
    (¬ (S 39 20) = 60 →
      vp_in (S 39 20) 60 ∧
      vp_in (S 39 20) 60 ∧
      G 48 [some (.inr 39), some (.inl a0), some (.inl 0)] [] (ku (ku S 54 ((S 39 20).toNatClampNeg) a0) 55 ((S 39 20).toNatClampNeg) (S 39 24))) ∧
    (¬ (¬ (S 39 20) = 60) →
      F ((-1)) (ku S 39 33 1)))) :
  G 0 [some (.inr 39), some (.inl a0), none] [] S :=
  (h.s 0 rfl (h.s 1 rfl (h.s 4 rfl (And.intro (fun e1 => (h.s 16 rfl (h.s 17 rfl (h.s 18 rfl (And.intro (Or.inr rfl) (h.s 21 rfl (h.s 22 rfl (kq_mk (q.1 e1))))))))) (fun e1 => (h.s 7 rfl (h.s 8 rfl (h.s 11 rfl (h.s 13 rfl (And.intro (fun e2 => (h.s 23 rfl (h.s 24 rfl (h.s 27 rfl (h.s 28 rfl (h.s 31 rfl (h.s 32 rfl (And.intro ((q.2 e1).1 e2).1 (h.s 33 rfl (h.s 34 rfl (h.s 37 rfl (h.s 38 rfl (h.s 41 rfl (h.s 42 rfl (h.s 45 rfl (And.intro ((q.2 e1).1 e2).2.1 (h.s 46 rfl (h.s 47 rfl ((q.2 e1).1 e2).2.2)))))))))))))))))) (fun e2 => (h.s 16 rfl (h.s 17 rfl (h.s 18 rfl (And.intro (Or.inr rfl) (h.s 21 rfl (h.s 22 rfl (kq_mk ((q.2 e1).2 e2)))))))))))))))))))
theorem g_Mo_fact {d : Nat} {F : Int32 → kS → Prop} {S : kS} {a0 : Int32} (q : ∀ G : kG, kCl kC (kK d) (kq F) 130 G →
  (¬ (S 39 33) = 0 →
    F ((-1)) (ku S 39 33 1)) ∧
  (¬ (¬ (S 39 33) = 0) →
    (¬ (S 39 20) = 60 →
      vp_in (S 39 20) 60 ∧
      vp_in (S 39 20) 60 ∧
      G 48 [some (.inr 39), some (.inl a0), some (.inl 0)] [] (ku (ku S 54 ((S 39 20).toNatClampNeg) a0) 55 ((S 39 20).toNatClampNeg) (S 39 24))) ∧
    (¬ (¬ (S 39 20) = 60) →
      F ((-1)) (ku S 39 33 1)))) :
  kK (d + 1) m_Mo_fact [.inr 39, .inl a0] S (kq F) := kspec_of (fun G h => f_Mo_fact_0 kspec_Mo h (q G h))
set_option maxRecDepth 20000 in
theorem f_Mo_fact_48 {M : kM} (hM : kMo M) {F : Int32 → kS → Prop} {G : kG} (h : kCl kC M (kq F) 130 G) {S : kS} {v1 v2 : Int32} (q :
  ((S 39 24) ≤ v2 →
    F (((S 39 20) + 1) - 1) (ku S 39 20 ((S 39 20) + 1))) ∧
  (¬ ((S 39 24) ≤ v2) →
    vp_in v2 12 ∧
    vp_in ((12 * (S 39 20)) + v2) 720 ∧
    G 48 [some (.inr 39), some (.inl v1), some (.inl (v2 + 1))] [] (ku S 56 (((12 * (S 39 20)) + v2).toNatClampNeg) (S 57 (v2.toNatClampNeg))))) :
  G 48 [some (.inr 39), some (.inl v1), some (.inl v2)] [] S :=
  (h.s 48 rfl (h.s 49 rfl (h.s 50 rfl (h.s 53 rfl (And.intro (fun e1 => (h.s 82 rfl (h.s 83 rfl (h.s 84 rfl (h.s 87 rfl (h.s 88 rfl (h.s 89 rfl (h.s 92 rfl (h.s 93 rfl (h.s 96 rfl (h.s 97 rfl (h.s 98 rfl (kq_mk (q.1 e1)))))))))))))) (fun e1 => (h.s 56 rfl (h.s 57 rfl (h.s 60 rfl (h.s 62 rfl (h.s 63 rfl (h.s 66 rfl (h.s 67 rfl (h.s 68 rfl (h.s 69 rfl (h.s 70 rfl (h.s 73 rfl (h.s 74 rfl (And.intro (q.2 e1).1 (h.s 75 rfl (And.intro (q.2 e1).2.1 (h.s 76 rfl (h.s 79 rfl (q.2 e1).2.2)))))))))))))))))))))))
-- Mo_define cuts []
set_option maxRecDepth 20000 in
theorem f_Mo_define_0 {M : kM} (hM : kMo M) {F : Int32 → kS → Prop} {G : kG} (h : kCl kC M (kq F) 131 G) {S : kS} {a0 : Int32} (q :
  M m_Mo_isTerm [.inr 39, .inl a0] S (kq fun r2 S1 =>
    (r2 = 0 →
      F ((-1)) S1) ∧
    (¬ (r2 = 0) →
      ((S1 39 18) = 8 →
        F ((-1)) S1) ∧
      (¬ ((S1 39 18) = 8) →
        ((S1 39 20) = 60 →
          F ((-1)) S1) ∧
        (¬ ((S1 39 20) = 60) →
          vp_in a0 250 ∧
          M m_Mo_closed [.inr 39, .inl (S1 53 (a0.toNatClampNeg))] S1 (kq fun r4 S3 =>
            (¬ r4 = 0 →
              M m_Mo_begin [.inr 39] S3 (kv fun S5 =>
                vp_in a0 250 ∧
                vp_in (S5 53 (a0.toNatClampNeg)) 250 ∧
                M m_Mo_term [.inr 39, .inl 2, .inl (S5 39 18), .inl 0, .inl (S5 50 ((S5 53 (a0.toNatClampNeg)).toNatClampNeg))] S5 (kq fun r7 S6 =>
                  vp_in a0 250 ∧
                  M m_Mo_equation [.inr 39, .inl r7, .inl (S6 53 (a0.toNatClampNeg))] S6 (kq fun r9 S8 =>
                    M m_Mo_fact [.inr 39, .inl r9] (ku S8 39 24 0) (kq fun r11 S10 =>
                      M m_Mo_stays [.inr 39] S10 (kq fun r13 S12 =>
                        (¬ r13 = 0 →
                          F r11 (ku S12 39 18 ((S12 39 18) + 1))) ∧
                        (¬ (¬ r13 = 0) →
                          F ((-1)) S12))))))) ∧
            (¬ (¬ r4 = 0) →
              F ((-1)) S3))))))) :
  G 0 [some (.inr 39), some (.inl a0), none, none, none] [] S :=
  (h.s 0 rfl (h.s 1 rfl (h.s 2 rfl (And.intro (Nat.le_of_ble_eq_true rfl) (And.intro rfl (And.intro rfl (hM.q q (fun r2 S1 q14 => (h.s 5 rfl (And.intro (fun e15 => (h.s 39 rfl (h.s 40 rfl (kq_mk (q14.1 e15))))) (fun e15 => (h.s 8 rfl (h.s 9 rfl (h.s 12 rfl (h.s 14 rfl (And.intro (fun e16 => (h.s 39 rfl (h.s 40 rfl (kq_mk ((q14.2 e15).1 e16))))) (fun e16 => (h.s 17 rfl (h.s 18 rfl (h.s 21 rfl (h.s 23 rfl (And.intro (fun e17 => (h.s 39 rfl (h.s 40 rfl (kq_mk (((q14.2 e15).2 e16).1 e17))))) (fun e17 => (h.s 26 rfl (h.s 27 rfl (h.s 28 rfl (h.s 31 rfl (h.s 32 rfl (And.intro (((q14.2 e15).2 e16).2 e17).1 (h.s 33 rfl (And.intro (Nat.le_of_ble_eq_true rfl) (And.intro rfl (And.intro rfl (hM.q (((q14.2 e15).2 e16).2 e17).2 (fun r4 S3 q18 => (h.s 36 rfl (And.intro (fun e19 => (h.s 41 rfl (h.s 42 rfl (And.intro (Nat.le_of_ble_eq_true rfl) (And.intro rfl (And.intro rfl (hM.v (q18.1 e19) (fun S5 q20 => (h.s 45 rfl (h.s 46 rfl (h.s 47 rfl (h.s 48 rfl (h.s 51 rfl (h.s 52 rfl (h.s 53 rfl (h.s 56 rfl (h.s 57 rfl (h.s 60 rfl (h.s 61 rfl (And.intro q20.1 (h.s 62 rfl (And.intro q20.2.1 (h.s 63 rfl (And.intro (Nat.le_of_ble_eq_true rfl) (And.intro rfl (And.intro rfl (hM.q q20.2.2 (fun r7 S6 q21 => (h.s 66 rfl (h.s 67 rfl (h.s 68 rfl (h.s 69 rfl (h.s 70 rfl (h.s 73 rfl (h.s 74 rfl (And.intro q21.1 (h.s 75 rfl (And.intro (Nat.le_of_ble_eq_true rfl) (And.intro rfl (And.intro rfl (hM.q q21.2 (fun r9 S8 q22 => (h.s 78 rfl (h.s 79 rfl (h.s 80 rfl (h.s 81 rfl (h.s 84 rfl (h.s 85 rfl (h.s 86 rfl (And.intro (Nat.le_of_ble_eq_true rfl) (And.intro rfl (And.intro rfl (hM.q q22 (fun r11 S10 q23 => (h.s 89 rfl (h.s 91 rfl (h.s 92 rfl (And.intro (Nat.le_of_ble_eq_true rfl) (And.intro rfl (And.intro rfl (hM.q q23 (fun r13 S12 q24 => (h.s 95 rfl (And.intro (fun e25 => (h.s 100 rfl (h.s 101 rfl (h.s 102 rfl (h.s 105 rfl (h.s 106 rfl (h.s 107 rfl (h.s 110 rfl (h.s 112 rfl (kq_mk (q24.1 e25))))))))))) (fun e25 => (h.s 98 rfl (h.s 99 rfl (kq_mk (q24.2 e25))))))))))))))))))))))))))))))))))))))))))))))))))))))))))))))))))))) (fun e19 => (h.s 39 rfl (h.s 40 rfl (kq_mk (q18.2 e19))))))))))))))))))))))))))))))))))))))))))
theorem g_Mo_define {d : Nat} {F : Int32 → kS → Prop} {S : kS} {a0 : Int32} (q :
  kK d m_Mo_isTerm [.inr 39, .inl a0] S (kq fun r2 S1 =>
    (r2 = 0 →
      F ((-1)) S1) ∧
    (¬ (r2 = 0) →
      ((S1 39 18) = 8 →
        F ((-1)) S1) ∧
      (¬ ((S1 39 18) = 8) →
        ((S1 39 20) = 60 →
          F ((-1)) S1) ∧
        (¬ ((S1 39 20) = 60) →
          vp_in a0 250 ∧
          kK d m_Mo_closed [.inr 39, .inl (S1 53 (a0.toNatClampNeg))] S1 (kq fun r4 S3 =>
            (¬ r4 = 0 →
              kK d m_Mo_begin [.inr 39] S3 (kv fun S5 =>
                vp_in a0 250 ∧
                vp_in (S5 53 (a0.toNatClampNeg)) 250 ∧
                kK d m_Mo_term [.inr 39, .inl 2, .inl (S5 39 18), .inl 0, .inl (S5 50 ((S5 53 (a0.toNatClampNeg)).toNatClampNeg))] S5 (kq fun r7 S6 =>
                  vp_in a0 250 ∧
                  kK d m_Mo_equation [.inr 39, .inl r7, .inl (S6 53 (a0.toNatClampNeg))] S6 (kq fun r9 S8 =>
                    kK d m_Mo_fact [.inr 39, .inl r9] (ku S8 39 24 0) (kq fun r11 S10 =>
                      kK d m_Mo_stays [.inr 39] S10 (kq fun r13 S12 =>
                        (¬ r13 = 0 →
                          F r11 (ku S12 39 18 ((S12 39 18) + 1))) ∧
                        (¬ (¬ r13 = 0) →
                          F ((-1)) S12))))))) ∧
            (¬ (¬ r4 = 0) →
              F ((-1)) S3))))))) :
  kK (d + 1) m_Mo_define [.inr 39, .inl a0] S (kq F) := kspec_of (fun _ h => f_Mo_define_0 kspec_Mo h q)
-- Mo_closed cuts [11]
set_option maxRecDepth 20000 in
theorem f_Mo_closed_0 {M : kM} (hM : kMo M) {F : Int32 → kS → Prop} {G : kG} (h : kCl kC M (kq F) 132 G) {S : kS} {a0 : Int32} (q :
  M m_Mo_mark [.inr 39, .inl a0, .inl 2, .inl ((-1))] S (kv fun S1 =>
    G 11 [some (.inr 39), some (.inl a0), some (.inl 1), some (.inl 0)] [] S1)) :
  G 0 [some (.inr 39), some (.inl a0), none, none] [] S :=
  (h.s 0 rfl (h.s 1 rfl (h.s 2 rfl (h.s 3 rfl (h.s 4 rfl (And.intro (Nat.le_of_ble_eq_true rfl) (And.intro rfl (And.intro rfl (hM.v q (fun S1 q2 => (h.s 7 rfl (h.s 8 rfl (h.s 9 rfl (h.s 10 rfl q2))))))))))))))
theorem g_Mo_closed {d : Nat} {F : Int32 → kS → Prop} {S : kS} {a0 : Int32} (q : ∀ G : kG, kCl kC (kK d) (kq F) 132 G →
  kK d m_Mo_mark [.inr 39, .inl a0, .inl 2, .inl ((-1))] S (kv fun S1 =>
    G 11 [some (.inr 39), some (.inl a0), some (.inl 1), some (.inl 0)] [] S1)) :
  kK (d + 1) m_Mo_closed [.inr 39, .inl a0] S (kq F) := kspec_of (fun G h => f_Mo_closed_0 kspec_Mo h (q G h))
set_option maxRecDepth 20000 in
theorem f_Mo_closed_11 {M : kM} (hM : kMo M) {F : Int32 → kS → Prop} {G : kG} (h : kCl kC M (kq F) 132 G) {S : kS} {v1 v2 v3 : Int32} (q :
  (v1 < v3 →
    kz v2 ∧ F v2 S) ∧
  (¬ (v1 < v3) →
    (v2 = 0 →
      G 11 [some (.inr 39), some (.inl v1), some (.inl 0), some (.inl (v3 + 1))] [] S) ∧
    (¬ (v2 = 0) →
      vp_in (21 * v3) 5250 ∧
      ((S 61 ((21 * v3).toNatClampNeg)) = 0 →
        G 11 [some (.inr 39), some (.inl v1), some (.inl 1), some (.inl (v3 + 1))] [] S) ∧
      (¬ ((S 61 ((21 * v3).toNatClampNeg)) = 0) →
        vp_in v3 250 ∧
        ((S 47 (v3.toNatClampNeg)) = 0 →
          G 11 [some (.inr 39), some (.inl v1), some (.inl 0), some (.inl (v3 + 1))] [] S) ∧
        (¬ ((S 47 (v3.toNatClampNeg)) = 0) →
          vp_in v3 250 ∧
          vp_in (S 50 (v3.toNatClampNeg)) 50 ∧
          (¬ (S 44 ((S 50 (v3.toNatClampNeg)).toNatClampNeg)) = 0 →
            G 11 [some (.inr 39), some (.inl v1), some (.inl 0), some (.inl (v3 + 1))] [] S) ∧
          (¬ (¬ (S 44 ((S 50 (v3.toNatClampNeg)).toNatClampNeg)) = 0) →
            G 11 [some (.inr 39), some (.inl v1), some (.inl 1), some (.inl (v3 + 1))] [] S)))))) :
  G 11 [some (.inr 39), some (.inl v1), some (.inl v2), some (.inl v3)] [] S :=
  (h.s 11 rfl (h.s 12 rfl (h.s 13 rfl (And.intro (fun e1 => (h.s 67 rfl (h.s 68 rfl (And.intro (q.1 e1).1 (kq_mk (q.1 e1).2))))) (fun e1 => (h.s 16 rfl (h.s 17 rfl (And.intro (fun e2 => (h.s 59 rfl (h.s 60 rfl (h.s 61 rfl (h.s 64 rfl ((q.2 e1).1 e2)))))) (fun e2 => (h.s 20 rfl (h.s 21 rfl (h.s 24 rfl (h.s 26 rfl (h.s 27 rfl (h.s 28 rfl (And.intro ((q.2 e1).2 e2).1 (h.s 29 rfl (And.intro (fun e3 => (h.s 55 rfl (h.s 56 rfl (h.s 60 rfl (h.s 61 rfl (h.s 64 rfl (((q.2 e1).2 e2).2.1 e3))))))) (fun e3 => (h.s 32 rfl (h.s 33 rfl (h.s 36 rfl (h.s 37 rfl (And.intro (((q.2 e1).2 e2).2.2 e3).1 (h.s 38 rfl (And.intro (fun e4 => (h.s 59 rfl (h.s 60 rfl (h.s 61 rfl (h.s 64 rfl ((((q.2 e1).2 e2).2.2 e3).2.1 e4)))))) (fun e4 => (h.s 41 rfl (h.s 42 rfl (h.s 45 rfl (h.s 46 rfl (h.s 49 rfl (h.s 50 rfl (And.intro ((((q.2 e1).2 e2).2.2 e3).2.2 e4).1 (h.s 51 rfl (And.intro ((((q.2 e1).2 e2).2.2 e3).2.2 e4).2.1 (h.s 52 rfl (And.intro (fun e5 => (h.s 59 rfl (h.s 60 rfl (h.s 61 rfl (h.s 64 rfl (((((q.2 e1).2 e2).2.2 e3).2.2 e4).2.2.1 e5)))))) (fun e5 => (h.s 55 rfl (h.s 56 rfl (h.s 60 rfl (h.s 61 rfl (h.s 64 rfl (((((q.2 e1).2 e2).2.2 e3).2.2 e4).2.2.2 e5)))))))))))))))))))))))))))))))))))))))))))))
-- Mo_defineType cuts [229]
set_option maxRecDepth 20000 in
theorem f_Mo_defineType_0 {M : kM} (hM : kMo M) {F : Int32 → kS → Prop} {G : kG} (h : kCl kC M (kq F) 133 G) {S : kS} {a0 : Int32} (q :
  M m_Mo_isFact [.inr 39, .inl a0] S (kq fun r2 S1 =>
    (r2 = 0 →
      F ((-1)) S1) ∧
    (¬ (r2 = 0) →
      vp_in a0 60 ∧
      (0 < (S1 55 (a0.toNatClampNeg)) →
        F ((-1)) S1) ∧
      (¬ (0 < (S1 55 (a0.toNatClampNeg))) →
        ((S1 39 19) = 3 →
          F ((-1)) S1) ∧
        (¬ ((S1 39 19) = 3) →
          (7 ≤ (S1 39 18) →
            F ((-1)) S1) ∧
          (¬ (7 ≤ (S1 39 18)) →
            ((S1 39 20) < 59 →
              vp_in a0 60 ∧
              vp_in (S1 54 (a0.toNatClampNeg)) 250 ∧
              (¬ (S1 47 ((S1 54 (a0.toNatClampNeg)).toNatClampNeg)) = 3 →
                F ((-1)) S1) ∧
              (¬ (¬ (S1 47 ((S1 54 (a0.toNatClampNeg)).toNatClampNeg)) = 3) →
                vp_in (S1 54 (a0.toNatClampNeg)) 250 ∧
                M m_Mo_closed [.inr 39, .inl (S1 48 ((S1 54 (a0.toNatClampNeg)).toNatClampNeg))] S1 (kq fun r4 S3 =>
                  (¬ r4 = 0 →
                    M m_Mo_begin [.inr 39] S3 (kv fun S5 =>
                      vp_in (S1 54 (a0.toNatClampNeg)) 250 ∧
                      vp_in (S1 54 (a0.toNatClampNeg)) 250 ∧
                      vp_in (S5 49 ((S1 54 (a0.toNatClampNeg)).toNatClampNeg)) 250 ∧
                      M m_Mo_type [.inr 39, .inl 3, .inl (S5 39 19), .inl 0] S5 (kq fun r7 S6 =>
                        M m_Mo_type [.inr 39, .inl 4, .inl (S5 50 ((S5 49 ((S1 54 (a0.toNatClampNeg)).toNatClampNeg)).toNatClampNeg)), .inl r7] S6 (kq fun r9 S8 =>
                          M m_Mo_type [.inr 39, .inl 4, .inl r7, .inl (S5 50 ((S5 49 ((S1 54 (a0.toNatClampNeg)).toNatClampNeg)).toNatClampNeg))] S8 (kq fun r11 S10 =>
                            M m_Mo_term [.inr 39, .inl 2, .inl (S10 39 18), .inl 0, .inl r9] S10 (kq fun r13 S12 =>
                              M m_Mo_term [.inr 39, .inl 2, .inl ((S12 39 18) + 1), .inl 0, .inl r11] S12 (kq fun r15 S14 =>
                                M m_Mo_term [.inr 39, .inl 0, .inl 0, .inl 0, .inl r7] S14 (kq fun r17 S16 =>
                                  M m_Mo_term [.inr 39, .inl 0, .inl 0, .inl 0, .inl (S5 50 ((S5 49 ((S1 54 (a0.toNatClampNeg)).toNatClampNeg)).toNatClampNeg))] S16 (kq fun r19 S18 =>
                                    M m_Mo_around [.inr 39, .inl r13, .inl r15, .inl r17] S18 (kq fun r21 S20 =>
                                      M m_Mo_around [.inr 39, .inl r15, .inl r13, .inl r19] S20 (kq fun r23 S22 =>
                                        ((S22 39 33) = 0 →
                                          M m_Mo_application [.inr 39, .inl (S5 48 ((S1 54 (a0.toNatClampNeg)).toNatClampNeg)), .inl r19] S22 (kq fun r25 S24 =>
                                            G 229 [some (.inr 39), some (.inl a0), some (.inl (S1 54 (a0.toNatClampNeg))), some (.inl (S5 48 ((S1 54 (a0.toNatClampNeg)).toNatClampNeg))), some (.inl (S5 50 ((S5 49 ((S1 54 (a0.toNatClampNeg)).toNatClampNeg)).toNatClampNeg))), some (.inl r7), some (.inl r9), some (.inl r11), some (.inl r13), some (.inl r15), some (.inl r17), some (.inl r19), some (.inl r21), some (.inl r23), none, none, none, none] [.inl r25] S24)) ∧
                                        (¬ ((S22 39 33) = 0) →
                                          G 229 [some (.inr 39), some (.inl a0), some (.inl (S1 54 (a0.toNatClampNeg))), some (.inl (S5 48 ((S1 54 (a0.toNatClampNeg)).toNatClampNeg))), some (.inl (S5 50 ((S5 49 ((S1 54 (a0.toNatClampNeg)).toNatClampNeg)).toNatClampNeg))), some (.inl r7), some (.inl r9), some (.inl r11), some (.inl r13), some (.inl r15), some (.inl r17), some (.inl r19), some (.inl r21), some (.inl r23), none, none, none, none] [.inl 0] S22)))))))))))) ∧
                  (¬ (¬ r4 = 0) →
                    F ((-1)) S3)))) ∧
            (¬ ((S1 39 20) < 59) →
              F ((-1)) S1))))))) :
  G 0 [some (.inr 39), some (.inl a0), none, none, none, none, none, none, none, none, none, none, none, none, none, none, none, none] [] S :=
  (h.s 0 rfl (h.s 1 rfl (h.s 2 rfl (And.intro (Nat.le_of_ble_eq_true rfl) (And.intro rfl (And.intro rfl (hM.q q (fun r2 S1 q26 => (h.s 5 rfl (And.intro (fun e27 => (h.s 43 rfl (h.s 44 rfl (kq_mk (q26.1 e27))))) (fun e27 => (h.s 8 rfl (h.s 9 rfl (h.s 12 rfl (h.s 13 rfl (And.intro (q26.2 e27).1 (h.s 14 rfl (And.intro (fun e28 => (h.s 43 rfl (h.s 44 rfl (kq_mk ((q26.2 e27).2.1 e28))))) (fun e28 => (h.s 17 rfl (h.s 18 rfl (h.s 21 rfl (h.s 22 rfl (And.intro (fun e29 => (h.s 43 rfl (h.s 44 rfl (kq_mk (((q26.2 e27).2.2 e28).1 e29))))) (fun e29 => (h.s 25 rfl (h.s 26 rfl (h.s 29 rfl (h.s 31 rfl (And.intro (fun e30 => (h.s 43 rfl (h.s 44 rfl (kq_mk ((((q26.2 e27).2.2 e28).2 e29).1 e30))))) (fun e30 => (h.s 34 rfl (h.s 35 rfl (h.s 38 rfl (h.s 40 rfl (And.intro (fun e31 => (h.s 45 rfl (h.s 46 rfl (h.s 49 rfl (h.s 50 rfl (And.intro (((((q26.2 e27).2.2 e28).2 e29).2 e30).1 e31).1 (h.s 51 rfl (h.s 52 rfl (h.s 53 rfl (h.s 56 rfl (h.s 57 rfl (And.intro (((((q26.2 e27).2.2 e28).2 e29).2 e30).1 e31).2.1 (h.s 58 rfl (h.s 59 rfl (And.intro (fun e32 => (h.s 75 rfl (h.s 76 rfl (kq_mk ((((((q26.2 e27).2.2 e28).2 e29).2 e30).1 e31).2.2.1 e32))))) (fun e32 => (h.s 62 rfl (h.s 63 rfl (h.s 64 rfl (h.s 67 rfl (h.s 68 rfl (And.intro ((((((q26.2 e27).2.2 e28).2 e29).2 e30).1 e31).2.2.2 e32).1 (h.s 69 rfl (And.intro (Nat.le_of_ble_eq_true rfl) (And.intro rfl (And.intro rfl (hM.q ((((((q26.2 e27).2.2 e28).2 e29).2 e30).1 e31).2.2.2 e32).2 (fun r4 S3 q33 => (h.s 72 rfl (And.intro (fun e34 => (h.s 77 rfl (h.s 78 rfl (And.intro (Nat.le_of_ble_eq_true rfl) (And.intro rfl (And.intro rfl (hM.v (q33.1 e34) (fun S5 q35 => (h.s 81 rfl (h.s 82 rfl (h.s 85 rfl (h.s 86 rfl (And.intro q35.1 (h.s 87 rfl (h.s 88 rfl (h.s 89 rfl (h.s 92 rfl (h.s 93 rfl (h.s 96 rfl (h.s 97 rfl (And.intro q35.2.1 (h.s 98 rfl (And.intro q35.2.2.1 (h.s 99 rfl (h.s 101 rfl (h.s 102 rfl (h.s 103 rfl (h.s 104 rfl (h.s 107 rfl (h.s 108 rfl (And.intro (Nat.le_of_ble_eq_true rfl) (And.intro rfl (And.intro rfl (hM.q q35.2.2.2 (fun r7 S6 q36 => (h.s 111 rfl (h.s 113 rfl (h.s 114 rfl (h.s 115 rfl (h.s 117 rfl (h.s 119 rfl (And.intro (Nat.le_of_ble_eq_true rfl) (And.intro rfl (And.intro rfl (hM.q q36 (fun r9 S8 q37 => (h.s 122 rfl (h.s 124 rfl (h.s 125 rfl (h.s 126 rfl (h.s 128 rfl (h.s 130 rfl (And.intro (Nat.le_of_ble_eq_true rfl) (And.intro rfl (And.intro rfl (hM.q q37 (fun r11 S10 q38 => (h.s 133 rfl (h.s 135 rfl (h.s 136 rfl (h.s 137 rfl (h.s 138 rfl (h.s 141 rfl (h.s 142 rfl (h.s 144 rfl (And.intro (Nat.le_of_ble_eq_true rfl) (And.intro rfl (And.intro rfl (hM.q q38 (fun r13 S12 q39 => (h.s 147 rfl (h.s 149 rfl (h.s 150 rfl (h.s 151 rfl (h.s 152 rfl (h.s 155 rfl (h.s 156 rfl (h.s 157 rfl (h.s 158 rfl (h.s 160 rfl (And.intro (Nat.le_of_ble_eq_true rfl) (And.intro rfl (And.intro rfl (hM.q q39 (fun r15 S14 q40 => (h.s 163 rfl (h.s 165 rfl (h.s 166 rfl (h.s 167 rfl (h.s 168 rfl (h.s 169 rfl (h.s 171 rfl (And.intro (Nat.le_of_ble_eq_true rfl) (And.intro rfl (And.intro rfl (hM.q q40 (fun r17 S16 q41 => (h.s 174 rfl (h.s 176 rfl (h.s 177 rfl (h.s 178 rfl (h.s 179 rfl (h.s 180 rfl (h.s 182 rfl (And.intro (Nat.le_of_ble_eq_true rfl) (And.intro rfl (And.intro rfl (hM.q q41 (fun r19 S18 q42 => (h.s 185 rfl (h.s 187 rfl (h.s 188 rfl (h.s 190 rfl (h.s 192 rfl (h.s 194 rfl (And.intro (Nat.le_of_ble_eq_true rfl) (And.intro rfl (And.intro rfl (hM.q q42 (fun r21 S20 q43 => (h.s 197 rfl (h.s 199 rfl (h.s 200 rfl (h.s 202 rfl (h.s 204 rfl (h.s 206 rfl (And.intro (Nat.le_of_ble_eq_true rfl) (And.intro rfl (And.intro rfl (hM.q q43 (fun r23 S22 q44 => (h.s 209 rfl (h.s 211 rfl (h.s 212 rfl (h.s 215 rfl (And.intro (fun e45 => (h.s 222 rfl (h.s 223 rfl (h.s 224 rfl (h.s 226 rfl (And.intro (Nat.le_of_ble_eq_true rfl) (And.intro rfl (And.intro rfl (hM.q (q44.1 e45) (fun r25 S24 q46 => q46)))))))))) (fun e45 => (h.s 218 rfl (h.s 219 rfl (q44.2 e45)))))))))))))))))))))))))))))))))))))))))))))))))))))))))))))))))))))))))))))))))))))))))))))))))))))))))))))))))))))))))))))))))))))))))))) (fun e34 => (h.s 75 rfl (h.s 76 rfl (kq_mk (q33.2 e34))))))))))))))))))))))))))))))))))) (fun e31 => (h.s 43 rfl (h.s 44 rfl (kq_mk (((((q26.2 e27).2.2 e28).2 e29).2 e30).2 e31)))))))))))))))))))))))))))))))))))))))))
theorem g_Mo_defineType {d : Nat} {F : Int32 → kS → Prop} {S : kS} {a0 : Int32} (q : ∀ G : kG, kCl kC (kK d) (kq F) 133 G →
  kK d m_Mo_isFact [.inr 39, .inl a0] S (kq fun r2 S1 =>
    (r2 = 0 →
      F ((-1)) S1) ∧
    (¬ (r2 = 0) →
      vp_in a0 60 ∧
      (0 < (S1 55 (a0.toNatClampNeg)) →
        F ((-1)) S1) ∧
      (¬ (0 < (S1 55 (a0.toNatClampNeg))) →
        ((S1 39 19) = 3 →
          F ((-1)) S1) ∧
        (¬ ((S1 39 19) = 3) →
          (7 ≤ (S1 39 18) →
            F ((-1)) S1) ∧
          (¬ (7 ≤ (S1 39 18)) →
            ((S1 39 20) < 59 →
              vp_in a0 60 ∧
              vp_in (S1 54 (a0.toNatClampNeg)) 250 ∧
              (¬ (S1 47 ((S1 54 (a0.toNatClampNeg)).toNatClampNeg)) = 3 →
                F ((-1)) S1) ∧
              (¬ (¬ (S1 47 ((S1 54 (a0.toNatClampNeg)).toNatClampNeg)) = 3) →
                vp_in (S1 54 (a0.toNatClampNeg)) 250 ∧
                kK d m_Mo_closed [.inr 39, .inl (S1 48 ((S1 54 (a0.toNatClampNeg)).toNatClampNeg))] S1 (kq fun r4 S3 =>
                  (¬ r4 = 0 →
                    kK d m_Mo_begin [.inr 39] S3 (kv fun S5 =>
                      vp_in (S1 54 (a0.toNatClampNeg)) 250 ∧
                      vp_in (S1 54 (a0.toNatClampNeg)) 250 ∧
                      vp_in (S5 49 ((S1 54 (a0.toNatClampNeg)).toNatClampNeg)) 250 ∧
                      kK d m_Mo_type [.inr 39, .inl 3, .inl (S5 39 19), .inl 0] S5 (kq fun r7 S6 =>
                        kK d m_Mo_type [.inr 39, .inl 4, .inl (S5 50 ((S5 49 ((S1 54 (a0.toNatClampNeg)).toNatClampNeg)).toNatClampNeg)), .inl r7] S6 (kq fun r9 S8 =>
                          kK d m_Mo_type [.inr 39, .inl 4, .inl r7, .inl (S5 50 ((S5 49 ((S1 54 (a0.toNatClampNeg)).toNatClampNeg)).toNatClampNeg))] S8 (kq fun r11 S10 =>
                            kK d m_Mo_term [.inr 39, .inl 2, .inl (S10 39 18), .inl 0, .inl r9] S10 (kq fun r13 S12 =>
                              kK d m_Mo_term [.inr 39, .inl 2, .inl ((S12 39 18) + 1), .inl 0, .inl r11] S12 (kq fun r15 S14 =>
                                kK d m_Mo_term [.inr 39, .inl 0, .inl 0, .inl 0, .inl r7] S14 (kq fun r17 S16 =>
                                  kK d m_Mo_term [.inr 39, .inl 0, .inl 0, .inl 0, .inl (S5 50 ((S5 49 ((S1 54 (a0.toNatClampNeg)).toNatClampNeg)).toNatClampNeg))] S16 (kq fun r19 S18 =>
                                    kK d m_Mo_around [.inr 39, .inl r13, .inl r15, .inl r17] S18 (kq fun r21 S20 =>
                                      kK d m_Mo_around [.inr 39, .inl r15, .inl r13, .inl r19] S20 (kq fun r23 S22 =>
                                        ((S22 39 33) = 0 →
                                          kK d m_Mo_application [.inr 39, .inl (S5 48 ((S1 54 (a0.toNatClampNeg)).toNatClampNeg)), .inl r19] S22 (kq fun r25 S24 =>
                                            G 229 [some (.inr 39), some (.inl a0), some (.inl (S1 54 (a0.toNatClampNeg))), some (.inl (S5 48 ((S1 54 (a0.toNatClampNeg)).toNatClampNeg))), some (.inl (S5 50 ((S5 49 ((S1 54 (a0.toNatClampNeg)).toNatClampNeg)).toNatClampNeg))), some (.inl r7), some (.inl r9), some (.inl r11), some (.inl r13), some (.inl r15), some (.inl r17), some (.inl r19), some (.inl r21), some (.inl r23), none, none, none, none] [.inl r25] S24)) ∧
                                        (¬ ((S22 39 33) = 0) →
                                          G 229 [some (.inr 39), some (.inl a0), some (.inl (S1 54 (a0.toNatClampNeg))), some (.inl (S5 48 ((S1 54 (a0.toNatClampNeg)).toNatClampNeg))), some (.inl (S5 50 ((S5 49 ((S1 54 (a0.toNatClampNeg)).toNatClampNeg)).toNatClampNeg))), some (.inl r7), some (.inl r9), some (.inl r11), some (.inl r13), some (.inl r15), some (.inl r17), some (.inl r19), some (.inl r21), some (.inl r23), none, none, none, none] [.inl 0] S22)))))))))))) ∧
                  (¬ (¬ r4 = 0) →
                    F ((-1)) S3)))) ∧
            (¬ ((S1 39 20) < 59) →
              F ((-1)) S1))))))) :
  kK (d + 1) m_Mo_defineType [.inr 39, .inl a0] S (kq F) := kspec_of (fun G h => f_Mo_defineType_0 kspec_Mo h (q G h))
set_option maxRecDepth 20000 in
theorem f_Mo_defineType_229 {M : kM} (hM : kMo M) {F : Int32 → kS → Prop} {G : kG} (h : kCl kC M (kq F) 133 G) {S : kS} {v1 v2 v3 v4 v5 v6 v7 v8 v9 v10 v11 v12 v13 w0 : Int32} (q :
  M m_Mo_equation [.inr 39, .inl w0, .inl v13] S (kq fun r2 S1 =>
    M m_Mo_fact [.inr 39, .inl v12] (ku S1 39 24 0) (kq fun r4 S3 =>
      M m_Mo_fact [.inr 39, .inl r2] S3 (kq fun r6 S5 =>
        M m_Mo_stays [.inr 39] S5 (kq fun r8 S7 =>
          (r8 = 0 →
            F ((-1)) S7) ∧
          (¬ (r8 = 0) →
            (0 ≤ r6 →
              F r4 (ku (ku S7 39 19 ((S7 39 19) + 1)) 39 18 ((S7 39 18) + 2))) ∧
            (¬ (0 ≤ r6) →
              F ((-1)) S7))))))) :
  G 229 [some (.inr 39), some (.inl v1), some (.inl v2), some (.inl v3), some (.inl v4), some (.inl v5), some (.inl v6), some (.inl v7), some (.inl v8), some (.inl v9), some (.inl v10), some (.inl v11), some (.inl v12), some (.inl v13), none, none, none, none] [.inl w0] S :=
  (h.s 229 rfl (h.s 231 rfl (h.s 232 rfl (h.s 234 rfl (h.s 236 rfl (And.intro (Nat.le_of_ble_eq_true rfl) (And.intro rfl (And.intro rfl (hM.q q (fun r2 S1 q9 => (h.s 239 rfl (h.s 241 rfl (h.s 242 rfl (h.s 243 rfl (h.s 246 rfl (h.s 247 rfl (h.s 249 rfl (And.intro (Nat.le_of_ble_eq_true rfl) (And.intro rfl (And.intro rfl (hM.q q9 (fun r4 S3 q10 => (h.s 252 rfl (h.s 254 rfl (h.s 255 rfl (h.s 257 rfl (And.intro (Nat.le_of_ble_eq_true rfl) (And.intro rfl (And.intro rfl (hM.q q10 (fun r6 S5 q11 => (h.s 260 rfl (h.s 262 rfl (h.s 263 rfl (And.intro (Nat.le_of_ble_eq_true rfl) (And.intro rfl (And.intro rfl (hM.q q11 (fun r8 S7 q12 => (h.s 266 rfl (And.intro (fun e13 => (h.s 274 rfl (h.s 275 rfl (kq_mk (q12.1 e13))))) (fun e13 => (h.s 269 rfl (h.s 271 rfl (And.intro (fun e14 => (h.s 276 rfl (h.s 277 rfl (h.s 278 rfl (h.s 281 rfl (h.s 282 rfl (h.s 283 rfl (h.s 286 rfl (h.s 287 rfl (h.s 288 rfl (h.s 291 rfl (h.s 292 rfl (h.s 293 rfl (h.s 296 rfl (h.s 298 rfl (kq_mk ((q12.2 e13).1 e14))))))))))))))))) (fun e14 => (h.s 274 rfl (h.s 275 rfl (kq_mk ((q12.2 e13).2 e14))))))))))))))))))))))))))))))))))))))))))))))))))
-- Mo_around cuts []
set_option maxRecDepth 20000 in
theorem f_Mo_around_0 {M : kM} (hM : kMo M) {F : Int32 → kS → Prop} {G : kG} (h : kCl kC M (kq F) 134 G) {S : kS} {a0 a1 a2 : Int32} (q :
  ((S 39 33) = 0 →
    M m_Mo_application [.inr 39, .inl a1, .inl a2] S (kq fun r2 S1 =>
      M m_Mo_application [.inr 39, .inl a0, .inl r2] S1 (kq fun r4 S3 =>
        M m_Mo_equation [.inr 39, .inl r4, .inl a2] S3 (kq fun r6 S5 =>
          F r6 S5)))) ∧
  (¬ ((S 39 33) = 0) →
    F 0 S)) :
  G 0 [some (.inr 39), some (.inl a0), some (.inl a1), some (.inl a2), none, none] [] S :=
  (h.s 0 rfl (h.s 1 rfl (h.s 4 rfl (And.intro (fun e7 => (h.s 9 rfl (h.s 10 rfl (h.s 11 rfl (h.s 12 rfl (And.intro (Nat.le_of_ble_eq_true rfl) (And.intro rfl (And.intro rfl (hM.q (q.1 e7) (fun r2 S1 q8 => (h.s 15 rfl (h.s 17 rfl (h.s 18 rfl (h.s 19 rfl (h.s 21 rfl (And.intro (Nat.le_of_ble_eq_true rfl) (And.intro rfl (And.intro rfl (hM.q q8 (fun r4 S3 q9 => (h.s 24 rfl (h.s 26 rfl (h.s 27 rfl (h.s 29 rfl (h.s 30 rfl (And.intro (Nat.le_of_ble_eq_true rfl) (And.intro rfl (And.intro rfl (hM.q q9 (fun r6 S5 q10 => (h.s 33 rfl (kq_mk q10)))))))))))))))))))))))))))))))) (fun e7 => (h.s 7 rfl (h.s 8 rfl (kq_mk (q.2 e7)))))))))
theorem g_Mo_around {d : Nat} {F : Int32 → kS → Prop} {S : kS} {a0 a1 a2 : Int32} (q :
  ((S 39 33) = 0 →
    kK d m_Mo_application [.inr 39, .inl a1, .inl a2] S (kq fun r2 S1 =>
      kK d m_Mo_application [.inr 39, .inl a0, .inl r2] S1 (kq fun r4 S3 =>
        kK d m_Mo_equation [.inr 39, .inl r4, .inl a2] S3 (kq fun r6 S5 =>
          F r6 S5)))) ∧
  (¬ ((S 39 33) = 0) →
    F 0 S)) :
  kK (d + 1) m_Mo_around [.inr 39, .inl a0, .inl a1, .inl a2] S (kq F) := kspec_of (fun _ h => f_Mo_around_0 kspec_Mo h q)
-- Mo_line cuts []
set_option maxRecDepth 20000 in
theorem f_Mo_line_0 {M : kM} (hM : kMo M) {F : Int32 → kS → Prop} {G : kG} (h : kCl kC M (kq F) 135 G) {S : kS} {a0 a1 a2 a3 : Int32} (q :
  (a0 < 0 →
    F ((-1)) S) ∧
  (¬ (a0 < 0) →
    (10 < a0 →
      F ((-1)) S) ∧
    (¬ (10 < a0) →
      (¬ (S 39 26) = 12 →
        vp_in (S 39 26) 12 ∧
        vp_in (3 * (S 39 26)) 36 ∧
        vp_in ((3 * (S 39 26)) + 1) 36 ∧
        vp_in ((3 * (S 39 26)) + 2) 36 ∧
        F (((S 39 26) + 1) - 1) (ku (ku (ku (ku (ku S 58 ((S 39 26).toNatClampNeg) a0) 59 ((3 * (S 39 26)).toNatClampNeg) a1) 59 (((3 * (S 39 26)) + 1).toNatClampNeg) a2) 59 (((3 * (S 39 26)) + 2).toNatClampNeg) a3) 39 26 ((S 39 26) + 1))) ∧
      (¬ (¬ (S 39 26) = 12) →
        F ((-1)) S)))) :
  G 0 [some (.inr 39), some (.inl a0), some (.inl a1), some (.inl a2), some (.inl a3)] [] S :=
  (h.s 0 rfl (h.s 1 rfl (And.intro (fun e1 => (h.s 19 rfl (h.s 20 rfl (kq_mk (q.1 e1))))) (fun e1 => (h.s 4 rfl (h.s 5 rfl (h.s 7 rfl (And.intro (fun e2 => (h.s 19 rfl (h.s 20 rfl (kq_mk ((q.2 e1).1 e2))))) (fun e2 => (h.s 10 rfl (h.s 11 rfl (h.s 14 rfl (h.s 16 rfl (And.intro (fun e3 => (h.s 21 rfl (h.s 22 rfl (h.s 25 rfl (h.s 26 rfl (h.s 29 rfl (h.s 30 rfl (And.intro (((q.2 e1).2 e2).1 e3).1 (h.s 31 rfl (h.s 32 rfl (h.s 35 rfl (h.s 36 rfl (h.s 37 rfl (h.s 40 rfl (h.s 41 rfl (h.s 42 rfl (And.intro (((q.2 e1).2 e2).1 e3).2.1 (h.s 43 rfl (h.s 44 rfl (h.s 47 rfl (h.s 48 rfl (h.s 49 rfl (h.s 52 rfl (h.s 53 rfl (h.s 54 rfl (h.s 55 rfl (h.s 56 rfl (And.intro (((q.2 e1).2 e2).1 e3).2.2.1 (h.s 57 rfl (h.s 58 rfl (h.s 61 rfl (h.s 62 rfl (h.s 63 rfl (h.s 66 rfl (h.s 67 rfl (h.s 68 rfl (h.s 69 rfl (h.s 71 rfl (And.intro (((q.2 e1).2 e2).1 e3).2.2.2.1 (h.s 72 rfl (h.s 73 rfl (h.s 74 rfl (h.s 77 rfl (h.s 78 rfl (h.s 79 rfl (h.s 82 rfl (h.s 83 rfl (h.s 86 rfl (h.s 87 rfl (h.s 88 rfl (kq_mk (((q.2 e1).2 e2).1 e3).2.2.2.2))))))))))))))))))))))))))))))))))))))))))))))))))) (fun e3 => (h.s 19 rfl (h.s 20 rfl (kq_mk (((q.2 e1).2 e2).2 e3)))))))))))))))))))
theorem g_Mo_line {d : Nat} {F : Int32 → kS → Prop} {S : kS} {a0 a1 a2 a3 : Int32} (q :
  (a0 < 0 →
    F ((-1)) S) ∧
  (¬ (a0 < 0) →
    (10 < a0 →
      F ((-1)) S) ∧
    (¬ (10 < a0) →
      (¬ (S 39 26) = 12 →
        vp_in (S 39 26) 12 ∧
        vp_in (3 * (S 39 26)) 36 ∧
        vp_in ((3 * (S 39 26)) + 1) 36 ∧
        vp_in ((3 * (S 39 26)) + 2) 36 ∧
        F (((S 39 26) + 1) - 1) (ku (ku (ku (ku (ku S 58 ((S 39 26).toNatClampNeg) a0) 59 ((3 * (S 39 26)).toNatClampNeg) a1) 59 (((3 * (S 39 26)) + 1).toNatClampNeg) a2) 59 (((3 * (S 39 26)) + 2).toNatClampNeg) a3) 39 26 ((S 39 26) + 1))) ∧
      (¬ (¬ (S 39 26) = 12) →
        F ((-1)) S)))) :
  kK (d + 1) m_Mo_line [.inr 39, .inl a0, .inl a1, .inl a2, .inl a3] S (kq F) := kspec_of (fun _ h => f_Mo_line_0 kspec_Mo h q)
-- Mo_clear cuts []
set_option maxRecDepth 20000 in
theorem f_Mo_clear_0 {M : kM} (hM : kMo M) {F : Int32 → kS → Prop} {G : kG} (h : kCl kC M (kq F) 136 G) {S : kS} (q :
  F (S 39 26) (ku S 39 26 0)) :
  G 0 [some (.inr 39), none] [] S :=
  (h.s 0 rfl (h.s 1 rfl (h.s 4 rfl (h.s 5 rfl (h.s 6 rfl (h.s 7 rfl (h.s 10 rfl (h.s 11 rfl (kq_mk q)))))))))
theorem g_Mo_clear {d : Nat} {F : Int32 → kS → Prop} {S : kS} (q :
  F (S 39 26) (ku S 39 26 0)) :
  kK (d + 1) m_Mo_clear [.inr 39] S (kq F) := kspec_of (fun _ h => f_Mo_clear_0 kspec_Mo h q)
-- Mo_replay cuts [6]
set_option maxRecDepth 20000 in
theorem f_Mo_replay_0 {M : kM} (hM : kMo M) {F : Int32 → kS → Prop} {G : kG} (h : kCl kC M (kq F) 137 G) {S : kS} (q :
  M m_Mo_begin [.inr 39] S (kv fun S1 =>
    G 6 [some (.inr 39), some (.inl 0)] [] S1)) :
  G 0 [some (.inr 39), none] [] S :=
  (h.s 0 rfl (h.s 1 rfl (And.intro (Nat.le_of_ble_eq_true rfl) (And.intro rfl (And.intro rfl (hM.v q (fun S1 q2 => (h.s 4 rfl (h.s 5 rfl q2)))))))))
theorem g_Mo_replay {d : Nat} {F : Int32 → kS → Prop} {S : kS} (q : ∀ G : kG, kCl kC (kK d) (kq F) 137 G →
  kK d m_Mo_begin [.inr 39] S (kv fun S1 =>
    G 6 [some (.inr 39), some (.inl 0)] [] S1)) :
  kK (d + 1) m_Mo_replay [.inr 39] S (kq F) := kspec_of (fun G h => f_Mo_replay_0 kspec_Mo h (q G h))
set_option maxRecDepth 20000 in
theorem f_Mo_replay_6 {M : kM} (hM : kMo M) {F : Int32 → kS → Prop} {G : kG} (h : kCl kC M (kq F) 137 G) {S : kS} {v1 : Int32} (q :
  ((S 39 26) ≤ v1 →
    F (S 39 26) S) ∧
  (¬ ((S 39 26) ≤ v1) →
    vp_in v1 12 ∧
    M m_Mo_meant [.inr 39, .inl v1, .inl 0] S (kq fun r2 S1 =>
      M m_Mo_meant [.inr 39, .inl v1, .inl 1] S1 (kq fun r4 S3 =>
        M m_Mo_meant [.inr 39, .inl v1, .inl 2] S3 (kq fun r6 S5 =>
          M m_Mo_derive [.inr 39, .inl (S 58 (v1.toNatClampNeg)), .inl r2, .inl r4, .inl r6] S5 (kq fun r8 S7 =>
            vp_in v1 12 ∧
            M m_Mo_stays [.inr 39] (ku S7 60 (v1.toNatClampNeg) r8) (kq fun r10 S9 =>
              (¬ r10 = 0 →
                G 6 [some (.inr 39), some (.inl (v1 + 1))] [] S9) ∧
              (¬ (¬ r10 = 0) →
                F (((-1)) - v1) S9)))))))) :
  G 6 [some (.inr 39), some (.inl v1)] [] S :=
  (h.s 6 rfl (h.s 7 rfl (h.s 8 rfl (h.s 11 rfl (And.intro (fun e11 => (h.s 65 rfl (h.s 66 rfl (h.s 69 rfl (kq_mk (q.1 e11)))))) (fun e11 => (h.s 14 rfl (h.s 15 rfl (h.s 18 rfl (h.s 19 rfl (h.s 20 rfl (h.s 21 rfl (h.s 24 rfl (h.s 25 rfl (And.intro (q.2 e11).1 (h.s 26 rfl (h.s 27 rfl (h.s 28 rfl (h.s 29 rfl (And.intro (Nat.le_of_ble_eq_true rfl) (And.intro rfl (And.intro rfl (hM.q (q.2 e11).2 (fun r2 S1 q12 => (h.s 32 rfl (h.s 33 rfl (h.s 34 rfl (h.s 35 rfl (And.intro (Nat.le_of_ble_eq_true rfl) (And.intro rfl (And.intro rfl (hM.q q12 (fun r4 S3 q13 => (h.s 38 rfl (h.s 39 rfl (h.s 40 rfl (h.s 41 rfl (And.intro (Nat.le_of_ble_eq_true rfl) (And.intro rfl (And.intro rfl (hM.q q13 (fun r6 S5 q14 => (h.s 44 rfl (And.intro (Nat.le_of_ble_eq_true rfl) (And.intro rfl (And.intro rfl (hM.q q14 (fun r8 S7 q15 => (h.s 47 rfl (And.intro q15.1 (h.s 48 rfl (h.s 49 rfl (And.intro (Nat.le_of_ble_eq_true rfl) (And.intro rfl (And.intro rfl (hM.q q15.2 (fun r10 S9 q16 => (h.s 52 rfl (And.intro (fun e17 => (h.s 59 rfl (h.s 62 rfl (q16.1 e17)))) (fun e17 => (h.s 55 rfl (h.s 56 rfl (h.s 57 rfl (h.s 58 rfl (kq_mk (q16.2 e17))))))))))))))))))))))))))))))))))))))))))))))))))))))))))))))))))
-- Mo_meant cuts []
set_option maxRecDepth 20000 in
theorem f_Mo_meant_0 {M : kM} (hM : kMo M) {F : Int32 → kS → Prop} {G : kG} (h : kCl kC M (kq F) 138 G) {S : kS} {a0 a1 : Int32} (q :
  vp_in ((3 * a0) + a1) 36 ∧
  (0 ≤ (S 59 (((3 * a0) + a1).toNatClampNeg)) →
    F (S 59 (((3 * a0) + a1).toNatClampNeg)) S) ∧
  (¬ (0 ≤ (S 59 (((3 * a0) + a1).toNatClampNeg))) →
    ((S 59 (((3 * a0) + a1).toNatClampNeg)) < (-a0) →
      F (S 59 (((3 * a0) + a1).toNatClampNeg)) S) ∧
    (¬ ((S 59 (((3 * a0) + a1).toNatClampNeg)) < (-a0)) →
      vp_in a0 12 ∧
      M m_Mo_takesFact [.inl (S 58 (a0.toNatClampNeg)), .inl a1] S (kq fun r2 S1 =>
        (r2 = 0 →
          F (S 59 (((3 * a0) + a1).toNatClampNeg)) S1) ∧
        (¬ (r2 = 0) →
          vp_in (((-1)) - (S 59 (((3 * a0) + a1).toNatClampNeg))) 12 ∧
          F (S1 60 ((((-1)) - (S 59 (((3 * a0) + a1).toNatClampNeg))).toNatClampNeg)) S1))))) :
  G 0 [some (.inr 39), some (.inl a0), some (.inl a1), none] [] S :=
  (h.s 0 rfl (h.s 1 rfl (h.s 4 rfl (h.s 5 rfl (h.s 6 rfl (h.s 7 rfl (h.s 8 rfl (h.s 9 rfl (And.intro q.1 (h.s 10 rfl (h.s 11 rfl (h.s 12 rfl (And.intro (fun e3 => (h.s 45 rfl (h.s 46 rfl (kq_mk (q.2.1 e3))))) (fun e3 => (h.s 15 rfl (h.s 16 rfl (h.s 17 rfl (h.s 18 rfl (And.intro (fun e4 => (h.s 45 rfl (h.s 46 rfl (kq_mk ((q.2.2 e3).1 e4))))) (fun e4 => (h.s 21 rfl (h.s 22 rfl (h.s 25 rfl (h.s 26 rfl (And.intro ((q.2.2 e3).2 e4).1 (h.s 27 rfl (h.s 28 rfl (And.intro (Nat.le_of_ble_eq_true rfl) (And.intro rfl (hM.q ((q.2.2 e3).2 e4).2 (fun r2 S1 q5 => (h.s 31 rfl (And.intro (fun e6 => (h.s 45 rfl (h.s 46 rfl (kq_mk (q5.1 e6))))) (fun e6 => (h.s 34 rfl (h.s 35 rfl (h.s 38 rfl (h.s 39 rfl (h.s 40 rfl (h.s 41 rfl (And.intro (q5.2 e6).1 (h.s 42 rfl (h.s 46 rfl (kq_mk (q5.2 e6).2))))))))))))))))))))))))))))))))))))))))))))
theorem g_Mo_meant {d : Nat} {F : Int32 → kS → Prop} {S : kS} {a0 a1 : Int32} (q :
  vp_in ((3 * a0) + a1) 36 ∧
  (0 ≤ (S 59 (((3 * a0) + a1).toNatClampNeg)) →
    F (S 59 (((3 * a0) + a1).toNatClampNeg)) S) ∧
  (¬ (0 ≤ (S 59 (((3 * a0) + a1).toNatClampNeg))) →
    ((S 59 (((3 * a0) + a1).toNatClampNeg)) < (-a0) →
      F (S 59 (((3 * a0) + a1).toNatClampNeg)) S) ∧
    (¬ ((S 59 (((3 * a0) + a1).toNatClampNeg)) < (-a0)) →
      vp_in a0 12 ∧
      kK d m_Mo_takesFact [.inl (S 58 (a0.toNatClampNeg)), .inl a1] S (kq fun r2 S1 =>
        (r2 = 0 →
          F (S 59 (((3 * a0) + a1).toNatClampNeg)) S1) ∧
        (¬ (r2 = 0) →
          vp_in (((-1)) - (S 59 (((3 * a0) + a1).toNatClampNeg))) 12 ∧
          F (S1 60 ((((-1)) - (S 59 (((3 * a0) + a1).toNatClampNeg))).toNatClampNeg)) S1))))) :
  kK (d + 1) m_Mo_meant [.inr 39, .inl a0, .inl a1] S (kq F) := kspec_of (fun _ h => f_Mo_meant_0 kspec_Mo h q)
-- Mo_typeOf cuts []
set_option maxRecDepth 20000 in
theorem f_Mo_typeOf_0 {M : kM} (hM : kMo M) {F : Int32 → kS → Prop} {G : kG} (h : kCl kC M (kq F) 139 G) {S : kS} {a0 : Int32} (q :
  M m_Mo_isTerm [.inr 39, .inl a0] S (kq fun r2 S1 =>
    (r2 = 0 →
      F ((-1)) S1) ∧
    (¬ (r2 = 0) →
      vp_in a0 250 ∧
      vp_in (S1 53 (a0.toNatClampNeg)) 250 ∧
      M m_Mo_numberOfType [.inr 39, .inl (S1 50 ((S1 53 (a0.toNatClampNeg)).toNatClampNeg))] S1 (kq fun r4 S3 =>
        F r4 S3)))) :
  G 0 [some (.inr 39), some (.inl a0)] [] S :=
  (h.s 0 rfl (h.s 1 rfl (h.s 2 rfl (And.intro (Nat.le_of_ble_eq_true rfl) (And.intro rfl (And.intro rfl (hM.q q (fun r2 S1 q5 => (h.s 5 rfl (And.intro (fun e6 => (h.s 26 rfl (h.s 27 rfl (kq_mk (q5.1 e6))))) (fun e6 => (h.s 8 rfl (h.s 9 rfl (h.s 10 rfl (h.s 13 rfl (h.s 14 rfl (h.s 17 rfl (h.s 18 rfl (And.intro (q5.2 e6).1 (h.s 19 rfl (And.intro (q5.2 e6).2.1 (h.s 20 rfl (And.intro (Nat.le_of_ble_eq_true rfl) (And.intro rfl (And.intro rfl (hM.q (q5.2 e6).2.2 (fun r4 S3 q7 => (h.s 23 rfl (h.s 27 rfl (kq_mk q7))))))))))))))))))))))))))))))
theorem g_Mo_typeOf {d : Nat} {F : Int32 → kS → Prop} {S : kS} {a0 : Int32} (q :
  kK d m_Mo_isTerm [.inr 39, .inl a0] S (kq fun r2 S1 =>
    (r2 = 0 →
      F ((-1)) S1) ∧
    (¬ (r2 = 0) →
      vp_in a0 250 ∧
      vp_in (S1 53 (a0.toNatClampNeg)) 250 ∧
      kK d m_Mo_numberOfType [.inr 39, .inl (S1 50 ((S1 53 (a0.toNatClampNeg)).toNatClampNeg))] S1 (kq fun r4 S3 =>
        F r4 S3)))) :
  kK (d + 1) m_Mo_typeOf [.inr 39, .inl a0] S (kq F) := kspec_of (fun _ h => f_Mo_typeOf_0 kspec_Mo h q)
-- Mo_kind cuts []
set_option maxRecDepth 20000 in
theorem f_Mo_kind_0 {M : kM} (hM : kMo M) {F : Int32 → kS → Prop} {G : kG} (h : kCl kC M (kq F) 140 G) {S : kS} {a0 : Int32} (q :
  M m_Mo_isTerm [.inr 39, .inl a0] S (kq fun r2 S1 =>
    (r2 = 0 →
      F ((-1)) S1) ∧
    (¬ (r2 = 0) →
      vp_in a0 250 ∧
      vp_in (S1 53 (a0.toNatClampNeg)) 250 ∧
      F (S1 47 ((S1 53 (a0.toNatClampNeg)).toNatClampNeg)) S1))) :
  G 0 [some (.inr 39), some (.inl a0)] [] S :=
  (h.s 0 rfl (h.s 1 rfl (h.s 2 rfl (And.intro (Nat.le_of_ble_eq_true rfl) (And.intro rfl (And.intro rfl (hM.q q (fun r2 S1 q3 => (h.s 5 rfl (And.intro (fun e4 => (h.s 22 rfl (h.s 23 rfl (kq_mk (q3.1 e4))))) (fun e4 => (h.s 8 rfl (h.s 9 rfl (h.s 12 rfl (h.s 13 rfl (h.s 16 rfl (h.s 17 rfl (And.intro (q3.2 e4).1 (h.s 18 rfl (And.intro (q3.2 e4).2.1 (h.s 19 rfl (h.s 23 rfl (kq_mk (q3.2 e4).2.2)))))))))))))))))))))))
theorem g_Mo_kind {d : Nat} {F : Int32 → kS → Prop} {S : kS} {a0 : Int32} (q :
  kK d m_Mo_isTerm [.inr 39, .inl a0] S (kq fun r2 S1 =>
    (r2 = 0 →
      F ((-1)) S1) ∧
    (¬ (r2 = 0) →
      vp_in a0 250 ∧
      vp_in (S1 53 (a0.toNatClampNeg)) 250 ∧
      F (S1 47 ((S1 53 (a0.toNatClampNeg)).toNatClampNeg)) S1))) :
  kK (d + 1) m_Mo_kind [.inr 39, .inl a0] S (kq F) := kspec_of (fun _ h => f_Mo_kind_0 kspec_Mo h q)
-- Mo_part cuts []
set_option maxRecDepth 20000 in
theorem f_Mo_part_0 {M : kM} (hM : kMo M) {F : Int32 → kS → Prop} {G : kG} (h : kCl kC M (kq F) 141 G) {S : kS} {a0 a1 : Int32} (q :
  M m_Mo_isTerm [.inr 39, .inl a0] S (kq fun r2 S1 =>
    (r2 = 0 →
      F ((-1)) S1) ∧
    (¬ (r2 = 0) →
      (a1 < 0 →
        F ((-1)) S1) ∧
      (¬ (a1 < 0) →
        (a1 ≤ 1 →
          vp_in a0 250 ∧
          vp_in (S1 53 (a0.toNatClampNeg)) 250 ∧
          (¬ (S1 47 ((S1 53 (a0.toNatClampNeg)).toNatClampNeg)) = 3 →
            (¬ a1 = 0 →
              F ((-1)) S1) ∧
            (¬ (¬ a1 = 0) →
              vp_in (S1 53 (a0.toNatClampNeg)) 250 ∧
              ((S1 47 ((S1 53 (a0.toNatClampNeg)).toNatClampNeg)) = 0 →
                vp_in (S1 53 (a0.toNatClampNeg)) 250 ∧
                F (S1 48 ((S1 53 (a0.toNatClampNeg)).toNatClampNeg)) S1) ∧
              (¬ ((S1 47 ((S1 53 (a0.toNatClampNeg)).toNatClampNeg)) = 0) →
                vp_in (S1 53 (a0.toNatClampNeg)) 250 ∧
                (¬ (S1 47 ((S1 53 (a0.toNatClampNeg)).toNatClampNeg)) = 2 →
                  F ((-1)) S1) ∧
                (¬ (¬ (S1 47 ((S1 53 (a0.toNatClampNeg)).toNatClampNeg)) = 2) →
                  vp_in (S1 53 (a0.toNatClampNeg)) 250 ∧
                  F (S1 48 ((S1 53 (a0.toNatClampNeg)).toNatClampNeg)) S1)))) ∧
          (¬ (¬ (S1 47 ((S1 53 (a0.toNatClampNeg)).toNatClampNeg)) = 3) →
            (¬ a1 = 0 →
              vp_in (S1 53 (a0.toNatClampNeg)) 250 ∧
              M m_Mo_numberOf [.inr 39, .inl (S1 49 ((S1 53 (a0.toNatClampNeg)).toNatClampNeg))] S1 (kq fun r4 S3 =>
                F r4 S3)) ∧
            (¬ (¬ a1 = 0) →
              vp_in (S1 53 (a0.toNatClampNeg)) 250 ∧
              M m_Mo_numberOf [.inr 39, .inl (S1 48 ((S1 53 (a0.toNatClampNeg)).toNatClampNeg))] S1 (kq fun r6 S5 =>
                F r6 S5)))) ∧
        (¬ (a1 ≤ 1) →
          F ((-1)) S1))))) :
  G 0 [some (.inr 39), some (.inl a0), some (.inl a1), none] [] S :=
  (h.s 0 rfl (h.s 1 rfl (h.s 2 rfl (And.intro (Nat.le_of_ble_eq_true rfl) (And.intro rfl (And.intro rfl (hM.q q (fun r2 S1 q7 => (h.s 5 rfl (And.intro (fun e8 => (h.s 17 rfl (h.s 18 rfl (kq_mk (q7.1 e8))))) (fun e8 => (h.s 8 rfl (h.s 9 rfl (And.intro (fun e9 => (h.s 17 rfl (h.s 18 rfl (kq_mk ((q7.2 e8).1 e9))))) (fun e9 => (h.s 12 rfl (h.s 13 rfl (h.s 14 rfl (And.intro (fun e10 => (h.s 19 rfl (h.s 20 rfl (h.s 23 rfl (h.s 24 rfl (And.intro (((q7.2 e8).2 e9).1 e10).1 (h.s 25 rfl (h.s 26 rfl (h.s 27 rfl (h.s 30 rfl (h.s 31 rfl (And.intro (((q7.2 e8).2 e9).1 e10).2.1 (h.s 32 rfl (h.s 33 rfl (And.intro (fun e11 => (h.s 60 rfl (h.s 61 rfl (And.intro (fun e12 => (h.s 92 rfl (h.s 93 rfl (kq_mk (((((q7.2 e8).2 e9).1 e10).2.2.1 e11).1 e12))))) (fun e12 => (h.s 64 rfl (h.s 65 rfl (h.s 68 rfl (h.s 69 rfl (And.intro (((((q7.2 e8).2 e9).1 e10).2.2.1 e11).2 e12).1 (h.s 70 rfl (And.intro (fun e13 => (h.s 83 rfl (h.s 84 rfl (h.s 87 rfl (h.s 88 rfl (And.intro ((((((q7.2 e8).2 e9).1 e10).2.2.1 e11).2 e12).2.1 e13).1 (h.s 89 rfl (h.s 93 rfl (kq_mk ((((((q7.2 e8).2 e9).1 e10).2.2.1 e11).2 e12).2.1 e13).2))))))))) (fun e13 => (h.s 73 rfl (h.s 74 rfl (h.s 77 rfl (h.s 78 rfl (And.intro ((((((q7.2 e8).2 e9).1 e10).2.2.1 e11).2 e12).2.2 e13).1 (h.s 79 rfl (h.s 80 rfl (And.intro (fun e14 => (h.s 92 rfl (h.s 93 rfl (kq_mk (((((((q7.2 e8).2 e9).1 e10).2.2.1 e11).2 e12).2.2 e13).2.1 e14))))) (fun e14 => (h.s 83 rfl (h.s 84 rfl (h.s 87 rfl (h.s 88 rfl (And.intro (((((((q7.2 e8).2 e9).1 e10).2.2.1 e11).2 e12).2.2 e13).2.2 e14).1 (h.s 89 rfl (h.s 93 rfl (kq_mk (((((((q7.2 e8).2 e9).1 e10).2.2.1 e11).2 e12).2.2 e13).2.2 e14).2)))))))))))))))))))))))))))))) (fun e11 => (h.s 36 rfl (h.s 37 rfl (h.s 38 rfl (And.intro (fun e15 => (h.s 50 rfl (h.s 51 rfl (h.s 54 rfl (h.s 55 rfl (And.intro (((((q7.2 e8).2 e9).1 e10).2.2.2 e11).1 e15).1 (h.s 56 rfl (And.intro (Nat.le_of_ble_eq_true rfl) (And.intro rfl (And.intro rfl (hM.q (((((q7.2 e8).2 e9).1 e10).2.2.2 e11).1 e15).2 (fun r4 S3 q16 => (h.s 59 rfl (kq_mk q16)))))))))))))) (fun e15 => (h.s 41 rfl (h.s 42 rfl (h.s 45 rfl (h.s 46 rfl (And.intro (((((q7.2 e8).2 e9).1 e10).2.2.2 e11).2 e15).1 (h.s 47 rfl (h.s 56 rfl (And.intro (Nat.le_of_ble_eq_true rfl) (And.intro rfl (And.intro rfl (hM.q (((((q7.2 e8).2 e9).1 e10).2.2.2 e11).2 e15).2 (fun r6 S5 q17 => (h.s 59 rfl (kq_mk q17))))))))))))))))))))))))))))))))))) (fun e10 => (h.s 17 rfl (h.s 18 rfl (kq_mk (((q7.2 e8).2 e9).2 e10))))))))))))))))))))))))
theorem g_Mo_part {d : Nat} {F : Int32 → kS → Prop} {S : kS} {a0 a1 : Int32} (q :
  kK d m_Mo_isTerm [.inr 39, .inl a0] S (kq fun r2 S1 =>
    (r2 = 0 →
      F ((-1)) S1) ∧
    (¬ (r2 = 0) →
      (a1 < 0 →
        F ((-1)) S1) ∧
      (¬ (a1 < 0) →
        (a1 ≤ 1 →
          vp_in a0 250 ∧
          vp_in (S1 53 (a0.toNatClampNeg)) 250 ∧
          (¬ (S1 47 ((S1 53 (a0.toNatClampNeg)).toNatClampNeg)) = 3 →
            (¬ a1 = 0 →
              F ((-1)) S1) ∧
            (¬ (¬ a1 = 0) →
              vp_in (S1 53 (a0.toNatClampNeg)) 250 ∧
              ((S1 47 ((S1 53 (a0.toNatClampNeg)).toNatClampNeg)) = 0 →
                vp_in (S1 53 (a0.toNatClampNeg)) 250 ∧
                F (S1 48 ((S1 53 (a0.toNatClampNeg)).toNatClampNeg)) S1) ∧
              (¬ ((S1 47 ((S1 53 (a0.toNatClampNeg)).toNatClampNeg)) = 0) →
                vp_in (S1 53 (a0.toNatClampNeg)) 250 ∧
                (¬ (S1 47 ((S1 53 (a0.toNatClampNeg)).toNatClampNeg)) = 2 →
                  F ((-1)) S1) ∧
                (¬ (¬ (S1 47 ((S1 53 (a0.toNatClampNeg)).toNatClampNeg)) = 2) →
                  vp_in (S1 53 (a0.toNatClampNeg)) 250 ∧
                  F (S1 48 ((S1 53 (a0.toNatClampNeg)).toNatClampNeg)) S1)))) ∧
          (¬ (¬ (S1 47 ((S1 53 (a0.toNatClampNeg)).toNatClampNeg)) = 3) →
            (¬ a1 = 0 →
              vp_in (S1 53 (a0.toNatClampNeg)) 250 ∧
              kK d m_Mo_numberOf [.inr 39, .inl (S1 49 ((S1 53 (a0.toNatClampNeg)).toNatClampNeg))] S1 (kq fun r4 S3 =>
                F r4 S3)) ∧
            (¬ (¬ a1 = 0) →
              vp_in (S1 53 (a0.toNatClampNeg)) 250 ∧
              kK d m_Mo_numberOf [.inr 39, .inl (S1 48 ((S1 53 (a0.toNatClampNeg)).toNatClampNeg))] S1 (kq fun r6 S5 =>
                F r6 S5)))) ∧
        (¬ (a1 ≤ 1) →
          F ((-1)) S1))))) :
  kK (d + 1) m_Mo_part [.inr 39, .inl a0, .inl a1] S (kq F) := kspec_of (fun _ h => f_Mo_part_0 kspec_Mo h q)
