/-! printed: regions, their weakest preconditions -/
-- Mo_retyped cuts [3, 33, 94, 131]
set_option maxRecDepth 20000 in
theorem f_Mo_retyped_0 {M : kM} (hM : kMo M) {F : Int32 → kS → Prop} {G : kG} (h : kCl kC M (kq F) 115 G) {S : kS} {a0 a1 a2 : Int32} (q :
  G 3 [some (.inr 39), some (.inl a0), some (.inl a1), some (.inl a2), some (.inl 0)] [] S) :
  G 0 [some (.inr 39), some (.inl a0), some (.inl a1), some (.inl a2), none] [] S :=
  (h.s 0 rfl (h.s 1 rfl q))
theorem g_Mo_retyped {d : Nat} {F : Int32 → kS → Prop} {S : kS} {a0 a1 a2 : Int32} (q : ∀ G : kG, kCl kC (kK d) (kq F) 115 G →
  G 3 [some (.inr 39), some (.inl a0), some (.inl a1), some (.inl a2), some (.inl 0)] [] S) :
  kK (d + 1) m_Mo_retyped [.inr 39, .inl a0, .inl a1, .inl a2] S (kq F) := kspec_of (fun G h => f_Mo_retyped_0 kspec_Mo h (q G h))
set_option maxRecDepth 20000 in
theorem f_Mo_retyped_3 {M : kM} (hM : kMo M) {F : Int32 → kS → Prop} {G : kG} (h : kCl kC M (kq F) 115 G) {S : kS} {v1 v2 v3 v4 : Int32} (q :
  (v1 ≤ v4 →
    vp_in v1 50 ∧
    G 33 [some (.inr 39), some (.inl v1), some (.inl v2), some (.inl v3), some (.inl v1)] [] (ku S 63 (v1.toNatClampNeg) (vp_nar .boolean 1))) ∧
  (¬ (v1 ≤ v4) →
    vp_in v4 50 ∧
    G 3 [some (.inr 39), some (.inl v1), some (.inl v2), some (.inl v3), some (.inl (v4 + 1))] [] (ku S 63 (v4.toNatClampNeg) (vp_nar .boolean 0)))) :
  G 3 [some (.inr 39), some (.inl v1), some (.inl v2), some (.inl v3), some (.inl v4)] [] S :=
  (h.s 3 rfl (h.s 5 rfl (h.s 6 rfl (And.intro (fun e1 => (h.s 23 rfl (h.s 24 rfl (h.s 27 rfl (h.s 28 rfl (h.s 29 rfl (And.intro (q.1 e1).1 (h.s 30 rfl (h.s 31 rfl (q.1 e1).2))))))))) (fun e1 => (h.s 9 rfl (h.s 10 rfl (h.s 13 rfl (h.s 15 rfl (h.s 16 rfl (And.intro (q.2 e1).1 (h.s 17 rfl (h.s 20 rfl (q.2 e1).2)))))))))))))
set_option maxRecDepth 20000 in
theorem f_Mo_retyped_33 {M : kM} (hM : kMo M) {F : Int32 → kS → Prop} {G : kG} (h : kCl kC M (kq F) 115 G) {S : kS} {v1 v2 v3 v4 : Int32} (q :
  (v4 < 0 →
    G 94 [some (.inr 39), some (.inl v1), some (.inl v2), some (.inl v3), some (.inl 0)] [] S) ∧
  (¬ (v4 < 0) →
    vp_in v4 50 ∧
    ((S 63 (v4.toNatClampNeg)) = 0 →
      G 33 [some (.inr 39), some (.inl v1), some (.inl v2), some (.inl v3), some (.inl (v4 + (-1)))] [] S) ∧
    (¬ ((S 63 (v4.toNatClampNeg)) = 0) →
      vp_in v4 50 ∧
      (¬ (S 40 (v4.toNatClampNeg)) = 4 →
        G 33 [some (.inr 39), some (.inl v1), some (.inl v2), some (.inl v3), some (.inl (v4 + (-1)))] [] S) ∧
      (¬ (¬ (S 40 (v4.toNatClampNeg)) = 4) →
        vp_in v4 50 ∧
        vp_in (S 41 (v4.toNatClampNeg)) 50 ∧
        vp_in v4 50 ∧
        vp_in (S 42 (v4.toNatClampNeg)) 50 ∧
        G 33 [some (.inr 39), some (.inl v1), some (.inl v2), some (.inl v3), some (.inl (v4 + (-1)))] [] (ku (ku S 63 ((S 41 (v4.toNatClampNeg)).toNatClampNeg) (vp_nar .boolean 1)) 63 ((S 42 (v4.toNatClampNeg)).toNatClampNeg) (vp_nar .boolean 1)))))) :
  G 33 [some (.inr 39), some (.inl v1), some (.inl v2), some (.inl v3), some (.inl v4)] [] S :=
  (h.s 33 rfl (h.s 35 rfl (And.intro (fun e1 => (h.s 91 rfl (h.s 92 rfl (q.1 e1)))) (fun e1 => (h.s 38 rfl (h.s 39 rfl (h.s 42 rfl (h.s 44 rfl (And.intro (q.2 e1).1 (h.s 45 rfl (And.intro (fun e2 => (h.s 85 rfl (h.s 88 rfl ((q.2 e1).2.1 e2)))) (fun e2 => (h.s 48 rfl (h.s 49 rfl (h.s 52 rfl (h.s 54 rfl (And.intro ((q.2 e1).2.2 e2).1 (h.s 55 rfl (h.s 56 rfl (And.intro (fun e3 => (h.s 85 rfl (h.s 88 rfl (((q.2 e1).2.2 e2).2.1 e3)))) (fun e3 => (h.s 59 rfl (h.s 60 rfl (h.s 63 rfl (h.s 64 rfl (h.s 67 rfl (h.s 69 rfl (And.intro (((q.2 e1).2.2 e2).2.2 e3).1 (h.s 70 rfl (h.s 71 rfl (And.intro (((q.2 e1).2.2 e2).2.2 e3).2.1 (h.s 72 rfl (h.s 73 rfl (h.s 76 rfl (h.s 77 rfl (h.s 80 rfl (h.s 82 rfl (And.intro (((q.2 e1).2.2 e2).2.2 e3).2.2.1 (h.s 83 rfl (h.s 84 rfl (And.intro (((q.2 e1).2.2 e2).2.2 e3).2.2.2.1 (h.s 85 rfl (h.s 88 rfl (((q.2 e1).2.2 e2).2.2 e3).2.2.2.2)))))))))))))))))))))))))))))))))))))))))))
set_option maxRecDepth 20000 in
theorem f_Mo_retyped_94 {M : kM} (hM : kMo M) {F : Int32 → kS → Prop} {G : kG} (h : kCl kC M (kq F) 115 G) {S : kS} {v1 v2 v3 v4 : Int32} (q :
  (v1 < v4 →
    vp_in v1 50 ∧
    F (S 64 (v1.toNatClampNeg)) S) ∧
  (¬ (v1 < v4) →
    vp_in v4 50 ∧
    (¬ (S 63 (v4.toNatClampNeg)) = 0 →
      (¬ v4 = v2 →
        G 131 [some (.inr 39), some (.inl v1), some (.inl v2), some (.inl v3), some (.inl v4)] [.inl v4, .inl v4, .inr 64] S) ∧
      (¬ (¬ v4 = v2) →
        G 131 [some (.inr 39), some (.inl v1), some (.inl v2), some (.inl v3), some (.inl v4)] [.inl v3, .inl v4, .inr 64] S)) ∧
    (¬ (¬ (S 63 (v4.toNatClampNeg)) = 0) →
      G 94 [some (.inr 39), some (.inl v1), some (.inl v2), some (.inl v3), some (.inl (v4 + 1))] [] S))) :
  G 94 [some (.inr 39), some (.inl v1), some (.inl v2), some (.inl v3), some (.inl v4)] [] S :=
  (h.s 94 rfl (h.s 96 rfl (h.s 97 rfl (And.intro (fun e1 => (h.s 185 rfl (h.s 186 rfl (h.s 189 rfl (h.s 190 rfl (And.intro (q.1 e1).1 (h.s 191 rfl (kq_mk (q.1 e1).2)))))))) (fun e1 => (h.s 100 rfl (h.s 101 rfl (h.s 104 rfl (h.s 106 rfl (And.intro (q.2 e1).1 (h.s 107 rfl (And.intro (fun e2 => (h.s 113 rfl (h.s 114 rfl (h.s 117 rfl (h.s 119 rfl (h.s 121 rfl (h.s 122 rfl (And.intro (fun e3 => (h.s 129 rfl (((q.2 e1).2.1 e2).1 e3))) (fun e3 => (h.s 125 rfl (h.s 126 rfl (((q.2 e1).2.1 e2).2 e3)))))))))))) (fun e2 => (h.s 110 rfl (h.s 179 rfl (h.s 182 rfl ((q.2 e1).2.2 e2)))))))))))))))))
set_option maxRecDepth 20000 in
theorem f_Mo_retyped_131 {M : kM} (hM : kMo M) {F : Int32 → kS → Prop} {G : kG} (h : kCl kC M (kq F) 115 G) {S : kS} {v1 v2 v3 v4 w0 w1 : Int32} (q :
  vp_in w1 50 ∧
  vp_in v4 50 ∧
  (¬ (S 40 (v4.toNatClampNeg)) = 4 →
    G 94 [some (.inr 39), some (.inl v1), some (.inl v2), some (.inl v3), some (.inl (v4 + 1))] [] (ku S 64 (w1.toNatClampNeg) w0)) ∧
  (¬ (¬ (S 40 (v4.toNatClampNeg)) = 4) →
    vp_in v4 50 ∧
    vp_in (S 41 (v4.toNatClampNeg)) 50 ∧
    vp_in v4 50 ∧
    vp_in (S 42 (v4.toNatClampNeg)) 50 ∧
    M m_Mo_type [.inr 39, .inl 4, .inl ((ku S 64 (w1.toNatClampNeg) w0) 64 ((S 41 (v4.toNatClampNeg)).toNatClampNeg)), .inl ((ku S 64 (w1.toNatClampNeg) w0) 64 ((S 42 (v4.toNatClampNeg)).toNatClampNeg))] (ku S 64 (w1.toNatClampNeg) w0) (kq fun r2 S1 =>
      vp_in v4 50 ∧
      G 94 [some (.inr 39), some (.inl v1), some (.inl v2), some (.inl v3), some (.inl (v4 + 1))] [] (ku S1 64 (v4.toNatClampNeg) r2)))) :
  G 131 [some (.inr 39), some (.inl v1), some (.inl v2), some (.inl v3), some (.inl v4)] [.inl w0, .inl w1, .inr 64] S :=
  (h.s 131 rfl (And.intro q.1 (h.s 132 rfl (h.s 133 rfl (h.s 136 rfl (h.s 138 rfl (And.intro q.2.1 (h.s 139 rfl (h.s 140 rfl (And.intro (fun e3 => (h.s 179 rfl (h.s 182 rfl (q.2.2.1 e3)))) (fun e3 => (h.s 143 rfl (h.s 144 rfl (h.s 147 rfl (h.s 149 rfl (h.s 150 rfl (h.s 151 rfl (h.s 152 rfl (h.s 155 rfl (h.s 156 rfl (h.s 159 rfl (h.s 161 rfl (And.intro (q.2.2.2 e3).1 (h.s 162 rfl (And.intro (q.2.2.2 e3).2.1 (h.s 163 rfl (h.s 164 rfl (h.s 167 rfl (h.s 168 rfl (h.s 171 rfl (h.s 173 rfl (And.intro (q.2.2.2 e3).2.2.1 (h.s 174 rfl (And.intro (q.2.2.2 e3).2.2.2.1 (h.s 175 rfl (And.intro (Nat.le_of_ble_eq_true rfl) (And.intro rfl (And.intro rfl (hM.q (q.2.2.2 e3).2.2.2.2 (fun r2 S1 q4 => (h.s 178 rfl (And.intro q4.1 (h.s 179 rfl (h.s 182 rfl q4.2))))))))))))))))))))))))))))))))))))))))))))
-- Mo_abstraction cuts []
set_option maxRecDepth 20000 in
theorem f_Mo_abstraction_0 {M : kM} (hM : kMo M) {F : Int32 → kS → Prop} {G : kG} (h : kCl kC M (kq F) 116 G) {S : kS} {a0 a1 : Int32} (q :
  vp_in a1 250 ∧
  M m_Mo_type [.inr 39, .inl 4, .inl a0, .inl (S 50 (a1.toNatClampNeg))] S (kq fun r2 S1 =>
    M m_Mo_term [.inr 39, .inl 4, .inl a0, .inl a1, .inl r2] S1 (kq fun r4 S3 =>
      F r4 S3))) :
  G 0 [some (.inr 39), some (.inl a0), some (.inl a1), none] [] S :=
  (h.s 0 rfl (h.s 1 rfl (h.s 2 rfl (h.s 3 rfl (h.s 4 rfl (h.s 7 rfl (h.s 8 rfl (And.intro q.1 (h.s 9 rfl (And.intro (Nat.le_of_ble_eq_true rfl) (And.intro rfl (And.intro rfl (hM.q q.2 (fun r2 S1 q5 => (h.s 12 rfl (h.s 13 rfl (h.s 14 rfl (h.s 15 rfl (h.s 16 rfl (h.s 17 rfl (h.s 18 rfl (And.intro (Nat.le_of_ble_eq_true rfl) (And.intro rfl (And.intro rfl (hM.q q5 (fun r4 S3 q6 => (h.s 21 rfl (kq_mk q6))))))))))))))))))))))))))))
theorem g_Mo_abstraction {d : Nat} {F : Int32 → kS → Prop} {S : kS} {a0 a1 : Int32} (q :
  vp_in a1 250 ∧
  kK d m_Mo_type [.inr 39, .inl 4, .inl a0, .inl (S 50 (a1.toNatClampNeg))] S (kq fun r2 S1 =>
    kK d m_Mo_term [.inr 39, .inl 4, .inl a0, .inl a1, .inl r2] S1 (kq fun r4 S3 =>
      F r4 S3))) :
  kK (d + 1) m_Mo_abstraction [.inr 39, .inl a0, .inl a1] S (kq F) := kspec_of (fun _ h => f_Mo_abstraction_0 kspec_Mo h q)
-- Mo_rule cuts []
set_option maxRecDepth 20000 in
theorem f_Mo_rule_0 {M : kM} (hM : kMo M) {F : Int32 → kS → Prop} {G : kG} (h : kCl kC M (kq F) 117 G) {S : kS} {a0 a1 a2 a3 : Int32} (q :
  M m_Mo_begin [.inr 39] S (kv fun S1 =>
    M m_Mo_derive [.inr 39, .inl a0, .inl a1, .inl a2, .inl a3] S1 (kq fun r3 S2 =>
      M m_Mo_stays [.inr 39] S2 (kq fun r5 S4 =>
        (r5 = 0 →
          F ((-1)) S4) ∧
        (¬ (r5 = 0) →
          F r3 S4))))) :
  G 0 [some (.inr 39), some (.inl a0), some (.inl a1), some (.inl a2), some (.inl a3), none] [] S :=
  (h.s 0 rfl (h.s 1 rfl (And.intro (Nat.le_of_ble_eq_true rfl) (And.intro rfl (And.intro rfl (hM.v q (fun S1 q6 => (h.s 4 rfl (h.s 5 rfl (h.s 6 rfl (h.s 7 rfl (h.s 8 rfl (h.s 10 rfl (And.intro (Nat.le_of_ble_eq_true rfl) (And.intro rfl (And.intro rfl (hM.q q6 (fun r3 S2 q7 => (h.s 13 rfl (h.s 15 rfl (h.s 16 rfl (And.intro (Nat.le_of_ble_eq_true rfl) (And.intro rfl (And.intro rfl (hM.q q7 (fun r5 S4 q8 => (h.s 19 rfl (And.intro (fun e9 => (h.s 27 rfl (h.s 28 rfl (kq_mk (q8.1 e9))))) (fun e9 => (h.s 22 rfl (h.s 24 rfl (h.s 28 rfl (kq_mk (q8.2 e9))))))))))))))))))))))))))))))))))
theorem g_Mo_rule {d : Nat} {F : Int32 → kS → Prop} {S : kS} {a0 a1 a2 a3 : Int32} (q :
  kK d m_Mo_begin [.inr 39] S (kv fun S1 =>
    kK d m_Mo_derive [.inr 39, .inl a0, .inl a1, .inl a2, .inl a3] S1 (kq fun r3 S2 =>
      kK d m_Mo_stays [.inr 39] S2 (kq fun r5 S4 =>
        (r5 = 0 →
          F ((-1)) S4) ∧
        (¬ (r5 = 0) →
          F r3 S4))))) :
  kK (d + 1) m_Mo_rule [.inr 39, .inl a0, .inl a1, .inl a2, .inl a3] S (kq F) := kspec_of (fun _ h => f_Mo_rule_0 kspec_Mo h q)
-- Mo_derive cuts [31, 52, 85, 120, 155]
set_option maxRecDepth 20000 in
theorem f_Mo_derive_0 {M : kM} (hM : kMo M) {F : Int32 → kS → Prop} {G : kG} (h : kCl kC M (kq F) 118 G) {S : kS} {a0 a1 a2 a3 : Int32} (q :
  (a0 < 0 →
    G 52 [some (.inr 39), some (.inl a0), some (.inl a1), some (.inl a2), some (.inl a3), none, none] [.inl 0] (ku S 39 24 0)) ∧
  (¬ (a0 < 0) →
    (10 < a0 →
      G 52 [some (.inr 39), some (.inl a0), some (.inl a1), some (.inl a2), some (.inl a3), none, none] [.inl 0] (ku S 39 24 0)) ∧
    (¬ (10 < a0) →
      M m_Mo_takesFact [.inl a0, .inl 0] (ku S 39 24 0) (kq fun r2 S1 =>
        (r2 = 0 →
          G 31 [some (.inr 39), some (.inl a0), some (.inl a1), some (.inl a2), some (.inl a3), none, none] [] S1) ∧
        (¬ (r2 = 0) →
          M m_Mo_isFact [.inr 39, .inl a1] S1 (kq fun r4 S3 =>
            (r4 = 0 →
              G 52 [some (.inr 39), some (.inl a0), some (.inl a1), some (.inl a2), some (.inl a3), none, none] [.inl 0] S3) ∧
            (¬ (r4 = 0) →
              G 31 [some (.inr 39), some (.inl a0), some (.inl a1), some (.inl a2), some (.inl a3), none, none] [] S3))))))) :
  G 0 [some (.inr 39), some (.inl a0), some (.inl a1), some (.inl a2), some (.inl a3), none, none] [] S :=
  (h.s 0 rfl (h.s 1 rfl (h.s 2 rfl (h.s 5 rfl (h.s 6 rfl (And.intro (fun e5 => (h.s 51 rfl (q.1 e5))) (fun e5 => (h.s 9 rfl (h.s 10 rfl (h.s 12 rfl (And.intro (fun e6 => (h.s 51 rfl ((q.2 e5).1 e6))) (fun e6 => (h.s 15 rfl (h.s 16 rfl (h.s 17 rfl (And.intro (Nat.le_of_ble_eq_true rfl) (And.intro rfl (hM.q ((q.2 e5).2 e6) (fun r2 S1 q7 => (h.s 20 rfl (And.intro (fun e8 => (q7.1 e8)) (fun e8 => (h.s 23 rfl (h.s 24 rfl (h.s 25 rfl (And.intro (Nat.le_of_ble_eq_true rfl) (And.intro rfl (And.intro rfl (hM.q (q7.2 e8) (fun r4 S3 q9 => (h.s 28 rfl (And.intro (fun e10 => (h.s 51 rfl (q9.1 e10))) (fun e10 => (q9.2 e10))))))))))))))))))))))))))))))))))
theorem g_Mo_derive {d : Nat} {F : Int32 → kS → Prop} {S : kS} {a0 a1 a2 a3 : Int32} (q : ∀ G : kG, kCl kC (kK d) (kq F) 118 G →
  (a0 < 0 →
    G 52 [some (.inr 39), some (.inl a0), some (.inl a1), some (.inl a2), some (.inl a3), none, none] [.inl 0] (ku S 39 24 0)) ∧
  (¬ (a0 < 0) →
    (10 < a0 →
      G 52 [some (.inr 39), some (.inl a0), some (.inl a1), some (.inl a2), some (.inl a3), none, none] [.inl 0] (ku S 39 24 0)) ∧
    (¬ (10 < a0) →
      kK d m_Mo_takesFact [.inl a0, .inl 0] (ku S 39 24 0) (kq fun r2 S1 =>
        (r2 = 0 →
          G 31 [some (.inr 39), some (.inl a0), some (.inl a1), some (.inl a2), some (.inl a3), none, none] [] S1) ∧
        (¬ (r2 = 0) →
          kK d m_Mo_isFact [.inr 39, .inl a1] S1 (kq fun r4 S3 =>
            (r4 = 0 →
              G 52 [some (.inr 39), some (.inl a0), some (.inl a1), some (.inl a2), some (.inl a3), none, none] [.inl 0] S3) ∧
            (¬ (r4 = 0) →
              G 31 [some (.inr 39), some (.inl a0), some (.inl a1), some (.inl a2), some (.inl a3), none, none] [] S3))))))) :
  kK (d + 1) m_Mo_derive [.inr 39, .inl a0, .inl a1, .inl a2, .inl a3] S (kq F) := kspec_of (fun G h => f_Mo_derive_0 kspec_Mo h (q G h))
set_option maxRecDepth 20000 in
theorem f_Mo_derive_31 {M : kM} (hM : kMo M) {F : Int32 → kS → Prop} {G : kG} (h : kCl kC M (kq F) 118 G) {S : kS} {v1 v2 v3 v4 : Int32} (q :
  M m_Mo_takesFact [.inl v1, .inl 1] S (kq fun r2 S1 =>
    (r2 = 0 →
      G 52 [some (.inr 39), some (.inl v1), some (.inl v2), some (.inl v3), some (.inl v4), none, none] [.inl 1] S1) ∧
    (¬ (r2 = 0) →
      M m_Mo_isFact [.inr 39, .inl v3] S1 (kq fun r4 S3 =>
        (r4 = 0 →
          G 52 [some (.inr 39), some (.inl v1), some (.inl v2), some (.inl v3), some (.inl v4), none, none] [.inl 0] S3) ∧
        (¬ (r4 = 0) →
          G 52 [some (.inr 39), some (.inl v1), some (.inl v2), some (.inl v3), some (.inl v4), none, none] [.inl 1] S3))))) :
  G 31 [some (.inr 39), some (.inl v1), some (.inl v2), some (.inl v3), some (.inl v4), none, none] [] S :=
  (h.s 31 rfl (h.s 32 rfl (h.s 33 rfl (And.intro (Nat.le_of_ble_eq_true rfl) (And.intro rfl (hM.q q (fun r2 S1 q5 => (h.s 36 rfl (And.intro (fun e6 => (h.s 47 rfl (h.s 48 rfl (q5.1 e6)))) (fun e6 => (h.s 39 rfl (h.s 40 rfl (h.s 41 rfl (And.intro (Nat.le_of_ble_eq_true rfl) (And.intro rfl (And.intro rfl (hM.q (q5.2 e6) (fun r4 S3 q7 => (h.s 44 rfl (And.intro (fun e8 => (h.s 51 rfl (q7.1 e8))) (fun e8 => (h.s 47 rfl (h.s 48 rfl (q7.2 e8))))))))))))))))))))))))
set_option maxRecDepth 20000 in
theorem f_Mo_derive_52 {M : kM} (hM : kMo M) {F : Int32 → kS → Prop} {G : kG} (h : kCl kC M (kq F) 118 G) {S : kS} {v1 v2 v3 v4 w0 : Int32} (q :
  (w0 = 0 →
    G 85 [some (.inr 39), some (.inl v1), some (.inl v2), some (.inl v3), some (.inl v4), some (.inl w0), none] [] S) ∧
  (¬ (w0 = 0) →
    (v1 = 0 →
      M m_Mo_isTerm [.inr 39, .inl v2] S (kq fun r2 S1 =>
        G 85 [some (.inr 39), some (.inl v1), some (.inl v2), some (.inl v3), some (.inl v4), some (.inl r2), none] [] S1)) ∧
    (¬ (v1 = 0) →
      (v1 = 3 →
        M m_Mo_isTerm [.inr 39, .inl v2] S (kq fun r4 S3 =>
          G 85 [some (.inr 39), some (.inl v1), some (.inl v2), some (.inl v3), some (.inl v4), some (.inl r4), none] [] S3)) ∧
      (¬ (v1 = 3) →
        (v1 = 4 →
          M m_Mo_isTerm [.inr 39, .inl v2] S (kq fun r6 S5 =>
            G 85 [some (.inr 39), some (.inl v1), some (.inl v2), some (.inl v3), some (.inl v4), some (.inl r6), none] [] S5)) ∧
        (¬ (v1 = 4) →
          (¬ v1 = 5 →
            G 85 [some (.inr 39), some (.inl v1), some (.inl v2), some (.inl v3), some (.inl v4), some (.inl w0), none] [] S) ∧
          (¬ (¬ v1 = 5) →
            M m_Mo_isTerm [.inr 39, .inl v2] S (kq fun r8 S7 =>
              G 85 [some (.inr 39), some (.inl v1), some (.inl v2), some (.inl v3), some (.inl v4), some (.inl r8), none] [] S7))))))) :
  G 52 [some (.inr 39), some (.inl v1), some (.inl v2), some (.inl v3), some (.inl v4), none, none] [.inl w0] S :=
  (h.s 52 rfl (h.s 54 rfl (h.s 56 rfl (And.intro (fun e9 => (q.1 e9)) (fun e9 => (h.s 59 rfl (h.s 60 rfl (And.intro (fun e10 => (h.s 78 rfl (h.s 79 rfl (h.s 80 rfl (And.intro (Nat.le_of_ble_eq_true rfl) (And.intro rfl (And.intro rfl (hM.q ((q.2 e9).1 e10) (fun r2 S1 q11 => (h.s 83 rfl q11)))))))))) (fun e10 => (h.s 63 rfl (h.s 64 rfl (h.s 65 rfl (And.intro (fun e12 => (h.s 78 rfl (h.s 79 rfl (h.s 80 rfl (And.intro (Nat.le_of_ble_eq_true rfl) (And.intro rfl (And.intro rfl (hM.q (((q.2 e9).2 e10).1 e12) (fun r4 S3 q13 => (h.s 83 rfl q13)))))))))) (fun e12 => (h.s 68 rfl (h.s 69 rfl (h.s 70 rfl (And.intro (fun e14 => (h.s 78 rfl (h.s 79 rfl (h.s 80 rfl (And.intro (Nat.le_of_ble_eq_true rfl) (And.intro rfl (And.intro rfl (hM.q ((((q.2 e9).2 e10).2 e12).1 e14) (fun r6 S5 q15 => (h.s 83 rfl q15)))))))))) (fun e14 => (h.s 73 rfl (h.s 74 rfl (h.s 75 rfl (And.intro (fun e16 => (((((q.2 e9).2 e10).2 e12).2 e14).1 e16)) (fun e16 => (h.s 78 rfl (h.s 79 rfl (h.s 80 rfl (And.intro (Nat.le_of_ble_eq_true rfl) (And.intro rfl (And.intro rfl (hM.q (((((q.2 e9).2 e10).2 e12).2 e14).2 e16) (fun r8 S7 q17 => (h.s 83 rfl q17)))))))))))))))))))))))))))))))))
set_option maxRecDepth 20000 in
theorem f_Mo_derive_85 {M : kM} (hM : kMo M) {F : Int32 → kS → Prop} {G : kG} (h : kCl kC M (kq F) 118 G) {S : kS} {v1 v2 v3 v4 v5 : Int32} (q :
  (v5 = 0 →
    G 120 [some (.inr 39), some (.inl v1), some (.inl v2), some (.inl v3), some (.inl v4), some (.inl v5), none] [] S) ∧
  (¬ (v5 = 0) →
    (¬ v1 = 8 →
      G 120 [some (.inr 39), some (.inl v1), some (.inl v2), some (.inl v3), some (.inl v4), some (.inl v5), none] [] S) ∧
    (¬ (¬ v1 = 8) →
      M m_Mo_isTerm [.inr 39, .inl v3] S (kq fun r2 S1 =>
        (r2 = 0 →
          G 120 [some (.inr 39), some (.inl v1), some (.inl v2), some (.inl v3), some (.inl v4), some (.inl 0), none] [] S1) ∧
        (¬ (r2 = 0) →
          M m_Mo_isTerm [.inr 39, .inl v4] S1 (kq fun r4 S3 =>
            (r4 = 0 →
              G 120 [some (.inr 39), some (.inl v1), some (.inl v2), some (.inl v3), some (.inl v4), some (.inl 0), none] [] S3) ∧
            (¬ (r4 = 0) →
              G 120 [some (.inr 39), some (.inl v1), some (.inl v2), some (.inl v3), some (.inl v4), some (.inl 1), none] [] S3))))))) :
  G 85 [some (.inr 39), some (.inl v1), some (.inl v2), some (.inl v3), some (.inl v4), some (.inl v5), none] [] S :=
  (h.s 85 rfl (h.s 87 rfl (And.intro (fun e5 => (q.1 e5)) (fun e5 => (h.s 90 rfl (h.s 91 rfl (h.s 93 rfl (And.intro (fun e6 => ((q.2 e5).1 e6)) (fun e6 => (h.s 96 rfl (h.s 97 rfl (h.s 98 rfl (And.intro (Nat.le_of_ble_eq_true rfl) (And.intro rfl (And.intro rfl (hM.q ((q.2 e5).2 e6) (fun r2 S1 q7 => (h.s 101 rfl (And.intro (fun e8 => (h.s 117 rfl (h.s 118 rfl (q7.1 e8)))) (fun e8 => (h.s 104 rfl (h.s 105 rfl (h.s 107 rfl (And.intro (Nat.le_of_ble_eq_true rfl) (And.intro rfl (And.intro rfl (hM.q (q7.2 e8) (fun r4 S3 q9 => (h.s 110 rfl (And.intro (fun e10 => (h.s 117 rfl (h.s 118 rfl (q9.1 e10)))) (fun e10 => (h.s 113 rfl (h.s 114 rfl (h.s 118 rfl (q9.2 e10)))))))))))))))))))))))))))))))))))
set_option maxRecDepth 20000 in
theorem f_Mo_derive_120 {M : kM} (hM : kMo M) {F : Int32 → kS → Prop} {G : kG} (h : kCl kC M (kq F) 118 G) {S : kS} {v1 v2 v3 v4 v5 : Int32} (q :
  (v5 = 0 →
    G 155 [some (.inr 39), some (.inl v1), some (.inl v2), some (.inl v3), some (.inl v4), some (.inl v5), none] [] S) ∧
  (¬ (v5 = 0) →
    (¬ v1 = 9 →
      G 155 [some (.inr 39), some (.inl v1), some (.inl v2), some (.inl v3), some (.inl v4), some (.inl v5), none] [] S) ∧
    (¬ (¬ v1 = 9) →
      M m_Mo_isType [.inr 39, .inl v3] S (kq fun r2 S1 =>
        (r2 = 0 →
          G 155 [some (.inr 39), some (.inl v1), some (.inl v2), some (.inl v3), some (.inl v4), some (.inl 0), none] [] S1) ∧
        (¬ (r2 = 0) →
          M m_Mo_isType [.inr 39, .inl v4] S1 (kq fun r4 S3 =>
            (r4 = 0 →
              G 155 [some (.inr 39), some (.inl v1), some (.inl v2), some (.inl v3), some (.inl v4), some (.inl 0), none] [] S3) ∧
            (¬ (r4 = 0) →
              G 155 [some (.inr 39), some (.inl v1), some (.inl v2), some (.inl v3), some (.inl v4), some (.inl 1), none] [] S3))))))) :
  G 120 [some (.inr 39), some (.inl v1), some (.inl v2), some (.inl v3), some (.inl v4), some (.inl v5), none] [] S :=
  (h.s 120 rfl (h.s 122 rfl (And.intro (fun e5 => (q.1 e5)) (fun e5 => (h.s 125 rfl (h.s 126 rfl (h.s 128 rfl (And.intro (fun e6 => ((q.2 e5).1 e6)) (fun e6 => (h.s 131 rfl (h.s 132 rfl (h.s 133 rfl (And.intro (Nat.le_of_ble_eq_true rfl) (And.intro rfl (And.intro rfl (hM.q ((q.2 e5).2 e6) (fun r2 S1 q7 => (h.s 136 rfl (And.intro (fun e8 => (h.s 152 rfl (h.s 153 rfl (q7.1 e8)))) (fun e8 => (h.s 139 rfl (h.s 140 rfl (h.s 142 rfl (And.intro (Nat.le_of_ble_eq_true rfl) (And.intro rfl (And.intro rfl (hM.q (q7.2 e8) (fun r4 S3 q9 => (h.s 145 rfl (And.intro (fun e10 => (h.s 152 rfl (h.s 153 rfl (q9.1 e10)))) (fun e10 => (h.s 148 rfl (h.s 149 rfl (h.s 153 rfl (q9.2 e10)))))))))))))))))))))))))))))))))))
set_option maxRecDepth 20000 in
theorem f_Mo_derive_155 {M : kM} (hM : kMo M) {F : Int32 → kS → Prop} {G : kG} (h : kCl kC M (kq F) 118 G) {S : kS} {v1 v2 v3 v4 v5 : Int32} (q :
  (¬ v5 = 0 →
    (5 ≤ v1 →
      (8 ≤ v1 →
        M m_Mo_replacing [.inr 39, .inl v1, .inl v2, .inl v3, .inl v4] S (kq fun r2 S1 =>
          (0 ≤ r2 →
            ((S1 39 33) = 0 →
              M m_Mo_fact [.inr 39, .inl r2] S1 (kq fun r4 S3 =>
                F r4 S3)) ∧
            (¬ ((S1 39 33) = 0) →
              F ((-1)) S1)) ∧
          (¬ (0 ≤ r2) →
            F ((-1)) (ku S1 39 33 1)))) ∧
      (¬ (8 ≤ v1) →
        M m_Mo_logical [.inr 39, .inl v1, .inl v2, .inl v3] S (kq fun r6 S5 =>
          (0 ≤ r6 →
            ((S5 39 33) = 0 →
              M m_Mo_fact [.inr 39, .inl r6] S5 (kq fun r8 S7 =>
                F r8 S7)) ∧
            (¬ ((S5 39 33) = 0) →
              F ((-1)) S5)) ∧
          (¬ (0 ≤ r6) →
            F ((-1)) (ku S5 39 33 1))))) ∧
    (¬ (5 ≤ v1) →
      M m_Mo_equal [.inr 39, .inl v1, .inl v2, .inl v3] S (kq fun r10 S9 =>
        (0 ≤ r10 →
          ((S9 39 33) = 0 →
            M m_Mo_fact [.inr 39, .inl r10] S9 (kq fun r12 S11 =>
              F r12 S11)) ∧
          (¬ ((S9 39 33) = 0) →
            F ((-1)) S9)) ∧
        (¬ (0 ≤ r10) →
          F ((-1)) (ku S9 39 33 1))))) ∧
  (¬ (¬ v5 = 0) →
    F ((-1)) (ku S 39 33 1))) :
  G 155 [some (.inr 39), some (.inl v1), some (.inl v2), some (.inl v3), some (.inl v4), some (.inl v5), none] [] S :=
  (h.s 155 rfl (h.s 157 rfl (And.intro (fun e13 => (h.s 164 rfl (h.s 165 rfl (h.s 166 rfl (And.intro (fun e14 => (h.s 179 rfl (h.s 180 rfl (h.s 182 rfl (And.intro (fun e15 => (h.s 195 rfl (h.s 196 rfl (h.s 197 rfl (h.s 198 rfl (h.s 199 rfl (h.s 201 rfl (And.intro (Nat.le_of_ble_eq_true rfl) (And.intro rfl (And.intro rfl (hM.q (((q.1 e13).1 e14).1 e15) (fun r2 S1 q16 => (h.s 204 rfl (h.s 206 rfl (h.s 208 rfl (And.intro (fun e17 => (h.s 216 rfl (h.s 217 rfl (h.s 220 rfl (And.intro (fun e18 => (h.s 227 rfl (h.s 228 rfl (h.s 230 rfl (And.intro (Nat.le_of_ble_eq_true rfl) (And.intro rfl (And.intro rfl (hM.q ((q16.1 e17).1 e18) (fun r4 S3 q19 => (h.s 233 rfl (kq_mk q19))))))))))) (fun e18 => (h.s 223 rfl (h.s 224 rfl (h.s 233 rfl (kq_mk ((q16.1 e17).2 e18))))))))))) (fun e17 => (h.s 211 rfl (h.s 212 rfl (h.s 213 rfl (And.intro (Or.inr rfl) (h.s 216 rfl (h.s 217 rfl (h.s 220 rfl (And.intro (fun e => absurd e (show ¬ ((1 : Int32) = (0 : Int32)) from by decide)) (fun _ => (h.s 223 rfl (h.s 224 rfl (h.s 233 rfl (kq_mk (q16.2 e17))))))))))))))))))))))))))))))) (fun e15 => (h.s 185 rfl (h.s 186 rfl (h.s 187 rfl (h.s 188 rfl (h.s 189 rfl (And.intro (Nat.le_of_ble_eq_true rfl) (And.intro rfl (And.intro rfl (hM.q (((q.1 e13).1 e14).2 e15) (fun r6 S5 q20 => (h.s 192 rfl (h.s 204 rfl (h.s 206 rfl (h.s 208 rfl (And.intro (fun e21 => (h.s 216 rfl (h.s 217 rfl (h.s 220 rfl (And.intro (fun e22 => (h.s 227 rfl (h.s 228 rfl (h.s 230 rfl (And.intro (Nat.le_of_ble_eq_true rfl) (And.intro rfl (And.intro rfl (hM.q ((q20.1 e21).1 e22) (fun r8 S7 q23 => (h.s 233 rfl (kq_mk q23))))))))))) (fun e22 => (h.s 223 rfl (h.s 224 rfl (h.s 233 rfl (kq_mk ((q20.1 e21).2 e22))))))))))) (fun e21 => (h.s 211 rfl (h.s 212 rfl (h.s 213 rfl (And.intro (Or.inr rfl) (h.s 216 rfl (h.s 217 rfl (h.s 220 rfl (And.intro (fun e => absurd e (show ¬ ((1 : Int32) = (0 : Int32)) from by decide)) (fun _ => (h.s 223 rfl (h.s 224 rfl (h.s 233 rfl (kq_mk (q20.2 e21)))))))))))))))))))))))))))))))))))) (fun e14 => (h.s 169 rfl (h.s 170 rfl (h.s 171 rfl (h.s 172 rfl (h.s 173 rfl (And.intro (Nat.le_of_ble_eq_true rfl) (And.intro rfl (And.intro rfl (hM.q ((q.1 e13).2 e14) (fun r10 S9 q24 => (h.s 176 rfl (h.s 204 rfl (h.s 206 rfl (h.s 208 rfl (And.intro (fun e25 => (h.s 216 rfl (h.s 217 rfl (h.s 220 rfl (And.intro (fun e26 => (h.s 227 rfl (h.s 228 rfl (h.s 230 rfl (And.intro (Nat.le_of_ble_eq_true rfl) (And.intro rfl (And.intro rfl (hM.q ((q24.1 e25).1 e26) (fun r12 S11 q27 => (h.s 233 rfl (kq_mk q27))))))))))) (fun e26 => (h.s 223 rfl (h.s 224 rfl (h.s 233 rfl (kq_mk ((q24.1 e25).2 e26))))))))))) (fun e25 => (h.s 211 rfl (h.s 212 rfl (h.s 213 rfl (And.intro (Or.inr rfl) (h.s 216 rfl (h.s 217 rfl (h.s 220 rfl (And.intro (fun e => absurd e (show ¬ ((1 : Int32) = (0 : Int32)) from by decide)) (fun _ => (h.s 223 rfl (h.s 224 rfl (h.s 233 rfl (kq_mk (q24.2 e25)))))))))))))))))))))))))))))))))))) (fun e13 => (h.s 160 rfl (h.s 161 rfl (h.s 204 rfl (h.s 206 rfl (h.s 208 rfl (And.intro (fun e => absurd e (show ¬ ((0 : Int32) ≤ (-1 : Int32)) from by decide)) (fun _ => (h.s 211 rfl (h.s 212 rfl (h.s 213 rfl (And.intro (Or.inr rfl) (h.s 216 rfl (h.s 217 rfl (h.s 220 rfl (And.intro (fun e => absurd e (show ¬ ((1 : Int32) = (0 : Int32)) from by decide)) (fun _ => (h.s 223 rfl (h.s 224 rfl (h.s 233 rfl (kq_mk (q.2 e13)))))))))))))))))))))))))
-- Mo_takesFact cuts []
set_option maxRecDepth 20000 in
theorem f_Mo_takesFact_0 {M : kM} (hM : kMo M) {F : Int32 → kS → Prop} {G : kG} (h : kCl kC M (kq F) 119 G) {S : kS} {a0 a1 : Int32} (q :
  (a0 = 0 →
    F 0 S) ∧
  (¬ (a0 = 0) →
    (a0 = 4 →
      F 0 S) ∧
    (¬ (a0 = 4) →
      (a0 = 5 →
        F 0 S) ∧
      (¬ (a0 = 5) →
        (¬ a1 = 2 →
          (¬ a1 = 0 →
            (a0 = 8 →
              F 0 S) ∧
            (¬ (a0 = 8) →
              (a0 = 9 →
                F 0 S) ∧
              (¬ (a0 = 9) →
                F 1 S))) ∧
          (¬ (¬ a1 = 0) →
            (a0 = 3 →
              F 0 S) ∧
            (¬ (a0 = 3) →
              F 1 S))) ∧
        (¬ (¬ a1 = 2) →
          F 0 S))))) :
  G 0 [some (.inl a0), some (.inl a1)] [] S :=
  (h.s 0 rfl (h.s 1 rfl (And.intro (fun e1 => (h.s 19 rfl (h.s 20 rfl (And.intro (Or.inl rfl) (kq_mk (q.1 e1)))))) (fun e1 => (h.s 4 rfl (h.s 5 rfl (h.s 6 rfl (And.intro (fun e2 => (h.s 19 rfl (h.s 20 rfl (And.intro (Or.inl rfl) (kq_mk ((q.2 e1).1 e2)))))) (fun e2 => (h.s 9 rfl (h.s 10 rfl (h.s 11 rfl (And.intro (fun e3 => (h.s 19 rfl (h.s 20 rfl (And.intro (Or.inl rfl) (kq_mk (((q.2 e1).2 e2).1 e3)))))) (fun e3 => (h.s 14 rfl (h.s 15 rfl (h.s 16 rfl (And.intro (fun e4 => (h.s 21 rfl (h.s 22 rfl (And.intro (fun e5 => (h.s 36 rfl (h.s 37 rfl (h.s 39 rfl (And.intro (fun e6 => (h.s 52 rfl (h.s 53 rfl (And.intro (Or.inl rfl) (kq_mk ((((((q.2 e1).2 e2).2 e3).1 e4).1 e5).1 e6)))))) (fun e6 => (h.s 42 rfl (h.s 43 rfl (h.s 45 rfl (And.intro (fun e7 => (h.s 52 rfl (h.s 53 rfl (And.intro (Or.inl rfl) (kq_mk (((((((q.2 e1).2 e2).2 e3).1 e4).1 e5).2 e6).1 e7)))))) (fun e7 => (h.s 48 rfl (h.s 49 rfl (h.s 53 rfl (And.intro (Or.inr rfl) (kq_mk (((((((q.2 e1).2 e2).2 e3).1 e4).1 e5).2 e6).2 e7))))))))))))))))) (fun e5 => (h.s 25 rfl (h.s 26 rfl (h.s 27 rfl (And.intro (fun e8 => (h.s 34 rfl (h.s 35 rfl (And.intro (Or.inl rfl) (kq_mk ((((((q.2 e1).2 e2).2 e3).1 e4).2 e5).1 e8)))))) (fun e8 => (h.s 30 rfl (h.s 31 rfl (h.s 35 rfl (And.intro (Or.inr rfl) (kq_mk ((((((q.2 e1).2 e2).2 e3).1 e4).2 e5).2 e8)))))))))))))))) (fun e4 => (h.s 19 rfl (h.s 20 rfl (And.intro (Or.inl rfl) (kq_mk ((((q.2 e1).2 e2).2 e3).2 e4))))))))))))))))))))))))
theorem g_Mo_takesFact {d : Nat} {F : Int32 → kS → Prop} {S : kS} {a0 a1 : Int32} (q :
  (a0 = 0 →
    F 0 S) ∧
  (¬ (a0 = 0) →
    (a0 = 4 →
      F 0 S) ∧
    (¬ (a0 = 4) →
      (a0 = 5 →
        F 0 S) ∧
      (¬ (a0 = 5) →
        (¬ a1 = 2 →
          (¬ a1 = 0 →
            (a0 = 8 →
              F 0 S) ∧
            (¬ (a0 = 8) →
              (a0 = 9 →
                F 0 S) ∧
              (¬ (a0 = 9) →
                F 1 S))) ∧
          (¬ (¬ a1 = 0) →
            (a0 = 3 →
              F 0 S) ∧
            (¬ (a0 = 3) →
              F 1 S))) ∧
        (¬ (¬ a1 = 2) →
          F 0 S))))) :
  kK (d + 1) m_Mo_takesFact [.inl a0, .inl a1] S (kq F) := kspec_of (fun _ h => f_Mo_takesFact_0 kspec_Mo h q)
-- Mo_isFact cuts []
set_option maxRecDepth 20000 in
theorem f_Mo_isFact_0 {M : kM} (hM : kMo M) {F : Int32 → kS → Prop} {G : kG} (h : kCl kC M (kq F) 120 G) {S : kS} {a0 : Int32} (q :
  (a0 < 0 →
    F 0 S) ∧
  (¬ (a0 < 0) →
    ((S 39 20) ≤ a0 →
      F 0 S) ∧
    (¬ ((S 39 20) ≤ a0) →
      F 1 S))) :
  G 0 [some (.inr 39), some (.inl a0)] [] S :=
  (h.s 0 rfl (h.s 1 rfl (And.intro (fun e1 => (h.s 16 rfl (h.s 17 rfl (And.intro (Or.inl rfl) (kq_mk (q.1 e1)))))) (fun e1 => (h.s 4 rfl (h.s 5 rfl (h.s 6 rfl (h.s 9 rfl (And.intro (fun e2 => (h.s 16 rfl (h.s 17 rfl (And.intro (Or.inl rfl) (kq_mk ((q.2 e1).1 e2)))))) (fun e2 => (h.s 12 rfl (h.s 13 rfl (h.s 17 rfl (And.intro (Or.inr rfl) (kq_mk ((q.2 e1).2 e2))))))))))))))))
theorem g_Mo_isFact {d : Nat} {F : Int32 → kS → Prop} {S : kS} {a0 : Int32} (q :
  (a0 < 0 →
    F 0 S) ∧
  (¬ (a0 < 0) →
    ((S 39 20) ≤ a0 →
      F 0 S) ∧
    (¬ ((S 39 20) ≤ a0) →
      F 1 S))) :
  kK (d + 1) m_Mo_isFact [.inr 39, .inl a0] S (kq F) := kspec_of (fun _ h => f_Mo_isFact_0 kspec_Mo h q)
-- Mo_equal cuts [151]
set_option maxRecDepth 20000 in
theorem f_Mo_equal_0 {M : kM} (hM : kMo M) {F : Int32 → kS → Prop} {G : kG} (h : kCl kC M (kq F) 121 G) {S : kS} {a0 a1 a2 : Int32} (q :
  (¬ a0 = 0 →
    (¬ a0 = 4 →
      vp_in a2 60 ∧
      M m_Mo_isEquation [.inr 39, .inl (S 54 (a2.toNatClampNeg))] S (kq fun r2 S1 =>
        (¬ r2 = 0 →
          (¬ a0 = 3 →
            vp_in a1 60 ∧
            M m_Mo_isEquation [.inr 39, .inl (S1 54 (a1.toNatClampNeg))] S1 (kq fun r4 S3 =>
              (¬ r4 = 0 →
                M m_Mo_assumeAll [.inr 39, .inl a1, .inl ((-1))] S3 (kv fun S5 =>
                  M m_Mo_assumeAll [.inr 39, .inl a2, .inl ((-1))] S5 (kv fun S6 =>
                    (¬ a0 = 1 →
                      M m_Mo_left [.inr 39, .inl (S1 54 (a1.toNatClampNeg))] S6 (kq fun r8 S7 =>
                        M m_Mo_left [.inr 39, .inl (S 54 (a2.toNatClampNeg))] S7 (kq fun r10 S9 =>
                          M m_Mo_fits [.inr 39, .inl r8, .inl r10] S9 (kq fun r12 S11 =>
                            (¬ r12 = 0 →
                              M m_Mo_left [.inr 39, .inl (S1 54 (a1.toNatClampNeg))] S11 (kq fun r14 S13 =>
                                M m_Mo_left [.inr 39, .inl (S 54 (a2.toNatClampNeg))] S13 (kq fun r16 S15 =>
                                  M m_Mo_application [.inr 39, .inl r14, .inl r16] S15 (kq fun r18 S17 =>
                                    vp_in (S1 54 (a1.toNatClampNeg)) 250 ∧
                                    vp_in (S 54 (a2.toNatClampNeg)) 250 ∧
                                    M m_Mo_application [.inr 39, .inl (S17 49 ((S1 54 (a1.toNatClampNeg)).toNatClampNeg)), .inl (S17 49 ((S 54 (a2.toNatClampNeg)).toNatClampNeg))] S17 (kq fun r20 S19 =>
                                      M m_Mo_equation [.inr 39, .inl r18, .inl r20] S19 (kq fun r22 S21 =>
                                        F r22 S21)))))) ∧
                            (¬ (¬ r12 = 0) →
                              F ((-1)) S11))))) ∧
                    (¬ (¬ a0 = 1) →
                      vp_in (S1 54 (a1.toNatClampNeg)) 250 ∧
                      M m_Mo_left [.inr 39, .inl (S 54 (a2.toNatClampNeg))] S6 (kq fun r24 S23 =>
                        (¬ (S6 49 ((S1 54 (a1.toNatClampNeg)).toNatClampNeg)) = r24 →
                          F ((-1)) S23) ∧
                        (¬ (¬ (S6 49 ((S1 54 (a1.toNatClampNeg)).toNatClampNeg)) = r24) →
                          M m_Mo_left [.inr 39, .inl (S1 54 (a1.toNatClampNeg))] S23 (kq fun r26 S25 =>
                            vp_in (S 54 (a2.toNatClampNeg)) 250 ∧
                            M m_Mo_equation [.inr 39, .inl r26, .inl (S25 49 ((S 54 (a2.toNatClampNeg)).toNatClampNeg))] S25 (kq fun r28 S27 =>
                              F r28 S27)))))))) ∧
              (¬ (¬ r4 = 0) →
                F ((-1)) S3))) ∧
          (¬ (¬ a0 = 3) →
            vp_in a1 250 ∧
            vp_in (S1 53 (a1.toNatClampNeg)) 250 ∧
            ((S1 47 ((S1 53 (a1.toNatClampNeg)).toNatClampNeg)) = 0 →
              G 151 [some (.inr 39), some (.inl a0), some (.inl a1), some (.inl a2), some (.inl (S 54 (a2.toNatClampNeg))), some (.inl (S1 53 (a1.toNatClampNeg))), some (.inl 0), some (.inl 0), none] [] S1) ∧
            (¬ ((S1 47 ((S1 53 (a1.toNatClampNeg)).toNatClampNeg)) = 0) →
              G 151 [some (.inr 39), some (.inl a0), some (.inl a1), some (.inl a2), some (.inl (S 54 (a2.toNatClampNeg))), some (.inl (S1 53 (a1.toNatClampNeg))), some (.inl 1), some (.inl 0), none] [] S1))) ∧
        (¬ (¬ r2 = 0) →
          F ((-1)) S1))) ∧
    (¬ (¬ a0 = 4) →
      vp_in a1 250 ∧
      vp_in (S 53 (a1.toNatClampNeg)) 250 ∧
      (¬ (S 47 ((S 53 (a1.toNatClampNeg)).toNatClampNeg)) = 3 →
        F ((-1)) S) ∧
      (¬ (¬ (S 47 ((S 53 (a1.toNatClampNeg)).toNatClampNeg)) = 3) →
        vp_in (S 53 (a1.toNatClampNeg)) 250 ∧
        vp_in (S 48 ((S 53 (a1.toNatClampNeg)).toNatClampNeg)) 250 ∧
        ((S 47 ((S 48 ((S 53 (a1.toNatClampNeg)).toNatClampNeg)).toNatClampNeg)) = 4 →
          vp_in (S 53 (a1.toNatClampNeg)) 250 ∧
          vp_in (S 48 ((S 53 (a1.toNatClampNeg)).toNatClampNeg)) 250 ∧
          vp_in (S 53 (a1.toNatClampNeg)) 250 ∧
          M m_Mo_changed [.inr 39, .inl (S 49 ((S 48 ((S 53 (a1.toNatClampNeg)).toNatClampNeg)).toNatClampNeg)), .inl 1, .inl 0, .inl (S 49 ((S 53 (a1.toNatClampNeg)).toNatClampNeg))] S (kq fun r30 S29 =>
            M m_Mo_equation [.inr 39, .inl (S 53 (a1.toNatClampNeg)), .inl r30] S29 (kq fun r32 S31 =>
              F r32 S31))) ∧
        (¬ ((S 47 ((S 48 ((S 53 (a1.toNatClampNeg)).toNatClampNeg)).toNatClampNeg)) = 4) →
          F ((-1)) S)))) ∧
  (¬ (¬ a0 = 0) →
    vp_in a1 250 ∧
    vp_in a1 250 ∧
    M m_Mo_equation [.inr 39, .inl (S 53 (a1.toNatClampNeg)), .inl (S 53 (a1.toNatClampNeg))] S (kq fun r34 S33 =>
      F r34 S33))) :
  G 0 [some (.inr 39), some (.inl a0), some (.inl a1), some (.inl a2), none, none, none, none, none] [] S :=
  (h.s 0 rfl (h.s 1 rfl (And.intro (fun e35 => (h.s 21 rfl (h.s 22 rfl (h.s 23 rfl (And.intro (fun e36 => (h.s 99 rfl (h.s 100 rfl (h.s 103 rfl (h.s 104 rfl (And.intro ((q.1 e35).1 e36).1 (h.s 105 rfl (h.s 107 rfl (h.s 108 rfl (h.s 110 rfl (And.intro (Nat.le_of_ble_eq_true rfl) (And.intro rfl (And.intro rfl (hM.q ((q.1 e35).1 e36).2 (fun r2 S1 q37 => (h.s 113 rfl (And.intro (fun e38 => (h.s 118 rfl (h.s 119 rfl (h.s 120 rfl (And.intro (fun e39 => (h.s 252 rfl (h.s 253 rfl (h.s 256 rfl (h.s 257 rfl (And.intro ((q37.1 e38).1 e39).1 (h.s 258 rfl (h.s 260 rfl (h.s 261 rfl (h.s 263 rfl (And.intro (Nat.le_of_ble_eq_true rfl) (And.intro rfl (And.intro rfl (hM.q ((q37.1 e38).1 e39).2 (fun r4 S3 q40 => (h.s 266 rfl (And.intro (fun e41 => (h.s 271 rfl (h.s 272 rfl (h.s 273 rfl (h.s 274 rfl (And.intro (Nat.le_of_ble_eq_true rfl) (And.intro rfl (And.intro rfl (hM.v (q40.1 e41) (fun S5 q42 => (h.s 277 rfl (h.s 278 rfl (h.s 279 rfl (h.s 280 rfl (And.intro (Nat.le_of_ble_eq_true rfl) (And.intro rfl (And.intro rfl (hM.v q42 (fun S6 q43 => (h.s 283 rfl (h.s 284 rfl (h.s 285 rfl (And.intro (fun e44 => (h.s 326 rfl (h.s 327 rfl (h.s 328 rfl (h.s 330 rfl (And.intro (Nat.le_of_ble_eq_true rfl) (And.intro rfl (And.intro rfl (hM.q (q43.1 e44) (fun r8 S7 q45 => (h.s 333 rfl (h.s 334 rfl (h.s 336 rfl (And.intro (Nat.le_of_ble_eq_true rfl) (And.intro rfl (And.intro rfl (hM.q q45 (fun r10 S9 q46 => (h.s 339 rfl (And.intro (Nat.le_of_ble_eq_true rfl) (And.intro rfl (And.intro rfl (hM.q q46 (fun r12 S11 q47 => (h.s 342 rfl (And.intro (fun e48 => (h.s 347 rfl (h.s 348 rfl (h.s 349 rfl (h.s 351 rfl (And.intro (Nat.le_of_ble_eq_true rfl) (And.intro rfl (And.intro rfl (hM.q (q47.1 e48) (fun r14 S13 q49 => (h.s 354 rfl (h.s 355 rfl (h.s 357 rfl (And.intro (Nat.le_of_ble_eq_true rfl) (And.intro rfl (And.intro rfl (hM.q q49 (fun r16 S15 q50 => (h.s 360 rfl (And.intro (Nat.le_of_ble_eq_true rfl) (And.intro rfl (And.intro rfl (hM.q q50 (fun r18 S17 q51 => (h.s 363 rfl (h.s 365 rfl (h.s 366 rfl (h.s 367 rfl (h.s 370 rfl (h.s 372 rfl (And.intro q51.1 (h.s 373 rfl (h.s 374 rfl (h.s 377 rfl (h.s 379 rfl (And.intro q51.2.1 (h.s 380 rfl (And.intro (Nat.le_of_ble_eq_true rfl) (And.intro rfl (And.intro rfl (hM.q q51.2.2 (fun r20 S19 q52 => (h.s 383 rfl (h.s 385 rfl (h.s 386 rfl (h.s 388 rfl (h.s 390 rfl (And.intro (Nat.le_of_ble_eq_true rfl) (And.intro rfl (And.intro rfl (hM.q q52 (fun r22 S21 q53 => (h.s 393 rfl (kq_mk q53)))))))))))))))))))))))))))))))))))))))))))))))))))))) (fun e48 => (h.s 345 rfl (h.s 346 rfl (kq_mk (q47.2 e48))))))))))))))))))))))))))))))) (fun e44 => (h.s 288 rfl (h.s 289 rfl (h.s 292 rfl (h.s 294 rfl (And.intro (q43.2 e44).1 (h.s 295 rfl (h.s 296 rfl (h.s 298 rfl (And.intro (Nat.le_of_ble_eq_true rfl) (And.intro rfl (And.intro rfl (hM.q (q43.2 e44).2 (fun r24 S23 q54 => (h.s 301 rfl (And.intro (fun e55 => (h.s 324 rfl (h.s 325 rfl (kq_mk (q54.1 e55))))) (fun e55 => (h.s 304 rfl (h.s 305 rfl (h.s 306 rfl (h.s 308 rfl (And.intro (Nat.le_of_ble_eq_true rfl) (And.intro rfl (And.intro rfl (hM.q (q54.2 e55) (fun r26 S25 q56 => (h.s 311 rfl (h.s 312 rfl (h.s 315 rfl (h.s 317 rfl (And.intro q56.1 (h.s 318 rfl (And.intro (Nat.le_of_ble_eq_true rfl) (And.intro rfl (And.intro rfl (hM.q q56.2 (fun r28 S27 q57 => (h.s 321 rfl (h.s 325 rfl (kq_mk q57))))))))))))))))))))))))))))))))))))))))))))))))))))))))))))))) (fun e41 => (h.s 269 rfl (h.s 270 rfl (kq_mk (q40.2 e41)))))))))))))))))))))) (fun e39 => (h.s 123 rfl (h.s 124 rfl (h.s 127 rfl (h.s 128 rfl (And.intro ((q37.1 e38).2 e39).1 (h.s 129 rfl (h.s 131 rfl (h.s 132 rfl (h.s 135 rfl (h.s 137 rfl (And.intro ((q37.1 e38).2 e39).2.1 (h.s 138 rfl (And.intro (fun e58 => (h.s 145 rfl (h.s 146 rfl (h.s 148 rfl (h.s 149 rfl (((q37.1 e38).2 e39).2.2.1 e58)))))) (fun e58 => (h.s 141 rfl (h.s 142 rfl (h.s 146 rfl (h.s 148 rfl (h.s 149 rfl (((q37.1 e38).2 e39).2.2.2 e58)))))))))))))))))))))))))) (fun e38 => (h.s 116 rfl (h.s 117 rfl (kq_mk (q37.2 e38)))))))))))))))))))))) (fun e36 => (h.s 26 rfl (h.s 27 rfl (h.s 30 rfl (h.s 31 rfl (And.intro ((q.1 e35).2 e36).1 (h.s 32 rfl (h.s 34 rfl (h.s 35 rfl (h.s 38 rfl (h.s 40 rfl (And.intro ((q.1 e35).2 e36).2.1 (h.s 41 rfl (h.s 42 rfl (And.intro (fun e59 => (h.s 61 rfl (h.s 62 rfl (kq_mk (((q.1 e35).2 e36).2.2.1 e59))))) (fun e59 => (h.s 45 rfl (h.s 46 rfl (h.s 49 rfl (h.s 50 rfl (h.s 53 rfl (h.s 55 rfl (And.intro (((q.1 e35).2 e36).2.2.2 e59).1 (h.s 56 rfl (And.intro (((q.1 e35).2 e36).2.2.2 e59).2.1 (h.s 57 rfl (h.s 58 rfl (And.intro (fun e60 => (h.s 63 rfl (h.s 64 rfl (h.s 65 rfl (h.s 68 rfl (h.s 69 rfl (h.s 72 rfl (h.s 74 rfl (And.intro ((((q.1 e35).2 e36).2.2.2 e59).2.2.1 e60).1 (h.s 75 rfl (And.intro ((((q.1 e35).2 e36).2.2.2 e59).2.2.1 e60).2.1 (h.s 76 rfl (h.s 77 rfl (h.s 78 rfl (h.s 79 rfl (h.s 82 rfl (h.s 84 rfl (And.intro ((((q.1 e35).2 e36).2.2.2 e59).2.2.1 e60).2.2.1 (h.s 85 rfl (And.intro (Nat.le_of_ble_eq_true rfl) (And.intro rfl (And.intro rfl (hM.q ((((q.1 e35).2 e36).2.2.2 e59).2.2.1 e60).2.2.2 (fun r30 S29 q61 => (h.s 88 rfl (h.s 90 rfl (h.s 91 rfl (h.s 93 rfl (h.s 95 rfl (And.intro (Nat.le_of_ble_eq_true rfl) (And.intro rfl (And.intro rfl (hM.q q61 (fun r32 S31 q62 => (h.s 98 rfl (kq_mk q62)))))))))))))))))))))))))))))))))))) (fun e60 => (h.s 61 rfl (h.s 62 rfl (kq_mk ((((q.1 e35).2 e36).2.2.2 e59).2.2.2 e60)))))))))))))))))))))))))))))))))))))) (fun e35 => (h.s 4 rfl (h.s 5 rfl (h.s 6 rfl (h.s 9 rfl (h.s 10 rfl (And.intro (q.2 e35).1 (h.s 11 rfl (h.s 12 rfl (h.s 15 rfl (h.s 16 rfl (And.intro (q.2 e35).2.1 (h.s 17 rfl (And.intro (Nat.le_of_ble_eq_true rfl) (And.intro rfl (And.intro rfl (hM.q (q.2 e35).2.2 (fun r34 S33 q63 => (h.s 20 rfl (kq_mk q63)))))))))))))))))))))))
theorem g_Mo_equal {d : Nat} {F : Int32 → kS → Prop} {S : kS} {a0 a1 a2 : Int32} (q : ∀ G : kG, kCl kC (kK d) (kq F) 121 G →
  (¬ a0 = 0 →
    (¬ a0 = 4 →
      vp_in a2 60 ∧
      kK d m_Mo_isEquation [.inr 39, .inl (S 54 (a2.toNatClampNeg))] S (kq fun r2 S1 =>
        (¬ r2 = 0 →
          (¬ a0 = 3 →
            vp_in a1 60 ∧
            kK d m_Mo_isEquation [.inr 39, .inl (S1 54 (a1.toNatClampNeg))] S1 (kq fun r4 S3 =>
              (¬ r4 = 0 →
                kK d m_Mo_assumeAll [.inr 39, .inl a1, .inl ((-1))] S3 (kv fun S5 =>
                  kK d m_Mo_assumeAll [.inr 39, .inl a2, .inl ((-1))] S5 (kv fun S6 =>
                    (¬ a0 = 1 →
                      kK d m_Mo_left [.inr 39, .inl (S1 54 (a1.toNatClampNeg))] S6 (kq fun r8 S7 =>
                        kK d m_Mo_left [.inr 39, .inl (S 54 (a2.toNatClampNeg))] S7 (kq fun r10 S9 =>
                          kK d m_Mo_fits [.inr 39, .inl r8, .inl r10] S9 (kq fun r12 S11 =>
                            (¬ r12 = 0 →
                              kK d m_Mo_left [.inr 39, .inl (S1 54 (a1.toNatClampNeg))] S11 (kq fun r14 S13 =>
                                kK d m_Mo_left [.inr 39, .inl (S 54 (a2.toNatClampNeg))] S13 (kq fun r16 S15 =>
                                  kK d m_Mo_application [.inr 39, .inl r14, .inl r16] S15 (kq fun r18 S17 =>
                                    vp_in (S1 54 (a1.toNatClampNeg)) 250 ∧
                                    vp_in (S 54 (a2.toNatClampNeg)) 250 ∧
                                    kK d m_Mo_application [.inr 39, .inl (S17 49 ((S1 54 (a1.toNatClampNeg)).toNatClampNeg)), .inl (S17 49 ((S 54 (a2.toNatClampNeg)).toNatClampNeg))] S17 (kq fun r20 S19 =>
                                      kK d m_Mo_equation [.inr 39, .inl r18, .inl r20] S19 (kq fun r22 S21 =>
                                        F r22 S21)))))) ∧
                            (¬ (¬ r12 = 0) →
                              F ((-1)) S11))))) ∧
                    (¬ (¬ a0 = 1) →
                      vp_in (S1 54 (a1.toNatClampNeg)) 250 ∧
                      kK d m_Mo_left [.inr 39, .inl (S 54 (a2.toNatClampNeg))] S6 (kq fun r24 S23 =>
                        (¬ (S6 49 ((S1 54 (a1.toNatClampNeg)).toNatClampNeg)) = r24 →
                          F ((-1)) S23) ∧
                        (¬ (¬ (S6 49 ((S1 54 (a1.toNatClampNeg)).toNatClampNeg)) = r24) →
                          kK d m_Mo_left [.inr 39, .inl (S1 54 (a1.toNatClampNeg))] S23 (kq fun r26 S25 =>
                            vp_in (S 54 (a2.toNatClampNeg)) 250 ∧
                            kK d m_Mo_equation [.inr 39, .inl r26, .inl (S25 49 ((S 54 (a2.toNatClampNeg)).toNatClampNeg))] S25 (kq fun r28 S27 =>
                              F r28 S27)))))))) ∧
              (¬ (¬ r4 = 0) →
                F ((-1)) S3))) ∧
          (¬ (¬ a0 = 3) →
            vp_in a1 250 ∧
            vp_in (S1 53 (a1.toNatClampNeg)) 250 ∧
            ((S1 47 ((S1 53 (a1.toNatClampNeg)).toNatClampNeg)) = 0 →
              G 151 [some (.inr 39), some (.inl a0), some (.inl a1), some (.inl a2), some (.inl (S 54 (a2.toNatClampNeg))), some (.inl (S1 53 (a1.toNatClampNeg))), some (.inl 0), some (.inl 0), none] [] S1) ∧
            (¬ ((S1 47 ((S1 53 (a1.toNatClampNeg)).toNatClampNeg)) = 0) →
              G 151 [some (.inr 39), some (.inl a0), some (.inl a1), some (.inl a2), some (.inl (S 54 (a2.toNatClampNeg))), some (.inl (S1 53 (a1.toNatClampNeg))), some (.inl 1), some (.inl 0), none] [] S1))) ∧
        (¬ (¬ r2 = 0) →
          F ((-1)) S1))) ∧
    (¬ (¬ a0 = 4) →
      vp_in a1 250 ∧
      vp_in (S 53 (a1.toNatClampNeg)) 250 ∧
      (¬ (S 47 ((S 53 (a1.toNatClampNeg)).toNatClampNeg)) = 3 →
        F ((-1)) S) ∧
      (¬ (¬ (S 47 ((S 53 (a1.toNatClampNeg)).toNatClampNeg)) = 3) →
        vp_in (S 53 (a1.toNatClampNeg)) 250 ∧
        vp_in (S 48 ((S 53 (a1.toNatClampNeg)).toNatClampNeg)) 250 ∧
        ((S 47 ((S 48 ((S 53 (a1.toNatClampNeg)).toNatClampNeg)).toNatClampNeg)) = 4 →
          vp_in (S 53 (a1.toNatClampNeg)) 250 ∧
          vp_in (S 48 ((S 53 (a1.toNatClampNeg)).toNatClampNeg)) 250 ∧
          vp_in (S 53 (a1.toNatClampNeg)) 250 ∧
          kK d m_Mo_changed [.inr 39, .inl (S 49 ((S 48 ((S 53 (a1.toNatClampNeg)).toNatClampNeg)).toNatClampNeg)), .inl 1, .inl 0, .inl (S 49 ((S 53 (a1.toNatClampNeg)).toNatClampNeg))] S (kq fun r30 S29 =>
            kK d m_Mo_equation [.inr 39, .inl (S 53 (a1.toNatClampNeg)), .inl r30] S29 (kq fun r32 S31 =>
              F r32 S31))) ∧
        (¬ ((S 47 ((S 48 ((S 53 (a1.toNatClampNeg)).toNatClampNeg)).toNatClampNeg)) = 4) →
          F ((-1)) S)))) ∧
  (¬ (¬ a0 = 0) →
    vp_in a1 250 ∧
    vp_in a1 250 ∧
    kK d m_Mo_equation [.inr 39, .inl (S 53 (a1.toNatClampNeg)), .inl (S 53 (a1.toNatClampNeg))] S (kq fun r34 S33 =>
      F r34 S33))) :
  kK (d + 1) m_Mo_equal [.inr 39, .inl a0, .inl a1, .inl a2] S (kq F) := kspec_of (fun G h => f_Mo_equal_0 kspec_Mo h (q G h))
set_option maxRecDepth 20000 in
theorem f_Mo_equal_151 {M : kM} (hM : kMo M) {F : Int32 → kS → Prop} {G : kG} (h : kCl kC M (kq F) 121 G) {S : kS} {v1 v2 v3 v4 v5 v6 v7 : Int32} (q :
  vp_in v3 60 ∧
  ((S 55 (v3.toNatClampNeg)) ≤ v7 →
    (v6 = 0 →
      M m_Mo_assumeAll [.inr 39, .inl v3, .inl ((-1))] S (kv fun S1 =>
        M m_Mo_left [.inr 39, .inl v4] S1 (kq fun r3 S2 =>
          M m_Mo_closedOver [.inr 39, .inl v5, .inl r3] S2 (kq fun r5 S4 =>
            vp_in v4 250 ∧
            M m_Mo_closedOver [.inr 39, .inl v5, .inl (S4 49 (v4.toNatClampNeg))] S4 (kq fun r7 S6 =>
              M m_Mo_equation [.inr 39, .inl r5, .inl r7] S6 (kq fun r9 S8 =>
                F r9 S8)))))) ∧
    (¬ (v6 = 0) →
      F ((-1)) S)) ∧
  (¬ ((S 55 (v3.toNatClampNeg)) ≤ v7) →
    (¬ v6 = 0 →
      G 151 [some (.inr 39), some (.inl v1), some (.inl v2), some (.inl v3), some (.inl v4), some (.inl v5), some (.inl 1), some (.inl (v7 + 1)), none] [] S) ∧
    (¬ (¬ v6 = 0) →
      vp_in ((12 * v3) + v7) 720 ∧
      M m_Mo_has [.inr 39, .inl (S 56 (((12 * v3) + v7).toNatClampNeg)), .inl v5] S (kq fun r11 S10 =>
        (r11 = 0 →
          G 151 [some (.inr 39), some (.inl v1), some (.inl v2), some (.inl v3), some (.inl v4), some (.inl v5), some (.inl 0), some (.inl (v7 + 1)), none] [] S10) ∧
        (¬ (r11 = 0) →
          G 151 [some (.inr 39), some (.inl v1), some (.inl v2), some (.inl v3), some (.inl v4), some (.inl v5), some (.inl 1), some (.inl (v7 + 1)), none] [] S10))))) :
  G 151 [some (.inr 39), some (.inl v1), some (.inl v2), some (.inl v3), some (.inl v4), some (.inl v5), some (.inl v6), some (.inl v7), none] [] S :=
  (h.s 151 rfl (h.s 153 rfl (h.s 154 rfl (h.s 157 rfl (h.s 158 rfl (And.intro q.1 (h.s 159 rfl (And.intro (fun e12 => (h.s 201 rfl (h.s 203 rfl (And.intro (fun e13 => (h.s 208 rfl (h.s 209 rfl (h.s 210 rfl (h.s 211 rfl (And.intro (Nat.le_of_ble_eq_true rfl) (And.intro rfl (And.intro rfl (hM.v ((q.2.1 e12).1 e13) (fun S1 q14 => (h.s 214 rfl (h.s 215 rfl (h.s 217 rfl (h.s 218 rfl (h.s 220 rfl (And.intro (Nat.le_of_ble_eq_true rfl) (And.intro rfl (And.intro rfl (hM.q q14 (fun r3 S2 q15 => (h.s 223 rfl (And.intro (Nat.le_of_ble_eq_true rfl) (And.intro rfl (And.intro rfl (hM.q q15 (fun r5 S4 q16 => (h.s 226 rfl (h.s 228 rfl (h.s 229 rfl (h.s 231 rfl (h.s 232 rfl (h.s 235 rfl (h.s 237 rfl (And.intro q16.1 (h.s 238 rfl (And.intro (Nat.le_of_ble_eq_true rfl) (And.intro rfl (And.intro rfl (hM.q q16.2 (fun r7 S6 q17 => (h.s 241 rfl (h.s 243 rfl (h.s 244 rfl (h.s 246 rfl (h.s 248 rfl (And.intro (Nat.le_of_ble_eq_true rfl) (And.intro rfl (And.intro rfl (hM.q q17 (fun r9 S8 q18 => (h.s 251 rfl (kq_mk q18)))))))))))))))))))))))))))))))))))))))))))))))))))) (fun e13 => (h.s 206 rfl (h.s 207 rfl (kq_mk ((q.2.1 e12).2 e13))))))))) (fun e12 => (h.s 162 rfl (h.s 164 rfl (And.intro (fun e19 => (h.s 188 rfl (h.s 189 rfl (h.s 193 rfl (h.s 195 rfl (h.s 198 rfl ((q.2.2 e12).1 e19))))))) (fun e19 => (h.s 167 rfl (h.s 168 rfl (h.s 169 rfl (h.s 172 rfl (h.s 174 rfl (h.s 175 rfl (h.s 176 rfl (h.s 178 rfl (h.s 179 rfl (And.intro ((q.2.2 e12).2 e19).1 (h.s 180 rfl (h.s 182 rfl (And.intro (Nat.le_of_ble_eq_true rfl) (And.intro rfl (And.intro rfl (hM.q ((q.2.2 e12).2 e19).2 (fun r11 S10 q20 => (h.s 185 rfl (And.intro (fun e21 => (h.s 192 rfl (h.s 193 rfl (h.s 195 rfl (h.s 198 rfl (q20.1 e21)))))) (fun e21 => (h.s 188 rfl (h.s 189 rfl (h.s 193 rfl (h.s 195 rfl (h.s 198 rfl (q20.2 e21)))))))))))))))))))))))))))))))))))))))
-- Mo_equation cuts []
set_option maxRecDepth 20000 in
theorem f_Mo_equation_0 {M : kM} (hM : kMo M) {F : Int32 → kS → Prop} {G : kG} (h : kCl kC M (kq F) 122 G) {S : kS} {a0 a1 : Int32} (q :
  vp_in a0 250 ∧
  M m_Mo_same [.inr 39, .inl (S 50 (a0.toNatClampNeg))] S (kq fun r2 S1 =>
    M m_Mo_application [.inr 39, .inl r2, .inl a0] S1 (kq fun r4 S3 =>
      M m_Mo_application [.inr 39, .inl r4, .inl a1] S3 (kq fun r6 S5 =>
        F r6 S5)))) :
  G 0 [some (.inr 39), some (.inl a0), some (.inl a1), none, none] [] S :=
  (h.s 0 rfl (h.s 1 rfl (h.s 2 rfl (h.s 5 rfl (h.s 6 rfl (And.intro q.1 (h.s 7 rfl (And.intro (Nat.le_of_ble_eq_true rfl) (And.intro rfl (And.intro rfl (hM.q q.2 (fun r2 S1 q7 => (h.s 10 rfl (h.s 11 rfl (h.s 12 rfl (h.s 13 rfl (h.s 14 rfl (And.intro (Nat.le_of_ble_eq_true rfl) (And.intro rfl (And.intro rfl (hM.q q7 (fun r4 S3 q8 => (h.s 17 rfl (h.s 19 rfl (h.s 20 rfl (h.s 22 rfl (h.s 23 rfl (And.intro (Nat.le_of_ble_eq_true rfl) (And.intro rfl (And.intro rfl (hM.q q8 (fun r6 S5 q9 => (h.s 26 rfl (kq_mk q9))))))))))))))))))))))))))))))))))
theorem g_Mo_equation {d : Nat} {F : Int32 → kS → Prop} {S : kS} {a0 a1 : Int32} (q :
  vp_in a0 250 ∧
  kK d m_Mo_same [.inr 39, .inl (S 50 (a0.toNatClampNeg))] S (kq fun r2 S1 =>
    kK d m_Mo_application [.inr 39, .inl r2, .inl a0] S1 (kq fun r4 S3 =>
      kK d m_Mo_application [.inr 39, .inl r4, .inl a1] S3 (kq fun r6 S5 =>
        F r6 S5)))) :
  kK (d + 1) m_Mo_equation [.inr 39, .inl a0, .inl a1] S (kq F) := kspec_of (fun _ h => f_Mo_equation_0 kspec_Mo h q)
-- Mo_isEquation cuts []
set_option maxRecDepth 20000 in
theorem f_Mo_isEquation_0 {M : kM} (hM : kMo M) {F : Int32 → kS → Prop} {G : kG} (h : kCl kC M (kq F) 123 G) {S : kS} {a0 : Int32} (q :
  vp_in a0 250 ∧
  (¬ (S 47 (a0.toNatClampNeg)) = 3 →
    F 0 S) ∧
  (¬ (¬ (S 47 (a0.toNatClampNeg)) = 3) →
    vp_in a0 250 ∧
    vp_in (S 48 (a0.toNatClampNeg)) 250 ∧
    (¬ (S 47 ((S 48 (a0.toNatClampNeg)).toNatClampNeg)) = 3 →
      F 0 S) ∧
    (¬ (¬ (S 47 ((S 48 (a0.toNatClampNeg)).toNatClampNeg)) = 3) →
      vp_in a0 250 ∧
      vp_in (S 48 (a0.toNatClampNeg)) 250 ∧
      vp_in (S 48 ((S 48 (a0.toNatClampNeg)).toNatClampNeg)) 250 ∧
      (¬ (S 47 ((S 48 ((S 48 (a0.toNatClampNeg)).toNatClampNeg)).toNatClampNeg)) = 1 →
        F 0 S) ∧
      (¬ (¬ (S 47 ((S 48 ((S 48 (a0.toNatClampNeg)).toNatClampNeg)).toNatClampNeg)) = 1) →
        F 1 S)))) :
  G 0 [some (.inr 39), some (.inl a0)] [] S :=
  (h.s 0 rfl (h.s 1 rfl (h.s 4 rfl (h.s 5 rfl (And.intro q.1 (h.s 6 rfl (h.s 7 rfl (And.intro (fun e1 => (h.s 49 rfl (h.s 50 rfl (And.intro (Or.inl rfl) (kq_mk (q.2.1 e1)))))) (fun e1 => (h.s 10 rfl (h.s 11 rfl (h.s 14 rfl (h.s 15 rfl (h.s 18 rfl (h.s 19 rfl (And.intro (q.2.2 e1).1 (h.s 20 rfl (And.intro (q.2.2 e1).2.1 (h.s 21 rfl (h.s 22 rfl (And.intro (fun e2 => (h.s 49 rfl (h.s 50 rfl (And.intro (Or.inl rfl) (kq_mk ((q.2.2 e1).2.2.1 e2)))))) (fun e2 => (h.s 25 rfl (h.s 26 rfl (h.s 29 rfl (h.s 30 rfl (h.s 33 rfl (h.s 34 rfl (h.s 37 rfl (h.s 38 rfl (And.intro ((q.2.2 e1).2.2.2 e2).1 (h.s 39 rfl (And.intro ((q.2.2 e1).2.2.2 e2).2.1 (h.s 40 rfl (And.intro ((q.2.2 e1).2.2.2 e2).2.2.1 (h.s 41 rfl (h.s 42 rfl (And.intro (fun e3 => (h.s 49 rfl (h.s 50 rfl (And.intro (Or.inl rfl) (kq_mk (((q.2.2 e1).2.2.2 e2).2.2.2.1 e3)))))) (fun e3 => (h.s 45 rfl (h.s 46 rfl (h.s 50 rfl (And.intro (Or.inr rfl) (kq_mk (((q.2.2 e1).2.2.2 e2).2.2.2.2 e3)))))))))))))))))))))))))))))))))))))))))))))
theorem g_Mo_isEquation {d : Nat} {F : Int32 → kS → Prop} {S : kS} {a0 : Int32} (q :
  vp_in a0 250 ∧
  (¬ (S 47 (a0.toNatClampNeg)) = 3 →
    F 0 S) ∧
  (¬ (¬ (S 47 (a0.toNatClampNeg)) = 3) →
    vp_in a0 250 ∧
    vp_in (S 48 (a0.toNatClampNeg)) 250 ∧
    (¬ (S 47 ((S 48 (a0.toNatClampNeg)).toNatClampNeg)) = 3 →
      F 0 S) ∧
    (¬ (¬ (S 47 ((S 48 (a0.toNatClampNeg)).toNatClampNeg)) = 3) →
      vp_in a0 250 ∧
      vp_in (S 48 (a0.toNatClampNeg)) 250 ∧
      vp_in (S 48 ((S 48 (a0.toNatClampNeg)).toNatClampNeg)) 250 ∧
      (¬ (S 47 ((S 48 ((S 48 (a0.toNatClampNeg)).toNatClampNeg)).toNatClampNeg)) = 1 →
        F 0 S) ∧
      (¬ (¬ (S 47 ((S 48 ((S 48 (a0.toNatClampNeg)).toNatClampNeg)).toNatClampNeg)) = 1) →
        F 1 S)))) :
  kK (d + 1) m_Mo_isEquation [.inr 39, .inl a0] S (kq F) := kspec_of (fun _ h => f_Mo_isEquation_0 kspec_Mo h q)
-- Mo_has cuts []
set_option maxRecDepth 20000 in
theorem f_Mo_has_0 {M : kM} (hM : kMo M) {F : Int32 → kS → Prop} {G : kG} (h : kCl kC M (kq F) 124 G) {S : kS} {a0 a1 : Int32} (q :
  M m_Mo_mark [.inr 39, .inl a0, .inl 2, .inl ((-1))] S (kv fun S1 =>
    (a0 < a1 →
      F 0 S1) ∧
    (¬ (a0 < a1) →
      vp_in (21 * a1) 5250 ∧
      ((S1 61 ((21 * a1).toNatClampNeg)) = 0 →
        F 0 S1) ∧
      (¬ ((S1 61 ((21 * a1).toNatClampNeg)) = 0) →
        F 1 S1)))) :
  G 0 [some (.inr 39), some (.inl a0), some (.inl a1)] [] S :=
  (h.s 0 rfl (h.s 1 rfl (h.s 2 rfl (h.s 3 rfl (h.s 4 rfl (And.intro (Nat.le_of_ble_eq_true rfl) (And.intro rfl (And.intro rfl (hM.v q (fun S1 q2 => (h.s 7 rfl (h.s 8 rfl (h.s 9 rfl (And.intro (fun e3 => (h.s 28 rfl (h.s 29 rfl (And.intro (Or.inl rfl) (kq_mk (q2.1 e3)))))) (fun e3 => (h.s 12 rfl (h.s 13 rfl (h.s 16 rfl (h.s 18 rfl (h.s 19 rfl (h.s 20 rfl (And.intro (q2.2 e3).1 (h.s 21 rfl (And.intro (fun e4 => (h.s 28 rfl (h.s 29 rfl (And.intro (Or.inl rfl) (kq_mk ((q2.2 e3).2.1 e4)))))) (fun e4 => (h.s 24 rfl (h.s 25 rfl (h.s 29 rfl (And.intro (Or.inr rfl) (kq_mk ((q2.2 e3).2.2 e4)))))))))))))))))))))))))))))))
theorem g_Mo_has {d : Nat} {F : Int32 → kS → Prop} {S : kS} {a0 a1 : Int32} (q :
  kK d m_Mo_mark [.inr 39, .inl a0, .inl 2, .inl ((-1))] S (kv fun S1 =>
    (a0 < a1 →
      F 0 S1) ∧
    (¬ (a0 < a1) →
      vp_in (21 * a1) 5250 ∧
      ((S1 61 ((21 * a1).toNatClampNeg)) = 0 →
        F 0 S1) ∧
      (¬ ((S1 61 ((21 * a1).toNatClampNeg)) = 0) →
        F 1 S1)))) :
  kK (d + 1) m_Mo_has [.inr 39, .inl a0, .inl a1] S (kq F) := kspec_of (fun _ h => f_Mo_has_0 kspec_Mo h q)
-- Mo_assumeAll cuts [2]
set_option maxRecDepth 20000 in
theorem f_Mo_assumeAll_0 {M : kM} (hM : kMo M) {F : kS → Prop} {G : kG} (h : kCl kC M (kv F) 125 G) {S : kS} {a0 a1 : Int32} (q :
  G 2 [some (.inr 39), some (.inl a0), some (.inl a1), some (.inl 0)] [] S) :
  G 0 [some (.inr 39), some (.inl a0), some (.inl a1), none] [] S :=
  (h.s 0 rfl (h.s 1 rfl q))
theorem g_Mo_assumeAll {d : Nat} {F : kS → Prop} {S : kS} {a0 a1 : Int32} (q : ∀ G : kG, kCl kC (kK d) (kv F) 125 G →
  G 2 [some (.inr 39), some (.inl a0), some (.inl a1), some (.inl 0)] [] S) :
  kK (d + 1) m_Mo_assumeAll [.inr 39, .inl a0, .inl a1] S (kv F) := kspec_of (fun G h => f_Mo_assumeAll_0 kspec_Mo h (q G h))
set_option maxRecDepth 20000 in
theorem f_Mo_assumeAll_2 {M : kM} (hM : kMo M) {F : kS → Prop} {G : kG} (h : kCl kC M (kv F) 125 G) {S : kS} {v1 v2 v3 : Int32} (q :
  vp_in v1 60 ∧
  ((S 55 (v1.toNatClampNeg)) ≤ v3 →
    F S) ∧
  (¬ ((S 55 (v1.toNatClampNeg)) ≤ v3) →
    vp_in ((12 * v1) + v3) 720 ∧
    ((S 56 (((12 * v1) + v3).toNatClampNeg)) = v2 →
      G 2 [some (.inr 39), some (.inl v1), some (.inl v2), some (.inl (v3 + 1))] [] S) ∧
    (¬ ((S 56 (((12 * v1) + v3).toNatClampNeg)) = v2) →
      vp_in ((12 * v1) + v3) 720 ∧
      M m_Mo_assume [.inr 39, .inl (S 56 (((12 * v1) + v3).toNatClampNeg))] S (kv fun S1 =>
        G 2 [some (.inr 39), some (.inl v1), some (.inl v2), some (.inl (v3 + 1))] [] S1)))) :
  G 2 [some (.inr 39), some (.inl v1), some (.inl v2), some (.inl v3)] [] S :=
  (h.s 2 rfl (h.s 3 rfl (h.s 4 rfl (h.s 7 rfl (h.s 8 rfl (And.intro q.1 (h.s 9 rfl (And.intro (fun e2 => (h.s 48 rfl (kv_mk (q.2.1 e2)))) (fun e2 => (h.s 12 rfl (h.s 13 rfl (h.s 16 rfl (h.s 18 rfl (h.s 19 rfl (h.s 20 rfl (h.s 21 rfl (h.s 22 rfl (And.intro (q.2.2 e2).1 (h.s 23 rfl (h.s 24 rfl (And.intro (fun e3 => (h.s 42 rfl (h.s 45 rfl ((q.2.2 e2).2.1 e3)))) (fun e3 => (h.s 27 rfl (h.s 28 rfl (h.s 29 rfl (h.s 32 rfl (h.s 34 rfl (h.s 35 rfl (h.s 36 rfl (h.s 37 rfl (h.s 38 rfl (And.intro ((q.2.2 e2).2.2 e3).1 (h.s 39 rfl (And.intro (Nat.le_of_ble_eq_true rfl) (And.intro rfl (And.intro rfl (hM.v ((q.2.2 e2).2.2 e3).2 (fun S1 q4 => (h.s 42 rfl (h.s 45 rfl q4))))))))))))))))))))))))))))))))))))))))
-- Mo_assume cuts [4]
set_option maxRecDepth 20000 in
theorem f_Mo_assume_0 {M : kM} (hM : kMo M) {F : kS → Prop} {G : kG} (h : kCl kC M (kv F) 126 G) {S : kS} {a0 : Int32} (q :
  G 4 [some (.inr 39), some (.inl a0), some (.inl 0), some (.inl 0)] [] S) :
  G 0 [some (.inr 39), some (.inl a0), none, none] [] S :=
  (h.s 0 rfl (h.s 1 rfl (h.s 2 rfl (h.s 3 rfl q))))
theorem g_Mo_assume {d : Nat} {F : kS → Prop} {S : kS} {a0 : Int32} (q : ∀ G : kG, kCl kC (kK d) (kv F) 126 G →
  G 4 [some (.inr 39), some (.inl a0), some (.inl 0), some (.inl 0)] [] S) :
  kK (d + 1) m_Mo_assume [.inr 39, .inl a0] S (kv F) := kspec_of (fun G h => f_Mo_assume_0 kspec_Mo h (q G h))
set_option maxRecDepth 20000 in
theorem f_Mo_assume_4 {M : kM} (hM : kMo M) {F : kS → Prop} {G : kG} (h : kCl kC M (kv F) 126 G) {S : kS} {v1 v2 v3 : Int32} (q :
  ((S 39 24) ≤ v3 →
    (v2 = 0 →
      (¬ (S 39 24) = 12 →
        vp_in (S 39 24) 12 ∧
        F (ku (ku S 57 ((S 39 24).toNatClampNeg) v1) 39 24 ((S 39 24) + 1))) ∧
      (¬ (¬ (S 39 24) = 12) →
        F (ku S 39 33 1))) ∧
    (¬ (v2 = 0) →
      F S)) ∧
  (¬ ((S 39 24) ≤ v3) →
    (¬ v2 = 0 →
      G 4 [some (.inr 39), some (.inl v1), some (.inl 1), some (.inl (v3 + 1))] [] S) ∧
    (¬ (¬ v2 = 0) →
      vp_in v3 12 ∧
      (¬ (S 57 (v3.toNatClampNeg)) = v1 →
        G 4 [some (.inr 39), some (.inl v1), some (.inl 0), some (.inl (v3 + 1))] [] S) ∧
      (¬ (¬ (S 57 (v3.toNatClampNeg)) = v1) →
        G 4 [some (.inr 39), some (.inl v1), some (.inl 1), some (.inl (v3 + 1))] [] S)))) :
  G 4 [some (.inr 39), some (.inl v1), some (.inl v2), some (.inl v3)] [] S :=
  (h.s 4 rfl (h.s 5 rfl (h.s 6 rfl (h.s 9 rfl (And.intro (fun e1 => (h.s 38 rfl (h.s 39 rfl (And.intro (fun e2 => (h.s 43 rfl (h.s 44 rfl (h.s 47 rfl (h.s 49 rfl (And.intro (fun e3 => (h.s 58 rfl (h.s 59 rfl (h.s 62 rfl (h.s 63 rfl (h.s 66 rfl (h.s 67 rfl (And.intro (((q.1 e1).1 e2).1 e3).1 (h.s 68 rfl (h.s 69 rfl (h.s 70 rfl (h.s 73 rfl (h.s 74 rfl (h.s 75 rfl (h.s 78 rfl (kv_mk (((q.1 e1).1 e2).1 e3).2)))))))))))))))) (fun e3 => (h.s 52 rfl (h.s 53 rfl (h.s 54 rfl (And.intro (Or.inr rfl) (h.s 57 rfl (kv_mk (((q.1 e1).1 e2).2 e3)))))))))))))) (fun e2 => (h.s 42 rfl (kv_mk ((q.1 e1).2 e2)))))))) (fun e1 => (h.s 12 rfl (h.s 13 rfl (And.intro (fun e4 => (h.s 26 rfl (h.s 27 rfl (h.s 31 rfl (h.s 32 rfl (h.s 35 rfl ((q.2 e1).1 e4))))))) (fun e4 => (h.s 16 rfl (h.s 17 rfl (h.s 20 rfl (h.s 21 rfl (And.intro ((q.2 e1).2 e4).1 (h.s 22 rfl (h.s 23 rfl (And.intro (fun e5 => (h.s 30 rfl (h.s 31 rfl (h.s 32 rfl (h.s 35 rfl (((q.2 e1).2 e4).2.1 e5)))))) (fun e5 => (h.s 26 rfl (h.s 27 rfl (h.s 31 rfl (h.s 32 rfl (h.s 35 rfl (((q.2 e1).2 e4).2.2 e5)))))))))))))))))))))))))
-- Mo_left cuts []
set_option maxRecDepth 20000 in
theorem f_Mo_left_0 {M : kM} (hM : kMo M) {F : Int32 → kS → Prop} {G : kG} (h : kCl kC M (kq F) 127 G) {S : kS} {a0 : Int32} (q :
  vp_in a0 250 ∧
  vp_in (S 48 (a0.toNatClampNeg)) 250 ∧
  F (S 49 ((S 48 (a0.toNatClampNeg)).toNatClampNeg)) S) :
  G 0 [some (.inr 39), some (.inl a0)] [] S :=
  (h.s 0 rfl (h.s 1 rfl (h.s 4 rfl (h.s 5 rfl (h.s 8 rfl (h.s 9 rfl (And.intro q.1 (h.s 10 rfl (And.intro q.2.1 (h.s 11 rfl (kq_mk q.2.2)))))))))))
theorem g_Mo_left {d : Nat} {F : Int32 → kS → Prop} {S : kS} {a0 : Int32} (q :
  vp_in a0 250 ∧
  vp_in (S 48 (a0.toNatClampNeg)) 250 ∧
  F (S 49 ((S 48 (a0.toNatClampNeg)).toNatClampNeg)) S) :
  kK (d + 1) m_Mo_left [.inr 39, .inl a0] S (kq F) := kspec_of (fun _ h => f_Mo_left_0 kspec_Mo h q)
