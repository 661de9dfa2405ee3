/-! printed: regions, their weakest preconditions -/
-- Mo_typeVariable cuts []
set_option maxRecDepth 20000 in
theorem f_Mo_typeVariable_0 {M : kM} (hM : kMo M) {F : Int32 → kS → Prop} {G : kG} (h : kCl kC M (kq F) 92 G) {S : kS} {a0 : Int32} (q :
  (a0 < 0 →
    F ((-1)) S) ∧
  (¬ (a0 < 0) →
    (a0 ≤ 3 →
      M m_Mo_begin [.inr 39] S (kv fun S1 =>
        M m_Mo_type [.inr 39, .inl 2, .inl a0, .inl 0] S1 (kq fun r3 S2 =>
          M m_Mo_answerType [.inr 39, .inl r3] S2 (kq fun r5 S4 =>
            F r5 S4)))) ∧
    (¬ (a0 ≤ 3) →
      F ((-1)) S))) :
  G 0 [some (.inr 39), some (.inl a0), none] [] S :=
  (h.s 0 rfl (h.s 1 rfl (And.intro (fun e6 => (h.s 9 rfl (h.s 10 rfl (kq_mk (q.1 e6))))) (fun e6 => (h.s 4 rfl (h.s 5 rfl (h.s 6 rfl (And.intro (fun e7 => (h.s 11 rfl (h.s 12 rfl (And.intro (Nat.le_of_ble_eq_true rfl) (And.intro rfl (And.intro rfl (hM.v ((q.2 e6).1 e7) (fun S1 q8 => (h.s 15 rfl (h.s 16 rfl (h.s 17 rfl (h.s 18 rfl (h.s 19 rfl (And.intro (Nat.le_of_ble_eq_true rfl) (And.intro rfl (And.intro rfl (hM.q q8 (fun r3 S2 q9 => (h.s 22 rfl (h.s 23 rfl (h.s 24 rfl (h.s 25 rfl (And.intro (Nat.le_of_ble_eq_true rfl) (And.intro rfl (And.intro rfl (hM.q q9 (fun r5 S4 q10 => (h.s 28 rfl (kq_mk q10))))))))))))))))))))))))))))) (fun e7 => (h.s 9 rfl (h.s 10 rfl (kq_mk ((q.2 e6).2 e7)))))))))))))
theorem g_Mo_typeVariable {d : Nat} {F : Int32 → kS → Prop} {S : kS} {a0 : Int32} (q :
  (a0 < 0 →
    F ((-1)) S) ∧
  (¬ (a0 < 0) →
    (a0 ≤ 3 →
      kK d m_Mo_begin [.inr 39] S (kv fun S1 =>
        kK d m_Mo_type [.inr 39, .inl 2, .inl a0, .inl 0] S1 (kq fun r3 S2 =>
          kK d m_Mo_answerType [.inr 39, .inl r3] S2 (kq fun r5 S4 =>
            F r5 S4)))) ∧
    (¬ (a0 ≤ 3) →
      F ((-1)) S))) :
  kK (d + 1) m_Mo_typeVariable [.inr 39, .inl a0] S (kq F) := kspec_of (fun _ h => f_Mo_typeVariable_0 kspec_Mo h q)
-- Mo_begin cuts []
set_option maxRecDepth 20000 in
theorem f_Mo_begin_0 {M : kM} (hM : kMo M) {F : kS → Prop} {G : kG} (h : kCl kC M (kv F) 93 G) {S : kS} (q :
  F (ku (ku (ku (ku S 39 33 0) 39 30 (S 39 0)) 39 31 (S 39 9)) 39 32 (S 39 20))) :
  G 0 [some (.inr 39)] [] S :=
  (h.s 0 rfl (h.s 1 rfl (h.s 2 rfl (And.intro (Or.inl rfl) (h.s 5 rfl (h.s 6 rfl (h.s 7 rfl (h.s 10 rfl (h.s 13 rfl (h.s 14 rfl (h.s 15 rfl (h.s 18 rfl (h.s 21 rfl (h.s 22 rfl (h.s 23 rfl (h.s 26 rfl (h.s 29 rfl (kv_mk q))))))))))))))))))
theorem g_Mo_begin {d : Nat} {F : kS → Prop} {S : kS} (q :
  F (ku (ku (ku (ku S 39 33 0) 39 30 (S 39 0)) 39 31 (S 39 9)) 39 32 (S 39 20))) :
  kK (d + 1) m_Mo_begin [.inr 39] S (kv F) := kspec_of (fun _ h => f_Mo_begin_0 kspec_Mo h q)
-- Mo_type cuts [3, 95, 209]
set_option maxRecDepth 20000 in
theorem f_Mo_type_0 {M : kM} (hM : kMo M) {F : Int32 → kS → Prop} {G : kG} (h : kCl kC M (kq F) 94 G) {S : kS} {a0 a1 a2 : Int32} (q :
  G 3 [some (.inr 39), some (.inl a0), some (.inl a1), some (.inl a2), some (.inl 0)] [] S) :
  G 0 [some (.inr 39), some (.inl a0), some (.inl a1), some (.inl a2), none] [] S :=
  (h.s 0 rfl (h.s 1 rfl q))
theorem g_Mo_type {d : Nat} {F : Int32 → kS → Prop} {S : kS} {a0 a1 a2 : Int32} (q : ∀ G : kG, kCl kC (kK d) (kq F) 94 G →
  G 3 [some (.inr 39), some (.inl a0), some (.inl a1), some (.inl a2), some (.inl 0)] [] S) :
  kK (d + 1) m_Mo_type [.inr 39, .inl a0, .inl a1, .inl a2] S (kq F) := kspec_of (fun G h => f_Mo_type_0 kspec_Mo h (q G h))
set_option maxRecDepth 20000 in
theorem f_Mo_type_3 {M : kM} (hM : kMo M) {F : Int32 → kS → Prop} {G : kG} (h : kCl kC M (kq F) 94 G) {S : kS} {v1 v2 v3 v4 : Int32} (q :
  ((S 39 0) ≤ v4 →
    (¬ v1 = 4 →
      G 95 [some (.inr 39), some (.inl v1), some (.inl v2), some (.inl v3), some (.inl v4)] [.inl 1] S) ∧
    (¬ (¬ v1 = 4) →
      vp_in v2 50 ∧
      vp_in v3 50 ∧
      ((S 43 (v2.toNatClampNeg)) ≤ (S 43 (v3.toNatClampNeg)) →
        vp_in v3 50 ∧
        G 95 [some (.inr 39), some (.inl v1), some (.inl v2), some (.inl v3), some (.inl v4)] [.inl (1 + (S 43 (v3.toNatClampNeg)))] S) ∧
      (¬ ((S 43 (v2.toNatClampNeg)) ≤ (S 43 (v3.toNatClampNeg))) →
        vp_in v2 50 ∧
        G 95 [some (.inr 39), some (.inl v1), some (.inl v2), some (.inl v3), some (.inl v4)] [.inl (1 + (S 43 (v2.toNatClampNeg)))] S))) ∧
  (¬ ((S 39 0) ≤ v4) →
    vp_in v4 50 ∧
    (¬ (S 40 (v4.toNatClampNeg)) = v1 →
      G 3 [some (.inr 39), some (.inl v1), some (.inl v2), some (.inl v3), some (.inl (v4 + 1))] [] S) ∧
    (¬ (¬ (S 40 (v4.toNatClampNeg)) = v1) →
      vp_in v4 50 ∧
      (¬ (S 41 (v4.toNatClampNeg)) = v2 →
        G 3 [some (.inr 39), some (.inl v1), some (.inl v2), some (.inl v3), some (.inl (v4 + 1))] [] S) ∧
      (¬ (¬ (S 41 (v4.toNatClampNeg)) = v2) →
        vp_in v4 50 ∧
        (¬ (S 42 (v4.toNatClampNeg)) = v3 →
          G 3 [some (.inr 39), some (.inl v1), some (.inl v2), some (.inl v3), some (.inl (v4 + 1))] [] S) ∧
        (¬ (¬ (S 42 (v4.toNatClampNeg)) = v3) →
          F v4 S))))) :
  G 3 [some (.inr 39), some (.inl v1), some (.inl v2), some (.inl v3), some (.inl v4)] [] S :=
  (h.s 3 rfl (h.s 5 rfl (h.s 6 rfl (h.s 9 rfl (And.intro (fun e1 => (h.s 54 rfl (h.s 55 rfl (h.s 56 rfl (And.intro (fun e2 => (h.s 94 rfl ((q.1 e1).1 e2))) (fun e2 => (h.s 59 rfl (h.s 60 rfl (h.s 61 rfl (h.s 64 rfl (h.s 65 rfl (And.intro ((q.1 e1).2 e2).1 (h.s 66 rfl (h.s 67 rfl (h.s 70 rfl (h.s 71 rfl (And.intro ((q.1 e1).2 e2).2.1 (h.s 72 rfl (And.intro (fun e3 => (h.s 84 rfl (h.s 85 rfl (h.s 88 rfl (h.s 89 rfl (And.intro (((q.1 e1).2 e2).2.2.1 e3).1 (h.s 90 rfl (h.s 91 rfl (((q.1 e1).2 e2).2.2.1 e3).2)))))))) (fun e3 => (h.s 75 rfl (h.s 76 rfl (h.s 79 rfl (h.s 80 rfl (And.intro (((q.1 e1).2 e2).2.2.2 e3).1 (h.s 81 rfl (h.s 90 rfl (h.s 91 rfl (((q.1 e1).2 e2).2.2.2 e3).2)))))))))))))))))))))))))))) (fun e1 => (h.s 12 rfl (h.s 13 rfl (h.s 16 rfl (h.s 18 rfl (And.intro (q.2 e1).1 (h.s 19 rfl (h.s 20 rfl (And.intro (fun e4 => (h.s 48 rfl (h.s 51 rfl ((q.2 e1).2.1 e4)))) (fun e4 => (h.s 23 rfl (h.s 24 rfl (h.s 27 rfl (h.s 29 rfl (And.intro ((q.2 e1).2.2 e4).1 (h.s 30 rfl (h.s 31 rfl (And.intro (fun e5 => (h.s 48 rfl (h.s 51 rfl (((q.2 e1).2.2 e4).2.1 e5)))) (fun e5 => (h.s 34 rfl (h.s 35 rfl (h.s 38 rfl (h.s 40 rfl (And.intro (((q.2 e1).2.2 e4).2.2 e5).1 (h.s 41 rfl (h.s 42 rfl (And.intro (fun e6 => (h.s 48 rfl (h.s 51 rfl ((((q.2 e1).2.2 e4).2.2 e5).2.1 e6)))) (fun e6 => (h.s 45 rfl (h.s 47 rfl (kq_mk ((((q.2 e1).2.2 e4).2.2 e5).2.2 e6)))))))))))))))))))))))))))))))))))))
set_option maxRecDepth 20000 in
theorem f_Mo_type_95 {M : kM} (hM : kMo M) {F : Int32 → kS → Prop} {G : kG} (h : kCl kC M (kq F) 94 G) {S : kS} {v1 v2 v3 v4 w0 : Int32} (q :
  (¬ (S 39 33) = 0 →
    F 0 (ku S 39 33 1)) ∧
  (¬ (¬ (S 39 33) = 0) →
    (10 < w0 →
      F 0 (ku S 39 33 1)) ∧
    (¬ (10 < w0) →
      (¬ (S 39 0) = 50 →
        vp_in (S 39 0) 50 ∧
        vp_in (S 39 0) 50 ∧
        vp_in (S 39 0) 50 ∧
        vp_in (S 39 0) 50 ∧
        (v1 = 2 →
          G 209 [some (.inr 39), some (.inl v1), some (.inl v2), some (.inl v3), some (.inl w0)] [.inl 1, .inl (S 39 0), .inr 44] (ku (ku (ku (ku S 40 ((S 39 0).toNatClampNeg) v1) 41 ((S 39 0).toNatClampNeg) v2) 42 ((S 39 0).toNatClampNeg) v3) 43 ((S 39 0).toNatClampNeg) w0)) ∧
        (¬ (v1 = 2) →
          (¬ v1 = 4 →
            G 209 [some (.inr 39), some (.inl v1), some (.inl v2), some (.inl v3), some (.inl w0)] [.inl 0, .inl (S 39 0), .inr 44] (ku (ku (ku (ku S 40 ((S 39 0).toNatClampNeg) v1) 41 ((S 39 0).toNatClampNeg) v2) 42 ((S 39 0).toNatClampNeg) v3) 43 ((S 39 0).toNatClampNeg) w0)) ∧
          (¬ (¬ v1 = 4) →
            vp_in v2 50 ∧
            (¬ (S 44 (v2.toNatClampNeg)) = 0 →
              G 209 [some (.inr 39), some (.inl v1), some (.inl v2), some (.inl v3), some (.inl w0)] [.inl 1, .inl (S 39 0), .inr 44] (ku (ku (ku (ku S 40 ((S 39 0).toNatClampNeg) v1) 41 ((S 39 0).toNatClampNeg) v2) 42 ((S 39 0).toNatClampNeg) v3) 43 ((S 39 0).toNatClampNeg) w0)) ∧
            (¬ (¬ (S 44 (v2.toNatClampNeg)) = 0) →
              vp_in v3 50 ∧
              ((S 44 (v3.toNatClampNeg)) = 0 →
                G 209 [some (.inr 39), some (.inl v1), some (.inl v2), some (.inl v3), some (.inl w0)] [.inl 0, .inl (S 39 0), .inr 44] (ku (ku (ku (ku S 40 ((S 39 0).toNatClampNeg) v1) 41 ((S 39 0).toNatClampNeg) v2) 42 ((S 39 0).toNatClampNeg) v3) 43 ((S 39 0).toNatClampNeg) w0)) ∧
              (¬ ((S 44 (v3.toNatClampNeg)) = 0) →
                G 209 [some (.inr 39), some (.inl v1), some (.inl v2), some (.inl v3), some (.inl w0)] [.inl 1, .inl (S 39 0), .inr 44] (ku (ku (ku (ku S 40 ((S 39 0).toNatClampNeg) v1) 41 ((S 39 0).toNatClampNeg) v2) 42 ((S 39 0).toNatClampNeg) v3) 43 ((S 39 0).toNatClampNeg) w0)))))) ∧
      (¬ (¬ (S 39 0) = 50) →
        F 0 (ku S 39 33 1))))) :
  G 95 [some (.inr 39), some (.inl v1), some (.inl v2), some (.inl v3), some (.inl v4)] [.inl w0] S :=
  (h.s 95 rfl (h.s 97 rfl (h.s 98 rfl (h.s 101 rfl (And.intro (fun e1 => (h.s 120 rfl (h.s 121 rfl (h.s 122 rfl (And.intro (Or.inr rfl) (h.s 125 rfl (h.s 126 rfl (kq_mk (q.1 e1))))))))) (fun e1 => (h.s 104 rfl (h.s 106 rfl (h.s 108 rfl (And.intro (fun e2 => (h.s 120 rfl (h.s 121 rfl (h.s 122 rfl (And.intro (Or.inr rfl) (h.s 125 rfl (h.s 126 rfl (kq_mk ((q.2 e1).1 e2))))))))) (fun e2 => (h.s 111 rfl (h.s 112 rfl (h.s 115 rfl (h.s 117 rfl (And.intro (fun e3 => (h.s 127 rfl (h.s 128 rfl (h.s 131 rfl (h.s 132 rfl (h.s 135 rfl (h.s 136 rfl (And.intro (((q.2 e1).2 e2).1 e3).1 (h.s 137 rfl (h.s 138 rfl (h.s 141 rfl (h.s 142 rfl (h.s 145 rfl (h.s 146 rfl (And.intro (((q.2 e1).2 e2).1 e3).2.1 (h.s 147 rfl (h.s 148 rfl (h.s 151 rfl (h.s 152 rfl (h.s 155 rfl (h.s 156 rfl (And.intro (((q.2 e1).2 e2).1 e3).2.2.1 (h.s 157 rfl (h.s 158 rfl (h.s 161 rfl (h.s 162 rfl (h.s 165 rfl (h.s 167 rfl (And.intro (((q.2 e1).2 e2).1 e3).2.2.2.1 (h.s 168 rfl (h.s 169 rfl (h.s 172 rfl (h.s 173 rfl (h.s 176 rfl (h.s 177 rfl (h.s 178 rfl (And.intro (fun e4 => (h.s 204 rfl (h.s 205 rfl ((((q.2 e1).2 e2).1 e3).2.2.2.2.1 e4)))) (fun e4 => (h.s 181 rfl (h.s 182 rfl (h.s 183 rfl (And.intro (fun e5 => (h.s 208 rfl (((((q.2 e1).2 e2).1 e3).2.2.2.2.2 e4).1 e5))) (fun e5 => (h.s 186 rfl (h.s 187 rfl (h.s 190 rfl (h.s 191 rfl (And.intro (((((q.2 e1).2 e2).1 e3).2.2.2.2.2 e4).2 e5).1 (h.s 192 rfl (And.intro (fun e6 => (h.s 204 rfl (h.s 205 rfl ((((((q.2 e1).2 e2).1 e3).2.2.2.2.2 e4).2 e5).2.1 e6)))) (fun e6 => (h.s 195 rfl (h.s 196 rfl (h.s 199 rfl (h.s 200 rfl (And.intro ((((((q.2 e1).2 e2).1 e3).2.2.2.2.2 e4).2 e5).2.2 e6).1 (h.s 201 rfl (And.intro (fun e7 => (h.s 208 rfl (((((((q.2 e1).2 e2).1 e3).2.2.2.2.2 e4).2 e5).2.2 e6).2.1 e7))) (fun e7 => (h.s 204 rfl (h.s 205 rfl (((((((q.2 e1).2 e2).1 e3).2.2.2.2.2 e4).2 e5).2.2 e6).2.2 e7)))))))))))))))))))))))))))))))))))))))))))))))))))))))))))))) (fun e3 => (h.s 120 rfl (h.s 121 rfl (h.s 122 rfl (And.intro (Or.inr rfl) (h.s 125 rfl (h.s 126 rfl (kq_mk (((q.2 e1).2 e2).2 e3)))))))))))))))))))))))))
set_option maxRecDepth 20000 in
theorem f_Mo_type_209 {M : kM} (hM : kMo M) {F : Int32 → kS → Prop} {G : kG} (h : kCl kC M (kq F) 94 G) {S : kS} {v1 v2 v3 v4 w0 w1 : Int32} (q :
  vp_in w1 50 ∧
  vp_in (S 39 0) 50 ∧
  F (((S 39 0) + 1) - 1) (ku (ku (ku S 44 (w1.toNatClampNeg) (vp_nar .boolean w0)) 45 ((S 39 0).toNatClampNeg) ((-1))) 39 0 ((S 39 0) + 1))) :
  G 209 [some (.inr 39), some (.inl v1), some (.inl v2), some (.inl v3), some (.inl v4)] [.inl w0, .inl w1, .inr 44] S :=
  (h.s 209 rfl (And.intro q.1 (h.s 210 rfl (h.s 211 rfl (h.s 214 rfl (h.s 215 rfl (h.s 218 rfl (h.s 219 rfl (And.intro q.2.1 (h.s 220 rfl (h.s 221 rfl (h.s 222 rfl (h.s 225 rfl (h.s 226 rfl (h.s 227 rfl (h.s 230 rfl (h.s 231 rfl (h.s 234 rfl (h.s 235 rfl (h.s 236 rfl (kq_mk q.2.2)))))))))))))))))))))
-- Mo_answerType cuts []
set_option maxRecDepth 20000 in
theorem f_Mo_answerType_0 {M : kM} (hM : kMo M) {F : Int32 → kS → Prop} {G : kG} (h : kCl kC M (kq F) 95 G) {S : kS} {a0 : Int32} (q :
  M m_Mo_stays [.inr 39] S (kq fun r2 S1 =>
    (r2 = 0 →
      F ((-1)) S1) ∧
    (¬ (r2 = 0) →
      M m_Mo_numberOfType [.inr 39, .inl a0] S1 (kq fun r4 S3 =>
        F r4 S3)))) :
  G 0 [some (.inr 39), some (.inl a0)] [] S :=
  (h.s 0 rfl (h.s 1 rfl (And.intro (Nat.le_of_ble_eq_true rfl) (And.intro rfl (And.intro rfl (hM.q q (fun r2 S1 q5 => (h.s 4 rfl (And.intro (fun e6 => (h.s 15 rfl (h.s 16 rfl (kq_mk (q5.1 e6))))) (fun e6 => (h.s 7 rfl (h.s 8 rfl (h.s 9 rfl (And.intro (Nat.le_of_ble_eq_true rfl) (And.intro rfl (And.intro rfl (hM.q (q5.2 e6) (fun r4 S3 q7 => (h.s 12 rfl (h.s 16 rfl (kq_mk q7)))))))))))))))))))))
theorem g_Mo_answerType {d : Nat} {F : Int32 → kS → Prop} {S : kS} {a0 : Int32} (q :
  kK d m_Mo_stays [.inr 39] S (kq fun r2 S1 =>
    (r2 = 0 →
      F ((-1)) S1) ∧
    (¬ (r2 = 0) →
      kK d m_Mo_numberOfType [.inr 39, .inl a0] S1 (kq fun r4 S3 =>
        F r4 S3)))) :
  kK (d + 1) m_Mo_answerType [.inr 39, .inl a0] S (kq F) := kspec_of (fun _ h => f_Mo_answerType_0 kspec_Mo h q)
-- Mo_stays cuts []
set_option maxRecDepth 20000 in
theorem f_Mo_stays_0 {M : kM} (hM : kMo M) {F : Int32 → kS → Prop} {G : kG} (h : kCl kC M (kq F) 96 G) {S : kS} (q :
  (¬ (S 39 33) = 0 →
    F 0 (ku (ku (ku S 39 0 (S 39 30)) 39 9 (S 39 31)) 39 20 (S 39 32))) ∧
  (¬ (¬ (S 39 33) = 0) →
    F 1 S)) :
  G 0 [some (.inr 39)] [] S :=
  (h.s 0 rfl (h.s 1 rfl (h.s 4 rfl (And.intro (fun e1 => (h.s 9 rfl (h.s 10 rfl (h.s 11 rfl (h.s 14 rfl (h.s 17 rfl (h.s 18 rfl (h.s 19 rfl (h.s 22 rfl (h.s 25 rfl (h.s 26 rfl (h.s 27 rfl (h.s 30 rfl (h.s 33 rfl (h.s 34 rfl (And.intro (Or.inl rfl) (kq_mk (q.1 e1)))))))))))))))))) (fun e1 => (h.s 7 rfl (h.s 8 rfl (And.intro (Or.inr rfl) (kq_mk (q.2 e1))))))))))
theorem g_Mo_stays {d : Nat} {F : Int32 → kS → Prop} {S : kS} (q :
  (¬ (S 39 33) = 0 →
    F 0 (ku (ku (ku S 39 0 (S 39 30)) 39 9 (S 39 31)) 39 20 (S 39 32))) ∧
  (¬ (¬ (S 39 33) = 0) →
    F 1 S)) :
  kK (d + 1) m_Mo_stays [.inr 39] S (kq F) := kspec_of (fun _ h => f_Mo_stays_0 kspec_Mo h q)
-- Mo_numberOfType cuts []
set_option maxRecDepth 20000 in
theorem f_Mo_numberOfType_0 {M : kM} (hM : kMo M) {F : Int32 → kS → Prop} {G : kG} (h : kCl kC M (kq F) 97 G) {S : kS} {a0 : Int32} (q :
  vp_in a0 50 ∧
  (0 ≤ (S 45 (a0.toNatClampNeg)) →
    vp_in a0 50 ∧
    F (S 45 (a0.toNatClampNeg)) S) ∧
  (¬ (0 ≤ (S 45 (a0.toNatClampNeg))) →
    vp_in a0 50 ∧
    vp_in (S 39 8) 50 ∧
    vp_in a0 50 ∧
    F ((ku S 45 (a0.toNatClampNeg) (S 39 8)) 45 (a0.toNatClampNeg)) (ku (ku (ku S 45 (a0.toNatClampNeg) (S 39 8)) 46 ((S 39 8).toNatClampNeg) a0) 39 8 ((S 39 8) + 1)))) :
  G 0 [some (.inr 39), some (.inl a0)] [] S :=
  (h.s 0 rfl (h.s 1 rfl (h.s 4 rfl (h.s 5 rfl (And.intro q.1 (h.s 6 rfl (And.intro (fun e1 => (h.s 39 rfl (h.s 40 rfl (h.s 43 rfl (h.s 44 rfl (And.intro (q.2.1 e1).1 (h.s 45 rfl (kq_mk (q.2.1 e1).2)))))))) (fun e1 => (h.s 9 rfl (h.s 10 rfl (h.s 13 rfl (h.s 14 rfl (h.s 15 rfl (h.s 18 rfl (And.intro (q.2.2 e1).1 (h.s 19 rfl (h.s 20 rfl (h.s 23 rfl (h.s 24 rfl (h.s 27 rfl (h.s 28 rfl (And.intro (q.2.2 e1).2.1 (h.s 29 rfl (h.s 30 rfl (h.s 31 rfl (h.s 34 rfl (h.s 35 rfl (h.s 36 rfl (h.s 39 rfl (h.s 40 rfl (h.s 43 rfl (h.s 44 rfl (And.intro (q.2.2 e1).2.2.1 (h.s 45 rfl (kq_mk (q.2.2 e1).2.2.2)))))))))))))))))))))))))))))))))))
theorem g_Mo_numberOfType {d : Nat} {F : Int32 → kS → Prop} {S : kS} {a0 : Int32} (q :
  vp_in a0 50 ∧
  (0 ≤ (S 45 (a0.toNatClampNeg)) →
    vp_in a0 50 ∧
    F (S 45 (a0.toNatClampNeg)) S) ∧
  (¬ (0 ≤ (S 45 (a0.toNatClampNeg))) →
    vp_in a0 50 ∧
    vp_in (S 39 8) 50 ∧
    vp_in a0 50 ∧
    F ((ku S 45 (a0.toNatClampNeg) (S 39 8)) 45 (a0.toNatClampNeg)) (ku (ku (ku S 45 (a0.toNatClampNeg) (S 39 8)) 46 ((S 39 8).toNatClampNeg) a0) 39 8 ((S 39 8) + 1)))) :
  kK (d + 1) m_Mo_numberOfType [.inr 39, .inl a0] S (kq F) := kspec_of (fun _ h => f_Mo_numberOfType_0 kspec_Mo h q)
-- Mo_arrow cuts []
set_option maxRecDepth 20000 in
theorem f_Mo_arrow_0 {M : kM} (hM : kMo M) {F : Int32 → kS → Prop} {G : kG} (h : kCl kC M (kq F) 98 G) {S : kS} {a0 a1 : Int32} (q :
  M m_Mo_isType [.inr 39, .inl a0] S (kq fun r2 S1 =>
    (r2 = 0 →
      F ((-1)) S1) ∧
    (¬ (r2 = 0) →
      M m_Mo_isType [.inr 39, .inl a1] S1 (kq fun r4 S3 =>
        (¬ r4 = 0 →
          M m_Mo_begin [.inr 39] S3 (kv fun S5 =>
            vp_in a0 50 ∧
            vp_in a1 50 ∧
            M m_Mo_type [.inr 39, .inl 4, .inl (S5 46 (a0.toNatClampNeg)), .inl (S5 46 (a1.toNatClampNeg))] S5 (kq fun r7 S6 =>
              M m_Mo_answerType [.inr 39, .inl r7] S6 (kq fun r9 S8 =>
                F r9 S8)))) ∧
        (¬ (¬ r4 = 0) →
          F ((-1)) S3))))) :
  G 0 [some (.inr 39), some (.inl a0), some (.inl a1), none] [] S :=
  (h.s 0 rfl (h.s 1 rfl (h.s 2 rfl (And.intro (Nat.le_of_ble_eq_true rfl) (And.intro rfl (And.intro rfl (hM.q q (fun r2 S1 q10 => (h.s 5 rfl (And.intro (fun e11 => (h.s 16 rfl (h.s 17 rfl (kq_mk (q10.1 e11))))) (fun e11 => (h.s 8 rfl (h.s 9 rfl (h.s 10 rfl (And.intro (Nat.le_of_ble_eq_true rfl) (And.intro rfl (And.intro rfl (hM.q (q10.2 e11) (fun r4 S3 q12 => (h.s 13 rfl (And.intro (fun e13 => (h.s 18 rfl (h.s 19 rfl (And.intro (Nat.le_of_ble_eq_true rfl) (And.intro rfl (And.intro rfl (hM.v (q12.1 e13) (fun S5 q14 => (h.s 22 rfl (h.s 23 rfl (h.s 24 rfl (h.s 25 rfl (h.s 28 rfl (h.s 29 rfl (And.intro q14.1 (h.s 30 rfl (h.s 31 rfl (h.s 34 rfl (h.s 35 rfl (And.intro q14.2.1 (h.s 36 rfl (And.intro (Nat.le_of_ble_eq_true rfl) (And.intro rfl (And.intro rfl (hM.q q14.2.2 (fun r7 S6 q15 => (h.s 39 rfl (h.s 40 rfl (h.s 41 rfl (h.s 42 rfl (And.intro (Nat.le_of_ble_eq_true rfl) (And.intro rfl (And.intro rfl (hM.q q15 (fun r9 S8 q16 => (h.s 45 rfl (kq_mk q16))))))))))))))))))))))))))))))))))))) (fun e13 => (h.s 16 rfl (h.s 17 rfl (kq_mk (q12.2 e13))))))))))))))))))))))))))
theorem g_Mo_arrow {d : Nat} {F : Int32 → kS → Prop} {S : kS} {a0 a1 : Int32} (q :
  kK d m_Mo_isType [.inr 39, .inl a0] S (kq fun r2 S1 =>
    (r2 = 0 →
      F ((-1)) S1) ∧
    (¬ (r2 = 0) →
      kK d m_Mo_isType [.inr 39, .inl a1] S1 (kq fun r4 S3 =>
        (¬ r4 = 0 →
          kK d m_Mo_begin [.inr 39] S3 (kv fun S5 =>
            vp_in a0 50 ∧
            vp_in a1 50 ∧
            kK d m_Mo_type [.inr 39, .inl 4, .inl (S5 46 (a0.toNatClampNeg)), .inl (S5 46 (a1.toNatClampNeg))] S5 (kq fun r7 S6 =>
              kK d m_Mo_answerType [.inr 39, .inl r7] S6 (kq fun r9 S8 =>
                F r9 S8)))) ∧
        (¬ (¬ r4 = 0) →
          F ((-1)) S3))))) :
  kK (d + 1) m_Mo_arrow [.inr 39, .inl a0, .inl a1] S (kq F) := kspec_of (fun _ h => f_Mo_arrow_0 kspec_Mo h q)
-- Mo_isType cuts []
set_option maxRecDepth 20000 in
theorem f_Mo_isType_0 {M : kM} (hM : kMo M) {F : Int32 → kS → Prop} {G : kG} (h : kCl kC M (kq F) 99 G) {S : kS} {a0 : Int32} (q :
  (a0 < 0 →
    F 0 S) ∧
  (¬ (a0 < 0) →
    ((S 39 8) ≤ a0 →
      F 0 S) ∧
    (¬ ((S 39 8) ≤ a0) →
      F 1 S))) :
  G 0 [some (.inr 39), some (.inl a0)] [] S :=
  (h.s 0 rfl (h.s 1 rfl (And.intro (fun e1 => (h.s 16 rfl (h.s 17 rfl (And.intro (Or.inl rfl) (kq_mk (q.1 e1)))))) (fun e1 => (h.s 4 rfl (h.s 5 rfl (h.s 6 rfl (h.s 9 rfl (And.intro (fun e2 => (h.s 16 rfl (h.s 17 rfl (And.intro (Or.inl rfl) (kq_mk ((q.2 e1).1 e2)))))) (fun e2 => (h.s 12 rfl (h.s 13 rfl (h.s 17 rfl (And.intro (Or.inr rfl) (kq_mk ((q.2 e1).2 e2))))))))))))))))
theorem g_Mo_isType {d : Nat} {F : Int32 → kS → Prop} {S : kS} {a0 : Int32} (q :
  (a0 < 0 →
    F 0 S) ∧
  (¬ (a0 < 0) →
    ((S 39 8) ≤ a0 →
      F 0 S) ∧
    (¬ ((S 39 8) ≤ a0) →
      F 1 S))) :
  kK (d + 1) m_Mo_isType [.inr 39, .inl a0] S (kq F) := kspec_of (fun _ h => f_Mo_isType_0 kspec_Mo h q)
-- Mo_variable cuts []
set_option maxRecDepth 20000 in
theorem f_Mo_variable_0 {M : kM} (hM : kMo M) {F : Int32 → kS → Prop} {G : kG} (h : kCl kC M (kq F) 100 G) {S : kS} {a0 a1 : Int32} (q :
  (a0 < 0 →
    F ((-1)) S) ∧
  (¬ (a0 < 0) →
    (7 < a0 →
      F ((-1)) S) ∧
    (¬ (7 < a0) →
      M m_Mo_isType [.inr 39, .inl a1] S (kq fun r2 S1 =>
        (¬ r2 = 0 →
          M m_Mo_begin [.inr 39] S1 (kv fun S3 =>
            vp_in a1 50 ∧
            M m_Mo_term [.inr 39, .inl 0, .inl a0, .inl 0, .inl (S3 46 (a1.toNatClampNeg))] S3 (kq fun r5 S4 =>
              M m_Mo_answer [.inr 39, .inl r5] S4 (kq fun r7 S6 =>
                F r7 S6)))) ∧
        (¬ (¬ r2 = 0) →
          F ((-1)) S1))))) :
  G 0 [some (.inr 39), some (.inl a0), some (.inl a1), none] [] S :=
  (h.s 0 rfl (h.s 1 rfl (And.intro (fun e8 => (h.s 18 rfl (h.s 19 rfl (kq_mk (q.1 e8))))) (fun e8 => (h.s 4 rfl (h.s 5 rfl (h.s 7 rfl (And.intro (fun e9 => (h.s 18 rfl (h.s 19 rfl (kq_mk ((q.2 e8).1 e9))))) (fun e9 => (h.s 10 rfl (h.s 11 rfl (h.s 12 rfl (And.intro (Nat.le_of_ble_eq_true rfl) (And.intro rfl (And.intro rfl (hM.q ((q.2 e8).2 e9) (fun r2 S1 q10 => (h.s 15 rfl (And.intro (fun e11 => (h.s 20 rfl (h.s 21 rfl (And.intro (Nat.le_of_ble_eq_true rfl) (And.intro rfl (And.intro rfl (hM.v (q10.1 e11) (fun S3 q12 => (h.s 24 rfl (h.s 25 rfl (h.s 26 rfl (h.s 27 rfl (h.s 28 rfl (h.s 29 rfl (h.s 32 rfl (h.s 33 rfl (And.intro q12.1 (h.s 34 rfl (And.intro (Nat.le_of_ble_eq_true rfl) (And.intro rfl (And.intro rfl (hM.q q12.2 (fun r5 S4 q13 => (h.s 37 rfl (h.s 38 rfl (h.s 39 rfl (h.s 40 rfl (And.intro (Nat.le_of_ble_eq_true rfl) (And.intro rfl (And.intro rfl (hM.q q13 (fun r7 S6 q14 => (h.s 43 rfl (kq_mk q14)))))))))))))))))))))))))))))))))) (fun e11 => (h.s 18 rfl (h.s 19 rfl (kq_mk (q10.2 e11))))))))))))))))))))))))
theorem g_Mo_variable {d : Nat} {F : Int32 → kS → Prop} {S : kS} {a0 a1 : Int32} (q :
  (a0 < 0 →
    F ((-1)) S) ∧
  (¬ (a0 < 0) →
    (7 < a0 →
      F ((-1)) S) ∧
    (¬ (7 < a0) →
      kK d m_Mo_isType [.inr 39, .inl a1] S (kq fun r2 S1 =>
        (¬ r2 = 0 →
          kK d m_Mo_begin [.inr 39] S1 (kv fun S3 =>
            vp_in a1 50 ∧
            kK d m_Mo_term [.inr 39, .inl 0, .inl a0, .inl 0, .inl (S3 46 (a1.toNatClampNeg))] S3 (kq fun r5 S4 =>
              kK d m_Mo_answer [.inr 39, .inl r5] S4 (kq fun r7 S6 =>
                F r7 S6)))) ∧
        (¬ (¬ r2 = 0) →
          F ((-1)) S1))))) :
  kK (d + 1) m_Mo_variable [.inr 39, .inl a0, .inl a1] S (kq F) := kspec_of (fun _ h => f_Mo_variable_0 kspec_Mo h q)
-- Mo_term cuts [3, 123]
set_option maxRecDepth 20000 in
theorem f_Mo_term_0 {M : kM} (hM : kMo M) {F : Int32 → kS → Prop} {G : kG} (h : kCl kC M (kq F) 101 G) {S : kS} {a0 a1 a2 a3 : Int32} (q :
  G 3 [some (.inr 39), some (.inl a0), some (.inl a1), some (.inl a2), some (.inl a3), some (.inl 0)] [] S) :
  G 0 [some (.inr 39), some (.inl a0), some (.inl a1), some (.inl a2), some (.inl a3), none] [] S :=
  (h.s 0 rfl (h.s 1 rfl q))
theorem g_Mo_term {d : Nat} {F : Int32 → kS → Prop} {S : kS} {a0 a1 a2 a3 : Int32} (q : ∀ G : kG, kCl kC (kK d) (kq F) 101 G →
  G 3 [some (.inr 39), some (.inl a0), some (.inl a1), some (.inl a2), some (.inl a3), some (.inl 0)] [] S) :
  kK (d + 1) m_Mo_term [.inr 39, .inl a0, .inl a1, .inl a2, .inl a3] S (kq F) := kspec_of (fun G h => f_Mo_term_0 kspec_Mo h (q G h))
set_option maxRecDepth 20000 in
theorem f_Mo_term_3 {M : kM} (hM : kMo M) {F : Int32 → kS → Prop} {G : kG} (h : kCl kC M (kq F) 101 G) {S : kS} {v1 v2 v3 v4 v5 : Int32} (q :
  ((S 39 9) ≤ v5 →
    (¬ v1 = 3 →
      (¬ v1 = 4 →
        G 123 [some (.inr 39), some (.inl v1), some (.inl v2), some (.inl v3), some (.inl v4), some (.inl 1)] [] S) ∧
      (¬ (¬ v1 = 4) →
        vp_in v3 250 ∧
        G 123 [some (.inr 39), some (.inl v1), some (.inl v2), some (.inl v3), some (.inl v4), some (.inl (1 + (S 51 (v3.toNatClampNeg))))] [] S)) ∧
    (¬ (¬ v1 = 3) →
      vp_in v2 250 ∧
      vp_in v3 250 ∧
      ((S 51 (v2.toNatClampNeg)) ≤ (S 51 (v3.toNatClampNeg)) →
        vp_in v3 250 ∧
        (¬ v1 = 4 →
          G 123 [some (.inr 39), some (.inl v1), some (.inl v2), some (.inl v3), some (.inl v4), some (.inl (1 + (S 51 (v3.toNatClampNeg))))] [] S) ∧
        (¬ (¬ v1 = 4) →
          vp_in v3 250 ∧
          G 123 [some (.inr 39), some (.inl v1), some (.inl v2), some (.inl v3), some (.inl v4), some (.inl (1 + (S 51 (v3.toNatClampNeg))))] [] S)) ∧
      (¬ ((S 51 (v2.toNatClampNeg)) ≤ (S 51 (v3.toNatClampNeg))) →
        vp_in v2 250 ∧
        (¬ v1 = 4 →
          G 123 [some (.inr 39), some (.inl v1), some (.inl v2), some (.inl v3), some (.inl v4), some (.inl (1 + (S 51 (v2.toNatClampNeg))))] [] S) ∧
        (¬ (¬ v1 = 4) →
          vp_in v3 250 ∧
          G 123 [some (.inr 39), some (.inl v1), some (.inl v2), some (.inl v3), some (.inl v4), some (.inl (1 + (S 51 (v3.toNatClampNeg))))] [] S)))) ∧
  (¬ ((S 39 9) ≤ v5) →
    vp_in v5 250 ∧
    (¬ (S 47 (v5.toNatClampNeg)) = v1 →
      G 3 [some (.inr 39), some (.inl v1), some (.inl v2), some (.inl v3), some (.inl v4), some (.inl (v5 + 1))] [] S) ∧
    (¬ (¬ (S 47 (v5.toNatClampNeg)) = v1) →
      vp_in v5 250 ∧
      (¬ (S 48 (v5.toNatClampNeg)) = v2 →
        G 3 [some (.inr 39), some (.inl v1), some (.inl v2), some (.inl v3), some (.inl v4), some (.inl (v5 + 1))] [] S) ∧
      (¬ (¬ (S 48 (v5.toNatClampNeg)) = v2) →
        vp_in v5 250 ∧
        (¬ (S 49 (v5.toNatClampNeg)) = v3 →
          G 3 [some (.inr 39), some (.inl v1), some (.inl v2), some (.inl v3), some (.inl v4), some (.inl (v5 + 1))] [] S) ∧
        (¬ (¬ (S 49 (v5.toNatClampNeg)) = v3) →
          vp_in v5 250 ∧
          (¬ (S 50 (v5.toNatClampNeg)) = v4 →
            G 3 [some (.inr 39), some (.inl v1), some (.inl v2), some (.inl v3), some (.inl v4), some (.inl (v5 + 1))] [] S) ∧
          (¬ (¬ (S 50 (v5.toNatClampNeg)) = v4) →
            F v5 S)))))) :
  G 3 [some (.inr 39), some (.inl v1), some (.inl v2), some (.inl v3), some (.inl v4), some (.inl v5)] [] S :=
  (h.s 3 rfl (h.s 5 rfl (h.s 6 rfl (h.s 9 rfl (And.intro (fun e1 => (h.s 66 rfl (h.s 67 rfl (h.s 69 rfl (h.s 70 rfl (h.s 71 rfl (And.intro (fun e2 => (h.s 108 rfl (h.s 109 rfl (h.s 110 rfl (And.intro (fun e3 => (((q.1 e1).1 e2).1 e3)) (fun e3 => (h.s 113 rfl (h.s 114 rfl (h.s 115 rfl (h.s 118 rfl (h.s 119 rfl (And.intro (((q.1 e1).1 e2).2 e3).1 (h.s 120 rfl (h.s 121 rfl (((q.1 e1).1 e2).2 e3).2)))))))))))))) (fun e2 => (h.s 74 rfl (h.s 75 rfl (h.s 76 rfl (h.s 79 rfl (h.s 80 rfl (And.intro ((q.1 e1).2 e2).1 (h.s 81 rfl (h.s 82 rfl (h.s 85 rfl (h.s 86 rfl (And.intro ((q.1 e1).2 e2).2.1 (h.s 87 rfl (And.intro (fun e4 => (h.s 99 rfl (h.s 100 rfl (h.s 103 rfl (h.s 104 rfl (And.intro (((q.1 e1).2 e2).2.2.1 e4).1 (h.s 105 rfl (h.s 106 rfl (h.s 108 rfl (h.s 109 rfl (h.s 110 rfl (And.intro (fun e5 => ((((q.1 e1).2 e2).2.2.1 e4).2.1 e5)) (fun e5 => (h.s 113 rfl (h.s 114 rfl (h.s 115 rfl (h.s 118 rfl (h.s 119 rfl (And.intro ((((q.1 e1).2 e2).2.2.1 e4).2.2 e5).1 (h.s 120 rfl (h.s 121 rfl ((((q.1 e1).2 e2).2.2.1 e4).2.2 e5).2))))))))))))))))))))) (fun e4 => (h.s 90 rfl (h.s 91 rfl (h.s 94 rfl (h.s 95 rfl (And.intro (((q.1 e1).2 e2).2.2.2 e4).1 (h.s 96 rfl (h.s 105 rfl (h.s 106 rfl (h.s 108 rfl (h.s 109 rfl (h.s 110 rfl (And.intro (fun e6 => ((((q.1 e1).2 e2).2.2.2 e4).2.1 e6)) (fun e6 => (h.s 113 rfl (h.s 114 rfl (h.s 115 rfl (h.s 118 rfl (h.s 119 rfl (And.intro ((((q.1 e1).2 e2).2.2.2 e4).2.2 e6).1 (h.s 120 rfl (h.s 121 rfl ((((q.1 e1).2 e2).2.2.2 e4).2.2 e6).2))))))))))))))))))))))))))))))))))))))))))) (fun e1 => (h.s 12 rfl (h.s 13 rfl (h.s 16 rfl (h.s 18 rfl (And.intro (q.2 e1).1 (h.s 19 rfl (h.s 20 rfl (And.intro (fun e7 => (h.s 60 rfl (h.s 63 rfl ((q.2 e1).2.1 e7)))) (fun e7 => (h.s 23 rfl (h.s 24 rfl (h.s 27 rfl (h.s 29 rfl (And.intro ((q.2 e1).2.2 e7).1 (h.s 30 rfl (h.s 31 rfl (And.intro (fun e8 => (h.s 60 rfl (h.s 63 rfl (((q.2 e1).2.2 e7).2.1 e8)))) (fun e8 => (h.s 34 rfl (h.s 35 rfl (h.s 38 rfl (h.s 40 rfl (And.intro (((q.2 e1).2.2 e7).2.2 e8).1 (h.s 41 rfl (h.s 42 rfl (And.intro (fun e9 => (h.s 60 rfl (h.s 63 rfl ((((q.2 e1).2.2 e7).2.2 e8).2.1 e9)))) (fun e9 => (h.s 45 rfl (h.s 46 rfl (h.s 49 rfl (h.s 51 rfl (And.intro ((((q.2 e1).2.2 e7).2.2 e8).2.2 e9).1 (h.s 52 rfl (h.s 54 rfl (And.intro (fun e10 => (h.s 60 rfl (h.s 63 rfl (((((q.2 e1).2.2 e7).2.2 e8).2.2 e9).2.1 e10)))) (fun e10 => (h.s 57 rfl (h.s 59 rfl (kq_mk (((((q.2 e1).2.2 e7).2.2 e8).2.2 e9).2.2 e10))))))))))))))))))))))))))))))))))))))))))))))
set_option maxRecDepth 20000 in
theorem f_Mo_term_123 {M : kM} (hM : kMo M) {F : Int32 → kS → Prop} {G : kG} (h : kCl kC M (kq F) 101 G) {S : kS} {v1 v2 v3 v4 v5 : Int32} (q :
  (¬ (S 39 33) = 0 →
    F 0 (ku S 39 33 1)) ∧
  (¬ (¬ (S 39 33) = 0) →
    (20 < v5 →
      F 0 (ku S 39 33 1)) ∧
    (¬ (20 < v5) →
      (¬ (S 39 9) = 250 →
        vp_in (S 39 9) 250 ∧
        vp_in (S 39 9) 250 ∧
        vp_in (S 39 9) 250 ∧
        vp_in (S 39 9) 250 ∧
        vp_in (S 39 9) 250 ∧
        vp_in (S 39 9) 250 ∧
        F (((S 39 9) + 1) - 1) (ku (ku (ku (ku (ku (ku (ku S 47 ((S 39 9).toNatClampNeg) v1) 48 ((S 39 9).toNatClampNeg) v2) 49 ((S 39 9).toNatClampNeg) v3) 50 ((S 39 9).toNatClampNeg) v4) 51 ((S 39 9).toNatClampNeg) v5) 52 ((S 39 9).toNatClampNeg) ((-1))) 39 9 ((S 39 9) + 1))) ∧
      (¬ (¬ (S 39 9) = 250) →
        F 0 (ku S 39 33 1))))) :
  G 123 [some (.inr 39), some (.inl v1), some (.inl v2), some (.inl v3), some (.inl v4), some (.inl v5)] [] S :=
  (h.s 123 rfl (h.s 124 rfl (h.s 127 rfl (And.intro (fun e1 => (h.s 147 rfl (h.s 148 rfl (h.s 149 rfl (And.intro (Or.inr rfl) (h.s 152 rfl (h.s 153 rfl (kq_mk (q.1 e1))))))))) (fun e1 => (h.s 130 rfl (h.s 132 rfl (h.s 134 rfl (And.intro (fun e2 => (h.s 147 rfl (h.s 148 rfl (h.s 149 rfl (And.intro (Or.inr rfl) (h.s 152 rfl (h.s 153 rfl (kq_mk ((q.2 e1).1 e2))))))))) (fun e2 => (h.s 137 rfl (h.s 138 rfl (h.s 141 rfl (h.s 144 rfl (And.intro (fun e3 => (h.s 154 rfl (h.s 155 rfl (h.s 158 rfl (h.s 159 rfl (h.s 162 rfl (h.s 163 rfl (And.intro (((q.2 e1).2 e2).1 e3).1 (h.s 164 rfl (h.s 165 rfl (h.s 168 rfl (h.s 169 rfl (h.s 172 rfl (h.s 173 rfl (And.intro (((q.2 e1).2 e2).1 e3).2.1 (h.s 174 rfl (h.s 175 rfl (h.s 178 rfl (h.s 179 rfl (h.s 182 rfl (h.s 183 rfl (And.intro (((q.2 e1).2 e2).1 e3).2.2.1 (h.s 184 rfl (h.s 185 rfl (h.s 188 rfl (h.s 189 rfl (h.s 192 rfl (h.s 194 rfl (And.intro (((q.2 e1).2 e2).1 e3).2.2.2.1 (h.s 195 rfl (h.s 196 rfl (h.s 199 rfl (h.s 200 rfl (h.s 203 rfl (h.s 205 rfl (And.intro (((q.2 e1).2 e2).1 e3).2.2.2.2.1 (h.s 206 rfl (h.s 207 rfl (h.s 210 rfl (h.s 211 rfl (h.s 214 rfl (h.s 215 rfl (And.intro (((q.2 e1).2 e2).1 e3).2.2.2.2.2.1 (h.s 216 rfl (h.s 217 rfl (h.s 218 rfl (h.s 221 rfl (h.s 222 rfl (h.s 223 rfl (h.s 226 rfl (h.s 227 rfl (h.s 230 rfl (h.s 231 rfl (h.s 232 rfl (kq_mk (((q.2 e1).2 e2).1 e3).2.2.2.2.2.2))))))))))))))))))))))))))))))))))))))))))))))))))))))) (fun e3 => (h.s 147 rfl (h.s 148 rfl (h.s 149 rfl (And.intro (Or.inr rfl) (h.s 152 rfl (h.s 153 rfl (kq_mk (((q.2 e1).2 e2).2 e3))))))))))))))))))))))))
-- Mo_answer cuts []
set_option maxRecDepth 20000 in
theorem f_Mo_answer_0 {M : kM} (hM : kMo M) {F : Int32 → kS → Prop} {G : kG} (h : kCl kC M (kq F) 102 G) {S : kS} {a0 : Int32} (q :
  M m_Mo_stays [.inr 39] S (kq fun r2 S1 =>
    (r2 = 0 →
      F ((-1)) S1) ∧
    (¬ (r2 = 0) →
      M m_Mo_numberOf [.inr 39, .inl a0] S1 (kq fun r4 S3 =>
        F r4 S3)))) :
  G 0 [some (.inr 39), some (.inl a0)] [] S :=
  (h.s 0 rfl (h.s 1 rfl (And.intro (Nat.le_of_ble_eq_true rfl) (And.intro rfl (And.intro rfl (hM.q q (fun r2 S1 q5 => (h.s 4 rfl (And.intro (fun e6 => (h.s 15 rfl (h.s 16 rfl (kq_mk (q5.1 e6))))) (fun e6 => (h.s 7 rfl (h.s 8 rfl (h.s 9 rfl (And.intro (Nat.le_of_ble_eq_true rfl) (And.intro rfl (And.intro rfl (hM.q (q5.2 e6) (fun r4 S3 q7 => (h.s 12 rfl (h.s 16 rfl (kq_mk q7)))))))))))))))))))))
theorem g_Mo_answer {d : Nat} {F : Int32 → kS → Prop} {S : kS} {a0 : Int32} (q :
  kK d m_Mo_stays [.inr 39] S (kq fun r2 S1 =>
    (r2 = 0 →
      F ((-1)) S1) ∧
    (¬ (r2 = 0) →
      kK d m_Mo_numberOf [.inr 39, .inl a0] S1 (kq fun r4 S3 =>
        F r4 S3)))) :
  kK (d + 1) m_Mo_answer [.inr 39, .inl a0] S (kq F) := kspec_of (fun _ h => f_Mo_answer_0 kspec_Mo h q)
-- Mo_numberOf cuts []
set_option maxRecDepth 20000 in
theorem f_Mo_numberOf_0 {M : kM} (hM : kMo M) {F : Int32 → kS → Prop} {G : kG} (h : kCl kC M (kq F) 103 G) {S : kS} {a0 : Int32} (q :
  vp_in a0 250 ∧
  (0 ≤ (S 52 (a0.toNatClampNeg)) →
    vp_in a0 250 ∧
    F (S 52 (a0.toNatClampNeg)) S) ∧
  (¬ (0 ≤ (S 52 (a0.toNatClampNeg))) →
    vp_in a0 250 ∧
    vp_in (S 39 17) 250 ∧
    vp_in a0 250 ∧
    F ((ku S 52 (a0.toNatClampNeg) (S 39 17)) 52 (a0.toNatClampNeg)) (ku (ku (ku S 52 (a0.toNatClampNeg) (S 39 17)) 53 ((S 39 17).toNatClampNeg) a0) 39 17 ((S 39 17) + 1)))) :
  G 0 [some (.inr 39), some (.inl a0)] [] S :=
  (h.s 0 rfl (h.s 1 rfl (h.s 4 rfl (h.s 5 rfl (And.intro q.1 (h.s 6 rfl (And.intro (fun e1 => (h.s 39 rfl (h.s 40 rfl (h.s 43 rfl (h.s 44 rfl (And.intro (q.2.1 e1).1 (h.s 45 rfl (kq_mk (q.2.1 e1).2)))))))) (fun e1 => (h.s 9 rfl (h.s 10 rfl (h.s 13 rfl (h.s 14 rfl (h.s 15 rfl (h.s 18 rfl (And.intro (q.2.2 e1).1 (h.s 19 rfl (h.s 20 rfl (h.s 23 rfl (h.s 24 rfl (h.s 27 rfl (h.s 28 rfl (And.intro (q.2.2 e1).2.1 (h.s 29 rfl (h.s 30 rfl (h.s 31 rfl (h.s 34 rfl (h.s 35 rfl (h.s 36 rfl (h.s 39 rfl (h.s 40 rfl (h.s 43 rfl (h.s 44 rfl (And.intro (q.2.2 e1).2.2.1 (h.s 45 rfl (kq_mk (q.2.2 e1).2.2.2)))))))))))))))))))))))))))))))))))
theorem g_Mo_numberOf {d : Nat} {F : Int32 → kS → Prop} {S : kS} {a0 : Int32} (q :
  vp_in a0 250 ∧
  (0 ≤ (S 52 (a0.toNatClampNeg)) →
    vp_in a0 250 ∧
    F (S 52 (a0.toNatClampNeg)) S) ∧
  (¬ (0 ≤ (S 52 (a0.toNatClampNeg))) →
    vp_in a0 250 ∧
    vp_in (S 39 17) 250 ∧
    vp_in a0 250 ∧
    F ((ku S 52 (a0.toNatClampNeg) (S 39 17)) 52 (a0.toNatClampNeg)) (ku (ku (ku S 52 (a0.toNatClampNeg) (S 39 17)) 53 ((S 39 17).toNatClampNeg) a0) 39 17 ((S 39 17) + 1)))) :
  kK (d + 1) m_Mo_numberOf [.inr 39, .inl a0] S (kq F) := kspec_of (fun _ h => f_Mo_numberOf_0 kspec_Mo h q)
-- Mo_equality cuts []
set_option maxRecDepth 20000 in
theorem f_Mo_equality_0 {M : kM} (hM : kMo M) {F : Int32 → kS → Prop} {G : kG} (h : kCl kC M (kq F) 104 G) {S : kS} {a0 : Int32} (q :
  M m_Mo_isType [.inr 39, .inl a0] S (kq fun r2 S1 =>
    (¬ r2 = 0 →
      M m_Mo_begin [.inr 39] S1 (kv fun S3 =>
        vp_in a0 50 ∧
        M m_Mo_same [.inr 39, .inl (S3 46 (a0.toNatClampNeg))] S3 (kq fun r5 S4 =>
          M m_Mo_answer [.inr 39, .inl r5] S4 (kq fun r7 S6 =>
            F r7 S6)))) ∧
    (¬ (¬ r2 = 0) →
      F ((-1)) S1))) :
  G 0 [some (.inr 39), some (.inl a0), none] [] S :=
  (h.s 0 rfl (h.s 1 rfl (h.s 2 rfl (And.intro (Nat.le_of_ble_eq_true rfl) (And.intro rfl (And.intro rfl (hM.q q (fun r2 S1 q8 => (h.s 5 rfl (And.intro (fun e9 => (h.s 10 rfl (h.s 11 rfl (And.intro (Nat.le_of_ble_eq_true rfl) (And.intro rfl (And.intro rfl (hM.v (q8.1 e9) (fun S3 q10 => (h.s 14 rfl (h.s 15 rfl (h.s 16 rfl (h.s 19 rfl (h.s 20 rfl (And.intro q10.1 (h.s 21 rfl (And.intro (Nat.le_of_ble_eq_true rfl) (And.intro rfl (And.intro rfl (hM.q q10.2 (fun r5 S4 q11 => (h.s 24 rfl (h.s 25 rfl (h.s 26 rfl (h.s 27 rfl (And.intro (Nat.le_of_ble_eq_true rfl) (And.intro rfl (And.intro rfl (hM.q q11 (fun r7 S6 q12 => (h.s 30 rfl (kq_mk q12))))))))))))))))))))))))))))))) (fun e9 => (h.s 8 rfl (h.s 9 rfl (kq_mk (q8.2 e9)))))))))))))))
theorem g_Mo_equality {d : Nat} {F : Int32 → kS → Prop} {S : kS} {a0 : Int32} (q :
  kK d m_Mo_isType [.inr 39, .inl a0] S (kq fun r2 S1 =>
    (¬ r2 = 0 →
      kK d m_Mo_begin [.inr 39] S1 (kv fun S3 =>
        vp_in a0 50 ∧
        kK d m_Mo_same [.inr 39, .inl (S3 46 (a0.toNatClampNeg))] S3 (kq fun r5 S4 =>
          kK d m_Mo_answer [.inr 39, .inl r5] S4 (kq fun r7 S6 =>
            F r7 S6)))) ∧
    (¬ (¬ r2 = 0) →
      F ((-1)) S1))) :
  kK (d + 1) m_Mo_equality [.inr 39, .inl a0] S (kq F) := kspec_of (fun _ h => f_Mo_equality_0 kspec_Mo h q)
-- Mo_same cuts []
set_option maxRecDepth 20000 in
theorem f_Mo_same_0 {M : kM} (hM : kMo M) {F : Int32 → kS → Prop} {G : kG} (h : kCl kC M (kq F) 105 G) {S : kS} {a0 : Int32} (q :
  M m_Mo_type [.inr 39, .inl 4, .inl a0, .inl 0] S (kq fun r2 S1 =>
    M m_Mo_type [.inr 39, .inl 4, .inl a0, .inl r2] S1 (kq fun r4 S3 =>
      M m_Mo_term [.inr 39, .inl 1, .inl a0, .inl 0, .inl r4] S3 (kq fun r6 S5 =>
        F r6 S5)))) :
  G 0 [some (.inr 39), some (.inl a0), none, none] [] S :=
  (h.s 0 rfl (h.s 1 rfl (h.s 2 rfl (h.s 3 rfl (h.s 4 rfl (And.intro (Nat.le_of_ble_eq_true rfl) (And.intro rfl (And.intro rfl (hM.q q (fun r2 S1 q7 => (h.s 7 rfl (h.s 8 rfl (h.s 9 rfl (h.s 10 rfl (h.s 11 rfl (h.s 12 rfl (And.intro (Nat.le_of_ble_eq_true rfl) (And.intro rfl (And.intro rfl (hM.q q7 (fun r4 S3 q8 => (h.s 15 rfl (h.s 16 rfl (h.s 17 rfl (h.s 18 rfl (h.s 19 rfl (h.s 20 rfl (h.s 21 rfl (And.intro (Nat.le_of_ble_eq_true rfl) (And.intro rfl (And.intro rfl (hM.q q8 (fun r6 S5 q9 => (h.s 24 rfl (kq_mk q9)))))))))))))))))))))))))))))))))))
theorem g_Mo_same {d : Nat} {F : Int32 → kS → Prop} {S : kS} {a0 : Int32} (q :
  kK d m_Mo_type [.inr 39, .inl 4, .inl a0, .inl 0] S (kq fun r2 S1 =>
    kK d m_Mo_type [.inr 39, .inl 4, .inl a0, .inl r2] S1 (kq fun r4 S3 =>
      kK d m_Mo_term [.inr 39, .inl 1, .inl a0, .inl 0, .inl r4] S3 (kq fun r6 S5 =>
        F r6 S5)))) :
  kK (d + 1) m_Mo_same [.inr 39, .inl a0] S (kq F) := kspec_of (fun _ h => f_Mo_same_0 kspec_Mo h q)
-- Mo_apply cuts []
set_option maxRecDepth 20000 in
theorem f_Mo_apply_0 {M : kM} (hM : kMo M) {F : Int32 → kS → Prop} {G : kG} (h : kCl kC M (kq F) 106 G) {S : kS} {a0 a1 : Int32} (q :
  M m_Mo_isTerm [.inr 39, .inl a0] S (kq fun r2 S1 =>
    (r2 = 0 →
      F ((-1)) S1) ∧
    (¬ (r2 = 0) →
      M m_Mo_isTerm [.inr 39, .inl a1] S1 (kq fun r4 S3 =>
        (r4 = 0 →
          F ((-1)) S3) ∧
        (¬ (r4 = 0) →
          vp_in a0 250 ∧
          vp_in a1 250 ∧
          M m_Mo_fits [.inr 39, .inl (S3 53 (a0.toNatClampNeg)), .inl (S3 53 (a1.toNatClampNeg))] S3 (kq fun r6 S5 =>
            (¬ r6 = 0 →
              M m_Mo_begin [.inr 39] S5 (kv fun S7 =>
                vp_in a0 250 ∧
                vp_in a1 250 ∧
                M m_Mo_application [.inr 39, .inl (S7 53 (a0.toNatClampNeg)), .inl (S7 53 (a1.toNatClampNeg))] S7 (kq fun r9 S8 =>
                  M m_Mo_answer [.inr 39, .inl r9] S8 (kq fun r11 S10 =>
                    F r11 S10)))) ∧
            (¬ (¬ r6 = 0) →
              F ((-1)) S5))))))) :
  G 0 [some (.inr 39), some (.inl a0), some (.inl a1), none] [] S :=
  (h.s 0 rfl (h.s 1 rfl (h.s 2 rfl (And.intro (Nat.le_of_ble_eq_true rfl) (And.intro rfl (And.intro rfl (hM.q q (fun r2 S1 q12 => (h.s 5 rfl (And.intro (fun e13 => (h.s 35 rfl (h.s 36 rfl (kq_mk (q12.1 e13))))) (fun e13 => (h.s 8 rfl (h.s 9 rfl (h.s 10 rfl (And.intro (Nat.le_of_ble_eq_true rfl) (And.intro rfl (And.intro rfl (hM.q (q12.2 e13) (fun r4 S3 q14 => (h.s 13 rfl (And.intro (fun e15 => (h.s 35 rfl (h.s 36 rfl (kq_mk (q14.1 e15))))) (fun e15 => (h.s 16 rfl (h.s 17 rfl (h.s 18 rfl (h.s 21 rfl (h.s 22 rfl (And.intro (q14.2 e15).1 (h.s 23 rfl (h.s 24 rfl (h.s 27 rfl (h.s 28 rfl (And.intro (q14.2 e15).2.1 (h.s 29 rfl (And.intro (Nat.le_of_ble_eq_true rfl) (And.intro rfl (And.intro rfl (hM.q (q14.2 e15).2.2 (fun r6 S5 q16 => (h.s 32 rfl (And.intro (fun e17 => (h.s 37 rfl (h.s 38 rfl (And.intro (Nat.le_of_ble_eq_true rfl) (And.intro rfl (And.intro rfl (hM.v (q16.1 e17) (fun S7 q18 => (h.s 41 rfl (h.s 42 rfl (h.s 43 rfl (h.s 46 rfl (h.s 47 rfl (And.intro q18.1 (h.s 48 rfl (h.s 49 rfl (h.s 52 rfl (h.s 53 rfl (And.intro q18.2.1 (h.s 54 rfl (And.intro (Nat.le_of_ble_eq_true rfl) (And.intro rfl (And.intro rfl (hM.q q18.2.2 (fun r9 S8 q19 => (h.s 57 rfl (h.s 58 rfl (h.s 59 rfl (h.s 60 rfl (And.intro (Nat.le_of_ble_eq_true rfl) (And.intro rfl (And.intro rfl (hM.q q19 (fun r11 S10 q20 => (h.s 63 rfl (kq_mk q20)))))))))))))))))))))))))))))))))))) (fun e17 => (h.s 35 rfl (h.s 36 rfl (kq_mk (q16.2 e17))))))))))))))))))))))))))))))))))))))))))))))
theorem g_Mo_apply {d : Nat} {F : Int32 → kS → Prop} {S : kS} {a0 a1 : Int32} (q :
  kK d m_Mo_isTerm [.inr 39, .inl a0] S (kq fun r2 S1 =>
    (r2 = 0 →
      F ((-1)) S1) ∧
    (¬ (r2 = 0) →
      kK d m_Mo_isTerm [.inr 39, .inl a1] S1 (kq fun r4 S3 =>
        (r4 = 0 →
          F ((-1)) S3) ∧
        (¬ (r4 = 0) →
          vp_in a0 250 ∧
          vp_in a1 250 ∧
          kK d m_Mo_fits [.inr 39, .inl (S3 53 (a0.toNatClampNeg)), .inl (S3 53 (a1.toNatClampNeg))] S3 (kq fun r6 S5 =>
            (¬ r6 = 0 →
              kK d m_Mo_begin [.inr 39] S5 (kv fun S7 =>
                vp_in a0 250 ∧
                vp_in a1 250 ∧
                kK d m_Mo_application [.inr 39, .inl (S7 53 (a0.toNatClampNeg)), .inl (S7 53 (a1.toNatClampNeg))] S7 (kq fun r9 S8 =>
                  kK d m_Mo_answer [.inr 39, .inl r9] S8 (kq fun r11 S10 =>
                    F r11 S10)))) ∧
            (¬ (¬ r6 = 0) →
              F ((-1)) S5))))))) :
  kK (d + 1) m_Mo_apply [.inr 39, .inl a0, .inl a1] S (kq F) := kspec_of (fun _ h => f_Mo_apply_0 kspec_Mo h q)
-- Mo_isTerm cuts []
set_option maxRecDepth 20000 in
theorem f_Mo_isTerm_0 {M : kM} (hM : kMo M) {F : Int32 → kS → Prop} {G : kG} (h : kCl kC M (kq F) 107 G) {S : kS} {a0 : Int32} (q :
  (a0 < 0 →
    F 0 S) ∧
  (¬ (a0 < 0) →
    ((S 39 17) ≤ a0 →
      F 0 S) ∧
    (¬ ((S 39 17) ≤ a0) →
      F 1 S))) :
  G 0 [some (.inr 39), some (.inl a0)] [] S :=
  (h.s 0 rfl (h.s 1 rfl (And.intro (fun e1 => (h.s 16 rfl (h.s 17 rfl (And.intro (Or.inl rfl) (kq_mk (q.1 e1)))))) (fun e1 => (h.s 4 rfl (h.s 5 rfl (h.s 6 rfl (h.s 9 rfl (And.intro (fun e2 => (h.s 16 rfl (h.s 17 rfl (And.intro (Or.inl rfl) (kq_mk ((q.2 e1).1 e2)))))) (fun e2 => (h.s 12 rfl (h.s 13 rfl (h.s 17 rfl (And.intro (Or.inr rfl) (kq_mk ((q.2 e1).2 e2))))))))))))))))
theorem g_Mo_isTerm {d : Nat} {F : Int32 → kS → Prop} {S : kS} {a0 : Int32} (q :
  (a0 < 0 →
    F 0 S) ∧
  (¬ (a0 < 0) →
    ((S 39 17) ≤ a0 →
      F 0 S) ∧
    (¬ ((S 39 17) ≤ a0) →
      F 1 S))) :
  kK (d + 1) m_Mo_isTerm [.inr 39, .inl a0] S (kq F) := kspec_of (fun _ h => f_Mo_isTerm_0 kspec_Mo h q)
-- Mo_fits cuts []
set_option maxRecDepth 20000 in
theorem f_Mo_fits_0 {M : kM} (hM : kMo M) {F : Int32 → kS → Prop} {G : kG} (h : kCl kC M (kq F) 108 G) {S : kS} {a0 a1 : Int32} (q :
  vp_in a0 250 ∧
  vp_in (S 50 (a0.toNatClampNeg)) 50 ∧
  (¬ (S 40 ((S 50 (a0.toNatClampNeg)).toNatClampNeg)) = 4 →
    F 0 S) ∧
  (¬ (¬ (S 40 ((S 50 (a0.toNatClampNeg)).toNatClampNeg)) = 4) →
    vp_in (S 50 (a0.toNatClampNeg)) 50 ∧
    vp_in a1 250 ∧
    (¬ (S 41 ((S 50 (a0.toNatClampNeg)).toNatClampNeg)) = (S 50 (a1.toNatClampNeg)) →
      F 0 S) ∧
    (¬ (¬ (S 41 ((S 50 (a0.toNatClampNeg)).toNatClampNeg)) = (S 50 (a1.toNatClampNeg))) →
      F 1 S))) :
  G 0 [some (.inr 39), some (.inl a0), some (.inl a1), none] [] S :=
  (h.s 0 rfl (h.s 1 rfl (h.s 4 rfl (h.s 5 rfl (And.intro q.1 (h.s 6 rfl (h.s 7 rfl (h.s 8 rfl (h.s 11 rfl (h.s 12 rfl (And.intro q.2.1 (h.s 13 rfl (h.s 14 rfl (And.intro (fun e1 => (h.s 36 rfl (h.s 37 rfl (And.intro (Or.inl rfl) (kq_mk (q.2.2.1 e1)))))) (fun e1 => (h.s 17 rfl (h.s 18 rfl (h.s 21 rfl (h.s 22 rfl (And.intro (q.2.2.2 e1).1 (h.s 23 rfl (h.s 24 rfl (h.s 27 rfl (h.s 28 rfl (And.intro (q.2.2.2 e1).2.1 (h.s 29 rfl (And.intro (fun e2 => (h.s 36 rfl (h.s 37 rfl (And.intro (Or.inl rfl) (kq_mk ((q.2.2.2 e1).2.2.1 e2)))))) (fun e2 => (h.s 32 rfl (h.s 33 rfl (h.s 37 rfl (And.intro (Or.inr rfl) (kq_mk ((q.2.2.2 e1).2.2.2 e2))))))))))))))))))))))))))))))))))
theorem g_Mo_fits {d : Nat} {F : Int32 → kS → Prop} {S : kS} {a0 a1 : Int32} (q :
  vp_in a0 250 ∧
  vp_in (S 50 (a0.toNatClampNeg)) 50 ∧
  (¬ (S 40 ((S 50 (a0.toNatClampNeg)).toNatClampNeg)) = 4 →
    F 0 S) ∧
  (¬ (¬ (S 40 ((S 50 (a0.toNatClampNeg)).toNatClampNeg)) = 4) →
    vp_in (S 50 (a0.toNatClampNeg)) 50 ∧
    vp_in a1 250 ∧
    (¬ (S 41 ((S 50 (a0.toNatClampNeg)).toNatClampNeg)) = (S 50 (a1.toNatClampNeg)) →
      F 0 S) ∧
    (¬ (¬ (S 41 ((S 50 (a0.toNatClampNeg)).toNatClampNeg)) = (S 50 (a1.toNatClampNeg))) →
      F 1 S))) :
  kK (d + 1) m_Mo_fits [.inr 39, .inl a0, .inl a1] S (kq F) := kspec_of (fun _ h => f_Mo_fits_0 kspec_Mo h q)
-- Mo_application cuts []
set_option maxRecDepth 20000 in
theorem f_Mo_application_0 {M : kM} (hM : kMo M) {F : Int32 → kS → Prop} {G : kG} (h : kCl kC M (kq F) 109 G) {S : kS} {a0 a1 : Int32} (q :
  vp_in a0 250 ∧
  vp_in (S 50 (a0.toNatClampNeg)) 50 ∧
  M m_Mo_term [.inr 39, .inl 3, .inl a0, .inl a1, .inl (S 42 ((S 50 (a0.toNatClampNeg)).toNatClampNeg))] S (kq fun r2 S1 =>
    F r2 S1)) :
  G 0 [some (.inr 39), some (.inl a0), some (.inl a1)] [] S :=
  (h.s 0 rfl (h.s 1 rfl (h.s 2 rfl (h.s 3 rfl (h.s 4 rfl (h.s 5 rfl (h.s 8 rfl (h.s 9 rfl (h.s 12 rfl (h.s 13 rfl (And.intro q.1 (h.s 14 rfl (And.intro q.2.1 (h.s 15 rfl (And.intro (Nat.le_of_ble_eq_true rfl) (And.intro rfl (And.intro rfl (hM.q q.2.2 (fun r2 S1 q3 => (h.s 18 rfl (kq_mk q3)))))))))))))))))))))
theorem g_Mo_application {d : Nat} {F : Int32 → kS → Prop} {S : kS} {a0 a1 : Int32} (q :
  vp_in a0 250 ∧
  vp_in (S 50 (a0.toNatClampNeg)) 50 ∧
  kK d m_Mo_term [.inr 39, .inl 3, .inl a0, .inl a1, .inl (S 42 ((S 50 (a0.toNatClampNeg)).toNatClampNeg))] S (kq fun r2 S1 =>
    F r2 S1)) :
  kK (d + 1) m_Mo_application [.inr 39, .inl a0, .inl a1] S (kq F) := kspec_of (fun _ h => f_Mo_application_0 kspec_Mo h q)
-- Mo_lambda cuts []
set_option maxRecDepth 20000 in
theorem f_Mo_lambda_0 {M : kM} (hM : kMo M) {F : Int32 → kS → Prop} {G : kG} (h : kCl kC M (kq F) 110 G) {S : kS} {a0 a1 : Int32} (q :
  M m_Mo_isTerm [.inr 39, .inl a0] S (kq fun r2 S1 =>
    (r2 = 0 →
      F ((-1)) S1) ∧
    (¬ (r2 = 0) →
      M m_Mo_isTerm [.inr 39, .inl a1] S1 (kq fun r4 S3 =>
        (r4 = 0 →
          F ((-1)) S3) ∧
        (¬ (r4 = 0) →
          vp_in a0 250 ∧
          vp_in (S3 53 (a0.toNatClampNeg)) 250 ∧
          ((S3 47 ((S3 53 (a0.toNatClampNeg)).toNatClampNeg)) = 0 →
            M m_Mo_begin [.inr 39] S3 (kv fun S5 =>
              vp_in a0 250 ∧
              vp_in a1 250 ∧
              M m_Mo_closedOver [.inr 39, .inl (S5 53 (a0.toNatClampNeg)), .inl (S5 53 (a1.toNatClampNeg))] S5 (kq fun r7 S6 =>
                M m_Mo_answer [.inr 39, .inl r7] S6 (kq fun r9 S8 =>
                  F r9 S8)))) ∧
          (¬ ((S3 47 ((S3 53 (a0.toNatClampNeg)).toNatClampNeg)) = 0) →
            F ((-1)) S3)))))) :
  G 0 [some (.inr 39), some (.inl a0), some (.inl a1), none] [] S :=
  (h.s 0 rfl (h.s 1 rfl (h.s 2 rfl (And.intro (Nat.le_of_ble_eq_true rfl) (And.intro rfl (And.intro rfl (hM.q q (fun r2 S1 q10 => (h.s 5 rfl (And.intro (fun e11 => (h.s 30 rfl (h.s 31 rfl (kq_mk (q10.1 e11))))) (fun e11 => (h.s 8 rfl (h.s 9 rfl (h.s 10 rfl (And.intro (Nat.le_of_ble_eq_true rfl) (And.intro rfl (And.intro rfl (hM.q (q10.2 e11) (fun r4 S3 q12 => (h.s 13 rfl (And.intro (fun e13 => (h.s 30 rfl (h.s 31 rfl (kq_mk (q12.1 e13))))) (fun e13 => (h.s 16 rfl (h.s 17 rfl (h.s 20 rfl (h.s 21 rfl (h.s 24 rfl (h.s 25 rfl (And.intro (q12.2 e13).1 (h.s 26 rfl (And.intro (q12.2 e13).2.1 (h.s 27 rfl (And.intro (fun e14 => (h.s 32 rfl (h.s 33 rfl (And.intro (Nat.le_of_ble_eq_true rfl) (And.intro rfl (And.intro rfl (hM.v ((q12.2 e13).2.2.1 e14) (fun S5 q15 => (h.s 36 rfl (h.s 37 rfl (h.s 38 rfl (h.s 41 rfl (h.s 42 rfl (And.intro q15.1 (h.s 43 rfl (h.s 44 rfl (h.s 47 rfl (h.s 48 rfl (And.intro q15.2.1 (h.s 49 rfl (And.intro (Nat.le_of_ble_eq_true rfl) (And.intro rfl (And.intro rfl (hM.q q15.2.2 (fun r7 S6 q16 => (h.s 52 rfl (h.s 53 rfl (h.s 54 rfl (h.s 55 rfl (And.intro (Nat.le_of_ble_eq_true rfl) (And.intro rfl (And.intro rfl (hM.q q16 (fun r9 S8 q17 => (h.s 58 rfl (kq_mk q17)))))))))))))))))))))))))))))))))))) (fun e14 => (h.s 30 rfl (h.s 31 rfl (kq_mk ((q12.2 e13).2.2.2 e14))))))))))))))))))))))))))))))))))))))
theorem g_Mo_lambda {d : Nat} {F : Int32 → kS → Prop} {S : kS} {a0 a1 : Int32} (q :
  kK d m_Mo_isTerm [.inr 39, .inl a0] S (kq fun r2 S1 =>
    (r2 = 0 →
      F ((-1)) S1) ∧
    (¬ (r2 = 0) →
      kK d m_Mo_isTerm [.inr 39, .inl a1] S1 (kq fun r4 S3 =>
        (r4 = 0 →
          F ((-1)) S3) ∧
        (¬ (r4 = 0) →
          vp_in a0 250 ∧
          vp_in (S3 53 (a0.toNatClampNeg)) 250 ∧
          ((S3 47 ((S3 53 (a0.toNatClampNeg)).toNatClampNeg)) = 0 →
            kK d m_Mo_begin [.inr 39] S3 (kv fun S5 =>
              vp_in a0 250 ∧
              vp_in a1 250 ∧
              kK d m_Mo_closedOver [.inr 39, .inl (S5 53 (a0.toNatClampNeg)), .inl (S5 53 (a1.toNatClampNeg))] S5 (kq fun r7 S6 =>
                kK d m_Mo_answer [.inr 39, .inl r7] S6 (kq fun r9 S8 =>
                  F r9 S8)))) ∧
          (¬ ((S3 47 ((S3 53 (a0.toNatClampNeg)).toNatClampNeg)) = 0) →
            F ((-1)) S3)))))) :
  kK (d + 1) m_Mo_lambda [.inr 39, .inl a0, .inl a1] S (kq F) := kspec_of (fun _ h => f_Mo_lambda_0 kspec_Mo h q)
-- Mo_closedOver cuts []
set_option maxRecDepth 20000 in
theorem f_Mo_closedOver_0 {M : kM} (hM : kMo M) {F : Int32 → kS → Prop} {G : kG} (h : kCl kC M (kq F) 111 G) {S : kS} {a0 a1 : Int32} (q :
  M m_Mo_changed [.inr 39, .inl a1, .inl 0, .inl a0, .inl 0] S (kq fun r2 S1 =>
    vp_in a0 250 ∧
    M m_Mo_abstraction [.inr 39, .inl (S1 50 (a0.toNatClampNeg)), .inl r2] S1 (kq fun r4 S3 =>
      F r4 S3))) :
  G 0 [some (.inr 39), some (.inl a0), some (.inl a1), none] [] S :=
  (h.s 0 rfl (h.s 1 rfl (h.s 2 rfl (h.s 3 rfl (h.s 4 rfl (h.s 5 rfl (And.intro (Nat.le_of_ble_eq_true rfl) (And.intro rfl (And.intro rfl (hM.q q (fun r2 S1 q5 => (h.s 8 rfl (h.s 9 rfl (h.s 10 rfl (h.s 11 rfl (h.s 14 rfl (h.s 15 rfl (And.intro q5.1 (h.s 16 rfl (h.s 17 rfl (And.intro (Nat.le_of_ble_eq_true rfl) (And.intro rfl (And.intro rfl (hM.q q5.2 (fun r4 S3 q6 => (h.s 20 rfl (kq_mk q6)))))))))))))))))))))))))))
theorem g_Mo_closedOver {d : Nat} {F : Int32 → kS → Prop} {S : kS} {a0 a1 : Int32} (q :
  kK d m_Mo_changed [.inr 39, .inl a1, .inl 0, .inl a0, .inl 0] S (kq fun r2 S1 =>
    vp_in a0 250 ∧
    kK d m_Mo_abstraction [.inr 39, .inl (S1 50 (a0.toNatClampNeg)), .inl r2] S1 (kq fun r4 S3 =>
      F r4 S3))) :
  kK (d + 1) m_Mo_closedOver [.inr 39, .inl a0, .inl a1] S (kq F) := kspec_of (fun _ h => f_Mo_closedOver_0 kspec_Mo h q)
-- Mo_changed cuts [10]
set_option maxRecDepth 20000 in
theorem f_Mo_changed_0 {M : kM} (hM : kMo M) {F : Int32 → kS → Prop} {G : kG} (h : kCl kC M (kq F) 112 G) {S : kS} {a0 a1 a2 a3 : Int32} (q :
  M m_Mo_mark [.inr 39, .inl a0, .inl a1, .inl a2] S (kv fun S1 =>
    G 10 [some (.inr 39), some (.inl a0), some (.inl a1), some (.inl a2), some (.inl a3), some (.inl 0)] [] S1)) :
  G 0 [some (.inr 39), some (.inl a0), some (.inl a1), some (.inl a2), some (.inl a3), none] [] S :=
  (h.s 0 rfl (h.s 1 rfl (h.s 2 rfl (h.s 3 rfl (h.s 4 rfl (And.intro (Nat.le_of_ble_eq_true rfl) (And.intro rfl (And.intro rfl (hM.v q (fun S1 q2 => (h.s 7 rfl (h.s 8 rfl q2))))))))))))
theorem g_Mo_changed {d : Nat} {F : Int32 → kS → Prop} {S : kS} {a0 a1 a2 a3 : Int32} (q : ∀ G : kG, kCl kC (kK d) (kq F) 112 G →
  kK d m_Mo_mark [.inr 39, .inl a0, .inl a1, .inl a2] S (kv fun S1 =>
    G 10 [some (.inr 39), some (.inl a0), some (.inl a1), some (.inl a2), some (.inl a3), some (.inl 0)] [] S1)) :
  kK (d + 1) m_Mo_changed [.inr 39, .inl a0, .inl a1, .inl a2, .inl a3] S (kq F) := kspec_of (fun G h => f_Mo_changed_0 kspec_Mo h (q G h))
set_option maxRecDepth 20000 in
theorem f_Mo_changed_10 {M : kM} (hM : kMo M) {F : Int32 → kS → Prop} {G : kG} (h : kCl kC M (kq F) 112 G) {S : kS} {v1 v2 v3 v4 v5 : Int32} (q :
  (((21 * v1) + 21) ≤ v5 →
    vp_in (21 * v1) 5250 ∧
    F (S 62 ((21 * v1).toNatClampNeg)) S) ∧
  (¬ (((21 * v1) + 21) ≤ v5) →
    vp_in v5 5250 ∧
    ((S 61 (v5.toNatClampNeg)) = 0 →
      G 10 [some (.inr 39), some (.inl v1), some (.inl v2), some (.inl v3), some (.inl v4), some (.inl (v5 + 1))] [] S) ∧
    (¬ ((S 61 (v5.toNatClampNeg)) = 0) →
      M m_Mo_become [.inr 39, .inl (v5 / 21), .inl (v5 - v5 / 21 * 21), .inl v2, .inl v3, .inl v4] S (kq fun r2 S1 =>
        vp_in v5 5250 ∧
        G 10 [some (.inr 39), some (.inl v1), some (.inl v2), some (.inl v3), some (.inl v4), some (.inl (v5 + 1))] [] (ku S1 62 (v5.toNatClampNeg) r2))))) :
  G 10 [some (.inr 39), some (.inl v1), some (.inl v2), some (.inl v3), some (.inl v4), some (.inl v5)] [] S :=
  (h.s 10 rfl (h.s 12 rfl (h.s 14 rfl (h.s 15 rfl (h.s 16 rfl (h.s 18 rfl (h.s 19 rfl (And.intro (fun e3 => (h.s 63 rfl (h.s 64 rfl (h.s 67 rfl (h.s 69 rfl (h.s 70 rfl (h.s 71 rfl (And.intro (q.1 e3).1 (h.s 72 rfl (kq_mk (q.1 e3).2)))))))))) (fun e3 => (h.s 22 rfl (h.s 23 rfl (h.s 26 rfl (h.s 28 rfl (And.intro (q.2 e3).1 (h.s 29 rfl (And.intro (fun e4 => (h.s 57 rfl (h.s 60 rfl ((q.2 e3).2.1 e4)))) (fun e4 => (h.s 32 rfl (h.s 33 rfl (h.s 36 rfl (h.s 38 rfl (h.s 39 rfl (h.s 41 rfl (h.s 43 rfl (And.intro (by decide) (h.s 44 rfl (h.s 46 rfl (h.s 48 rfl (And.intro (by decide) (h.s 49 rfl (h.s 50 rfl (h.s 51 rfl (h.s 53 rfl (And.intro (Nat.le_of_ble_eq_true rfl) (And.intro rfl (And.intro rfl (hM.q ((q.2 e3).2.2 e4) (fun r2 S1 q5 => (h.s 56 rfl (And.intro q5.1 (h.s 57 rfl (h.s 60 rfl q5.2))))))))))))))))))))))))))))))))))))))))))
-- Mo_mark cuts [3, 48, 84, 140]
set_option maxRecDepth 20000 in
theorem f_Mo_mark_0 {M : kM} (hM : kMo M) {F : kS → Prop} {G : kG} (h : kCl kC M (kv F) 113 G) {S : kS} {a0 a1 a2 : Int32} (q :
  G 3 [some (.inr 39), some (.inl a0), some (.inl a1), some (.inl a2), some (.inl 0), none, none] [] S) :
  G 0 [some (.inr 39), some (.inl a0), some (.inl a1), some (.inl a2), none, none, none] [] S :=
  (h.s 0 rfl (h.s 1 rfl q))
theorem g_Mo_mark {d : Nat} {F : kS → Prop} {S : kS} {a0 a1 a2 : Int32} (q : ∀ G : kG, kCl kC (kK d) (kv F) 113 G →
  G 3 [some (.inr 39), some (.inl a0), some (.inl a1), some (.inl a2), some (.inl 0), none, none] [] S) :
  kK (d + 1) m_Mo_mark [.inr 39, .inl a0, .inl a1, .inl a2] S (kv F) := kspec_of (fun G h => f_Mo_mark_0 kspec_Mo h (q G h))
set_option maxRecDepth 20000 in
theorem f_Mo_mark_3 {M : kM} (hM : kMo M) {F : kS → Prop} {G : kG} (h : kCl kC M (kv F) 113 G) {S : kS} {v1 v2 v3 v4 : Int32} (q :
  (((21 * v1) + 21) ≤ v4 →
    vp_in (21 * v1) 5250 ∧
    G 48 [some (.inr 39), some (.inl v1), some (.inl v2), some (.inl v3), some (.inl ((21 * v1) + 20)), none, none] [] (ku S 61 ((21 * v1).toNatClampNeg) (vp_nar .boolean 1))) ∧
  (¬ (((21 * v1) + 21) ≤ v4) →
    vp_in v4 5250 ∧
    G 3 [some (.inr 39), some (.inl v1), some (.inl v2), some (.inl v3), some (.inl (v4 + 1)), none, none] [] (ku S 61 (v4.toNatClampNeg) (vp_nar .boolean 0)))) :
  G 3 [some (.inr 39), some (.inl v1), some (.inl v2), some (.inl v3), some (.inl v4), none, none] [] S :=
  (h.s 3 rfl (h.s 5 rfl (h.s 7 rfl (h.s 8 rfl (h.s 9 rfl (h.s 11 rfl (h.s 12 rfl (And.intro (fun e1 => (h.s 29 rfl (h.s 30 rfl (h.s 33 rfl (h.s 35 rfl (h.s 36 rfl (h.s 37 rfl (h.s 38 rfl (And.intro (q.1 e1).1 (h.s 39 rfl (h.s 41 rfl (h.s 42 rfl (h.s 43 rfl (h.s 45 rfl (h.s 46 rfl (q.1 e1).2))))))))))))))) (fun e1 => (h.s 15 rfl (h.s 16 rfl (h.s 19 rfl (h.s 21 rfl (h.s 22 rfl (And.intro (q.2 e1).1 (h.s 23 rfl (h.s 26 rfl (q.2 e1).2)))))))))))))))))
set_option maxRecDepth 20000 in
theorem f_Mo_mark_48 {M : kM} (hM : kMo M) {F : kS → Prop} {G : kG} (h : kCl kC M (kv F) 113 G) {S : kS} {v1 v2 v3 v4 : Int32} {u5 u6 : Option kV} (q :
  (v4 < 0 →
    F S) ∧
  (¬ (v4 < 0) →
    vp_in v4 5250 ∧
    ((S 61 (v4.toNatClampNeg)) = 0 →
      G 48 [some (.inr 39), some (.inl v1), some (.inl v2), some (.inl v3), some (.inl (v4 + (-1))), some (.inl (v4 / 21)), u6] [] S) ∧
    (¬ ((S 61 (v4.toNatClampNeg)) = 0) →
      (¬ v2 = 4 →
        G 84 [some (.inr 39), some (.inl v1), some (.inl v2), some (.inl v3), some (.inl v4), some (.inl (v4 / 21)), u6] [] S) ∧
      (¬ (¬ v2 = 4) →
        (¬ (v4 / 21) = v3 →
          G 84 [some (.inr 39), some (.inl v1), some (.inl v2), some (.inl v3), some (.inl v4), some (.inl (v4 / 21)), u6] [] S) ∧
        (¬ (¬ (v4 / 21) = v3) →
          G 48 [some (.inr 39), some (.inl v1), some (.inl v2), some (.inl v3), some (.inl (v4 + (-1))), some (.inl (v4 / 21)), u6] [] S))))) :
  G 48 [some (.inr 39), some (.inl v1), some (.inl v2), some (.inl v3), some (.inl v4), u5, u6] [] S :=
  (h.s 48 rfl (h.s 50 rfl (And.intro (fun e1 => (h.s 188 rfl (kv_mk (q.1 e1)))) (fun e1 => (h.s 53 rfl (h.s 55 rfl (h.s 57 rfl (And.intro (by decide) (h.s 58 rfl (h.s 60 rfl (h.s 61 rfl (h.s 64 rfl (h.s 66 rfl (And.intro (q.2 e1).1 (h.s 67 rfl (And.intro (fun e2 => (h.s 182 rfl (h.s 185 rfl ((q.2 e1).2.1 e2)))) (fun e2 => (h.s 70 rfl (h.s 71 rfl (h.s 72 rfl (And.intro (fun e3 => (((q.2 e1).2.2 e2).1 e3)) (fun e3 => (h.s 75 rfl (h.s 77 rfl (h.s 78 rfl (And.intro (fun e4 => ((((q.2 e1).2.2 e2).2 e3).1 e4)) (fun e4 => (h.s 81 rfl (h.s 182 rfl (h.s 185 rfl ((((q.2 e1).2.2 e2).2 e3).2 e4)))))))))))))))))))))))))))))))
set_option maxRecDepth 20000 in
theorem f_Mo_mark_84 {M : kM} (hM : kMo M) {F : kS → Prop} {G : kG} (h : kCl kC M (kv F) 113 G) {S : kS} {v1 v2 v3 v4 v5 : Int32} {u6 : Option kV} (q :
  vp_in v5 250 ∧
  (¬ (S 47 (v5.toNatClampNeg)) = 3 →
    G 140 [some (.inr 39), some (.inl v1), some (.inl v2), some (.inl v3), some (.inl v4), some (.inl v5), some (.inl (v4 - v4 / 21 * 21))] [] S) ∧
  (¬ (¬ (S 47 (v5.toNatClampNeg)) = 3) →
    vp_in v5 250 ∧
    vp_in ((21 * (S 48 (v5.toNatClampNeg))) + (v4 - v4 / 21 * 21)) 5250 ∧
    vp_in v5 250 ∧
    vp_in ((21 * (S 49 (v5.toNatClampNeg))) + (v4 - v4 / 21 * 21)) 5250 ∧
    G 140 [some (.inr 39), some (.inl v1), some (.inl v2), some (.inl v3), some (.inl v4), some (.inl v5), some (.inl (v4 - v4 / 21 * 21))] [] (ku (ku S 61 (((21 * (S 48 (v5.toNatClampNeg))) + (v4 - v4 / 21 * 21)).toNatClampNeg) (vp_nar .boolean 1)) 61 (((21 * (S 49 (v5.toNatClampNeg))) + (v4 - v4 / 21 * 21)).toNatClampNeg) (vp_nar .boolean 1)))) :
  G 84 [some (.inr 39), some (.inl v1), some (.inl v2), some (.inl v3), some (.inl v4), some (.inl v5), u6] [] S :=
  (h.s 84 rfl (h.s 86 rfl (h.s 88 rfl (And.intro (by decide) (h.s 89 rfl (h.s 91 rfl (h.s 92 rfl (h.s 95 rfl (h.s 97 rfl (And.intro q.1 (h.s 98 rfl (h.s 99 rfl (And.intro (fun e1 => (q.2.1 e1)) (fun e1 => (h.s 102 rfl (h.s 103 rfl (h.s 106 rfl (h.s 108 rfl (h.s 109 rfl (h.s 112 rfl (h.s 114 rfl (And.intro (q.2.2 e1).1 (h.s 115 rfl (h.s 116 rfl (h.s 118 rfl (h.s 119 rfl (h.s 120 rfl (And.intro (q.2.2 e1).2.1 (h.s 121 rfl (h.s 122 rfl (h.s 125 rfl (h.s 127 rfl (h.s 128 rfl (h.s 131 rfl (h.s 133 rfl (And.intro (q.2.2 e1).2.2.1 (h.s 134 rfl (h.s 135 rfl (h.s 137 rfl (h.s 138 rfl (h.s 139 rfl (And.intro (q.2.2 e1).2.2.2.1 (q.2.2 e1).2.2.2.2))))))))))))))))))))))))))))))))))))))))))
set_option maxRecDepth 20000 in
theorem f_Mo_mark_140 {M : kM} (hM : kMo M) {F : kS → Prop} {G : kG} (h : kCl kC M (kv F) 113 G) {S : kS} {v1 v2 v3 v4 v5 v6 : Int32} (q :
  vp_in v5 250 ∧
  (¬ (S 47 (v5.toNatClampNeg)) = 4 →
    G 48 [some (.inr 39), some (.inl v1), some (.inl v2), some (.inl v3), some (.inl (v4 + (-1))), some (.inl v5), some (.inl v6)] [] S) ∧
  (¬ (¬ (S 47 (v5.toNatClampNeg)) = 4) →
    vp_in v5 250 ∧
    (1 < v2 →
      vp_in ((21 * (S 49 (v5.toNatClampNeg))) + v6) 5250 ∧
      G 48 [some (.inr 39), some (.inl v1), some (.inl v2), some (.inl v3), some (.inl (v4 + (-1))), some (.inl v5), some (.inl v6)] [] (ku S 61 (((21 * (S 49 (v5.toNatClampNeg))) + v6).toNatClampNeg) (vp_nar .boolean 1))) ∧
    (¬ (1 < v2) →
      vp_in ((21 * (S 49 (v5.toNatClampNeg))) + (v6 + 1)) 5250 ∧
      G 48 [some (.inr 39), some (.inl v1), some (.inl v2), some (.inl v3), some (.inl (v4 + (-1))), some (.inl v5), some (.inl v6)] [] (ku S 61 (((21 * (S 49 (v5.toNatClampNeg))) + (v6 + 1)).toNatClampNeg) (vp_nar .boolean 1))))) :
  G 140 [some (.inr 39), some (.inl v1), some (.inl v2), some (.inl v3), some (.inl v4), some (.inl v5), some (.inl v6)] [] S :=
  (h.s 140 rfl (h.s 141 rfl (h.s 144 rfl (h.s 146 rfl (And.intro q.1 (h.s 147 rfl (h.s 148 rfl (And.intro (fun e1 => (h.s 182 rfl (h.s 185 rfl (q.2.1 e1)))) (fun e1 => (h.s 151 rfl (h.s 152 rfl (h.s 155 rfl (h.s 157 rfl (h.s 158 rfl (h.s 161 rfl (h.s 163 rfl (And.intro (q.2.2 e1).1 (h.s 164 rfl (h.s 165 rfl (h.s 166 rfl (h.s 167 rfl (And.intro (fun e2 => (h.s 177 rfl (h.s 179 rfl (h.s 180 rfl (h.s 181 rfl (And.intro ((q.2.2 e1).2.1 e2).1 (h.s 182 rfl (h.s 185 rfl ((q.2.2 e1).2.1 e2).2)))))))) (fun e2 => (h.s 170 rfl (h.s 172 rfl (h.s 173 rfl (h.s 174 rfl (h.s 179 rfl (h.s 180 rfl (h.s 181 rfl (And.intro ((q.2.2 e1).2.2 e2).1 (h.s 182 rfl (h.s 185 rfl ((q.2.2 e1).2.2 e2).2)))))))))))))))))))))))))))))))))
-- Mo_become cuts [24, 52, 71, 153, 239]
set_option maxRecDepth 20000 in
theorem f_Mo_become_0 {M : kM} (hM : kMo M) {F : Int32 → kS → Prop} {G : kG} (h : kCl kC M (kq F) 114 G) {S : kS} {a0 a1 a2 a3 a4 : Int32} (q :
  (¬ a2 = 0 →
    G 24 [some (.inr 39), some (.inl a0), some (.inl a1), some (.inl a2), some (.inl a3), some (.inl a4), none, none] [] S) ∧
  (¬ (¬ a2 = 0) →
    (¬ a0 = a3 →
      G 24 [some (.inr 39), some (.inl a0), some (.inl a1), some (.inl a2), some (.inl a3), some (.inl a4), none, none] [] S) ∧
    (¬ (¬ a0 = a3) →
      vp_in a0 250 ∧
      M m_Mo_term [.inr 39, .inl 5, .inl a1, .inl 0, .inl (S 50 (a0.toNatClampNeg))] S (kq fun r2 S1 =>
        F r2 S1)))) :
  G 0 [some (.inr 39), some (.inl a0), some (.inl a1), some (.inl a2), some (.inl a3), some (.inl a4), none, none] [] S :=
  (h.s 0 rfl (h.s 1 rfl (And.intro (fun e3 => (q.1 e3)) (fun e3 => (h.s 4 rfl (h.s 5 rfl (h.s 7 rfl (And.intro (fun e4 => ((q.2 e3).1 e4)) (fun e4 => (h.s 10 rfl (h.s 11 rfl (h.s 12 rfl (h.s 13 rfl (h.s 14 rfl (h.s 15 rfl (h.s 18 rfl (h.s 19 rfl (And.intro ((q.2 e3).2 e4).1 (h.s 20 rfl (And.intro (Nat.le_of_ble_eq_true rfl) (And.intro rfl (And.intro rfl (hM.q ((q.2 e3).2 e4).2 (fun r2 S1 q5 => (h.s 23 rfl (kq_mk q5))))))))))))))))))))))))))
theorem g_Mo_become {d : Nat} {F : Int32 → kS → Prop} {S : kS} {a0 a1 a2 a3 a4 : Int32} (q : ∀ G : kG, kCl kC (kK d) (kq F) 114 G →
  (¬ a2 = 0 →
    G 24 [some (.inr 39), some (.inl a0), some (.inl a1), some (.inl a2), some (.inl a3), some (.inl a4), none, none] [] S) ∧
  (¬ (¬ a2 = 0) →
    (¬ a0 = a3 →
      G 24 [some (.inr 39), some (.inl a0), some (.inl a1), some (.inl a2), some (.inl a3), some (.inl a4), none, none] [] S) ∧
    (¬ (¬ a0 = a3) →
      vp_in a0 250 ∧
      kK d m_Mo_term [.inr 39, .inl 5, .inl a1, .inl 0, .inl (S 50 (a0.toNatClampNeg))] S (kq fun r2 S1 =>
        F r2 S1)))) :
  kK (d + 1) m_Mo_become [.inr 39, .inl a0, .inl a1, .inl a2, .inl a3, .inl a4] S (kq F) := kspec_of (fun G h => f_Mo_become_0 kspec_Mo h (q G h))
set_option maxRecDepth 20000 in
theorem f_Mo_become_24 {M : kM} (hM : kMo M) {F : Int32 → kS → Prop} {G : kG} (h : kCl kC M (kq F) 114 G) {S : kS} {v1 v2 v3 v4 v5 : Int32} (q :
  (¬ v3 = 1 →
    G 52 [some (.inr 39), some (.inl v1), some (.inl v2), some (.inl v3), some (.inl v4), some (.inl v5), none, none] [] S) ∧
  (¬ (¬ v3 = 1) →
    vp_in v1 250 ∧
    (¬ (S 47 (v1.toNatClampNeg)) = 5 →
      G 52 [some (.inr 39), some (.inl v1), some (.inl v2), some (.inl v3), some (.inl v4), some (.inl v5), none, none] [] S) ∧
    (¬ (¬ (S 47 (v1.toNatClampNeg)) = 5) →
      vp_in v1 250 ∧
      (¬ (S 48 (v1.toNatClampNeg)) = v2 →
        G 52 [some (.inr 39), some (.inl v1), some (.inl v2), some (.inl v3), some (.inl v4), some (.inl v5), none, none] [] S) ∧
      (¬ (¬ (S 48 (v1.toNatClampNeg)) = v2) →
        F v5 S)))) :
  G 24 [some (.inr 39), some (.inl v1), some (.inl v2), some (.inl v3), some (.inl v4), some (.inl v5), none, none] [] S :=
  (h.s 24 rfl (h.s 25 rfl (h.s 26 rfl (And.intro (fun e1 => (q.1 e1)) (fun e1 => (h.s 29 rfl (h.s 30 rfl (h.s 33 rfl (h.s 34 rfl (And.intro (q.2 e1).1 (h.s 35 rfl (h.s 36 rfl (And.intro (fun e2 => ((q.2 e1).2.1 e2)) (fun e2 => (h.s 39 rfl (h.s 40 rfl (h.s 43 rfl (h.s 44 rfl (And.intro ((q.2 e1).2.2 e2).1 (h.s 45 rfl (h.s 46 rfl (And.intro (fun e3 => (((q.2 e1).2.2 e2).2.1 e3)) (fun e3 => (h.s 49 rfl (h.s 51 rfl (kq_mk (((q.2 e1).2.2 e2).2.2 e3)))))))))))))))))))))))))))
set_option maxRecDepth 20000 in
theorem f_Mo_become_52 {M : kM} (hM : kMo M) {F : Int32 → kS → Prop} {G : kG} (h : kCl kC M (kq F) 114 G) {S : kS} {v1 v2 v3 v4 v5 : Int32} (q :
  (v3 = 2 →
    (¬ v1 = v4 →
      G 71 [some (.inr 39), some (.inl v1), some (.inl v2), some (.inl v3), some (.inl v4), some (.inl v5), none, none] [] S) ∧
    (¬ (¬ v1 = v4) →
      F v5 S)) ∧
  (¬ (v3 = 2) →
    (¬ v3 = 4 →
      G 71 [some (.inr 39), some (.inl v1), some (.inl v2), some (.inl v3), some (.inl v4), some (.inl v5), none, none] [] S) ∧
    (¬ (¬ v3 = 4) →
      (¬ v1 = v4 →
        G 71 [some (.inr 39), some (.inl v1), some (.inl v2), some (.inl v3), some (.inl v4), some (.inl v5), none, none] [] S) ∧
      (¬ (¬ v1 = v4) →
        F v5 S)))) :
  G 52 [some (.inr 39), some (.inl v1), some (.inl v2), some (.inl v3), some (.inl v4), some (.inl v5), none, none] [] S :=
  (h.s 52 rfl (h.s 53 rfl (h.s 54 rfl (And.intro (fun e1 => (h.s 62 rfl (h.s 63 rfl (h.s 65 rfl (And.intro (fun e2 => ((q.1 e1).1 e2)) (fun e2 => (h.s 68 rfl (h.s 70 rfl (kq_mk ((q.1 e1).2 e2)))))))))) (fun e1 => (h.s 57 rfl (h.s 58 rfl (h.s 59 rfl (And.intro (fun e3 => ((q.2 e1).1 e3)) (fun e3 => (h.s 62 rfl (h.s 63 rfl (h.s 65 rfl (And.intro (fun e4 => (((q.2 e1).2 e3).1 e4)) (fun e4 => (h.s 68 rfl (h.s 70 rfl (kq_mk (((q.2 e1).2 e3).2 e4)))))))))))))))))))
set_option maxRecDepth 20000 in
theorem f_Mo_become_71 {M : kM} (hM : kMo M) {F : Int32 → kS → Prop} {G : kG} (h : kCl kC M (kq F) 114 G) {S : kS} {v1 v2 v3 v4 v5 : Int32} (q :
  vp_in v1 250 ∧
  (¬ (S 47 (v1.toNatClampNeg)) = 3 →
    vp_in v1 250 ∧
    (¬ (S 47 (v1.toNatClampNeg)) = 4 →
      (¬ v3 = 3 →
        F v1 S) ∧
      (¬ (¬ v3 = 3) →
        vp_in v1 250 ∧
        (¬ (S 47 (v1.toNatClampNeg)) = 2 →
          vp_in v1 250 ∧
          (¬ (S 47 (v1.toNatClampNeg)) = 1 →
            vp_in v1 250 ∧
            G 239 [some (.inr 39), some (.inl v1), some (.inl v2), some (.inl v3), some (.inl v4), some (.inl v5), none, none] [.inl (S 50 (v1.toNatClampNeg)), .inr 39] S) ∧
          (¬ (¬ (S 47 (v1.toNatClampNeg)) = 1) →
            vp_in v1 250 ∧
            G 239 [some (.inr 39), some (.inl v1), some (.inl v2), some (.inl v3), some (.inl v4), some (.inl v5), none, none] [.inl (S 48 (v1.toNatClampNeg)), .inr 39] S)) ∧
        (¬ (¬ (S 47 (v1.toNatClampNeg)) = 2) →
          F v1 S))) ∧
    (¬ (¬ (S 47 (v1.toNatClampNeg)) = 4) →
      vp_in v1 250 ∧
      (1 < v3 →
        G 153 [some (.inr 39), some (.inl v1), some (.inl v2), some (.inl v3), some (.inl v4), some (.inl v5), none, none] [.inl v2, .inl (21 * (S 49 (v1.toNatClampNeg))), .inr 62] S) ∧
      (¬ (1 < v3) →
        G 153 [some (.inr 39), some (.inl v1), some (.inl v2), some (.inl v3), some (.inl v4), some (.inl v5), none, none] [.inl (v2 + 1), .inl (21 * (S 49 (v1.toNatClampNeg))), .inr 62] S))) ∧
  (¬ (¬ (S 47 (v1.toNatClampNeg)) = 3) →
    vp_in v1 250 ∧
    vp_in ((21 * (S 48 (v1.toNatClampNeg))) + v2) 5250 ∧
    vp_in v1 250 ∧
    vp_in ((21 * (S 49 (v1.toNatClampNeg))) + v2) 5250 ∧
    M m_Mo_application [.inr 39, .inl (S 62 (((21 * (S 48 (v1.toNatClampNeg))) + v2).toNatClampNeg)), .inl (S 62 (((21 * (S 49 (v1.toNatClampNeg))) + v2).toNatClampNeg))] S (kq fun r2 S1 =>
      F r2 S1))) :
  G 71 [some (.inr 39), some (.inl v1), some (.inl v2), some (.inl v3), some (.inl v4), some (.inl v5), none, none] [] S :=
  (h.s 71 rfl (h.s 72 rfl (h.s 75 rfl (h.s 76 rfl (And.intro q.1 (h.s 77 rfl (h.s 78 rfl (And.intro (fun e3 => (h.s 118 rfl (h.s 119 rfl (h.s 122 rfl (h.s 123 rfl (And.intro (q.2.1 e3).1 (h.s 124 rfl (h.s 125 rfl (And.intro (fun e4 => (h.s 196 rfl (h.s 197 rfl (h.s 198 rfl (And.intro (fun e5 => (h.s 211 rfl (h.s 212 rfl (kq_mk (((q.2.1 e3).2.1 e4).1 e5))))) (fun e5 => (h.s 201 rfl (h.s 202 rfl (h.s 205 rfl (h.s 206 rfl (And.intro (((q.2.1 e3).2.1 e4).2 e5).1 (h.s 207 rfl (h.s 208 rfl (And.intro (fun e6 => (h.s 213 rfl (h.s 214 rfl (h.s 215 rfl (h.s 218 rfl (h.s 219 rfl (And.intro ((((q.2.1 e3).2.1 e4).2 e5).2.1 e6).1 (h.s 220 rfl (h.s 221 rfl (And.intro (fun e7 => (h.s 233 rfl (h.s 234 rfl (h.s 237 rfl (h.s 238 rfl (And.intro (((((q.2.1 e3).2.1 e4).2 e5).2.1 e6).2.1 e7).1 (((((q.2.1 e3).2.1 e4).2 e5).2.1 e6).2.1 e7).2)))))) (fun e7 => (h.s 224 rfl (h.s 225 rfl (h.s 228 rfl (h.s 229 rfl (And.intro (((((q.2.1 e3).2.1 e4).2 e5).2.1 e6).2.2 e7).1 (h.s 230 rfl (((((q.2.1 e3).2.1 e4).2 e5).2.1 e6).2.2 e7).2))))))))))))))))) (fun e6 => (h.s 211 rfl (h.s 212 rfl (kq_mk ((((q.2.1 e3).2.1 e4).2 e5).2.2 e6))))))))))))))))))) (fun e4 => (h.s 128 rfl (h.s 129 rfl (h.s 132 rfl (h.s 134 rfl (h.s 135 rfl (h.s 138 rfl (h.s 139 rfl (And.intro ((q.2.1 e3).2.2 e4).1 (h.s 140 rfl (h.s 141 rfl (h.s 142 rfl (h.s 143 rfl (And.intro (fun e8 => (h.s 152 rfl (((q.2.1 e3).2.2 e4).2.1 e8))) (fun e8 => (h.s 146 rfl (h.s 147 rfl (h.s 148 rfl (h.s 149 rfl (((q.2.1 e3).2.2 e4).2.2 e8))))))))))))))))))))))))))))) (fun e3 => (h.s 81 rfl (h.s 82 rfl (h.s 83 rfl (h.s 86 rfl (h.s 88 rfl (h.s 89 rfl (h.s 92 rfl (h.s 93 rfl (And.intro (q.2.2 e3).1 (h.s 94 rfl (h.s 95 rfl (h.s 96 rfl (h.s 97 rfl (And.intro (q.2.2 e3).2.1 (h.s 98 rfl (h.s 99 rfl (h.s 102 rfl (h.s 104 rfl (h.s 105 rfl (h.s 108 rfl (h.s 109 rfl (And.intro (q.2.2 e3).2.2.1 (h.s 110 rfl (h.s 111 rfl (h.s 112 rfl (h.s 113 rfl (And.intro (q.2.2 e3).2.2.2.1 (h.s 114 rfl (And.intro (Nat.le_of_ble_eq_true rfl) (And.intro rfl (And.intro rfl (hM.q (q.2.2 e3).2.2.2.2 (fun r2 S1 q9 => (h.s 117 rfl (kq_mk q9))))))))))))))))))))))))))))))))))))))))))))
set_option maxRecDepth 20000 in
theorem f_Mo_become_153 {M : kM} (hM : kMo M) {F : Int32 → kS → Prop} {G : kG} (h : kCl kC M (kq F) 114 G) {S : kS} {v1 v2 v3 v4 v5 w0 w1 : Int32} (q :
  vp_in (w1 + w0) 5250 ∧
  (¬ v3 = 3 →
    vp_in v1 250 ∧
    M m_Mo_abstraction [.inr 39, .inl (S 48 (v1.toNatClampNeg)), .inl (S 62 ((w1 + w0).toNatClampNeg))] S (kq fun r2 S1 =>
      F r2 S1)) ∧
  (¬ (¬ v3 = 3) →
    vp_in v1 250 ∧
    M m_Mo_retyped [.inr 39, .inl (S 48 (v1.toNatClampNeg)), .inl v4, .inl v5] S (kq fun r4 S3 =>
      M m_Mo_abstraction [.inr 39, .inl r4, .inl (S 62 ((w1 + w0).toNatClampNeg))] S3 (kq fun r6 S5 =>
        F r6 S5)))) :
  G 153 [some (.inr 39), some (.inl v1), some (.inl v2), some (.inl v3), some (.inl v4), some (.inl v5), none, none] [.inl w0, .inl w1, .inr 62] S :=
  (h.s 153 rfl (h.s 154 rfl (And.intro q.1 (h.s 155 rfl (h.s 157 rfl (h.s 158 rfl (h.s 159 rfl (And.intro (fun e7 => (h.s 179 rfl (h.s 180 rfl (h.s 183 rfl (h.s 184 rfl (And.intro (q.2.1 e7).1 (h.s 185 rfl (h.s 187 rfl (h.s 188 rfl (h.s 190 rfl (h.s 192 rfl (And.intro (Nat.le_of_ble_eq_true rfl) (And.intro rfl (And.intro rfl (hM.q (q.2.1 e7).2 (fun r2 S1 q8 => (h.s 195 rfl (kq_mk q8)))))))))))))))))) (fun e7 => (h.s 162 rfl (h.s 163 rfl (h.s 164 rfl (h.s 167 rfl (h.s 168 rfl (And.intro (q.2.2 e7).1 (h.s 169 rfl (h.s 171 rfl (h.s 173 rfl (And.intro (Nat.le_of_ble_eq_true rfl) (And.intro rfl (And.intro rfl (hM.q (q.2.2 e7).2 (fun r4 S3 q9 => (h.s 176 rfl (h.s 185 rfl (h.s 187 rfl (h.s 188 rfl (h.s 190 rfl (h.s 192 rfl (And.intro (Nat.le_of_ble_eq_true rfl) (And.intro rfl (And.intro rfl (hM.q q9 (fun r6 S5 q10 => (h.s 195 rfl (kq_mk q10))))))))))))))))))))))))))))))))))))
set_option maxRecDepth 20000 in
theorem f_Mo_become_239 {M : kM} (hM : kMo M) {F : Int32 → kS → Prop} {G : kG} (h : kCl kC M (kq F) 114 G) {S : kS} {v1 v2 v3 v4 v5 w0 : Int32} (q :
  M m_Mo_retyped [.inr 39, .inl w0, .inl v4, .inl v5] S (kq fun r2 S1 =>
    vp_in v1 250 ∧
    (¬ (S1 47 (v1.toNatClampNeg)) = 1 →
      vp_in v1 250 ∧
      vp_in v1 250 ∧
      M m_Mo_term [.inr 39, .inl (S1 47 (v1.toNatClampNeg)), .inl (S1 48 (v1.toNatClampNeg)), .inl 0, .inl r2] S1 (kq fun r4 S3 =>
        F r4 S3)) ∧
    (¬ (¬ (S1 47 (v1.toNatClampNeg)) = 1) →
      M m_Mo_same [.inr 39, .inl r2] S1 (kq fun r6 S5 =>
        F r6 S5)))) :
  G 239 [some (.inr 39), some (.inl v1), some (.inl v2), some (.inl v3), some (.inl v4), some (.inl v5), none, none] [.inl w0, .inr 39] S :=
  (h.s 239 rfl (h.s 241 rfl (h.s 243 rfl (And.intro (Nat.le_of_ble_eq_true rfl) (And.intro rfl (And.intro rfl (hM.q q (fun r2 S1 q7 => (h.s 246 rfl (h.s 248 rfl (h.s 249 rfl (h.s 252 rfl (h.s 253 rfl (And.intro q7.1 (h.s 254 rfl (h.s 255 rfl (And.intro (fun e8 => (h.s 267 rfl (h.s 268 rfl (h.s 269 rfl (h.s 272 rfl (h.s 273 rfl (And.intro (q7.2.1 e8).1 (h.s 274 rfl (h.s 275 rfl (h.s 278 rfl (h.s 279 rfl (And.intro (q7.2.1 e8).2.1 (h.s 280 rfl (h.s 281 rfl (h.s 283 rfl (And.intro (Nat.le_of_ble_eq_true rfl) (And.intro rfl (And.intro rfl (hM.q (q7.2.1 e8).2.2 (fun r4 S3 q9 => (h.s 286 rfl (kq_mk q9)))))))))))))))))))))) (fun e8 => (h.s 258 rfl (h.s 259 rfl (h.s 261 rfl (And.intro (Nat.le_of_ble_eq_true rfl) (And.intro rfl (And.intro rfl (hM.q (q7.2.2 e8) (fun r6 S5 q10 => (h.s 264 rfl (h.s 286 rfl (kq_mk q10)))))))))))))))))))))))))))))
