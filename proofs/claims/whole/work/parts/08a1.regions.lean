/-! printed: regions, their weakest preconditions -/
-- Ch_changed cuts []
set_option maxRecDepth 20000 in
theorem f_Ch_changed_0 {M : kM} (hM : kMo M) {F : Int32 → kS → Prop} {G : kG} (h : kCl kC M (kq F) 22 G) {S : kS} {a0 a1 a2 : Int32} (q :
  (a0 < 0 →
    F ((-1)) S) ∧
  (¬ (a0 < 0) →
    (a2 < a1 →
      F ((-1)) S) ∧
    (¬ (a2 < a1) →
      (a2 < 20 →
        vp_in ((a1 * 250) + a0) 5000 ∧
        (¬ ((S 31 (((a1 * 250) + a0).toNatClampNeg)) >>> (8 &&& 31)) = (S 30 4) →
          M m_Ch_madeAnew [.inr 30, .inl a0, .inl a1, .inl a2] S (kq fun r2 S1 =>
            (r2 < 0 →
              F r2 S1) ∧
            (¬ (r2 < 0) →
              vp_in ((a1 * 250) + a0) 5000 ∧
              F r2 (ku S1 31 (((a1 * 250) + a0).toNatClampNeg) (((S1 30 4) <<< (8 &&& 31)) ||| r2))))) ∧
        (¬ (¬ ((S 31 (((a1 * 250) + a0).toNatClampNeg)) >>> (8 &&& 31)) = (S 30 4)) →
          vp_in ((a1 * 250) + a0) 5000 ∧
          F ((S 31 (((a1 * 250) + a0).toNatClampNeg)) &&& 255) S)) ∧
      (¬ (a2 < 20) →
        F ((-1)) S)))) :
  G 0 [some (.inr 30), some (.inl a0), some (.inl a1), some (.inl a2), none, none] [] S :=
  (h.s 0 rfl (h.s 1 rfl (And.intro (fun e3 => (h.s 15 rfl (h.s 16 rfl (kq_mk (q.1 e3))))) (fun e3 => (h.s 4 rfl (h.s 5 rfl (h.s 6 rfl (And.intro (fun e4 => (h.s 15 rfl (h.s 16 rfl (kq_mk ((q.2 e3).1 e4))))) (fun e4 => (h.s 9 rfl (h.s 10 rfl (h.s 12 rfl (And.intro (fun e5 => (h.s 17 rfl (h.s 18 rfl (h.s 21 rfl (h.s 22 rfl (h.s 23 rfl (h.s 24 rfl (h.s 26 rfl (h.s 27 rfl (h.s 30 rfl (h.s 32 rfl (And.intro (((q.2 e3).2 e4).1 e5).1 (h.s 33 rfl (h.s 35 rfl (h.s 36 rfl (h.s 37 rfl (h.s 40 rfl (And.intro (fun e6 => (h.s 55 rfl (h.s 56 rfl (h.s 57 rfl (h.s 58 rfl (h.s 59 rfl (And.intro (Nat.le_of_ble_eq_true rfl) (And.intro rfl (And.intro rfl (hM.q ((((q.2 e3).2 e4).1 e5).2.1 e6) (fun r2 S1 q7 => (h.s 62 rfl (h.s 64 rfl (h.s 66 rfl (And.intro (fun e8 => (h.s 86 rfl (h.s 88 rfl (kq_mk (q7.1 e8))))) (fun e8 => (h.s 69 rfl (h.s 70 rfl (h.s 73 rfl (h.s 75 rfl (h.s 76 rfl (h.s 79 rfl (h.s 81 rfl (h.s 82 rfl (h.s 84 rfl (h.s 85 rfl (And.intro (q7.2 e8).1 (h.s 86 rfl (h.s 88 rfl (kq_mk (q7.2 e8).2)))))))))))))))))))))))))))))) (fun e6 => (h.s 43 rfl (h.s 44 rfl (h.s 47 rfl (h.s 49 rfl (And.intro ((((q.2 e3).2 e4).1 e5).2.2 e6).1 (h.s 50 rfl (h.s 53 rfl (h.s 54 rfl (kq_mk ((((q.2 e3).2 e4).1 e5).2.2 e6).2)))))))))))))))))))))))))))) (fun e5 => (h.s 15 rfl (h.s 16 rfl (kq_mk (((q.2 e3).2 e4).2 e5))))))))))))))))))
theorem g_Ch_changed {d : Nat} {F : Int32 → kS → Prop} {S : kS} {a0 a1 a2 : Int32} (q :
  (a0 < 0 →
    F ((-1)) S) ∧
  (¬ (a0 < 0) →
    (a2 < a1 →
      F ((-1)) S) ∧
    (¬ (a2 < a1) →
      (a2 < 20 →
        vp_in ((a1 * 250) + a0) 5000 ∧
        (¬ ((S 31 (((a1 * 250) + a0).toNatClampNeg)) >>> (8 &&& 31)) = (S 30 4) →
          kK d m_Ch_madeAnew [.inr 30, .inl a0, .inl a1, .inl a2] S (kq fun r2 S1 =>
            (r2 < 0 →
              F r2 S1) ∧
            (¬ (r2 < 0) →
              vp_in ((a1 * 250) + a0) 5000 ∧
              F r2 (ku S1 31 (((a1 * 250) + a0).toNatClampNeg) (((S1 30 4) <<< (8 &&& 31)) ||| r2))))) ∧
        (¬ (¬ ((S 31 (((a1 * 250) + a0).toNatClampNeg)) >>> (8 &&& 31)) = (S 30 4)) →
          vp_in ((a1 * 250) + a0) 5000 ∧
          F ((S 31 (((a1 * 250) + a0).toNatClampNeg)) &&& 255) S)) ∧
      (¬ (a2 < 20) →
        F ((-1)) S)))) :
  kK (d + 1) m_Ch_changed [.inr 30, .inl a0, .inl a1, .inl a2] S (kq F) := kspec_of (fun _ h => f_Ch_changed_0 kspec_Mo h q)
-- Ch_madeAnew cuts [22]
set_option maxRecDepth 20000 in
theorem f_Ch_madeAnew_0 {M : kM} (hM : kMo M) {F : Int32 → kS → Prop} {G : kG} (h : kCl kC M (kq F) 23 G) {S : kS} {a0 a1 a2 : Int32} (q :
  (¬ (S 30 5) = 1 →
    G 22 [some (.inr 30), some (.inl a0), some (.inl a1), some (.inl a2), none] [] S) ∧
  (¬ (¬ (S 30 5) = 1) →
    vp_in a0 250 ∧
    (¬ (S 18 (a0.toNatClampNeg)) = 0 →
      G 22 [some (.inr 30), some (.inl a0), some (.inl a1), some (.inl a2), none] [] S) ∧
    (¬ (¬ (S 18 (a0.toNatClampNeg)) = 0) →
      F a0 S))) :
  G 0 [some (.inr 30), some (.inl a0), some (.inl a1), some (.inl a2), none] [] S :=
  (h.s 0 rfl (h.s 1 rfl (h.s 4 rfl (h.s 5 rfl (And.intro (fun e1 => (q.1 e1)) (fun e1 => (h.s 8 rfl (h.s 9 rfl (h.s 12 rfl (h.s 15 rfl (h.s 16 rfl (And.intro (q.2 e1).1 (h.s 17 rfl (And.intro (fun e2 => ((q.2 e1).2.1 e2)) (fun e2 => (h.s 20 rfl (h.s 21 rfl (kq_mk ((q.2 e1).2.2 e2)))))))))))))))))))
theorem g_Ch_madeAnew {d : Nat} {F : Int32 → kS → Prop} {S : kS} {a0 a1 a2 : Int32} (q : ∀ G : kG, kCl kC (kK d) (kq F) 23 G →
  (¬ (S 30 5) = 1 →
    G 22 [some (.inr 30), some (.inl a0), some (.inl a1), some (.inl a2), none] [] S) ∧
  (¬ (¬ (S 30 5) = 1) →
    vp_in a0 250 ∧
    (¬ (S 18 (a0.toNatClampNeg)) = 0 →
      G 22 [some (.inr 30), some (.inl a0), some (.inl a1), some (.inl a2), none] [] S) ∧
    (¬ (¬ (S 18 (a0.toNatClampNeg)) = 0) →
      F a0 S))) :
  kK (d + 1) m_Ch_madeAnew [.inr 30, .inl a0, .inl a1, .inl a2] S (kq F) := kspec_of (fun G h => f_Ch_madeAnew_0 kspec_Mo h (q G h))
set_option maxRecDepth 20000 in
theorem f_Ch_madeAnew_22 {M : kM} (hM : kMo M) {F : Int32 → kS → Prop} {G : kG} (h : kCl kC M (kq F) 23 G) {S : kS} {v1 v2 v3 : Int32} (q :
  M m_Ch_stands [.inr 30, .inl v1, .inl v2] S (kq fun r2 S1 =>
    (r2 = 0 →
      vp_in v1 250 ∧
      (¬ (S1 14 (v1.toNatClampNeg)) = 3 →
        vp_in v1 250 ∧
        (¬ (S1 14 (v1.toNatClampNeg)) = 4 →
          vp_in v1 250 ∧
          vp_in v1 250 ∧
          vp_in v1 250 ∧
          vp_in v1 250 ∧
          M m_Ch_retyped [.inr 30, .inl (S1 17 (v1.toNatClampNeg)), .inl 0] S1 (kq fun r4 S3 =>
            M m_Te_store [.inr 10, .inl (S1 14 (v1.toNatClampNeg)), .inl (S1 15 (v1.toNatClampNeg)), .inl (S1 16 (v1.toNatClampNeg)), .inl r4] S3 (kq fun r6 S5 =>
              F r6 S5))) ∧
        (¬ (¬ (S1 14 (v1.toNatClampNeg)) = 4) →
          vp_in v1 250 ∧
          vp_in (S1 17 (v1.toNatClampNeg)) 50 ∧
          M m_Ch_retyped [.inr 30, .inl (S1 6 ((S1 17 (v1.toNatClampNeg)).toNatClampNeg)), .inl 0] S1 (kq fun r8 S7 =>
            (0 ≤ r8 →
              vp_in v1 250 ∧
              M m_Ch_changed [.inr 30, .inl (S7 15 (v1.toNatClampNeg)), .inl (v2 + 1), .inl (v3 + 1)] S7 (kq fun r10 S9 =>
                M m_Te_abstraction [.inr 10, .inl r8, .inl r10] S9 (kq fun r12 S11 =>
                  F r12 S11))) ∧
            (¬ (0 ≤ r8) →
              F ((-1)) S7)))) ∧
      (¬ (¬ (S1 14 (v1.toNatClampNeg)) = 3) →
        vp_in v1 250 ∧
        M m_Ch_changed [.inr 30, .inl (S1 15 (v1.toNatClampNeg)), .inl v2, .inl (v3 + 1)] S1 (kq fun r14 S13 =>
          (0 ≤ r14 →
            vp_in v1 250 ∧
            M m_Ch_changed [.inr 30, .inl (S13 16 (v1.toNatClampNeg)), .inl v2, .inl (v3 + 1)] S13 (kq fun r16 S15 =>
              M m_Te_application [.inr 10, .inl r14, .inl r16] S15 (kq fun r18 S17 =>
                F r18 S17))) ∧
          (¬ (0 ≤ r14) →
            F ((-1)) S13)))) ∧
    (¬ (r2 = 0) →
      (¬ (S1 30 5) = 2 →
        F (S1 30 7) S1) ∧
      (¬ (¬ (S1 30 5) = 2) →
        vp_in v1 250 ∧
        M m_Te_store [.inr 10, .inl 5, .inl v2, .inl 0, .inl (S1 17 (v1.toNatClampNeg))] S1 (kq fun r20 S19 =>
          F r20 S19))))) :
  G 22 [some (.inr 30), some (.inl v1), some (.inl v2), some (.inl v3), none] [] S :=
  (h.s 22 rfl (h.s 23 rfl (h.s 24 rfl (h.s 25 rfl (And.intro (Nat.le_of_ble_eq_true rfl) (And.intro rfl (And.intro rfl (hM.q q (fun r2 S1 q21 => (h.s 28 rfl (And.intro (fun e22 => (h.s 66 rfl (h.s 67 rfl (h.s 70 rfl (h.s 73 rfl (h.s 74 rfl (And.intro (q21.1 e22).1 (h.s 75 rfl (h.s 76 rfl (And.intro (fun e23 => (h.s 134 rfl (h.s 135 rfl (h.s 138 rfl (h.s 141 rfl (h.s 142 rfl (And.intro ((q21.1 e22).2.1 e23).1 (h.s 143 rfl (h.s 144 rfl (And.intro (fun e24 => (h.s 209 rfl (h.s 210 rfl (h.s 213 rfl (h.s 214 rfl (h.s 217 rfl (h.s 220 rfl (h.s 221 rfl (And.intro (((q21.1 e22).2.1 e23).2.1 e24).1 (h.s 222 rfl (h.s 223 rfl (h.s 226 rfl (h.s 229 rfl (h.s 230 rfl (And.intro (((q21.1 e22).2.1 e23).2.1 e24).2.1 (h.s 231 rfl (h.s 232 rfl (h.s 235 rfl (h.s 238 rfl (h.s 239 rfl (And.intro (((q21.1 e22).2.1 e23).2.1 e24).2.2.1 (h.s 240 rfl (h.s 241 rfl (h.s 242 rfl (h.s 245 rfl (h.s 248 rfl (h.s 249 rfl (And.intro (((q21.1 e22).2.1 e23).2.1 e24).2.2.2.1 (h.s 250 rfl (h.s 251 rfl (And.intro (Nat.le_of_ble_eq_true rfl) (And.intro rfl (And.intro rfl (hM.q (((q21.1 e22).2.1 e23).2.1 e24).2.2.2.2 (fun r4 S3 q25 => (h.s 254 rfl (And.intro (Nat.le_of_ble_eq_true rfl) (And.intro rfl (And.intro rfl (hM.q q25 (fun r6 S5 q26 => (h.s 257 rfl (kq_mk q26))))))))))))))))))))))))))))))))))))))))))) (fun e24 => (h.s 147 rfl (h.s 148 rfl (h.s 149 rfl (h.s 152 rfl (h.s 155 rfl (h.s 156 rfl (h.s 159 rfl (h.s 162 rfl (h.s 163 rfl (And.intro (((q21.1 e22).2.1 e23).2.2 e24).1 (h.s 164 rfl (And.intro (((q21.1 e22).2.1 e23).2.2 e24).2.1 (h.s 165 rfl (h.s 166 rfl (And.intro (Nat.le_of_ble_eq_true rfl) (And.intro rfl (And.intro rfl (hM.q (((q21.1 e22).2.1 e23).2.2 e24).2.2 (fun r8 S7 q27 => (h.s 169 rfl (h.s 171 rfl (h.s 173 rfl (And.intro (fun e28 => (h.s 180 rfl (h.s 181 rfl (h.s 184 rfl (h.s 186 rfl (h.s 187 rfl (h.s 188 rfl (h.s 191 rfl (h.s 194 rfl (h.s 195 rfl (And.intro (q27.1 e28).1 (h.s 196 rfl (h.s 197 rfl (h.s 198 rfl (h.s 199 rfl (h.s 200 rfl (h.s 201 rfl (h.s 202 rfl (And.intro (Nat.le_of_ble_eq_true rfl) (And.intro rfl (And.intro rfl (hM.q (q27.1 e28).2 (fun r10 S9 q29 => (h.s 205 rfl (And.intro (Nat.le_of_ble_eq_true rfl) (And.intro rfl (And.intro rfl (hM.q q29 (fun r12 S11 q30 => (h.s 208 rfl (kq_mk q30))))))))))))))))))))))))))))))) (fun e28 => (h.s 176 rfl (h.s 177 rfl (h.s 208 rfl (kq_mk (q27.2 e28)))))))))))))))))))))))))))))))))))))))) (fun e23 => (h.s 79 rfl (h.s 80 rfl (h.s 81 rfl (h.s 84 rfl (h.s 87 rfl (h.s 88 rfl (And.intro ((q21.1 e22).2.2 e23).1 (h.s 89 rfl (h.s 90 rfl (h.s 91 rfl (h.s 92 rfl (h.s 93 rfl (And.intro (Nat.le_of_ble_eq_true rfl) (And.intro rfl (And.intro rfl (hM.q ((q21.1 e22).2.2 e23).2 (fun r14 S13 q31 => (h.s 96 rfl (h.s 98 rfl (h.s 100 rfl (And.intro (fun e32 => (h.s 107 rfl (h.s 108 rfl (h.s 111 rfl (h.s 113 rfl (h.s 114 rfl (h.s 115 rfl (h.s 118 rfl (h.s 121 rfl (h.s 122 rfl (And.intro (q31.1 e32).1 (h.s 123 rfl (h.s 124 rfl (h.s 125 rfl (h.s 126 rfl (h.s 127 rfl (And.intro (Nat.le_of_ble_eq_true rfl) (And.intro rfl (And.intro rfl (hM.q (q31.1 e32).2 (fun r16 S15 q33 => (h.s 130 rfl (And.intro (Nat.le_of_ble_eq_true rfl) (And.intro rfl (And.intro rfl (hM.q q33 (fun r18 S17 q34 => (h.s 133 rfl (kq_mk q34))))))))))))))))))))))))))))) (fun e32 => (h.s 103 rfl (h.s 104 rfl (h.s 133 rfl (kq_mk (q31.2 e32)))))))))))))))))))))))))))))))))))))) (fun e22 => (h.s 31 rfl (h.s 32 rfl (h.s 35 rfl (h.s 36 rfl (And.intro (fun e35 => (h.s 61 rfl (h.s 62 rfl (h.s 65 rfl (kq_mk ((q21.2 e22).1 e35)))))) (fun e35 => (h.s 39 rfl (h.s 40 rfl (h.s 43 rfl (h.s 44 rfl (h.s 45 rfl (h.s 46 rfl (h.s 47 rfl (h.s 50 rfl (h.s 53 rfl (h.s 54 rfl (And.intro ((q21.2 e22).2 e35).1 (h.s 55 rfl (And.intro (Nat.le_of_ble_eq_true rfl) (And.intro rfl (And.intro rfl (hM.q ((q21.2 e22).2 e35).2 (fun r20 S19 q36 => (h.s 58 rfl (h.s 65 rfl (kq_mk q36))))))))))))))))))))))))))))))))))))))
-- Ch_stands cuts []
set_option maxRecDepth 20000 in
theorem f_Ch_stands_0 {M : kM} (hM : kMo M) {F : Int32 → kS → Prop} {G : kG} (h : kCl kC M (kq F) 24 G) {S : kS} {a0 a1 : Int32} (q :
  ((S 30 5) = 0 →
    (¬ a0 = (S 30 6) →
      F 0 S) ∧
    (¬ (¬ a0 = (S 30 6)) →
      F 1 S)) ∧
  ((S 30 5) = 1 →
    F 0 S) ∧
  ((S 30 5) = 2 →
    (¬ a0 = (S 30 6) →
      F 0 S) ∧
    (¬ (¬ a0 = (S 30 6)) →
      F 1 S)) ∧
  ((S 30 5) = 3 →
    vp_in a0 250 ∧
    (¬ (S 14 (a0.toNatClampNeg)) = 5 →
      F 0 S) ∧
    (¬ (¬ (S 14 (a0.toNatClampNeg)) = 5) →
      vp_in a0 250 ∧
      (¬ (S 15 (a0.toNatClampNeg)) = a1 →
        F 0 S) ∧
      (¬ (¬ (S 15 (a0.toNatClampNeg)) = a1) →
        F 1 S))) ∧
  (((S 30 5) < 0 ∨ 4 ≤ (S 30 5)) →
    F 0 S)) :
  G 0 [some (.inr 30), some (.inl a0), some (.inl a1)] [] S :=
  (h.s 0 rfl (h.s 1 rfl (h.s 4 rfl (And.intro (fun e1 => (h.s 36 rfl (h.s 37 rfl (h.s 38 rfl (h.s 41 rfl (And.intro (fun e5 => (h.s 48 rfl (h.s 49 rfl (And.intro (Or.inl rfl) (kq_mk ((q.1 e1).1 e5)))))) (fun e5 => (h.s 44 rfl (h.s 45 rfl (h.s 49 rfl (And.intro (Or.inr rfl) (kq_mk ((q.1 e1).2 e5))))))))))))) (And.intro (fun e1 => (h.s 82 rfl (h.s 83 rfl (And.intro (Or.inl rfl) (kq_mk (q.2.1 e1)))))) (And.intro (fun e1 => (h.s 36 rfl (h.s 37 rfl (h.s 38 rfl (h.s 41 rfl (And.intro (fun e4 => (h.s 48 rfl (h.s 49 rfl (And.intro (Or.inl rfl) (kq_mk ((q.2.2.1 e1).1 e4)))))) (fun e4 => (h.s 44 rfl (h.s 45 rfl (h.s 49 rfl (And.intro (Or.inr rfl) (kq_mk ((q.2.2.1 e1).2 e4))))))))))))) (And.intro (fun e1 => (h.s 50 rfl (h.s 51 rfl (h.s 54 rfl (h.s 57 rfl (h.s 58 rfl (And.intro (q.2.2.2.1 e1).1 (h.s 59 rfl (h.s 60 rfl (And.intro (fun e2 => (h.s 80 rfl (h.s 81 rfl (And.intro (Or.inl rfl) (kq_mk ((q.2.2.2.1 e1).2.1 e2)))))) (fun e2 => (h.s 63 rfl (h.s 64 rfl (h.s 67 rfl (h.s 70 rfl (h.s 71 rfl (And.intro ((q.2.2.2.1 e1).2.2 e2).1 (h.s 72 rfl (h.s 73 rfl (And.intro (fun e3 => (h.s 80 rfl (h.s 81 rfl (And.intro (Or.inl rfl) (kq_mk (((q.2.2.2.1 e1).2.2 e2).2.1 e3)))))) (fun e3 => (h.s 76 rfl (h.s 77 rfl (h.s 81 rfl (And.intro (Or.inr rfl) (kq_mk (((q.2.2.2.1 e1).2.2 e2).2.2 e3))))))))))))))))))))))))))) (fun e1 => (h.s 82 rfl (h.s 83 rfl (And.intro (Or.inl rfl) (kq_mk (q.2.2.2.2 e1)))))))))))))
theorem g_Ch_stands {d : Nat} {F : Int32 → kS → Prop} {S : kS} {a0 a1 : Int32} (q :
  ((S 30 5) = 0 →
    (¬ a0 = (S 30 6) →
      F 0 S) ∧
    (¬ (¬ a0 = (S 30 6)) →
      F 1 S)) ∧
  ((S 30 5) = 1 →
    F 0 S) ∧
  ((S 30 5) = 2 →
    (¬ a0 = (S 30 6) →
      F 0 S) ∧
    (¬ (¬ a0 = (S 30 6)) →
      F 1 S)) ∧
  ((S 30 5) = 3 →
    vp_in a0 250 ∧
    (¬ (S 14 (a0.toNatClampNeg)) = 5 →
      F 0 S) ∧
    (¬ (¬ (S 14 (a0.toNatClampNeg)) = 5) →
      vp_in a0 250 ∧
      (¬ (S 15 (a0.toNatClampNeg)) = a1 →
        F 0 S) ∧
      (¬ (¬ (S 15 (a0.toNatClampNeg)) = a1) →
        F 1 S))) ∧
  (((S 30 5) < 0 ∨ 4 ≤ (S 30 5)) →
    F 0 S)) :
  kK (d + 1) m_Ch_stands [.inr 30, .inl a0, .inl a1] S (kq F) := kspec_of (fun _ h => f_Ch_stands_0 kspec_Mo h q)
-- Ch_retyped cuts []
set_option maxRecDepth 20000 in
theorem f_Ch_retyped_0 {M : kM} (hM : kMo M) {F : Int32 → kS → Prop} {G : kG} (h : kCl kC M (kq F) 25 G) {S : kS} {a0 a1 : Int32} (q :
  (¬ (S 30 5) = 1 →
    F a0 S) ∧
  (¬ (¬ (S 30 5) = 1) →
    vp_in a0 50 ∧
    (¬ (S 8 (a0.toNatClampNeg)) = 0 →
      (¬ a0 = (S 30 6) →
        vp_in a0 50 ∧
        ((S 5 (a0.toNatClampNeg)) = 3 →
          (a1 < 10 →
            vp_in a0 50 ∧
            (¬ ((S 32 (a0.toNatClampNeg)) >>> (8 &&& 31)) = (S 30 4) →
              M m_Ch_retypedParts [.inr 30, .inl a0, .inl (a1 + 1)] S (kq fun r2 S1 =>
                (r2 < 0 →
                  F r2 S1) ∧
                (¬ (r2 < 0) →
                  vp_in a0 50 ∧
                  F r2 (ku S1 32 (a0.toNatClampNeg) (((S1 30 4) <<< (8 &&& 31)) ||| r2))))) ∧
            (¬ (¬ ((S 32 (a0.toNatClampNeg)) >>> (8 &&& 31)) = (S 30 4)) →
              vp_in a0 50 ∧
              F ((S 32 (a0.toNatClampNeg)) &&& 255) S)) ∧
          (¬ (a1 < 10) →
            F ((-1)) S)) ∧
        (¬ ((S 5 (a0.toNatClampNeg)) = 3) →
          F a0 S)) ∧
      (¬ (¬ a0 = (S 30 6)) →
        F (S 30 7) S)) ∧
    (¬ (¬ (S 8 (a0.toNatClampNeg)) = 0) →
      F a0 S))) :
  G 0 [some (.inr 30), some (.inl a0), some (.inl a1), none] [] S :=
  (h.s 0 rfl (h.s 1 rfl (h.s 4 rfl (h.s 5 rfl (And.intro (fun e3 => (h.s 20 rfl (h.s 21 rfl (kq_mk (q.1 e3))))) (fun e3 => (h.s 8 rfl (h.s 9 rfl (h.s 12 rfl (h.s 15 rfl (h.s 16 rfl (And.intro (q.2 e3).1 (h.s 17 rfl (And.intro (fun e4 => (h.s 22 rfl (h.s 23 rfl (h.s 24 rfl (h.s 27 rfl (And.intro (fun e5 => (h.s 35 rfl (h.s 36 rfl (h.s 39 rfl (h.s 42 rfl (h.s 43 rfl (And.intro (((q.2 e3).2.1 e4).1 e5).1 (h.s 44 rfl (h.s 45 rfl (And.intro (fun e6 => (h.s 50 rfl (h.s 51 rfl (h.s 53 rfl (And.intro (fun e7 => (h.s 58 rfl (h.s 59 rfl (h.s 62 rfl (h.s 63 rfl (And.intro (((((q.2 e3).2.1 e4).1 e5).2.1 e6).1 e7).1 (h.s 64 rfl (h.s 66 rfl (h.s 67 rfl (h.s 68 rfl (h.s 71 rfl (And.intro (fun e8 => (h.s 85 rfl (h.s 86 rfl (h.s 87 rfl (h.s 88 rfl (h.s 89 rfl (h.s 90 rfl (And.intro (Nat.le_of_ble_eq_true rfl) (And.intro rfl (And.intro rfl (hM.q ((((((q.2 e3).2.1 e4).1 e5).2.1 e6).1 e7).2.1 e8) (fun r2 S1 q9 => (h.s 93 rfl (h.s 94 rfl (h.s 95 rfl (And.intro (fun e10 => (h.s 113 rfl (h.s 114 rfl (kq_mk (q9.1 e10))))) (fun e10 => (h.s 98 rfl (h.s 99 rfl (h.s 102 rfl (h.s 103 rfl (h.s 104 rfl (h.s 107 rfl (h.s 109 rfl (h.s 110 rfl (h.s 111 rfl (h.s 112 rfl (And.intro (q9.2 e10).1 (h.s 113 rfl (h.s 114 rfl (kq_mk (q9.2 e10).2))))))))))))))))))))))))))))))) (fun e8 => (h.s 74 rfl (h.s 75 rfl (h.s 78 rfl (h.s 79 rfl (And.intro ((((((q.2 e3).2.1 e4).1 e5).2.1 e6).1 e7).2.2 e8).1 (h.s 80 rfl (h.s 83 rfl (h.s 84 rfl (kq_mk ((((((q.2 e3).2.1 e4).1 e5).2.1 e6).1 e7).2.2 e8).2)))))))))))))))))))))) (fun e7 => (h.s 56 rfl (h.s 57 rfl (kq_mk (((((q.2 e3).2.1 e4).1 e5).2.1 e6).2 e7)))))))))) (fun e6 => (h.s 48 rfl (h.s 49 rfl (kq_mk ((((q.2 e3).2.1 e4).1 e5).2.2 e6))))))))))))))) (fun e5 => (h.s 30 rfl (h.s 31 rfl (h.s 34 rfl (kq_mk (((q.2 e3).2.1 e4).2 e5)))))))))))) (fun e4 => (h.s 20 rfl (h.s 21 rfl (kq_mk ((q.2 e3).2.2 e4)))))))))))))))))))
theorem g_Ch_retyped {d : Nat} {F : Int32 → kS → Prop} {S : kS} {a0 a1 : Int32} (q :
  (¬ (S 30 5) = 1 →
    F a0 S) ∧
  (¬ (¬ (S 30 5) = 1) →
    vp_in a0 50 ∧
    (¬ (S 8 (a0.toNatClampNeg)) = 0 →
      (¬ a0 = (S 30 6) →
        vp_in a0 50 ∧
        ((S 5 (a0.toNatClampNeg)) = 3 →
          (a1 < 10 →
            vp_in a0 50 ∧
            (¬ ((S 32 (a0.toNatClampNeg)) >>> (8 &&& 31)) = (S 30 4) →
              kK d m_Ch_retypedParts [.inr 30, .inl a0, .inl (a1 + 1)] S (kq fun r2 S1 =>
                (r2 < 0 →
                  F r2 S1) ∧
                (¬ (r2 < 0) →
                  vp_in a0 50 ∧
                  F r2 (ku S1 32 (a0.toNatClampNeg) (((S1 30 4) <<< (8 &&& 31)) ||| r2))))) ∧
            (¬ (¬ ((S 32 (a0.toNatClampNeg)) >>> (8 &&& 31)) = (S 30 4)) →
              vp_in a0 50 ∧
              F ((S 32 (a0.toNatClampNeg)) &&& 255) S)) ∧
          (¬ (a1 < 10) →
            F ((-1)) S)) ∧
        (¬ ((S 5 (a0.toNatClampNeg)) = 3) →
          F a0 S)) ∧
      (¬ (¬ a0 = (S 30 6)) →
        F (S 30 7) S)) ∧
    (¬ (¬ (S 8 (a0.toNatClampNeg)) = 0) →
      F a0 S))) :
  kK (d + 1) m_Ch_retyped [.inr 30, .inl a0, .inl a1] S (kq F) := kspec_of (fun _ h => f_Ch_retyped_0 kspec_Mo h q)
-- Ch_retypedParts cuts []
set_option maxRecDepth 20000 in
theorem f_Ch_retypedParts_0 {M : kM} (hM : kMo M) {F : Int32 → kS → Prop} {G : kG} (h : kCl kC M (kq F) 26 G) {S : kS} {a0 a1 : Int32} (q :
  vp_in a0 50 ∧
  M m_Ch_retyped [.inr 30, .inl (S 6 (a0.toNatClampNeg)), .inl a1] S (kq fun r2 S1 =>
    (0 ≤ r2 →
      vp_in a0 50 ∧
      M m_Ch_retyped [.inr 30, .inl (S1 7 (a0.toNatClampNeg)), .inl a1] S1 (kq fun r4 S3 =>
        M m_Ty_store [.inr 1, .inl 3, .inl r2, .inl r4] S3 (kq fun r6 S5 =>
          F r6 S5))) ∧
    (¬ (0 ≤ r2) →
      F ((-1)) S1))) :
  G 0 [some (.inr 30), some (.inl a0), some (.inl a1), none] [] S :=
  (h.s 0 rfl (h.s 1 rfl (h.s 2 rfl (h.s 5 rfl (h.s 8 rfl (h.s 9 rfl (And.intro q.1 (h.s 10 rfl (h.s 11 rfl (And.intro (Nat.le_of_ble_eq_true rfl) (And.intro rfl (And.intro rfl (hM.q q.2 (fun r2 S1 q7 => (h.s 14 rfl (h.s 15 rfl (h.s 16 rfl (And.intro (fun e8 => (h.s 23 rfl (h.s 24 rfl (h.s 27 rfl (h.s 28 rfl (h.s 29 rfl (h.s 30 rfl (h.s 31 rfl (h.s 34 rfl (h.s 37 rfl (h.s 38 rfl (And.intro (q7.1 e8).1 (h.s 39 rfl (h.s 40 rfl (And.intro (Nat.le_of_ble_eq_true rfl) (And.intro rfl (And.intro rfl (hM.q (q7.1 e8).2 (fun r4 S3 q9 => (h.s 43 rfl (And.intro (Nat.le_of_ble_eq_true rfl) (And.intro rfl (And.intro rfl (hM.q q9 (fun r6 S5 q10 => (h.s 46 rfl (kq_mk q10))))))))))))))))))))))))))) (fun e8 => (h.s 19 rfl (h.s 20 rfl (h.s 46 rfl (kq_mk (q7.2 e8))))))))))))))))))))))))
theorem g_Ch_retypedParts {d : Nat} {F : Int32 → kS → Prop} {S : kS} {a0 a1 : Int32} (q :
  vp_in a0 50 ∧
  kK d m_Ch_retyped [.inr 30, .inl (S 6 (a0.toNatClampNeg)), .inl a1] S (kq fun r2 S1 =>
    (0 ≤ r2 →
      vp_in a0 50 ∧
      kK d m_Ch_retyped [.inr 30, .inl (S1 7 (a0.toNatClampNeg)), .inl a1] S1 (kq fun r4 S3 =>
        kK d m_Ty_store [.inr 1, .inl 3, .inl r2, .inl r4] S3 (kq fun r6 S5 =>
          F r6 S5))) ∧
    (¬ (0 ≤ r2) →
      F ((-1)) S1))) :
  kK (d + 1) m_Ch_retypedParts [.inr 30, .inl a0, .inl a1] S (kq F) := kspec_of (fun _ h => f_Ch_retypedParts_0 kspec_Mo h q)
-- Te_abstraction cuts []
set_option maxRecDepth 20000 in
theorem f_Te_abstraction_0 {M : kM} (hM : kMo M) {F : Int32 → kS → Prop} {G : kG} (h : kCl kC M (kq F) 27 G) {S : kS} {a0 a1 : Int32} (q :
  (0 ≤ a1 →
    vp_in a1 250 ∧
    M m_Ty_store [.inr 1, .inl 3, .inl a0, .inl (S 17 (a1.toNatClampNeg))] S (kq fun r2 S1 =>
      M m_Te_store [.inr 10, .inl 4, .inl a1, .inl a1, .inl r2] S1 (kq fun r4 S3 =>
        F r4 S3))) ∧
  (¬ (0 ≤ a1) →
    F ((-1)) S)) :
  G 0 [some (.inr 10), some (.inl a0), some (.inl a1)] [] S :=
  (h.s 0 rfl (h.s 1 rfl (And.intro (fun e5 => (h.s 6 rfl (h.s 7 rfl (h.s 8 rfl (h.s 9 rfl (h.s 10 rfl (h.s 11 rfl (h.s 14 rfl (h.s 15 rfl (h.s 16 rfl (h.s 17 rfl (h.s 20 rfl (h.s 21 rfl (And.intro (q.1 e5).1 (h.s 22 rfl (And.intro (Nat.le_of_ble_eq_true rfl) (And.intro rfl (And.intro rfl (hM.q (q.1 e5).2 (fun r2 S1 q6 => (h.s 25 rfl (And.intro (Nat.le_of_ble_eq_true rfl) (And.intro rfl (And.intro rfl (hM.q q6 (fun r4 S3 q7 => (h.s 28 rfl (kq_mk q7)))))))))))))))))))))))))))) (fun e5 => (h.s 4 rfl (h.s 5 rfl (kq_mk (q.2 e5))))))))
theorem g_Te_abstraction {d : Nat} {F : Int32 → kS → Prop} {S : kS} {a0 a1 : Int32} (q :
  (0 ≤ a1 →
    vp_in a1 250 ∧
    kK d m_Ty_store [.inr 1, .inl 3, .inl a0, .inl (S 17 (a1.toNatClampNeg))] S (kq fun r2 S1 =>
      kK d m_Te_store [.inr 10, .inl 4, .inl a1, .inl a1, .inl r2] S1 (kq fun r4 S3 =>
        F r4 S3))) ∧
  (¬ (0 ≤ a1) →
    F ((-1)) S)) :
  kK (d + 1) m_Te_abstraction [.inr 10, .inl a0, .inl a1] S (kq F) := kspec_of (fun _ h => f_Te_abstraction_0 kspec_Mo h q)
-- K_rule cuts []
set_option maxRecDepth 20000 in
theorem f_K_rule_0 {M : kM} (hM : kMo M) {F : Int32 → kS → Prop} {G : kG} (h : kCl kC M (kq F) 28 G) {S : kS} {a0 a1 a2 a3 : Int32} (q :
  M m_Ru_refer [.inr 33, .inl 0, .inl 0] S (kv fun S1 =>
    M m_Ru_make [.inr 33, .inl a0, .inl a1, .inl a2, .inl a3] S1 (kq fun r3 S2 =>
      M m_K_settled [.inr 0, .inl r3] S2 (kq fun r5 S4 =>
        F r5 S4)))) :
  G 0 [some (.inr 0), some (.inl a0), some (.inl a1), some (.inl a2), some (.inl a3)] [] S :=
  (h.s 0 rfl (h.s 1 rfl (h.s 4 rfl (h.s 5 rfl (h.s 6 rfl (And.intro (Nat.le_of_ble_eq_true rfl) (And.intro rfl (And.intro rfl (hM.v q (fun S1 q6 => (h.s 9 rfl (h.s 10 rfl (h.s 11 rfl (h.s 14 rfl (h.s 15 rfl (h.s 16 rfl (h.s 17 rfl (h.s 19 rfl (And.intro (Nat.le_of_ble_eq_true rfl) (And.intro rfl (And.intro rfl (hM.q q6 (fun r3 S2 q7 => (h.s 22 rfl (And.intro (Nat.le_of_ble_eq_true rfl) (And.intro rfl (And.intro rfl (hM.q q7 (fun r5 S4 q8 => (h.s 25 rfl (kq_mk q8)))))))))))))))))))))))))))))))
theorem g_K_rule {d : Nat} {F : Int32 → kS → Prop} {S : kS} {a0 a1 a2 a3 : Int32} (q :
  kK d m_Ru_refer [.inr 33, .inl 0, .inl 0] S (kv fun S1 =>
    kK d m_Ru_make [.inr 33, .inl a0, .inl a1, .inl a2, .inl a3] S1 (kq fun r3 S2 =>
      kK d m_K_settled [.inr 0, .inl r3] S2 (kq fun r5 S4 =>
        F r5 S4)))) :
  kK (d + 1) m_K_rule [.inr 0, .inl a0, .inl a1, .inl a2, .inl a3] S (kq F) := kspec_of (fun _ h => f_K_rule_0 kspec_Mo h q)
-- Ru_refer cuts []
set_option maxRecDepth 20000 in
theorem f_Ru_refer_0 {M : kM} (hM : kMo M) {F : kS → Prop} {G : kG} (h : kCl kC M (kv F) 29 G) {S : kS} {a0 a1 : Int32} (q :
  F (ku (ku S 33 4 a0) 33 5 a1)) :
  G 0 [some (.inr 33), some (.inl a0), some (.inl a1)] [] S :=
  (h.s 0 rfl (h.s 1 rfl (h.s 2 rfl (h.s 5 rfl (h.s 6 rfl (h.s 7 rfl (h.s 10 rfl (kv_mk q))))))))
theorem g_Ru_refer {d : Nat} {F : kS → Prop} {S : kS} {a0 a1 : Int32} (q :
  F (ku (ku S 33 4 a0) 33 5 a1)) :
  kK (d + 1) m_Ru_refer [.inr 33, .inl a0, .inl a1] S (kv F) := kspec_of (fun _ h => f_Ru_refer_0 kspec_Mo h q)
-- Ru_make cuts []
set_option maxRecDepth 20000 in
theorem f_Ru_make_0 {M : kM} (hM : kMo M) {F : Int32 → kS → Prop} {G : kG} (h : kCl kC M (kq F) 30 G) {S : kS} {a0 a1 a2 a3 : Int32} (q :
  M m_Fa_open [.inr 25] S (kv fun S1 =>
    (a0 = 0 →
      M m_Ru_termAt [.inr 33, .inl a1] S1 (kq fun r3 S2 =>
        M m_Ru_reflexivity [.inr 33, .inl r3] S2 (kq fun r5 S4 =>
          F r5 S4))) ∧
    (a0 = 1 →
      M m_Ru_factAt [.inr 33, .inl a1] S1 (kq fun r7 S6 =>
        M m_Ru_factAt [.inr 33, .inl a2] S6 (kq fun r9 S8 =>
          M m_Ru_transitivity [.inr 33, .inl r7, .inl r9] S8 (kq fun r11 S10 =>
            F r11 S10)))) ∧
    (a0 = 2 →
      M m_Ru_factAt [.inr 33, .inl a1] S1 (kq fun r13 S12 =>
        M m_Ru_factAt [.inr 33, .inl a2] S12 (kq fun r15 S14 =>
          M m_Ru_congruence [.inr 33, .inl r13, .inl r15] S14 (kq fun r17 S16 =>
            F r17 S16)))) ∧
    (a0 = 3 →
      M m_Ru_termAt [.inr 33, .inl a1] S1 (kq fun r19 S18 =>
        M m_Ru_factAt [.inr 33, .inl a2] S18 (kq fun r21 S20 =>
          M m_Ru_underAbstraction [.inr 33, .inl r19, .inl r21] S20 (kq fun r23 S22 =>
            F r23 S22)))) ∧
    (a0 = 4 →
      M m_Ru_termAt [.inr 33, .inl a1] S1 (kq fun r25 S24 =>
        M m_Ru_opening [.inr 33, .inl r25] S24 (kq fun r27 S26 =>
          F r27 S26))) ∧
    (a0 = 5 →
      M m_Ru_termAt [.inr 33, .inl a1] S1 (kq fun r29 S28 =>
        M m_Ru_assumption [.inr 33, .inl r29] S28 (kq fun r31 S30 =>
          F r31 S30))) ∧
    (a0 = 6 →
      M m_Ru_factAt [.inr 33, .inl a1] S1 (kq fun r33 S32 =>
        M m_Ru_factAt [.inr 33, .inl a2] S32 (kq fun r35 S34 =>
          M m_Ru_equalTruth [.inr 33, .inl r33, .inl r35] S34 (kq fun r37 S36 =>
            F r37 S36)))) ∧
    (a0 = 7 →
      M m_Ru_factAt [.inr 33, .inl a1] S1 (kq fun r39 S38 =>
        M m_Ru_factAt [.inr 33, .inl a2] S38 (kq fun r41 S40 =>
          M m_Ru_equivalence [.inr 33, .inl r39, .inl r41] S40 (kq fun r43 S42 =>
            F r43 S42)))) ∧
    (a0 = 8 →
      M m_Ru_factAt [.inr 33, .inl a1] S1 (kq fun r45 S44 =>
        M m_Ru_termAt [.inr 33, .inl a2] S44 (kq fun r47 S46 =>
          M m_Ru_termAt [.inr 33, .inl a3] S46 (kq fun r49 S48 =>
            M m_Ru_beginsWithTerm [.inr 33, .inl r47, .inl r49] S48 (kq fun r51 S50 =>
              M m_Ru_instance [.inr 33, .inl r45, .inl r51] S50 (kq fun r53 S52 =>
                F r53 S52)))))) ∧
    (a0 = 9 →
      M m_Ru_factAt [.inr 33, .inl a1] S1 (kq fun r55 S54 =>
        M m_Ru_typeAt [.inr 33, .inl a2] S54 (kq fun r57 S56 =>
          M m_Ru_typeAt [.inr 33, .inl a3] S56 (kq fun r59 S58 =>
            M m_Ru_beginsWithType [.inr 33, .inl r57, .inl r59] S58 (kq fun r61 S60 =>
              M m_Ru_instance [.inr 33, .inl r55, .inl r61] S60 (kq fun r63 S62 =>
                F r63 S62)))))) ∧
    (a0 = 10 →
      M m_Ru_factAt [.inr 33, .inl a1] S1 (kq fun r65 S64 =>
        M m_Ru_factAt [.inr 33, .inl a2] S64 (kq fun r67 S66 =>
          M m_Ru_rewriting [.inr 33, .inl r65, .inl r67] S66 (kq fun r69 S68 =>
            F r69 S68)))) ∧
    ((a0 < 0 ∨ 11 ≤ a0) →
      F ((-1)) S1))) :
  G 0 [some (.inr 33), some (.inl a0), some (.inl a1), some (.inl a2), some (.inl a3)] [] S :=
  (h.s 0 rfl (h.s 1 rfl (h.s 4 rfl (And.intro (Nat.le_of_ble_eq_true rfl) (And.intro rfl (And.intro rfl (hM.v q (fun S1 q70 => (h.s 7 rfl (h.s 8 rfl (And.intro (fun e71 => (h.s 68 rfl (h.s 69 rfl (h.s 70 rfl (h.s 71 rfl (And.intro (Nat.le_of_ble_eq_true rfl) (And.intro rfl (And.intro rfl (hM.q (q70.1 e71) (fun r3 S2 q104 => (h.s 74 rfl (And.intro (Nat.le_of_ble_eq_true rfl) (And.intro rfl (And.intro rfl (hM.q q104 (fun r5 S4 q105 => (h.s 77 rfl (kq_mk q105)))))))))))))))))) (And.intro (fun e71 => (h.s 78 rfl (h.s 79 rfl (h.s 80 rfl (h.s 81 rfl (And.intro (Nat.le_of_ble_eq_true rfl) (And.intro rfl (And.intro rfl (hM.q (q70.2.1 e71) (fun r7 S6 q101 => (h.s 84 rfl (h.s 85 rfl (h.s 86 rfl (And.intro (Nat.le_of_ble_eq_true rfl) (And.intro rfl (And.intro rfl (hM.q q101 (fun r9 S8 q102 => (h.s 89 rfl (And.intro (Nat.le_of_ble_eq_true rfl) (And.intro rfl (And.intro rfl (hM.q q102 (fun r11 S10 q103 => (h.s 92 rfl (kq_mk q103)))))))))))))))))))))))))) (And.intro (fun e71 => (h.s 93 rfl (h.s 94 rfl (h.s 95 rfl (h.s 96 rfl (And.intro (Nat.le_of_ble_eq_true rfl) (And.intro rfl (And.intro rfl (hM.q (q70.2.2.1 e71) (fun r13 S12 q98 => (h.s 99 rfl (h.s 100 rfl (h.s 101 rfl (And.intro (Nat.le_of_ble_eq_true rfl) (And.intro rfl (And.intro rfl (hM.q q98 (fun r15 S14 q99 => (h.s 104 rfl (And.intro (Nat.le_of_ble_eq_true rfl) (And.intro rfl (And.intro rfl (hM.q q99 (fun r17 S16 q100 => (h.s 107 rfl (kq_mk q100)))))))))))))))))))))))))) (And.intro (fun e71 => (h.s 108 rfl (h.s 109 rfl (h.s 110 rfl (h.s 111 rfl (And.intro (Nat.le_of_ble_eq_true rfl) (And.intro rfl (And.intro rfl (hM.q (q70.2.2.2.1 e71) (fun r19 S18 q95 => (h.s 114 rfl (h.s 115 rfl (h.s 116 rfl (And.intro (Nat.le_of_ble_eq_true rfl) (And.intro rfl (And.intro rfl (hM.q q95 (fun r21 S20 q96 => (h.s 119 rfl (And.intro (Nat.le_of_ble_eq_true rfl) (And.intro rfl (And.intro rfl (hM.q q96 (fun r23 S22 q97 => (h.s 122 rfl (kq_mk q97)))))))))))))))))))))))))) (And.intro (fun e71 => (h.s 123 rfl (h.s 124 rfl (h.s 125 rfl (h.s 126 rfl (And.intro (Nat.le_of_ble_eq_true rfl) (And.intro rfl (And.intro rfl (hM.q (q70.2.2.2.2.1 e71) (fun r25 S24 q93 => (h.s 129 rfl (And.intro (Nat.le_of_ble_eq_true rfl) (And.intro rfl (And.intro rfl (hM.q q93 (fun r27 S26 q94 => (h.s 132 rfl (kq_mk q94)))))))))))))))))) (And.intro (fun e71 => (h.s 133 rfl (h.s 134 rfl (h.s 135 rfl (h.s 136 rfl (And.intro (Nat.le_of_ble_eq_true rfl) (And.intro rfl (And.intro rfl (hM.q (q70.2.2.2.2.2.1 e71) (fun r29 S28 q91 => (h.s 139 rfl (And.intro (Nat.le_of_ble_eq_true rfl) (And.intro rfl (And.intro rfl (hM.q q91 (fun r31 S30 q92 => (h.s 142 rfl (kq_mk q92)))))))))))))))))) (And.intro (fun e71 => (h.s 143 rfl (h.s 144 rfl (h.s 145 rfl (h.s 146 rfl (And.intro (Nat.le_of_ble_eq_true rfl) (And.intro rfl (And.intro rfl (hM.q (q70.2.2.2.2.2.2.1 e71) (fun r33 S32 q88 => (h.s 149 rfl (h.s 150 rfl (h.s 151 rfl (And.intro (Nat.le_of_ble_eq_true rfl) (And.intro rfl (And.intro rfl (hM.q q88 (fun r35 S34 q89 => (h.s 154 rfl (And.intro (Nat.le_of_ble_eq_true rfl) (And.intro rfl (And.intro rfl (hM.q q89 (fun r37 S36 q90 => (h.s 157 rfl (kq_mk q90)))))))))))))))))))))))))) (And.intro (fun e71 => (h.s 158 rfl (h.s 159 rfl (h.s 160 rfl (h.s 161 rfl (And.intro (Nat.le_of_ble_eq_true rfl) (And.intro rfl (And.intro rfl (hM.q (q70.2.2.2.2.2.2.2.1 e71) (fun r39 S38 q85 => (h.s 164 rfl (h.s 165 rfl (h.s 166 rfl (And.intro (Nat.le_of_ble_eq_true rfl) (And.intro rfl (And.intro rfl (hM.q q85 (fun r41 S40 q86 => (h.s 169 rfl (And.intro (Nat.le_of_ble_eq_true rfl) (And.intro rfl (And.intro rfl (hM.q q86 (fun r43 S42 q87 => (h.s 172 rfl (kq_mk q87)))))))))))))))))))))))))) (And.intro (fun e71 => (h.s 173 rfl (h.s 174 rfl (h.s 175 rfl (h.s 176 rfl (And.intro (Nat.le_of_ble_eq_true rfl) (And.intro rfl (And.intro rfl (hM.q (q70.2.2.2.2.2.2.2.2.1 e71) (fun r45 S44 q80 => (h.s 179 rfl (h.s 180 rfl (h.s 181 rfl (h.s 182 rfl (And.intro (Nat.le_of_ble_eq_true rfl) (And.intro rfl (And.intro rfl (hM.q q80 (fun r47 S46 q81 => (h.s 185 rfl (h.s 186 rfl (h.s 188 rfl (And.intro (Nat.le_of_ble_eq_true rfl) (And.intro rfl (And.intro rfl (hM.q q81 (fun r49 S48 q82 => (h.s 191 rfl (And.intro (Nat.le_of_ble_eq_true rfl) (And.intro rfl (And.intro rfl (hM.q q82 (fun r51 S50 q83 => (h.s 194 rfl (And.intro (Nat.le_of_ble_eq_true rfl) (And.intro rfl (And.intro rfl (hM.q q83 (fun r53 S52 q84 => (h.s 197 rfl (kq_mk q84))))))))))))))))))))))))))))))))))))))))) (And.intro (fun e71 => (h.s 198 rfl (h.s 199 rfl (h.s 200 rfl (h.s 201 rfl (And.intro (Nat.le_of_ble_eq_true rfl) (And.intro rfl (And.intro rfl (hM.q (q70.2.2.2.2.2.2.2.2.2.1 e71) (fun r55 S54 q75 => (h.s 204 rfl (h.s 205 rfl (h.s 206 rfl (h.s 207 rfl (And.intro (Nat.le_of_ble_eq_true rfl) (And.intro rfl (And.intro rfl (hM.q q75 (fun r57 S56 q76 => (h.s 210 rfl (h.s 211 rfl (h.s 213 rfl (And.intro (Nat.le_of_ble_eq_true rfl) (And.intro rfl (And.intro rfl (hM.q q76 (fun r59 S58 q77 => (h.s 216 rfl (And.intro (Nat.le_of_ble_eq_true rfl) (And.intro rfl (And.intro rfl (hM.q q77 (fun r61 S60 q78 => (h.s 219 rfl (And.intro (Nat.le_of_ble_eq_true rfl) (And.intro rfl (And.intro rfl (hM.q q78 (fun r63 S62 q79 => (h.s 222 rfl (kq_mk q79))))))))))))))))))))))))))))))))))))))))) (And.intro (fun e71 => (h.s 223 rfl (h.s 224 rfl (h.s 225 rfl (h.s 226 rfl (And.intro (Nat.le_of_ble_eq_true rfl) (And.intro rfl (And.intro rfl (hM.q (q70.2.2.2.2.2.2.2.2.2.2.1 e71) (fun r65 S64 q72 => (h.s 229 rfl (h.s 230 rfl (h.s 231 rfl (And.intro (Nat.le_of_ble_eq_true rfl) (And.intro rfl (And.intro rfl (hM.q q72 (fun r67 S66 q73 => (h.s 234 rfl (And.intro (Nat.le_of_ble_eq_true rfl) (And.intro rfl (And.intro rfl (hM.q q73 (fun r69 S68 q74 => (h.s 237 rfl (kq_mk q74)))))))))))))))))))))))))) (fun e71 => (h.s 238 rfl (h.s 239 rfl (kq_mk (q70.2.2.2.2.2.2.2.2.2.2.2 e71))))))))))))))))))))))))))
theorem g_Ru_make {d : Nat} {F : Int32 → kS → Prop} {S : kS} {a0 a1 a2 a3 : Int32} (q :
  kK d m_Fa_open [.inr 25] S (kv fun S1 =>
    (a0 = 0 →
      kK d m_Ru_termAt [.inr 33, .inl a1] S1 (kq fun r3 S2 =>
        kK d m_Ru_reflexivity [.inr 33, .inl r3] S2 (kq fun r5 S4 =>
          F r5 S4))) ∧
    (a0 = 1 →
      kK d m_Ru_factAt [.inr 33, .inl a1] S1 (kq fun r7 S6 =>
        kK d m_Ru_factAt [.inr 33, .inl a2] S6 (kq fun r9 S8 =>
          kK d m_Ru_transitivity [.inr 33, .inl r7, .inl r9] S8 (kq fun r11 S10 =>
            F r11 S10)))) ∧
    (a0 = 2 →
      kK d m_Ru_factAt [.inr 33, .inl a1] S1 (kq fun r13 S12 =>
        kK d m_Ru_factAt [.inr 33, .inl a2] S12 (kq fun r15 S14 =>
          kK d m_Ru_congruence [.inr 33, .inl r13, .inl r15] S14 (kq fun r17 S16 =>
            F r17 S16)))) ∧
    (a0 = 3 →
      kK d m_Ru_termAt [.inr 33, .inl a1] S1 (kq fun r19 S18 =>
        kK d m_Ru_factAt [.inr 33, .inl a2] S18 (kq fun r21 S20 =>
          kK d m_Ru_underAbstraction [.inr 33, .inl r19, .inl r21] S20 (kq fun r23 S22 =>
            F r23 S22)))) ∧
    (a0 = 4 →
      kK d m_Ru_termAt [.inr 33, .inl a1] S1 (kq fun r25 S24 =>
        kK d m_Ru_opening [.inr 33, .inl r25] S24 (kq fun r27 S26 =>
          F r27 S26))) ∧
    (a0 = 5 →
      kK d m_Ru_termAt [.inr 33, .inl a1] S1 (kq fun r29 S28 =>
        kK d m_Ru_assumption [.inr 33, .inl r29] S28 (kq fun r31 S30 =>
          F r31 S30))) ∧
    (a0 = 6 →
      kK d m_Ru_factAt [.inr 33, .inl a1] S1 (kq fun r33 S32 =>
        kK d m_Ru_factAt [.inr 33, .inl a2] S32 (kq fun r35 S34 =>
          kK d m_Ru_equalTruth [.inr 33, .inl r33, .inl r35] S34 (kq fun r37 S36 =>
            F r37 S36)))) ∧
    (a0 = 7 →
      kK d m_Ru_factAt [.inr 33, .inl a1] S1 (kq fun r39 S38 =>
        kK d m_Ru_factAt [.inr 33, .inl a2] S38 (kq fun r41 S40 =>
          kK d m_Ru_equivalence [.inr 33, .inl r39, .inl r41] S40 (kq fun r43 S42 =>
            F r43 S42)))) ∧
    (a0 = 8 →
      kK d m_Ru_factAt [.inr 33, .inl a1] S1 (kq fun r45 S44 =>
        kK d m_Ru_termAt [.inr 33, .inl a2] S44 (kq fun r47 S46 =>
          kK d m_Ru_termAt [.inr 33, .inl a3] S46 (kq fun r49 S48 =>
            kK d m_Ru_beginsWithTerm [.inr 33, .inl r47, .inl r49] S48 (kq fun r51 S50 =>
              kK d m_Ru_instance [.inr 33, .inl r45, .inl r51] S50 (kq fun r53 S52 =>
                F r53 S52)))))) ∧
    (a0 = 9 →
      kK d m_Ru_factAt [.inr 33, .inl a1] S1 (kq fun r55 S54 =>
        kK d m_Ru_typeAt [.inr 33, .inl a2] S54 (kq fun r57 S56 =>
          kK d m_Ru_typeAt [.inr 33, .inl a3] S56 (kq fun r59 S58 =>
            kK d m_Ru_beginsWithType [.inr 33, .inl r57, .inl r59] S58 (kq fun r61 S60 =>
              kK d m_Ru_instance [.inr 33, .inl r55, .inl r61] S60 (kq fun r63 S62 =>
                F r63 S62)))))) ∧
    (a0 = 10 →
      kK d m_Ru_factAt [.inr 33, .inl a1] S1 (kq fun r65 S64 =>
        kK d m_Ru_factAt [.inr 33, .inl a2] S64 (kq fun r67 S66 =>
          kK d m_Ru_rewriting [.inr 33, .inl r65, .inl r67] S66 (kq fun r69 S68 =>
            F r69 S68)))) ∧
    ((a0 < 0 ∨ 11 ≤ a0) →
      F ((-1)) S1))) :
  kK (d + 1) m_Ru_make [.inr 33, .inl a0, .inl a1, .inl a2, .inl a3] S (kq F) := kspec_of (fun _ h => f_Ru_make_0 kspec_Mo h q)
-- Fa_open cuts []
set_option maxRecDepth 20000 in
theorem f_Fa_open_0 {M : kM} (hM : kMo M) {F : kS → Prop} {G : kG} (h : kCl kC M (kv F) 31 G) {S : kS} (q :
  F (ku (ku S 25 4 0) 25 5 0)) :
  G 0 [some (.inr 25)] [] S :=
  (h.s 0 rfl (h.s 1 rfl (h.s 2 rfl (h.s 5 rfl (h.s 6 rfl (h.s 7 rfl (And.intro (Or.inl rfl) (h.s 10 rfl (kv_mk q)))))))))
theorem g_Fa_open {d : Nat} {F : kS → Prop} {S : kS} (q :
  F (ku (ku S 25 4 0) 25 5 0)) :
  kK (d + 1) m_Fa_open [.inr 25] S (kv F) := kspec_of (fun _ h => f_Fa_open_0 kspec_Mo h q)
-- Ru_termAt cuts []
set_option maxRecDepth 20000 in
theorem f_Ru_termAt_0 {M : kM} (hM : kMo M) {F : Int32 → kS → Prop} {G : kG} (h : kCl kC M (kq F) 32 G) {S : kS} {a0 : Int32} (q :
  M m_Nu_placeOf [.inr 11, .inl a0] S (kq fun r2 S1 =>
    F r2 S1)) :
  G 0 [some (.inr 33), some (.inl a0)] [] S :=
  (h.s 0 rfl (h.s 1 rfl (h.s 4 rfl (h.s 7 rfl (h.s 8 rfl (And.intro (Nat.le_of_ble_eq_true rfl) (And.intro rfl (And.intro rfl (hM.q q (fun r2 S1 q3 => (h.s 11 rfl (kq_mk q3))))))))))))
theorem g_Ru_termAt {d : Nat} {F : Int32 → kS → Prop} {S : kS} {a0 : Int32} (q :
  kK d m_Nu_placeOf [.inr 11, .inl a0] S (kq fun r2 S1 =>
    F r2 S1)) :
  kK (d + 1) m_Ru_termAt [.inr 33, .inl a0] S (kq F) := kspec_of (fun _ h => f_Ru_termAt_0 kspec_Mo h q)
-- Ru_reflexivity cuts []
set_option maxRecDepth 20000 in
theorem f_Ru_reflexivity_0 {M : kM} (hM : kMo M) {F : Int32 → kS → Prop} {G : kG} (h : kCl kC M (kq F) 33 G) {S : kS} {a0 : Int32} (q :
  M m_Te_equation [.inr 10, .inl a0, .inl a0] S (kq fun r2 S1 =>
    M m_Fa_close [.inr 25, .inl r2] S1 (kq fun r4 S3 =>
      F r4 S3))) :
  G 0 [some (.inr 33), some (.inl a0)] [] S :=
  (h.s 0 rfl (h.s 1 rfl (h.s 4 rfl (h.s 5 rfl (h.s 8 rfl (h.s 9 rfl (h.s 10 rfl (And.intro (Nat.le_of_ble_eq_true rfl) (And.intro rfl (And.intro rfl (hM.q q (fun r2 S1 q5 => (h.s 13 rfl (And.intro (Nat.le_of_ble_eq_true rfl) (And.intro rfl (And.intro rfl (hM.q q5 (fun r4 S3 q6 => (h.s 16 rfl (kq_mk q6))))))))))))))))))))
theorem g_Ru_reflexivity {d : Nat} {F : Int32 → kS → Prop} {S : kS} {a0 : Int32} (q :
  kK d m_Te_equation [.inr 10, .inl a0, .inl a0] S (kq fun r2 S1 =>
    kK d m_Fa_close [.inr 25, .inl r2] S1 (kq fun r4 S3 =>
      F r4 S3))) :
  kK (d + 1) m_Ru_reflexivity [.inr 33, .inl a0] S (kq F) := kspec_of (fun _ h => f_Ru_reflexivity_0 kspec_Mo h q)
-- Te_equation cuts []
set_option maxRecDepth 20000 in
theorem f_Te_equation_0 {M : kM} (hM : kMo M) {F : Int32 → kS → Prop} {G : kG} (h : kCl kC M (kq F) 34 G) {S : kS} {a0 a1 : Int32} (q :
  M m_Te_typeAt [.inr 10, .inl a0] S (kq fun r2 S1 =>
    M m_Te_equalityOf [.inr 10, .inl r2] S1 (kq fun r4 S3 =>
      M m_Te_application [.inr 10, .inl r4, .inl a0] S3 (kq fun r6 S5 =>
        M m_Te_application [.inr 10, .inl r6, .inl a1] S5 (kq fun r8 S7 =>
          F r8 S7))))) :
  G 0 [some (.inr 10), some (.inl a0), some (.inl a1)] [] S :=
  (h.s 0 rfl (h.s 1 rfl (h.s 2 rfl (h.s 3 rfl (h.s 4 rfl (h.s 5 rfl (And.intro (Nat.le_of_ble_eq_true rfl) (And.intro rfl (And.intro rfl (hM.q q (fun r2 S1 q9 => (h.s 8 rfl (And.intro (Nat.le_of_ble_eq_true rfl) (And.intro rfl (And.intro rfl (hM.q q9 (fun r4 S3 q10 => (h.s 11 rfl (h.s 12 rfl (And.intro (Nat.le_of_ble_eq_true rfl) (And.intro rfl (And.intro rfl (hM.q q10 (fun r6 S5 q11 => (h.s 15 rfl (h.s 16 rfl (And.intro (Nat.le_of_ble_eq_true rfl) (And.intro rfl (And.intro rfl (hM.q q11 (fun r8 S7 q12 => (h.s 19 rfl (kq_mk q12)))))))))))))))))))))))))))))))))
theorem g_Te_equation {d : Nat} {F : Int32 → kS → Prop} {S : kS} {a0 a1 : Int32} (q :
  kK d m_Te_typeAt [.inr 10, .inl a0] S (kq fun r2 S1 =>
    kK d m_Te_equalityOf [.inr 10, .inl r2] S1 (kq fun r4 S3 =>
      kK d m_Te_application [.inr 10, .inl r4, .inl a0] S3 (kq fun r6 S5 =>
        kK d m_Te_application [.inr 10, .inl r6, .inl a1] S5 (kq fun r8 S7 =>
          F r8 S7))))) :
  kK (d + 1) m_Te_equation [.inr 10, .inl a0, .inl a1] S (kq F) := kspec_of (fun _ h => f_Te_equation_0 kspec_Mo h q)
-- Te_typeAt cuts []
set_option maxRecDepth 20000 in
theorem f_Te_typeAt_0 {M : kM} (hM : kMo M) {F : Int32 → kS → Prop} {G : kG} (h : kCl kC M (kq F) 35 G) {S : kS} {a0 : Int32} (q :
  (0 ≤ a0 →
    vp_in a0 250 ∧
    F (S 17 (a0.toNatClampNeg)) S) ∧
  (¬ (0 ≤ a0) →
    F ((-1)) S)) :
  G 0 [some (.inr 10), some (.inl a0)] [] S :=
  (h.s 0 rfl (h.s 1 rfl (And.intro (fun e1 => (h.s 8 rfl (h.s 9 rfl (h.s 12 rfl (h.s 13 rfl (And.intro (q.1 e1).1 (h.s 14 rfl (kq_mk (q.1 e1).2)))))))) (fun e1 => (h.s 4 rfl (h.s 5 rfl (h.s 14 rfl (kq_mk (q.2 e1)))))))))
theorem g_Te_typeAt {d : Nat} {F : Int32 → kS → Prop} {S : kS} {a0 : Int32} (q :
  (0 ≤ a0 →
    vp_in a0 250 ∧
    F (S 17 (a0.toNatClampNeg)) S) ∧
  (¬ (0 ≤ a0) →
    F ((-1)) S)) :
  kK (d + 1) m_Te_typeAt [.inr 10, .inl a0] S (kq F) := kspec_of (fun _ h => f_Te_typeAt_0 kspec_Mo h q)
-- Fa_close cuts []
set_option maxRecDepth 20000 in
theorem f_Fa_close_0 {M : kM} (hM : kMo M) {F : Int32 → kS → Prop} {G : kG} (h : kCl kC M (kq F) 36 G) {S : kS} {a0 : Int32} (q :
  (a0 < 0 →
    F ((-1)) S) ∧
  (¬ (a0 < 0) →
    (¬ (S 25 5) = 0 →
      F ((-1)) S) ∧
    (¬ (¬ (S 25 5) = 0) →
      ((S 25 6) < 60 →
        vp_in (S 25 6) 60 ∧
        vp_in (S 25 6) 60 ∧
        (¬ (0 : Int32) < 0 ∧ ¬ ((S 25 6) * 12 : Int32) < 0 ∧ ¬ (S 25 4 : Int32) < 0 ∧ (0 : Int32).toNatClampNeg + (S 25 4 : Int32).toNatClampNeg ≤ 12 ∧ ((S 25 6) * 12 : Int32).toNatClampNeg + (S 25 4 : Int32).toNatClampNeg ≤ 720) ∧
        F (kc (ku (ku S 26 ((S 25 6).toNatClampNeg) a0) 27 ((S 25 6).toNatClampNeg) (S 25 4)) 29 0 28 ((S 25 6) * 12) (S 25 4) 25 6) (ku (kc (ku (ku S 26 ((S 25 6).toNatClampNeg) a0) 27 ((S 25 6).toNatClampNeg) (S 25 4)) 29 0 28 ((S 25 6) * 12) (S 25 4)) 25 6 ((kc (ku (ku S 26 ((S 25 6).toNatClampNeg) a0) 27 ((S 25 6).toNatClampNeg) (S 25 4)) 29 0 28 ((S 25 6) * 12) (S 25 4) 25 6) + 1))) ∧
      (¬ ((S 25 6) < 60) →
        F ((-1)) S)))) :
  G 0 [some (.inr 25), some (.inl a0)] [] S :=
  (h.s 0 rfl (h.s 1 rfl (And.intro (fun e2 => (h.s 20 rfl (h.s 21 rfl (kq_mk (q.1 e2))))) (fun e2 => (h.s 4 rfl (h.s 5 rfl (h.s 8 rfl (And.intro (fun e3 => (h.s 20 rfl (h.s 21 rfl (kq_mk ((q.2 e2).1 e3))))) (fun e3 => (h.s 11 rfl (h.s 12 rfl (h.s 15 rfl (h.s 17 rfl (And.intro (fun e4 => (h.s 22 rfl (h.s 23 rfl (h.s 26 rfl (h.s 27 rfl (h.s 30 rfl (h.s 31 rfl (And.intro (((q.2 e2).2 e3).1 e4).1 (h.s 32 rfl (h.s 33 rfl (h.s 36 rfl (h.s 37 rfl (h.s 40 rfl (h.s 41 rfl (h.s 44 rfl (And.intro (((q.2 e2).2 e3).1 e4).2.1 (h.s 45 rfl (h.s 46 rfl (h.s 49 rfl (h.s 50 rfl (h.s 51 rfl (h.s 54 rfl (h.s 55 rfl (h.s 58 rfl (h.s 60 rfl (h.s 61 rfl (h.s 62 rfl (h.s 65 rfl (And.intro (Nat.le_of_ble_eq_true rfl) (And.intro (((q.2 e2).2 e3).1 e4).2.2.1 (h.s 68 rfl (h.s 69 rfl (h.s 70 rfl (h.s 73 rfl (h.s 74 rfl (h.s 75 rfl (h.s 76 rfl (h.s 79 rfl (kq_mk (((q.2 e2).2 e3).1 e4).2.2.2))))))))))))))))))))))))))))))))))))))) (fun e4 => (h.s 20 rfl (h.s 21 rfl (kq_mk (((q.2 e2).2 e3).2 e4)))))))))))))))))))
theorem g_Fa_close {d : Nat} {F : Int32 → kS → Prop} {S : kS} {a0 : Int32} (q :
  (a0 < 0 →
    F ((-1)) S) ∧
  (¬ (a0 < 0) →
    (¬ (S 25 5) = 0 →
      F ((-1)) S) ∧
    (¬ (¬ (S 25 5) = 0) →
      ((S 25 6) < 60 →
        vp_in (S 25 6) 60 ∧
        vp_in (S 25 6) 60 ∧
        (¬ (0 : Int32) < 0 ∧ ¬ ((S 25 6) * 12 : Int32) < 0 ∧ ¬ (S 25 4 : Int32) < 0 ∧ (0 : Int32).toNatClampNeg + (S 25 4 : Int32).toNatClampNeg ≤ 12 ∧ ((S 25 6) * 12 : Int32).toNatClampNeg + (S 25 4 : Int32).toNatClampNeg ≤ 720) ∧
        F (kc (ku (ku S 26 ((S 25 6).toNatClampNeg) a0) 27 ((S 25 6).toNatClampNeg) (S 25 4)) 29 0 28 ((S 25 6) * 12) (S 25 4) 25 6) (ku (kc (ku (ku S 26 ((S 25 6).toNatClampNeg) a0) 27 ((S 25 6).toNatClampNeg) (S 25 4)) 29 0 28 ((S 25 6) * 12) (S 25 4)) 25 6 ((kc (ku (ku S 26 ((S 25 6).toNatClampNeg) a0) 27 ((S 25 6).toNatClampNeg) (S 25 4)) 29 0 28 ((S 25 6) * 12) (S 25 4) 25 6) + 1))) ∧
      (¬ ((S 25 6) < 60) →
        F ((-1)) S)))) :
  kK (d + 1) m_Fa_close [.inr 25, .inl a0] S (kq F) := kspec_of (fun _ h => f_Fa_close_0 kspec_Mo h q)
-- Ru_factAt cuts []
set_option maxRecDepth 20000 in
theorem f_Ru_factAt_0 {M : kM} (hM : kMo M) {F : Int32 → kS → Prop} {G : kG} (h : kCl kC M (kq F) 37 G) {S : kS} {a0 : Int32} (q :
  (a0 < 0 →
    ((S 33 5) ≤ (((-1)) - a0) →
      M m_Fa_size [.inr 25] S (kq fun r2 S1 =>
        (r2 ≤ ((-1)) →
          F ((-1)) S1) ∧
        (¬ (r2 ≤ ((-1))) →
          F ((-1)) S1))) ∧
    (¬ ((S 33 5) ≤ (((-1)) - a0)) →
      M m_Fa_size [.inr 25] S (kq fun r4 S3 =>
        (r4 ≤ ((S 33 4) + (((-1)) - a0)) →
          F ((-1)) S3) ∧
        (¬ (r4 ≤ ((S 33 4) + (((-1)) - a0))) →
          F ((S 33 4) + (((-1)) - a0)) S3)))) ∧
  (¬ (a0 < 0) →
    M m_Fa_size [.inr 25] S (kq fun r6 S5 =>
      (r6 ≤ a0 →
        F ((-1)) S5) ∧
      (¬ (r6 ≤ a0) →
        F a0 S5)))) :
  G 0 [some (.inr 33), some (.inl a0), none, none] [] S :=
  (h.s 0 rfl (h.s 1 rfl (h.s 2 rfl (h.s 3 rfl (h.s 4 rfl (h.s 5 rfl (And.intro (fun e7 => (h.s 12 rfl (h.s 13 rfl (h.s 14 rfl (h.s 17 rfl (And.intro (fun e8 => (h.s 29 rfl (h.s 30 rfl (h.s 31 rfl (h.s 32 rfl (h.s 33 rfl (h.s 36 rfl (And.intro (Nat.le_of_ble_eq_true rfl) (And.intro rfl (And.intro rfl (hM.q ((q.1 e7).1 e8) (fun r2 S1 q9 => (h.s 39 rfl (And.intro (fun e10 => (h.s 46 rfl (h.s 47 rfl (kq_mk (q9.1 e10))))) (fun e10 => (h.s 42 rfl (h.s 43 rfl (h.s 47 rfl (kq_mk (q9.2 e10)))))))))))))))))))) (fun e8 => (h.s 20 rfl (h.s 21 rfl (h.s 24 rfl (h.s 25 rfl (h.s 26 rfl (h.s 30 rfl (h.s 31 rfl (h.s 32 rfl (h.s 33 rfl (h.s 36 rfl (And.intro (Nat.le_of_ble_eq_true rfl) (And.intro rfl (And.intro rfl (hM.q ((q.1 e7).2 e8) (fun r4 S3 q11 => (h.s 39 rfl (And.intro (fun e12 => (h.s 46 rfl (h.s 47 rfl (kq_mk (q11.1 e12))))) (fun e12 => (h.s 42 rfl (h.s 43 rfl (h.s 47 rfl (kq_mk (q11.2 e12)))))))))))))))))))))))))))))) (fun e7 => (h.s 8 rfl (h.s 9 rfl (h.s 30 rfl (h.s 31 rfl (h.s 32 rfl (h.s 33 rfl (h.s 36 rfl (And.intro (Nat.le_of_ble_eq_true rfl) (And.intro rfl (And.intro rfl (hM.q (q.2 e7) (fun r6 S5 q13 => (h.s 39 rfl (And.intro (fun e14 => (h.s 46 rfl (h.s 47 rfl (kq_mk (q13.1 e14))))) (fun e14 => (h.s 42 rfl (h.s 43 rfl (h.s 47 rfl (kq_mk (q13.2 e14))))))))))))))))))))))))))))
theorem g_Ru_factAt {d : Nat} {F : Int32 → kS → Prop} {S : kS} {a0 : Int32} (q :
  (a0 < 0 →
    ((S 33 5) ≤ (((-1)) - a0) →
      kK d m_Fa_size [.inr 25] S (kq fun r2 S1 =>
        (r2 ≤ ((-1)) →
          F ((-1)) S1) ∧
        (¬ (r2 ≤ ((-1))) →
          F ((-1)) S1))) ∧
    (¬ ((S 33 5) ≤ (((-1)) - a0)) →
      kK d m_Fa_size [.inr 25] S (kq fun r4 S3 =>
        (r4 ≤ ((S 33 4) + (((-1)) - a0)) →
          F ((-1)) S3) ∧
        (¬ (r4 ≤ ((S 33 4) + (((-1)) - a0))) →
          F ((S 33 4) + (((-1)) - a0)) S3)))) ∧
  (¬ (a0 < 0) →
    kK d m_Fa_size [.inr 25] S (kq fun r6 S5 =>
      (r6 ≤ a0 →
        F ((-1)) S5) ∧
      (¬ (r6 ≤ a0) →
        F a0 S5)))) :
  kK (d + 1) m_Ru_factAt [.inr 33, .inl a0] S (kq F) := kspec_of (fun _ h => f_Ru_factAt_0 kspec_Mo h q)
-- Fa_size cuts []
set_option maxRecDepth 20000 in
theorem f_Fa_size_0 {M : kM} (hM : kMo M) {F : Int32 → kS → Prop} {G : kG} (h : kCl kC M (kq F) 38 G) {S : kS} (q :
  F (S 25 6) S) :
  G 0 [some (.inr 25)] [] S :=
  (h.s 0 rfl (h.s 1 rfl (h.s 4 rfl (kq_mk q))))
theorem g_Fa_size {d : Nat} {F : Int32 → kS → Prop} {S : kS} (q :
  F (S 25 6) S) :
  kK (d + 1) m_Fa_size [.inr 25] S (kq F) := kspec_of (fun _ h => f_Fa_size_0 kspec_Mo h q)
-- Ru_transitivity cuts []
set_option maxRecDepth 20000 in
theorem f_Ru_transitivity_0 {M : kM} (hM : kMo M) {F : Int32 → kS → Prop} {G : kG} (h : kCl kC M (kq F) 39 G) {S : kS} {a0 a1 : Int32} (q :
  M m_Ru_leftOf [.inr 33, .inl a0] S (kq fun r2 S1 =>
    (r2 < 0 →
      F ((-1)) S1) ∧
    (¬ (r2 < 0) →
      M m_Ru_leftOf [.inr 33, .inl a1] S1 (kq fun r4 S3 =>
        M m_Ru_rightOf [.inr 33, .inl a0] S3 (kq fun r6 S5 =>
          (r4 = r6 →
            M m_Ru_rightOf [.inr 33, .inl a1] S5 (kq fun r8 S7 =>
              M m_Te_equation [.inr 10, .inl r2, .inl r8] S7 (kq fun r10 S9 =>
                M m_Ru_closeWithBoth [.inr 33, .inl a0, .inl a1, .inl r10] S9 (kq fun r12 S11 =>
                  F r12 S11)))) ∧
          (¬ (r4 = r6) →
            F ((-1)) S5)))))) :
  G 0 [some (.inr 33), some (.inl a0), some (.inl a1), none] [] S :=
  (h.s 0 rfl (h.s 1 rfl (h.s 2 rfl (And.intro (Nat.le_of_ble_eq_true rfl) (And.intro rfl (And.intro rfl (hM.q q (fun r2 S1 q13 => (h.s 5 rfl (h.s 6 rfl (h.s 7 rfl (And.intro (fun e14 => (h.s 23 rfl (h.s 24 rfl (kq_mk (q13.1 e14))))) (fun e14 => (h.s 10 rfl (h.s 11 rfl (h.s 12 rfl (And.intro (Nat.le_of_ble_eq_true rfl) (And.intro rfl (And.intro rfl (hM.q (q13.2 e14) (fun r4 S3 q15 => (h.s 15 rfl (h.s 16 rfl (h.s 17 rfl (And.intro (Nat.le_of_ble_eq_true rfl) (And.intro rfl (And.intro rfl (hM.q q15 (fun r6 S5 q16 => (h.s 20 rfl (And.intro (fun e17 => (h.s 25 rfl (h.s 26 rfl (h.s 27 rfl (h.s 28 rfl (h.s 29 rfl (h.s 32 rfl (h.s 33 rfl (h.s 34 rfl (h.s 35 rfl (And.intro (Nat.le_of_ble_eq_true rfl) (And.intro rfl (And.intro rfl (hM.q (q16.1 e17) (fun r8 S7 q18 => (h.s 38 rfl (And.intro (Nat.le_of_ble_eq_true rfl) (And.intro rfl (And.intro rfl (hM.q q18 (fun r10 S9 q19 => (h.s 41 rfl (And.intro (Nat.le_of_ble_eq_true rfl) (And.intro rfl (And.intro rfl (hM.q q19 (fun r12 S11 q20 => (h.s 44 rfl (kq_mk q20))))))))))))))))))))))))))))) (fun e17 => (h.s 23 rfl (h.s 24 rfl (kq_mk (q16.2 e17))))))))))))))))))))))))))))))))))))
theorem g_Ru_transitivity {d : Nat} {F : Int32 → kS → Prop} {S : kS} {a0 a1 : Int32} (q :
  kK d m_Ru_leftOf [.inr 33, .inl a0] S (kq fun r2 S1 =>
    (r2 < 0 →
      F ((-1)) S1) ∧
    (¬ (r2 < 0) →
      kK d m_Ru_leftOf [.inr 33, .inl a1] S1 (kq fun r4 S3 =>
        kK d m_Ru_rightOf [.inr 33, .inl a0] S3 (kq fun r6 S5 =>
          (r4 = r6 →
            kK d m_Ru_rightOf [.inr 33, .inl a1] S5 (kq fun r8 S7 =>
              kK d m_Te_equation [.inr 10, .inl r2, .inl r8] S7 (kq fun r10 S9 =>
                kK d m_Ru_closeWithBoth [.inr 33, .inl a0, .inl a1, .inl r10] S9 (kq fun r12 S11 =>
                  F r12 S11)))) ∧
          (¬ (r4 = r6) →
            F ((-1)) S5)))))) :
  kK (d + 1) m_Ru_transitivity [.inr 33, .inl a0, .inl a1] S (kq F) := kspec_of (fun _ h => f_Ru_transitivity_0 kspec_Mo h q)
-- Ru_leftOf cuts []
set_option maxRecDepth 20000 in
theorem f_Ru_leftOf_0 {M : kM} (hM : kMo M) {F : Int32 → kS → Prop} {G : kG} (h : kCl kC M (kq F) 40 G) {S : kS} {a0 : Int32} (q :
  M m_Fa_conclusionOf [.inr 25, .inl a0] S (kq fun r2 S1 =>
    M m_Te_leftOf [.inr 10, .inl r2] S1 (kq fun r4 S3 =>
      F r4 S3))) :
  G 0 [some (.inr 33), some (.inl a0)] [] S :=
  (h.s 0 rfl (h.s 1 rfl (h.s 4 rfl (h.s 5 rfl (h.s 8 rfl (h.s 9 rfl (And.intro (Nat.le_of_ble_eq_true rfl) (And.intro rfl (And.intro rfl (hM.q q (fun r2 S1 q5 => (h.s 12 rfl (And.intro (Nat.le_of_ble_eq_true rfl) (And.intro rfl (And.intro rfl (hM.q q5 (fun r4 S3 q6 => (h.s 15 rfl (kq_mk q6)))))))))))))))))))
theorem g_Ru_leftOf {d : Nat} {F : Int32 → kS → Prop} {S : kS} {a0 : Int32} (q :
  kK d m_Fa_conclusionOf [.inr 25, .inl a0] S (kq fun r2 S1 =>
    kK d m_Te_leftOf [.inr 10, .inl r2] S1 (kq fun r4 S3 =>
      F r4 S3))) :
  kK (d + 1) m_Ru_leftOf [.inr 33, .inl a0] S (kq F) := kspec_of (fun _ h => f_Ru_leftOf_0 kspec_Mo h q)
-- Fa_conclusionOf cuts []
set_option maxRecDepth 20000 in
theorem f_Fa_conclusionOf_0 {M : kM} (hM : kMo M) {F : Int32 → kS → Prop} {G : kG} (h : kCl kC M (kq F) 41 G) {S : kS} {a0 : Int32} (q :
  M m_Fa_isFact [.inr 25, .inl a0] S (kq fun r2 S1 =>
    (r2 = 0 →
      F ((-1)) S1) ∧
    (¬ (r2 = 0) →
      vp_in a0 60 ∧
      F (S1 26 (a0.toNatClampNeg)) S1))) :
  G 0 [some (.inr 25), some (.inl a0)] [] S :=
  (h.s 0 rfl (h.s 1 rfl (h.s 2 rfl (And.intro (Nat.le_of_ble_eq_true rfl) (And.intro rfl (And.intro rfl (hM.q q (fun r2 S1 q3 => (h.s 5 rfl (And.intro (fun e4 => (h.s 17 rfl (h.s 18 rfl (kq_mk (q3.1 e4))))) (fun e4 => (h.s 8 rfl (h.s 9 rfl (h.s 12 rfl (h.s 13 rfl (And.intro (q3.2 e4).1 (h.s 14 rfl (h.s 18 rfl (kq_mk (q3.2 e4).2)))))))))))))))))))
theorem g_Fa_conclusionOf {d : Nat} {F : Int32 → kS → Prop} {S : kS} {a0 : Int32} (q :
  kK d m_Fa_isFact [.inr 25, .inl a0] S (kq fun r2 S1 =>
    (r2 = 0 →
      F ((-1)) S1) ∧
    (¬ (r2 = 0) →
      vp_in a0 60 ∧
      F (S1 26 (a0.toNatClampNeg)) S1))) :
  kK (d + 1) m_Fa_conclusionOf [.inr 25, .inl a0] S (kq F) := kspec_of (fun _ h => f_Fa_conclusionOf_0 kspec_Mo h q)
-- Fa_isFact cuts []
set_option maxRecDepth 20000 in
theorem f_Fa_isFact_0 {M : kM} (hM : kMo M) {F : Int32 → kS → Prop} {G : kG} (h : kCl kC M (kq F) 42 G) {S : kS} {a0 : Int32} (q :
  (a0 < 0 →
    F 0 S) ∧
  (¬ (a0 < 0) →
    ((S 25 6) ≤ a0 →
      F 0 S) ∧
    (¬ ((S 25 6) ≤ a0) →
      F 1 S))) :
  G 0 [some (.inr 25), some (.inl a0)] [] S :=
  (h.s 0 rfl (h.s 1 rfl (And.intro (fun e1 => (h.s 16 rfl (h.s 17 rfl (And.intro (Or.inl rfl) (kq_mk (q.1 e1)))))) (fun e1 => (h.s 4 rfl (h.s 5 rfl (h.s 6 rfl (h.s 9 rfl (And.intro (fun e2 => (h.s 16 rfl (h.s 17 rfl (And.intro (Or.inl rfl) (kq_mk ((q.2 e1).1 e2)))))) (fun e2 => (h.s 12 rfl (h.s 13 rfl (h.s 17 rfl (And.intro (Or.inr rfl) (kq_mk ((q.2 e1).2 e2))))))))))))))))
theorem g_Fa_isFact {d : Nat} {F : Int32 → kS → Prop} {S : kS} {a0 : Int32} (q :
  (a0 < 0 →
    F 0 S) ∧
  (¬ (a0 < 0) →
    ((S 25 6) ≤ a0 →
      F 0 S) ∧
    (¬ ((S 25 6) ≤ a0) →
      F 1 S))) :
  kK (d + 1) m_Fa_isFact [.inr 25, .inl a0] S (kq F) := kspec_of (fun _ h => f_Fa_isFact_0 kspec_Mo h q)
-- Te_leftOf cuts []
set_option maxRecDepth 20000 in
theorem f_Te_leftOf_0 {M : kM} (hM : kMo M) {F : Int32 → kS → Prop} {G : kG} (h : kCl kC M (kq F) 43 G) {S : kS} {a0 : Int32} (q :
  M m_Te_functionOf [.inr 10, .inl a0] S (kq fun r2 S1 =>
    M m_Te_functionOf [.inr 10, .inl r2] S1 (kq fun r4 S3 =>
      M m_Te_sortAt [.inr 10, .inl r4] S3 (kq fun r6 S5 =>
        (¬ r6 = 1 →
          F ((-1)) S5) ∧
        (¬ (¬ r6 = 1) →
          vp_in r2 250 ∧
          F (S5 16 (r2.toNatClampNeg)) S5))))) :
  G 0 [some (.inr 10), some (.inl a0), none] [] S :=
  (h.s 0 rfl (h.s 1 rfl (h.s 2 rfl (And.intro (Nat.le_of_ble_eq_true rfl) (And.intro rfl (And.intro rfl (hM.q q (fun r2 S1 q7 => (h.s 5 rfl (h.s 6 rfl (h.s 7 rfl (h.s 8 rfl (h.s 9 rfl (And.intro (Nat.le_of_ble_eq_true rfl) (And.intro rfl (And.intro rfl (hM.q q7 (fun r4 S3 q8 => (h.s 12 rfl (And.intro (Nat.le_of_ble_eq_true rfl) (And.intro rfl (And.intro rfl (hM.q q8 (fun r6 S5 q9 => (h.s 15 rfl (h.s 16 rfl (And.intro (fun e10 => (h.s 28 rfl (h.s 29 rfl (kq_mk (q9.1 e10))))) (fun e10 => (h.s 19 rfl (h.s 20 rfl (h.s 23 rfl (h.s 24 rfl (And.intro (q9.2 e10).1 (h.s 25 rfl (h.s 29 rfl (kq_mk (q9.2 e10).2))))))))))))))))))))))))))))))))))))
theorem g_Te_leftOf {d : Nat} {F : Int32 → kS → Prop} {S : kS} {a0 : Int32} (q :
  kK d m_Te_functionOf [.inr 10, .inl a0] S (kq fun r2 S1 =>
    kK d m_Te_functionOf [.inr 10, .inl r2] S1 (kq fun r4 S3 =>
      kK d m_Te_sortAt [.inr 10, .inl r4] S3 (kq fun r6 S5 =>
        (¬ r6 = 1 →
          F ((-1)) S5) ∧
        (¬ (¬ r6 = 1) →
          vp_in r2 250 ∧
          F (S5 16 (r2.toNatClampNeg)) S5))))) :
  kK (d + 1) m_Te_leftOf [.inr 10, .inl a0] S (kq F) := kspec_of (fun _ h => f_Te_leftOf_0 kspec_Mo h q)
-- Te_functionOf cuts []
set_option maxRecDepth 20000 in
theorem f_Te_functionOf_0 {M : kM} (hM : kMo M) {F : Int32 → kS → Prop} {G : kG} (h : kCl kC M (kq F) 44 G) {S : kS} {a0 : Int32} (q :
  M m_Te_sortAt [.inr 10, .inl a0] S (kq fun r2 S1 =>
    (¬ r2 = 3 →
      F ((-1)) S1) ∧
    (¬ (¬ r2 = 3) →
      vp_in a0 250 ∧
      F (S1 15 (a0.toNatClampNeg)) S1))) :
  G 0 [some (.inr 10), some (.inl a0)] [] S :=
  (h.s 0 rfl (h.s 1 rfl (h.s 2 rfl (And.intro (Nat.le_of_ble_eq_true rfl) (And.intro rfl (And.intro rfl (hM.q q (fun r2 S1 q3 => (h.s 5 rfl (h.s 6 rfl (And.intro (fun e4 => (h.s 18 rfl (h.s 19 rfl (kq_mk (q3.1 e4))))) (fun e4 => (h.s 9 rfl (h.s 10 rfl (h.s 13 rfl (h.s 14 rfl (And.intro (q3.2 e4).1 (h.s 15 rfl (h.s 19 rfl (kq_mk (q3.2 e4).2))))))))))))))))))))
theorem g_Te_functionOf {d : Nat} {F : Int32 → kS → Prop} {S : kS} {a0 : Int32} (q :
  kK d m_Te_sortAt [.inr 10, .inl a0] S (kq fun r2 S1 =>
    (¬ r2 = 3 →
      F ((-1)) S1) ∧
    (¬ (¬ r2 = 3) →
      vp_in a0 250 ∧
      F (S1 15 (a0.toNatClampNeg)) S1))) :
  kK (d + 1) m_Te_functionOf [.inr 10, .inl a0] S (kq F) := kspec_of (fun _ h => f_Te_functionOf_0 kspec_Mo h q)
-- Ru_rightOf cuts []
set_option maxRecDepth 20000 in
theorem f_Ru_rightOf_0 {M : kM} (hM : kMo M) {F : Int32 → kS → Prop} {G : kG} (h : kCl kC M (kq F) 45 G) {S : kS} {a0 : Int32} (q :
  M m_Fa_conclusionOf [.inr 25, .inl a0] S (kq fun r2 S1 =>
    M m_Te_argumentOf [.inr 10, .inl r2] S1 (kq fun r4 S3 =>
      F r4 S3))) :
  G 0 [some (.inr 33), some (.inl a0)] [] S :=
  (h.s 0 rfl (h.s 1 rfl (h.s 4 rfl (h.s 5 rfl (h.s 8 rfl (h.s 9 rfl (And.intro (Nat.le_of_ble_eq_true rfl) (And.intro rfl (And.intro rfl (hM.q q (fun r2 S1 q5 => (h.s 12 rfl (And.intro (Nat.le_of_ble_eq_true rfl) (And.intro rfl (And.intro rfl (hM.q q5 (fun r4 S3 q6 => (h.s 15 rfl (kq_mk q6)))))))))))))))))))
theorem g_Ru_rightOf {d : Nat} {F : Int32 → kS → Prop} {S : kS} {a0 : Int32} (q :
  kK d m_Fa_conclusionOf [.inr 25, .inl a0] S (kq fun r2 S1 =>
    kK d m_Te_argumentOf [.inr 10, .inl r2] S1 (kq fun r4 S3 =>
      F r4 S3))) :
  kK (d + 1) m_Ru_rightOf [.inr 33, .inl a0] S (kq F) := kspec_of (fun _ h => f_Ru_rightOf_0 kspec_Mo h q)
-- Te_argumentOf cuts []
set_option maxRecDepth 20000 in
theorem f_Te_argumentOf_0 {M : kM} (hM : kMo M) {F : Int32 → kS → Prop} {G : kG} (h : kCl kC M (kq F) 46 G) {S : kS} {a0 : Int32} (q :
  M m_Te_sortAt [.inr 10, .inl a0] S (kq fun r2 S1 =>
    (¬ r2 = 3 →
      F ((-1)) S1) ∧
    (¬ (¬ r2 = 3) →
      vp_in a0 250 ∧
      F (S1 16 (a0.toNatClampNeg)) S1))) :
  G 0 [some (.inr 10), some (.inl a0)] [] S :=
  (h.s 0 rfl (h.s 1 rfl (h.s 2 rfl (And.intro (Nat.le_of_ble_eq_true rfl) (And.intro rfl (And.intro rfl (hM.q q (fun r2 S1 q3 => (h.s 5 rfl (h.s 6 rfl (And.intro (fun e4 => (h.s 18 rfl (h.s 19 rfl (kq_mk (q3.1 e4))))) (fun e4 => (h.s 9 rfl (h.s 10 rfl (h.s 13 rfl (h.s 14 rfl (And.intro (q3.2 e4).1 (h.s 15 rfl (h.s 19 rfl (kq_mk (q3.2 e4).2))))))))))))))))))))
theorem g_Te_argumentOf {d : Nat} {F : Int32 → kS → Prop} {S : kS} {a0 : Int32} (q :
  kK d m_Te_sortAt [.inr 10, .inl a0] S (kq fun r2 S1 =>
    (¬ r2 = 3 →
      F ((-1)) S1) ∧
    (¬ (¬ r2 = 3) →
      vp_in a0 250 ∧
      F (S1 16 (a0.toNatClampNeg)) S1))) :
  kK (d + 1) m_Te_argumentOf [.inr 10, .inl a0] S (kq F) := kspec_of (fun _ h => f_Te_argumentOf_0 kspec_Mo h q)
-- Ru_closeWithBoth cuts []
set_option maxRecDepth 20000 in
theorem f_Ru_closeWithBoth_0 {M : kM} (hM : kMo M) {F : Int32 → kS → Prop} {G : kG} (h : kCl kC M (kq F) 47 G) {S : kS} {a0 a1 a2 : Int32} (q :
  M m_Fa_assumeAllBut [.inr 25, .inl a0, .inl ((-1))] S (kv fun S1 =>
    M m_Fa_assumeAllBut [.inr 25, .inl a1, .inl ((-1))] S1 (kv fun S2 =>
      M m_Fa_close [.inr 25, .inl a2] S2 (kq fun r4 S3 =>
        F r4 S3)))) :
  G 0 [some (.inr 33), some (.inl a0), some (.inl a1), some (.inl a2)] [] S :=
  (h.s 0 rfl (h.s 1 rfl (h.s 4 rfl (h.s 5 rfl (h.s 6 rfl (And.intro (Nat.le_of_ble_eq_true rfl) (And.intro rfl (And.intro rfl (hM.v q (fun S1 q5 => (h.s 9 rfl (h.s 10 rfl (h.s 13 rfl (h.s 14 rfl (h.s 15 rfl (And.intro (Nat.le_of_ble_eq_true rfl) (And.intro rfl (And.intro rfl (hM.v q5 (fun S2 q6 => (h.s 18 rfl (h.s 19 rfl (h.s 22 rfl (h.s 23 rfl (And.intro (Nat.le_of_ble_eq_true rfl) (And.intro rfl (And.intro rfl (hM.q q6 (fun r4 S3 q7 => (h.s 26 rfl (kq_mk q7)))))))))))))))))))))))))))))))
theorem g_Ru_closeWithBoth {d : Nat} {F : Int32 → kS → Prop} {S : kS} {a0 a1 a2 : Int32} (q :
  kK d m_Fa_assumeAllBut [.inr 25, .inl a0, .inl ((-1))] S (kv fun S1 =>
    kK d m_Fa_assumeAllBut [.inr 25, .inl a1, .inl ((-1))] S1 (kv fun S2 =>
      kK d m_Fa_close [.inr 25, .inl a2] S2 (kq fun r4 S3 =>
        F r4 S3)))) :
  kK (d + 1) m_Ru_closeWithBoth [.inr 33, .inl a0, .inl a1, .inl a2] S (kq F) := kspec_of (fun _ h => f_Ru_closeWithBoth_0 kspec_Mo h q)
-- Fa_assumeAllBut cuts [2]
set_option maxRecDepth 20000 in
theorem f_Fa_assumeAllBut_0 {M : kM} (hM : kMo M) {F : kS → Prop} {G : kG} (h : kCl kC M (kv F) 48 G) {S : kS} {a0 a1 : Int32} (q :
  G 2 [some (.inr 25), some (.inl a0), some (.inl a1), some (.inl 0)] [] S) :
  G 0 [some (.inr 25), some (.inl a0), some (.inl a1), none] [] S :=
  (h.s 0 rfl (h.s 1 rfl q))
theorem g_Fa_assumeAllBut {d : Nat} {F : kS → Prop} {S : kS} {a0 a1 : Int32} (q : ∀ G : kG, kCl kC (kK d) (kv F) 48 G →
  G 2 [some (.inr 25), some (.inl a0), some (.inl a1), some (.inl 0)] [] S) :
  kK (d + 1) m_Fa_assumeAllBut [.inr 25, .inl a0, .inl a1] S (kv F) := kspec_of (fun G h => f_Fa_assumeAllBut_0 kspec_Mo h (q G h))
set_option maxRecDepth 20000 in
theorem f_Fa_assumeAllBut_2 {M : kM} (hM : kMo M) {F : kS → Prop} {G : kG} (h : kCl kC M (kv F) 48 G) {S : kS} {v1 v2 v3 : Int32} (q :
  M m_Fa_sizeOf [.inr 25, .inl v1] S (kq fun r2 S1 =>
    (r2 ≤ v3 →
      F S1) ∧
    (¬ (r2 ≤ v3) →
      M m_Fa_hypothesis [.inr 25, .inl v1, .inl v3] S1 (kq fun r4 S3 =>
        (r4 = v2 →
          G 2 [some (.inr 25), some (.inl v1), some (.inl v2), some (.inl (v3 + 1))] [] S3) ∧
        (¬ (r4 = v2) →
          M m_Fa_hypothesis [.inr 25, .inl v1, .inl v3] S3 (kq fun r6 S5 =>
            M m_Fa_assume [.inr 25, .inl r6] S5 (kv fun S7 =>
              G 2 [some (.inr 25), some (.inl v1), some (.inl v2), some (.inl (v3 + 1))] [] S7))))))) :
  G 2 [some (.inr 25), some (.inl v1), some (.inl v2), some (.inl v3)] [] S :=
  (h.s 2 rfl (h.s 3 rfl (h.s 4 rfl (h.s 5 rfl (And.intro (Nat.le_of_ble_eq_true rfl) (And.intro rfl (And.intro rfl (hM.q q (fun r2 S1 q8 => (h.s 8 rfl (And.intro (fun e9 => (h.s 37 rfl (kv_mk (q8.1 e9)))) (fun e9 => (h.s 11 rfl (h.s 12 rfl (h.s 13 rfl (h.s 14 rfl (And.intro (Nat.le_of_ble_eq_true rfl) (And.intro rfl (And.intro rfl (hM.q (q8.2 e9) (fun r4 S3 q10 => (h.s 17 rfl (h.s 18 rfl (And.intro (fun e11 => (h.s 31 rfl (h.s 34 rfl (q10.1 e11)))) (fun e11 => (h.s 21 rfl (h.s 22 rfl (h.s 23 rfl (h.s 24 rfl (h.s 25 rfl (And.intro (Nat.le_of_ble_eq_true rfl) (And.intro rfl (And.intro rfl (hM.q (q10.2 e11) (fun r6 S5 q12 => (h.s 28 rfl (And.intro (Nat.le_of_ble_eq_true rfl) (And.intro rfl (And.intro rfl (hM.v q12 (fun S7 q13 => (h.s 31 rfl (h.s 34 rfl q13)))))))))))))))))))))))))))))))))))))))))))
