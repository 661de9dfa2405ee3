/-! printed: regions, their weakest preconditions -/
-- Ty_store cuts [13, 74, 102]
set_option maxRecDepth 20000 in
theorem f_Ty_store_0 {M : kM} (hM : kMo M) {F : Int32 → kS → Prop} {G : kG} (h : kCl kC M (kq F) 0 G) {S : kS} {a0 a1 a2 : Int32} (q :
  (a1 < 0 →
    F ((-1)) S) ∧
  (¬ (a1 < 0) →
    (0 ≤ a2 →
      G 13 [some (.inr 1), some (.inl a0), some (.inl a1), some (.inl a2), some (.inl 0), none] [] S) ∧
    (¬ (0 ≤ a2) →
      F ((-1)) S))) :
  G 0 [some (.inr 1), some (.inl a0), some (.inl a1), some (.inl a2), none, none] [] S :=
  (h.s 0 rfl (h.s 1 rfl (And.intro (fun e1 => (h.s 8 rfl (h.s 9 rfl (kq_mk (q.1 e1))))) (fun e1 => (h.s 4 rfl (h.s 5 rfl (And.intro (fun e2 => (h.s 10 rfl (h.s 11 rfl ((q.2 e1).1 e2)))) (fun e2 => (h.s 8 rfl (h.s 9 rfl (kq_mk ((q.2 e1).2 e2))))))))))))
theorem g_Ty_store {d : Nat} {F : Int32 → kS → Prop} {S : kS} {a0 a1 a2 : Int32} (q : ∀ G : kG, kCl kC (kK d) (kq F) 0 G →
  (a1 < 0 →
    F ((-1)) S) ∧
  (¬ (a1 < 0) →
    (0 ≤ a2 →
      G 13 [some (.inr 1), some (.inl a0), some (.inl a1), some (.inl a2), some (.inl 0), none] [] S) ∧
    (¬ (0 ≤ a2) →
      F ((-1)) S))) :
  kK (d + 1) m_Ty_store [.inr 1, .inl a0, .inl a1, .inl a2] S (kq F) := kspec_of (fun G h => f_Ty_store_0 kspec_Mo h (q G h))
set_option maxRecDepth 20000 in
theorem f_Ty_store_13 {M : kM} (hM : kMo M) {F : Int32 → kS → Prop} {G : kG} (h : kCl kC M (kq F) 0 G) {S : kS} {v1 v2 v3 v4 : Int32} (q :
  ((S 1 6) ≤ v4 →
    (¬ v1 = 3 →
      G 74 [some (.inr 1), some (.inl v1), some (.inl v2), some (.inl v3), some (.inl v4), none] [.inl 0] S) ∧
    (¬ (¬ v1 = 3) →
      G 74 [some (.inr 1), some (.inl v1), some (.inl v2), some (.inl v3), some (.inl v4), none] [.inl 1] S)) ∧
  (¬ ((S 1 6) ≤ v4) →
    vp_in v4 50 ∧
    (¬ (S 5 (v4.toNatClampNeg)) = v1 →
      G 13 [some (.inr 1), some (.inl v1), some (.inl v2), some (.inl v3), some (.inl (v4 + 1)), none] [] S) ∧
    (¬ (¬ (S 5 (v4.toNatClampNeg)) = v1) →
      vp_in v4 50 ∧
      (¬ (S 6 (v4.toNatClampNeg)) = v2 →
        G 13 [some (.inr 1), some (.inl v1), some (.inl v2), some (.inl v3), some (.inl (v4 + 1)), none] [] S) ∧
      (¬ (¬ (S 6 (v4.toNatClampNeg)) = v2) →
        vp_in v4 50 ∧
        (¬ (S 7 (v4.toNatClampNeg)) = v3 →
          G 13 [some (.inr 1), some (.inl v1), some (.inl v2), some (.inl v3), some (.inl (v4 + 1)), none] [] S) ∧
        (¬ (¬ (S 7 (v4.toNatClampNeg)) = v3) →
          F v4 S))))) :
  G 13 [some (.inr 1), some (.inl v1), some (.inl v2), some (.inl v3), some (.inl v4), none] [] S :=
  (h.s 13 rfl (h.s 15 rfl (h.s 16 rfl (h.s 19 rfl (And.intro (fun e1 => (h.s 64 rfl (h.s 65 rfl (h.s 66 rfl (And.intro (fun e2 => (h.s 73 rfl ((q.1 e1).1 e2))) (fun e2 => (h.s 69 rfl (h.s 70 rfl ((q.1 e1).2 e2))))))))) (fun e1 => (h.s 22 rfl (h.s 23 rfl (h.s 26 rfl (h.s 28 rfl (And.intro (q.2 e1).1 (h.s 29 rfl (h.s 30 rfl (And.intro (fun e3 => (h.s 58 rfl (h.s 61 rfl ((q.2 e1).2.1 e3)))) (fun e3 => (h.s 33 rfl (h.s 34 rfl (h.s 37 rfl (h.s 39 rfl (And.intro ((q.2 e1).2.2 e3).1 (h.s 40 rfl (h.s 41 rfl (And.intro (fun e4 => (h.s 58 rfl (h.s 61 rfl (((q.2 e1).2.2 e3).2.1 e4)))) (fun e4 => (h.s 44 rfl (h.s 45 rfl (h.s 48 rfl (h.s 50 rfl (And.intro (((q.2 e1).2.2 e3).2.2 e4).1 (h.s 51 rfl (h.s 52 rfl (And.intro (fun e5 => (h.s 58 rfl (h.s 61 rfl ((((q.2 e1).2.2 e3).2.2 e4).2.1 e5)))) (fun e5 => (h.s 55 rfl (h.s 57 rfl (kq_mk ((((q.2 e1).2.2 e3).2.2 e4).2.2 e5)))))))))))))))))))))))))))))))))))))
set_option maxRecDepth 20000 in
theorem f_Ty_store_74 {M : kM} (hM : kMo M) {F : Int32 → kS → Prop} {G : kG} (h : kCl kC M (kq F) 0 G) {S : kS} {v1 v2 v3 v4 w0 : Int32} (q :
  (w0 = 0 →
    G 102 [some (.inr 1), some (.inl v1), some (.inl v2), some (.inl v3), some (.inl w0), none] [.inl 1] S) ∧
  (¬ (w0 = 0) →
    vp_in v2 50 ∧
    vp_in v3 50 ∧
    G 102 [some (.inr 1), some (.inl v1), some (.inl v2), some (.inl v3), some (.inl w0), none] [.inl (1 + (km (S 9 (v2.toNatClampNeg)) (S 9 (v3.toNatClampNeg))))] S)) :
  G 74 [some (.inr 1), some (.inl v1), some (.inl v2), some (.inl v3), some (.inl v4), none] [.inl w0] S :=
  (h.s 74 rfl (h.s 76 rfl (h.s 78 rfl (And.intro (fun e1 => (h.s 101 rfl (q.1 e1))) (fun e1 => (h.s 81 rfl (h.s 82 rfl (h.s 83 rfl (h.s 86 rfl (h.s 87 rfl (And.intro (q.2 e1).1 (h.s 88 rfl (h.s 89 rfl (h.s 92 rfl (h.s 93 rfl (And.intro (q.2 e1).2.1 (h.s 94 rfl (And.intro (Nat.le_of_ble_eq_true rfl) (h.s 97 rfl (h.s 98 rfl (q.2 e1).2.2))))))))))))))))))))
set_option maxRecDepth 20000 in
theorem f_Ty_store_102 {M : kM} (hM : kMo M) {F : Int32 → kS → Prop} {G : kG} (h : kCl kC M (kq F) 0 G) {S : kS} {v1 v2 v3 v4 w0 : Int32} (q :
  (10 < w0 →
    F ((-1)) S) ∧
  (¬ (10 < w0) →
    ((S 1 6) < 50 →
      vp_in (S 1 6) 50 ∧
      vp_in (S 1 6) 50 ∧
      vp_in (S 1 6) 50 ∧
      vp_in (S 1 6) 50 ∧
      (v1 = 1 →
        vp_in (S 1 6) 50 ∧
        F (S 1 6) (ku (ku (ku (ku (ku (ku S 5 ((S 1 6).toNatClampNeg) v1) 6 ((S 1 6).toNatClampNeg) v2) 7 ((S 1 6).toNatClampNeg) v3) 9 ((S 1 6).toNatClampNeg) w0) 8 ((S 1 6).toNatClampNeg) (vp_nar .boolean 1)) 1 6 ((S 1 6) + 1))) ∧
      (¬ (v1 = 1) →
        (v4 = 0 →
          vp_in (S 1 6) 50 ∧
          F (S 1 6) (ku (ku (ku (ku (ku (ku S 5 ((S 1 6).toNatClampNeg) v1) 6 ((S 1 6).toNatClampNeg) v2) 7 ((S 1 6).toNatClampNeg) v3) 9 ((S 1 6).toNatClampNeg) w0) 8 ((S 1 6).toNatClampNeg) (vp_nar .boolean 0)) 1 6 ((S 1 6) + 1))) ∧
        (¬ (v4 = 0) →
          vp_in v2 50 ∧
          (¬ (S 8 (v2.toNatClampNeg)) = 0 →
            vp_in (S 1 6) 50 ∧
            F (S 1 6) (ku (ku (ku (ku (ku (ku S 5 ((S 1 6).toNatClampNeg) v1) 6 ((S 1 6).toNatClampNeg) v2) 7 ((S 1 6).toNatClampNeg) v3) 9 ((S 1 6).toNatClampNeg) w0) 8 ((S 1 6).toNatClampNeg) (vp_nar .boolean 1)) 1 6 ((S 1 6) + 1))) ∧
          (¬ (¬ (S 8 (v2.toNatClampNeg)) = 0) →
            vp_in v3 50 ∧
            ((S 8 (v3.toNatClampNeg)) = 0 →
              vp_in (S 1 6) 50 ∧
              F (S 1 6) (ku (ku (ku (ku (ku (ku S 5 ((S 1 6).toNatClampNeg) v1) 6 ((S 1 6).toNatClampNeg) v2) 7 ((S 1 6).toNatClampNeg) v3) 9 ((S 1 6).toNatClampNeg) w0) 8 ((S 1 6).toNatClampNeg) (vp_nar .boolean 0)) 1 6 ((S 1 6) + 1))) ∧
            (¬ ((S 8 (v3.toNatClampNeg)) = 0) →
              vp_in (S 1 6) 50 ∧
              F (S 1 6) (ku (ku (ku (ku (ku (ku S 5 ((S 1 6).toNatClampNeg) v1) 6 ((S 1 6).toNatClampNeg) v2) 7 ((S 1 6).toNatClampNeg) v3) 9 ((S 1 6).toNatClampNeg) w0) 8 ((S 1 6).toNatClampNeg) (vp_nar .boolean 1)) 1 6 ((S 1 6) + 1))))))) ∧
    (¬ ((S 1 6) < 50) →
      F ((-1)) S))) :
  G 102 [some (.inr 1), some (.inl v1), some (.inl v2), some (.inl v3), some (.inl v4), none] [.inl w0] S :=
  (h.s 102 rfl (h.s 104 rfl (h.s 106 rfl (h.s 108 rfl (And.intro (fun e1 => (h.s 120 rfl (h.s 121 rfl (kq_mk (q.1 e1))))) (fun e1 => (h.s 111 rfl (h.s 112 rfl (h.s 115 rfl (h.s 117 rfl (And.intro (fun e2 => (h.s 122 rfl (h.s 123 rfl (h.s 126 rfl (h.s 127 rfl (h.s 130 rfl (h.s 131 rfl (And.intro ((q.2 e1).1 e2).1 (h.s 132 rfl (h.s 133 rfl (h.s 136 rfl (h.s 137 rfl (h.s 140 rfl (h.s 141 rfl (And.intro ((q.2 e1).1 e2).2.1 (h.s 142 rfl (h.s 143 rfl (h.s 146 rfl (h.s 147 rfl (h.s 150 rfl (h.s 151 rfl (And.intro ((q.2 e1).1 e2).2.2.1 (h.s 152 rfl (h.s 153 rfl (h.s 156 rfl (h.s 157 rfl (h.s 160 rfl (h.s 162 rfl (And.intro ((q.2 e1).1 e2).2.2.2.1 (h.s 163 rfl (h.s 164 rfl (h.s 167 rfl (h.s 168 rfl (h.s 171 rfl (h.s 172 rfl (h.s 173 rfl (And.intro (fun e3 => (h.s 199 rfl (h.s 200 rfl (h.s 204 rfl (And.intro (((q.2 e1).1 e2).2.2.2.2.1 e3).1 (h.s 205 rfl (h.s 206 rfl (h.s 207 rfl (h.s 210 rfl (h.s 211 rfl (h.s 212 rfl (h.s 213 rfl (h.s 216 rfl (kq_mk (((q.2 e1).1 e2).2.2.2.2.1 e3).2)))))))))))))) (fun e3 => (h.s 176 rfl (h.s 178 rfl (And.intro (fun e4 => (h.s 203 rfl (h.s 204 rfl (And.intro ((((q.2 e1).1 e2).2.2.2.2.2 e3).1 e4).1 (h.s 205 rfl (h.s 206 rfl (h.s 207 rfl (h.s 210 rfl (h.s 211 rfl (h.s 212 rfl (h.s 213 rfl (h.s 216 rfl (kq_mk ((((q.2 e1).1 e2).2.2.2.2.2 e3).1 e4).2))))))))))))) (fun e4 => (h.s 181 rfl (h.s 182 rfl (h.s 185 rfl (h.s 186 rfl (And.intro ((((q.2 e1).1 e2).2.2.2.2.2 e3).2 e4).1 (h.s 187 rfl (And.intro (fun e5 => (h.s 199 rfl (h.s 200 rfl (h.s 204 rfl (And.intro (((((q.2 e1).1 e2).2.2.2.2.2 e3).2 e4).2.1 e5).1 (h.s 205 rfl (h.s 206 rfl (h.s 207 rfl (h.s 210 rfl (h.s 211 rfl (h.s 212 rfl (h.s 213 rfl (h.s 216 rfl (kq_mk (((((q.2 e1).1 e2).2.2.2.2.2 e3).2 e4).2.1 e5).2)))))))))))))) (fun e5 => (h.s 190 rfl (h.s 191 rfl (h.s 194 rfl (h.s 195 rfl (And.intro (((((q.2 e1).1 e2).2.2.2.2.2 e3).2 e4).2.2 e5).1 (h.s 196 rfl (And.intro (fun e6 => (h.s 203 rfl (h.s 204 rfl (And.intro ((((((q.2 e1).1 e2).2.2.2.2.2 e3).2 e4).2.2 e5).2.1 e6).1 (h.s 205 rfl (h.s 206 rfl (h.s 207 rfl (h.s 210 rfl (h.s 211 rfl (h.s 212 rfl (h.s 213 rfl (h.s 216 rfl (kq_mk ((((((q.2 e1).1 e2).2.2.2.2.2 e3).2 e4).2.2 e5).2.1 e6).2))))))))))))) (fun e6 => (h.s 199 rfl (h.s 200 rfl (h.s 204 rfl (And.intro ((((((q.2 e1).1 e2).2.2.2.2.2 e3).2 e4).2.2 e5).2.2 e6).1 (h.s 205 rfl (h.s 206 rfl (h.s 207 rfl (h.s 210 rfl (h.s 211 rfl (h.s 212 rfl (h.s 213 rfl (h.s 216 rfl (kq_mk ((((((q.2 e1).1 e2).2.2.2.2.2 e3).2 e4).2.2 e5).2.2 e6).2))))))))))))))))))))))))))))))))))))))))))))))))))))))))))))))))))))))) (fun e2 => (h.s 120 rfl (h.s 121 rfl (kq_mk ((q.2 e1).2 e2))))))))))))))))
-- Nu_numberOf cuts []
set_option maxRecDepth 20000 in
theorem f_Nu_numberOf_2_0 {M : kM} (hM : kMo M) {F : Int32 → kS → Prop} {G : kG} (h : kCl kC M (kq F) 1 G) {S : kS} {a0 : Int32} (q :
  (a0 < 0 →
    F ((-1)) S) ∧
  (¬ (a0 < 0) →
    (a0 < 50 →
      vp_in a0 50 ∧
      (0 ≤ (S 4 (a0.toNatClampNeg)) →
        vp_in a0 50 ∧
        F (S 4 (a0.toNatClampNeg)) S) ∧
      (¬ (0 ≤ (S 4 (a0.toNatClampNeg))) →
        vp_in (S 2 2) 50 ∧
        vp_in a0 50 ∧
        vp_in a0 50 ∧
        F ((ku S 4 (a0.toNatClampNeg) (S 2 2)) 4 (a0.toNatClampNeg)) (ku (ku (ku S 3 ((S 2 2).toNatClampNeg) a0) 4 (a0.toNatClampNeg) (S 2 2)) 2 2 ((S 2 2) + 1)))) ∧
    (¬ (a0 < 50) →
      F ((-1)) S))) :
  G 0 [some (.inr 2), some (.inl a0)] [] S :=
  (h.s 0 rfl (h.s 1 rfl (And.intro (fun e1 => (h.s 13 rfl (h.s 14 rfl (kq_mk (q.1 e1))))) (fun e1 => (h.s 4 rfl (h.s 5 rfl (h.s 6 rfl (h.s 9 rfl (h.s 10 rfl (And.intro (fun e2 => (h.s 15 rfl (h.s 16 rfl (h.s 19 rfl (h.s 20 rfl (And.intro ((q.2 e1).1 e2).1 (h.s 21 rfl (And.intro (fun e3 => (h.s 54 rfl (h.s 55 rfl (h.s 58 rfl (h.s 59 rfl (And.intro (((q.2 e1).1 e2).2.1 e3).1 (h.s 60 rfl (kq_mk (((q.2 e1).1 e2).2.1 e3).2)))))))) (fun e3 => (h.s 24 rfl (h.s 25 rfl (h.s 28 rfl (h.s 29 rfl (h.s 32 rfl (h.s 33 rfl (And.intro (((q.2 e1).1 e2).2.2 e3).1 (h.s 34 rfl (h.s 35 rfl (h.s 38 rfl (h.s 39 rfl (h.s 40 rfl (h.s 43 rfl (And.intro (((q.2 e1).1 e2).2.2 e3).2.1 (h.s 44 rfl (h.s 45 rfl (h.s 46 rfl (h.s 49 rfl (h.s 50 rfl (h.s 51 rfl (h.s 54 rfl (h.s 55 rfl (h.s 58 rfl (h.s 59 rfl (And.intro (((q.2 e1).1 e2).2.2 e3).2.2.1 (h.s 60 rfl (kq_mk (((q.2 e1).1 e2).2.2 e3).2.2.2)))))))))))))))))))))))))))))))))))) (fun e2 => (h.s 13 rfl (h.s 14 rfl (kq_mk ((q.2 e1).2 e2)))))))))))))))
theorem g_Nu_numberOf_2 {d : Nat} {F : Int32 → kS → Prop} {S : kS} {a0 : Int32} (q :
  (a0 < 0 →
    F ((-1)) S) ∧
  (¬ (a0 < 0) →
    (a0 < 50 →
      vp_in a0 50 ∧
      (0 ≤ (S 4 (a0.toNatClampNeg)) →
        vp_in a0 50 ∧
        F (S 4 (a0.toNatClampNeg)) S) ∧
      (¬ (0 ≤ (S 4 (a0.toNatClampNeg))) →
        vp_in (S 2 2) 50 ∧
        vp_in a0 50 ∧
        vp_in a0 50 ∧
        F ((ku S 4 (a0.toNatClampNeg) (S 2 2)) 4 (a0.toNatClampNeg)) (ku (ku (ku S 3 ((S 2 2).toNatClampNeg) a0) 4 (a0.toNatClampNeg) (S 2 2)) 2 2 ((S 2 2) + 1)))) ∧
    (¬ (a0 < 50) →
      F ((-1)) S))) :
  kK (d + 1) m_Nu_numberOf [.inr 2, .inl a0] S (kq F) := kspec_of (fun _ h => f_Nu_numberOf_2_0 kspec_Mo h q)
-- Nu_numberOf cuts []
set_option maxRecDepth 20000 in
theorem f_Nu_numberOf_11_0 {M : kM} (hM : kMo M) {F : Int32 → kS → Prop} {G : kG} (h : kCl kC M (kq F) 1 G) {S : kS} {a0 : Int32} (q :
  (a0 < 0 →
    F ((-1)) S) ∧
  (¬ (a0 < 0) →
    (a0 < 250 →
      vp_in a0 250 ∧
      (0 ≤ (S 13 (a0.toNatClampNeg)) →
        vp_in a0 250 ∧
        F (S 13 (a0.toNatClampNeg)) S) ∧
      (¬ (0 ≤ (S 13 (a0.toNatClampNeg))) →
        vp_in (S 11 2) 250 ∧
        vp_in a0 250 ∧
        vp_in a0 250 ∧
        F ((ku S 13 (a0.toNatClampNeg) (S 11 2)) 13 (a0.toNatClampNeg)) (ku (ku (ku S 12 ((S 11 2).toNatClampNeg) a0) 13 (a0.toNatClampNeg) (S 11 2)) 11 2 ((S 11 2) + 1)))) ∧
    (¬ (a0 < 250) →
      F ((-1)) S))) :
  G 0 [some (.inr 11), some (.inl a0)] [] S :=
  (h.s 0 rfl (h.s 1 rfl (And.intro (fun e1 => (h.s 13 rfl (h.s 14 rfl (kq_mk (q.1 e1))))) (fun e1 => (h.s 4 rfl (h.s 5 rfl (h.s 6 rfl (h.s 9 rfl (h.s 10 rfl (And.intro (fun e2 => (h.s 15 rfl (h.s 16 rfl (h.s 19 rfl (h.s 20 rfl (And.intro ((q.2 e1).1 e2).1 (h.s 21 rfl (And.intro (fun e3 => (h.s 54 rfl (h.s 55 rfl (h.s 58 rfl (h.s 59 rfl (And.intro (((q.2 e1).1 e2).2.1 e3).1 (h.s 60 rfl (kq_mk (((q.2 e1).1 e2).2.1 e3).2)))))))) (fun e3 => (h.s 24 rfl (h.s 25 rfl (h.s 28 rfl (h.s 29 rfl (h.s 32 rfl (h.s 33 rfl (And.intro (((q.2 e1).1 e2).2.2 e3).1 (h.s 34 rfl (h.s 35 rfl (h.s 38 rfl (h.s 39 rfl (h.s 40 rfl (h.s 43 rfl (And.intro (((q.2 e1).1 e2).2.2 e3).2.1 (h.s 44 rfl (h.s 45 rfl (h.s 46 rfl (h.s 49 rfl (h.s 50 rfl (h.s 51 rfl (h.s 54 rfl (h.s 55 rfl (h.s 58 rfl (h.s 59 rfl (And.intro (((q.2 e1).1 e2).2.2 e3).2.2.1 (h.s 60 rfl (kq_mk (((q.2 e1).1 e2).2.2 e3).2.2.2)))))))))))))))))))))))))))))))))))) (fun e2 => (h.s 13 rfl (h.s 14 rfl (kq_mk ((q.2 e1).2 e2)))))))))))))))
theorem g_Nu_numberOf_11 {d : Nat} {F : Int32 → kS → Prop} {S : kS} {a0 : Int32} (q :
  (a0 < 0 →
    F ((-1)) S) ∧
  (¬ (a0 < 0) →
    (a0 < 250 →
      vp_in a0 250 ∧
      (0 ≤ (S 13 (a0.toNatClampNeg)) →
        vp_in a0 250 ∧
        F (S 13 (a0.toNatClampNeg)) S) ∧
      (¬ (0 ≤ (S 13 (a0.toNatClampNeg))) →
        vp_in (S 11 2) 250 ∧
        vp_in a0 250 ∧
        vp_in a0 250 ∧
        F ((ku S 13 (a0.toNatClampNeg) (S 11 2)) 13 (a0.toNatClampNeg)) (ku (ku (ku S 12 ((S 11 2).toNatClampNeg) a0) 13 (a0.toNatClampNeg) (S 11 2)) 11 2 ((S 11 2) + 1)))) ∧
    (¬ (a0 < 250) →
      F ((-1)) S))) :
  kK (d + 1) m_Nu_numberOf [.inr 11, .inl a0] S (kq F) := kspec_of (fun _ h => f_Nu_numberOf_11_0 kspec_Mo h q)
-- K_typeVariable cuts []
set_option maxRecDepth 20000 in
theorem f_K_typeVariable_0 {M : kM} (hM : kMo M) {F : Int32 → kS → Prop} {G : kG} (h : kCl kC M (kq F) 2 G) {S : kS} {a0 : Int32} (q :
  (a0 < 0 →
    F ((-1)) S) ∧
  (¬ (a0 < 0) →
    (a0 < 4 →
      M m_Ty_store [.inr 1, .inl 1, .inl a0, .inl 0] S (kq fun r2 S1 =>
        M m_K_answeredType [.inr 0, .inl r2] S1 (kq fun r4 S3 =>
          F r4 S3))) ∧
    (¬ (a0 < 4) →
      F ((-1)) S))) :
  G 0 [some (.inr 0), some (.inl a0)] [] S :=
  (h.s 0 rfl (h.s 1 rfl (And.intro (fun e5 => (h.s 9 rfl (h.s 10 rfl (kq_mk (q.1 e5))))) (fun e5 => (h.s 4 rfl (h.s 5 rfl (h.s 6 rfl (And.intro (fun e6 => (h.s 11 rfl (h.s 12 rfl (h.s 13 rfl (h.s 16 rfl (h.s 17 rfl (h.s 18 rfl (h.s 19 rfl (And.intro (Nat.le_of_ble_eq_true rfl) (And.intro rfl (And.intro rfl (hM.q ((q.2 e5).1 e6) (fun r2 S1 q7 => (h.s 22 rfl (And.intro (Nat.le_of_ble_eq_true rfl) (And.intro rfl (And.intro rfl (hM.q q7 (fun r4 S3 q8 => (h.s 25 rfl (kq_mk q8))))))))))))))))))))) (fun e6 => (h.s 9 rfl (h.s 10 rfl (kq_mk ((q.2 e5).2 e6)))))))))))))
theorem g_K_typeVariable {d : Nat} {F : Int32 → kS → Prop} {S : kS} {a0 : Int32} (q :
  (a0 < 0 →
    F ((-1)) S) ∧
  (¬ (a0 < 0) →
    (a0 < 4 →
      kK d m_Ty_store [.inr 1, .inl 1, .inl a0, .inl 0] S (kq fun r2 S1 =>
        kK d m_K_answeredType [.inr 0, .inl r2] S1 (kq fun r4 S3 =>
          F r4 S3))) ∧
    (¬ (a0 < 4) →
      F ((-1)) S))) :
  kK (d + 1) m_K_typeVariable [.inr 0, .inl a0] S (kq F) := kspec_of (fun _ h => f_K_typeVariable_0 kspec_Mo h q)
-- K_answeredType cuts []
set_option maxRecDepth 20000 in
theorem f_K_answeredType_0 {M : kM} (hM : kMo M) {F : Int32 → kS → Prop} {G : kG} (h : kCl kC M (kq F) 3 G) {S : kS} {a0 : Int32} (q :
  M m_K_settled [.inr 0, .inl a0] S (kq fun r2 S1 =>
    M m_Nu_numberOf [.inr 2, .inl r2] S1 (kq fun r4 S3 =>
      F r4 S3))) :
  G 0 [some (.inr 0), some (.inl a0)] [] S :=
  (h.s 0 rfl (h.s 1 rfl (h.s 4 rfl (h.s 7 rfl (h.s 8 rfl (h.s 9 rfl (And.intro (Nat.le_of_ble_eq_true rfl) (And.intro rfl (And.intro rfl (hM.q q (fun r2 S1 q5 => (h.s 12 rfl (And.intro (Nat.le_of_ble_eq_true rfl) (And.intro rfl (And.intro rfl (hM.q q5 (fun r4 S3 q6 => (h.s 15 rfl (kq_mk q6)))))))))))))))))))
theorem g_K_answeredType {d : Nat} {F : Int32 → kS → Prop} {S : kS} {a0 : Int32} (q :
  kK d m_K_settled [.inr 0, .inl a0] S (kq fun r2 S1 =>
    kK d m_Nu_numberOf [.inr 2, .inl r2] S1 (kq fun r4 S3 =>
      F r4 S3))) :
  kK (d + 1) m_K_answeredType [.inr 0, .inl a0] S (kq F) := kspec_of (fun _ h => f_K_answeredType_0 kspec_Mo h q)
-- K_settled cuts [29]
set_option maxRecDepth 20000 in
theorem f_K_settled_0 {M : kM} (hM : kMo M) {F : Int32 → kS → Prop} {G : kG} (h : kCl kC M (kq F) 4 G) {S : kS} {a0 : Int32} (q :
  (a0 < 0 →
    M m_Ty_settle [.inr 1, .inl 0] S (kv fun S1 =>
      (a0 < 0 →
        G 29 [some (.inr 0), some (.inl a0)] [.inl 0, .inr 10] S1) ∧
      (¬ (a0 < 0) →
        G 29 [some (.inr 0), some (.inl a0)] [.inl 1, .inr 10] S1))) ∧
  (¬ (a0 < 0) →
    M m_Ty_settle [.inr 1, .inl 1] S (kv fun S2 =>
      (a0 < 0 →
        G 29 [some (.inr 0), some (.inl a0)] [.inl 0, .inr 10] S2) ∧
      (¬ (a0 < 0) →
        G 29 [some (.inr 0), some (.inl a0)] [.inl 1, .inr 10] S2)))) :
  G 0 [some (.inr 0), some (.inl a0)] [] S :=
  (h.s 0 rfl (h.s 1 rfl (h.s 4 rfl (h.s 5 rfl (And.intro (fun e3 => (h.s 12 rfl (h.s 13 rfl (And.intro (Nat.le_of_ble_eq_true rfl) (And.intro rfl (And.intro rfl (hM.v (q.1 e3) (fun S1 q4 => (h.s 16 rfl (h.s 17 rfl (h.s 20 rfl (h.s 21 rfl (And.intro (fun e5 => (h.s 28 rfl (q4.1 e5))) (fun e5 => (h.s 24 rfl (h.s 25 rfl (q4.2 e5))))))))))))))))) (fun e3 => (h.s 8 rfl (h.s 9 rfl (h.s 13 rfl (And.intro (Nat.le_of_ble_eq_true rfl) (And.intro rfl (And.intro rfl (hM.v (q.2 e3) (fun S2 q6 => (h.s 16 rfl (h.s 17 rfl (h.s 20 rfl (h.s 21 rfl (And.intro (fun e7 => (h.s 28 rfl (q6.1 e7))) (fun e7 => (h.s 24 rfl (h.s 25 rfl (q6.2 e7)))))))))))))))))))))))
theorem g_K_settled {d : Nat} {F : Int32 → kS → Prop} {S : kS} {a0 : Int32} (q : ∀ G : kG, kCl kC (kK d) (kq F) 4 G →
  (a0 < 0 →
    kK d m_Ty_settle [.inr 1, .inl 0] S (kv fun S1 =>
      (a0 < 0 →
        G 29 [some (.inr 0), some (.inl a0)] [.inl 0, .inr 10] S1) ∧
      (¬ (a0 < 0) →
        G 29 [some (.inr 0), some (.inl a0)] [.inl 1, .inr 10] S1))) ∧
  (¬ (a0 < 0) →
    kK d m_Ty_settle [.inr 1, .inl 1] S (kv fun S2 =>
      (a0 < 0 →
        G 29 [some (.inr 0), some (.inl a0)] [.inl 0, .inr 10] S2) ∧
      (¬ (a0 < 0) →
        G 29 [some (.inr 0), some (.inl a0)] [.inl 1, .inr 10] S2)))) :
  kK (d + 1) m_K_settled [.inr 0, .inl a0] S (kq F) := kspec_of (fun G h => f_K_settled_0 kspec_Mo h (q G h))
set_option maxRecDepth 20000 in
theorem f_K_settled_29 {M : kM} (hM : kMo M) {F : Int32 → kS → Prop} {G : kG} (h : kCl kC M (kq F) 4 G) {S : kS} {v1 w0 : Int32} (q :
  M m_Te_settle [.inr 10, .inl w0] S (kv fun S1 =>
    (v1 < 0 →
      M m_Fa_settle [.inr 25, .inl 0] S1 (kv fun S2 =>
        F v1 S2)) ∧
    (¬ (v1 < 0) →
      M m_Fa_settle [.inr 25, .inl 1] S1 (kv fun S3 =>
        F v1 S3)))) :
  G 29 [some (.inr 0), some (.inl v1)] [.inl w0, .inr 10] S :=
  (h.s 29 rfl (And.intro (Nat.le_of_ble_eq_true rfl) (And.intro rfl (And.intro rfl (hM.v q (fun S1 q4 => (h.s 32 rfl (h.s 33 rfl (h.s 36 rfl (h.s 37 rfl (And.intro (fun e5 => (h.s 44 rfl (h.s 45 rfl (And.intro (Nat.le_of_ble_eq_true rfl) (And.intro rfl (And.intro rfl (hM.v (q4.1 e5) (fun S2 q6 => (h.s 48 rfl (h.s 49 rfl (kq_mk q6))))))))))) (fun e5 => (h.s 40 rfl (h.s 41 rfl (h.s 45 rfl (And.intro (Nat.le_of_ble_eq_true rfl) (And.intro rfl (And.intro rfl (hM.v (q4.2 e5) (fun S3 q7 => (h.s 48 rfl (h.s 49 rfl (kq_mk q7)))))))))))))))))))))))
-- Ty_settle cuts []
set_option maxRecDepth 20000 in
theorem f_Ty_settle_0 {M : kM} (hM : kMo M) {F : kS → Prop} {G : kG} (h : kCl kC M (kv F) 5 G) {S : kS} {a0 : Int32} (q :
  (a0 = 0 →
    F (ku S 1 6 (S 1 7))) ∧
  (¬ (a0 = 0) →
    F (ku S 1 7 (S 1 6)))) :
  G 0 [some (.inr 1), some (.inl a0)] [] S :=
  (h.s 0 rfl (h.s 1 rfl (And.intro (fun e1 => (h.s 15 rfl (h.s 16 rfl (h.s 17 rfl (h.s 20 rfl (h.s 23 rfl (kv_mk (q.1 e1)))))))) (fun e1 => (h.s 4 rfl (h.s 5 rfl (h.s 6 rfl (h.s 9 rfl (h.s 12 rfl (h.s 23 rfl (kv_mk (q.2 e1))))))))))))
theorem g_Ty_settle {d : Nat} {F : kS → Prop} {S : kS} {a0 : Int32} (q :
  (a0 = 0 →
    F (ku S 1 6 (S 1 7))) ∧
  (¬ (a0 = 0) →
    F (ku S 1 7 (S 1 6)))) :
  kK (d + 1) m_Ty_settle [.inr 1, .inl a0] S (kv F) := kspec_of (fun _ h => f_Ty_settle_0 kspec_Mo h q)
-- Te_settle cuts [12]
set_option maxRecDepth 20000 in
theorem f_Te_settle_0 {M : kM} (hM : kMo M) {F : kS → Prop} {G : kG} (h : kCl kC M (kv F) 6 G) {S : kS} {a0 : Int32} (q :
  (a0 = 0 →
    G 12 [some (.inr 10), some (.inl a0)] [] S) ∧
  (¬ (a0 = 0) →
    G 12 [some (.inr 10), some (.inl a0)] [] (ku S 10 14 (S 10 13)))) :
  G 0 [some (.inr 10), some (.inl a0)] [] S :=
  (h.s 0 rfl (h.s 1 rfl (And.intro (fun e1 => (q.1 e1)) (fun e1 => (h.s 4 rfl (h.s 5 rfl (h.s 6 rfl (h.s 9 rfl (q.2 e1)))))))))
theorem g_Te_settle {d : Nat} {F : kS → Prop} {S : kS} {a0 : Int32} (q : ∀ G : kG, kCl kC (kK d) (kv F) 6 G →
  (a0 = 0 →
    G 12 [some (.inr 10), some (.inl a0)] [] S) ∧
  (¬ (a0 = 0) →
    G 12 [some (.inr 10), some (.inl a0)] [] (ku S 10 14 (S 10 13)))) :
  kK (d + 1) m_Te_settle [.inr 10, .inl a0] S (kv F) := kspec_of (fun G h => f_Te_settle_0 kspec_Mo h (q G h))
set_option maxRecDepth 20000 in
theorem f_Te_settle_12 {M : kM} (hM : kMo M) {F : kS → Prop} {G : kG} (h : kCl kC M (kv F) 6 G) {S : kS} {v1 : Int32} (q :
  ((S 10 13) ≤ (S 10 14) →
    F S) ∧
  (¬ ((S 10 13) ≤ (S 10 14)) →
    vp_in ((S 10 13) - 1) 250 ∧
    vp_in ((S 10 13) - 1) 250 ∧
    vp_in (S 24 (((S 10 13) - 1).toNatClampNeg)) 64 ∧
    G 12 [some (.inr 10), some (.inl v1)] [] (ku (ku S 10 13 ((S 10 13) - 1)) 22 ((S 24 (((S 10 13) - 1).toNatClampNeg)).toNatClampNeg) (S 23 (((S 10 13) - 1).toNatClampNeg))))) :
  G 12 [some (.inr 10), some (.inl v1)] [] S :=
  (h.s 12 rfl (h.s 13 rfl (h.s 16 rfl (h.s 17 rfl (h.s 20 rfl (And.intro (fun e1 => (h.s 59 rfl (kv_mk (q.1 e1)))) (fun e1 => (h.s 23 rfl (h.s 24 rfl (h.s 25 rfl (h.s 28 rfl (h.s 29 rfl (h.s 30 rfl (h.s 33 rfl (h.s 34 rfl (h.s 37 rfl (h.s 38 rfl (h.s 41 rfl (h.s 42 rfl (h.s 45 rfl (And.intro (q.2 e1).1 (h.s 46 rfl (h.s 47 rfl (h.s 50 rfl (h.s 51 rfl (h.s 54 rfl (And.intro (q.2 e1).2.1 (h.s 55 rfl (And.intro (q.2 e1).2.2.1 (h.s 56 rfl (q.2 e1).2.2.2))))))))))))))))))))))))))))))
-- Fa_settle cuts []
set_option maxRecDepth 20000 in
theorem f_Fa_settle_0 {M : kM} (hM : kMo M) {F : kS → Prop} {G : kG} (h : kCl kC M (kv F) 7 G) {S : kS} {a0 : Int32} (q :
  (a0 = 0 →
    F (ku S 25 6 (S 25 7))) ∧
  (¬ (a0 = 0) →
    F (ku S 25 7 (S 25 6)))) :
  G 0 [some (.inr 25), some (.inl a0)] [] S :=
  (h.s 0 rfl (h.s 1 rfl (And.intro (fun e1 => (h.s 15 rfl (h.s 16 rfl (h.s 17 rfl (h.s 20 rfl (h.s 23 rfl (kv_mk (q.1 e1)))))))) (fun e1 => (h.s 4 rfl (h.s 5 rfl (h.s 6 rfl (h.s 9 rfl (h.s 12 rfl (h.s 23 rfl (kv_mk (q.2 e1))))))))))))
theorem g_Fa_settle {d : Nat} {F : kS → Prop} {S : kS} {a0 : Int32} (q :
  (a0 = 0 →
    F (ku S 25 6 (S 25 7))) ∧
  (¬ (a0 = 0) →
    F (ku S 25 7 (S 25 6)))) :
  kK (d + 1) m_Fa_settle [.inr 25, .inl a0] S (kv F) := kspec_of (fun _ h => f_Fa_settle_0 kspec_Mo h q)
-- K_arrow cuts []
set_option maxRecDepth 20000 in
theorem f_K_arrow_0 {M : kM} (hM : kMo M) {F : Int32 → kS → Prop} {G : kG} (h : kCl kC M (kq F) 8 G) {S : kS} {a0 a1 : Int32} (q :
  M m_Nu_placeOf [.inr 2, .inl a0] S (kq fun r2 S1 =>
    M m_Nu_placeOf [.inr 2, .inl a1] S1 (kq fun r4 S3 =>
      M m_Ty_store [.inr 1, .inl 3, .inl r2, .inl r4] S3 (kq fun r6 S5 =>
        M m_K_answeredType [.inr 0, .inl r6] S5 (kq fun r8 S7 =>
          F r8 S7))))) :
  G 0 [some (.inr 0), some (.inl a0), some (.inl a1)] [] S :=
  (h.s 0 rfl (h.s 1 rfl (h.s 2 rfl (h.s 5 rfl (h.s 6 rfl (h.s 7 rfl (h.s 10 rfl (h.s 13 rfl (h.s 14 rfl (And.intro (Nat.le_of_ble_eq_true rfl) (And.intro rfl (And.intro rfl (hM.q q (fun r2 S1 q9 => (h.s 17 rfl (h.s 18 rfl (h.s 21 rfl (h.s 24 rfl (h.s 25 rfl (And.intro (Nat.le_of_ble_eq_true rfl) (And.intro rfl (And.intro rfl (hM.q q9 (fun r4 S3 q10 => (h.s 28 rfl (And.intro (Nat.le_of_ble_eq_true rfl) (And.intro rfl (And.intro rfl (hM.q q10 (fun r6 S5 q11 => (h.s 31 rfl (And.intro (Nat.le_of_ble_eq_true rfl) (And.intro rfl (And.intro rfl (hM.q q11 (fun r8 S7 q12 => (h.s 34 rfl (kq_mk q12))))))))))))))))))))))))))))))))))))))
theorem g_K_arrow {d : Nat} {F : Int32 → kS → Prop} {S : kS} {a0 a1 : Int32} (q :
  kK d m_Nu_placeOf [.inr 2, .inl a0] S (kq fun r2 S1 =>
    kK d m_Nu_placeOf [.inr 2, .inl a1] S1 (kq fun r4 S3 =>
      kK d m_Ty_store [.inr 1, .inl 3, .inl r2, .inl r4] S3 (kq fun r6 S5 =>
        kK d m_K_answeredType [.inr 0, .inl r6] S5 (kq fun r8 S7 =>
          F r8 S7))))) :
  kK (d + 1) m_K_arrow [.inr 0, .inl a0, .inl a1] S (kq F) := kspec_of (fun _ h => f_K_arrow_0 kspec_Mo h q)
-- Nu_placeOf cuts []
set_option maxRecDepth 20000 in
theorem f_Nu_placeOf_2_0 {M : kM} (hM : kMo M) {F : Int32 → kS → Prop} {G : kG} (h : kCl kC M (kq F) 9 G) {S : kS} {a0 : Int32} (q :
  (a0 < 0 →
    F ((-1)) S) ∧
  (¬ (a0 < 0) →
    ((S 2 2) ≤ a0 →
      F ((-1)) S) ∧
    (¬ ((S 2 2) ≤ a0) →
      vp_in a0 50 ∧
      F (S 3 (a0.toNatClampNeg)) S))) :
  G 0 [some (.inr 2), some (.inl a0)] [] S :=
  (h.s 0 rfl (h.s 1 rfl (And.intro (fun e1 => (h.s 21 rfl (h.s 22 rfl (kq_mk (q.1 e1))))) (fun e1 => (h.s 4 rfl (h.s 5 rfl (h.s 6 rfl (h.s 9 rfl (And.intro (fun e2 => (h.s 21 rfl (h.s 22 rfl (kq_mk ((q.2 e1).1 e2))))) (fun e2 => (h.s 12 rfl (h.s 13 rfl (h.s 16 rfl (h.s 17 rfl (And.intro ((q.2 e1).2 e2).1 (h.s 18 rfl (h.s 22 rfl (kq_mk ((q.2 e1).2 e2).2))))))))))))))))))
theorem g_Nu_placeOf_2 {d : Nat} {F : Int32 → kS → Prop} {S : kS} {a0 : Int32} (q :
  (a0 < 0 →
    F ((-1)) S) ∧
  (¬ (a0 < 0) →
    ((S 2 2) ≤ a0 →
      F ((-1)) S) ∧
    (¬ ((S 2 2) ≤ a0) →
      vp_in a0 50 ∧
      F (S 3 (a0.toNatClampNeg)) S))) :
  kK (d + 1) m_Nu_placeOf [.inr 2, .inl a0] S (kq F) := kspec_of (fun _ h => f_Nu_placeOf_2_0 kspec_Mo h q)
-- Nu_placeOf cuts []
set_option maxRecDepth 20000 in
theorem f_Nu_placeOf_11_0 {M : kM} (hM : kMo M) {F : Int32 → kS → Prop} {G : kG} (h : kCl kC M (kq F) 9 G) {S : kS} {a0 : Int32} (q :
  (a0 < 0 →
    F ((-1)) S) ∧
  (¬ (a0 < 0) →
    ((S 11 2) ≤ a0 →
      F ((-1)) S) ∧
    (¬ ((S 11 2) ≤ a0) →
      vp_in a0 250 ∧
      F (S 12 (a0.toNatClampNeg)) S))) :
  G 0 [some (.inr 11), some (.inl a0)] [] S :=
  (h.s 0 rfl (h.s 1 rfl (And.intro (fun e1 => (h.s 21 rfl (h.s 22 rfl (kq_mk (q.1 e1))))) (fun e1 => (h.s 4 rfl (h.s 5 rfl (h.s 6 rfl (h.s 9 rfl (And.intro (fun e2 => (h.s 21 rfl (h.s 22 rfl (kq_mk ((q.2 e1).1 e2))))) (fun e2 => (h.s 12 rfl (h.s 13 rfl (h.s 16 rfl (h.s 17 rfl (And.intro ((q.2 e1).2 e2).1 (h.s 18 rfl (h.s 22 rfl (kq_mk ((q.2 e1).2 e2).2))))))))))))))))))
theorem g_Nu_placeOf_11 {d : Nat} {F : Int32 → kS → Prop} {S : kS} {a0 : Int32} (q :
  (a0 < 0 →
    F ((-1)) S) ∧
  (¬ (a0 < 0) →
    ((S 11 2) ≤ a0 →
      F ((-1)) S) ∧
    (¬ ((S 11 2) ≤ a0) →
      vp_in a0 250 ∧
      F (S 12 (a0.toNatClampNeg)) S))) :
  kK (d + 1) m_Nu_placeOf [.inr 11, .inl a0] S (kq F) := kspec_of (fun _ h => f_Nu_placeOf_11_0 kspec_Mo h q)
-- K_variable cuts []
set_option maxRecDepth 20000 in
theorem f_K_variable_0 {M : kM} (hM : kMo M) {F : Int32 → kS → Prop} {G : kG} (h : kCl kC M (kq F) 10 G) {S : kS} {a0 a1 : Int32} (q :
  (a0 < 0 →
    F ((-1)) S) ∧
  (¬ (a0 < 0) →
    (a0 < 8 →
      M m_Nu_placeOf [.inr 2, .inl a1] S (kq fun r2 S1 =>
        M m_Te_store [.inr 10, .inl 0, .inl a0, .inl 0, .inl r2] S1 (kq fun r4 S3 =>
          M m_K_answeredTerm [.inr 0, .inl r4] S3 (kq fun r6 S5 =>
            F r6 S5)))) ∧
    (¬ (a0 < 8) →
      F ((-1)) S))) :
  G 0 [some (.inr 0), some (.inl a0), some (.inl a1)] [] S :=
  (h.s 0 rfl (h.s 1 rfl (And.intro (fun e7 => (h.s 10 rfl (h.s 11 rfl (kq_mk (q.1 e7))))) (fun e7 => (h.s 4 rfl (h.s 5 rfl (h.s 7 rfl (And.intro (fun e8 => (h.s 12 rfl (h.s 13 rfl (h.s 14 rfl (h.s 17 rfl (h.s 18 rfl (h.s 19 rfl (h.s 20 rfl (h.s 21 rfl (h.s 24 rfl (h.s 27 rfl (h.s 28 rfl (And.intro (Nat.le_of_ble_eq_true rfl) (And.intro rfl (And.intro rfl (hM.q ((q.2 e7).1 e8) (fun r2 S1 q9 => (h.s 31 rfl (And.intro (Nat.le_of_ble_eq_true rfl) (And.intro rfl (And.intro rfl (hM.q q9 (fun r4 S3 q10 => (h.s 34 rfl (And.intro (Nat.le_of_ble_eq_true rfl) (And.intro rfl (And.intro rfl (hM.q q10 (fun r6 S5 q11 => (h.s 37 rfl (kq_mk q11))))))))))))))))))))))))))))))) (fun e8 => (h.s 10 rfl (h.s 11 rfl (kq_mk ((q.2 e7).2 e8)))))))))))))
theorem g_K_variable {d : Nat} {F : Int32 → kS → Prop} {S : kS} {a0 a1 : Int32} (q :
  (a0 < 0 →
    F ((-1)) S) ∧
  (¬ (a0 < 0) →
    (a0 < 8 →
      kK d m_Nu_placeOf [.inr 2, .inl a1] S (kq fun r2 S1 =>
        kK d m_Te_store [.inr 10, .inl 0, .inl a0, .inl 0, .inl r2] S1 (kq fun r4 S3 =>
          kK d m_K_answeredTerm [.inr 0, .inl r4] S3 (kq fun r6 S5 =>
            F r6 S5)))) ∧
    (¬ (a0 < 8) →
      F ((-1)) S))) :
  kK (d + 1) m_K_variable [.inr 0, .inl a0, .inl a1] S (kq F) := kspec_of (fun _ h => f_K_variable_0 kspec_Mo h q)
-- Te_store cuts [40, 116, 131, 159, 272, 322]
set_option maxRecDepth 20000 in
theorem f_Te_store_0 {M : kM} (hM : kMo M) {F : Int32 → kS → Prop} {G : kG} (h : kCl kC M (kq F) 11 G) {S : kS} {a0 a1 a2 a3 : Int32} (q :
  (0 ≤ a3 →
    vp_in ((((a0 + (5 * a1)) + (23 * a2)) + (11 * a3)) &&& 63) 64 ∧
    G 40 [some (.inr 10), some (.inl a0), some (.inl a1), some (.inl a2), some (.inl a3), some (.inl ((((a0 + (5 * a1)) + (23 * a2)) + (11 * a3)) &&& 63)), some (.inl (S 22 (((((a0 + (5 * a1)) + (23 * a2)) + (11 * a3)) &&& 63).toNatClampNeg))), some (.inl 0), none] [] S) ∧
  (¬ (0 ≤ a3) →
    F ((-1)) S)) :
  G 0 [some (.inr 10), some (.inl a0), some (.inl a1), some (.inl a2), some (.inl a3), none, none, none, none] [] S :=
  (h.s 0 rfl (h.s 2 rfl (And.intro (fun e1 => (h.s 7 rfl (h.s 8 rfl (h.s 9 rfl (h.s 10 rfl (h.s 11 rfl (h.s 12 rfl (h.s 14 rfl (h.s 15 rfl (h.s 16 rfl (h.s 17 rfl (h.s 19 rfl (h.s 21 rfl (h.s 22 rfl (h.s 23 rfl (h.s 25 rfl (h.s 26 rfl (h.s 28 rfl (h.s 29 rfl (h.s 32 rfl (h.s 34 rfl (And.intro (q.1 e1).1 (h.s 35 rfl (h.s 37 rfl (h.s 38 rfl (q.1 e1).2))))))))))))))))))))))))) (fun e1 => (h.s 5 rfl (h.s 6 rfl (kq_mk (q.2 e1))))))))
theorem g_Te_store {d : Nat} {F : Int32 → kS → Prop} {S : kS} {a0 a1 a2 a3 : Int32} (q : ∀ G : kG, kCl kC (kK d) (kq F) 11 G →
  (0 ≤ a3 →
    vp_in ((((a0 + (5 * a1)) + (23 * a2)) + (11 * a3)) &&& 63) 64 ∧
    G 40 [some (.inr 10), some (.inl a0), some (.inl a1), some (.inl a2), some (.inl a3), some (.inl ((((a0 + (5 * a1)) + (23 * a2)) + (11 * a3)) &&& 63)), some (.inl (S 22 (((((a0 + (5 * a1)) + (23 * a2)) + (11 * a3)) &&& 63).toNatClampNeg))), some (.inl 0), none] [] S) ∧
  (¬ (0 ≤ a3) →
    F ((-1)) S)) :
  kK (d + 1) m_Te_store [.inr 10, .inl a0, .inl a1, .inl a2, .inl a3] S (kq F) := kspec_of (fun G h => f_Te_store_0 kspec_Mo h (q G h))
set_option maxRecDepth 20000 in
theorem f_Te_store_40 {M : kM} (hM : kMo M) {F : Int32 → kS → Prop} {G : kG} (h : kCl kC M (kq F) 11 G) {S : kS} {v1 v2 v3 v4 v5 v6 v7 : Int32} (q :
  (v6 < 0 →
    G 116 [some (.inr 10), some (.inl v1), some (.inl v2), some (.inl v3), some (.inl v4), some (.inl v5), some (.inl v6), some (.inl v7), none] [] S) ∧
  (¬ (v6 < 0) →
    (250 ≤ v7 →
      G 116 [some (.inr 10), some (.inl v1), some (.inl v2), some (.inl v3), some (.inl v4), some (.inl v5), some (.inl v6), some (.inl v7), none] [] S) ∧
    (¬ (250 ≤ v7) →
      vp_in v6 250 ∧
      (¬ (S 14 (v6.toNatClampNeg)) = v1 →
        vp_in v6 250 ∧
        G 40 [some (.inr 10), some (.inl v1), some (.inl v2), some (.inl v3), some (.inl v4), some (.inl v5), some (.inl (S 23 (v6.toNatClampNeg))), some (.inl (v7 + 1)), none] [] S) ∧
      (¬ (¬ (S 14 (v6.toNatClampNeg)) = v1) →
        vp_in v6 250 ∧
        (¬ (S 15 (v6.toNatClampNeg)) = v2 →
          vp_in v6 250 ∧
          G 40 [some (.inr 10), some (.inl v1), some (.inl v2), some (.inl v3), some (.inl v4), some (.inl v5), some (.inl (S 23 (v6.toNatClampNeg))), some (.inl (v7 + 1)), none] [] S) ∧
        (¬ (¬ (S 15 (v6.toNatClampNeg)) = v2) →
          vp_in v6 250 ∧
          (¬ (S 16 (v6.toNatClampNeg)) = v3 →
            vp_in v6 250 ∧
            G 40 [some (.inr 10), some (.inl v1), some (.inl v2), some (.inl v3), some (.inl v4), some (.inl v5), some (.inl (S 23 (v6.toNatClampNeg))), some (.inl (v7 + 1)), none] [] S) ∧
          (¬ (¬ (S 16 (v6.toNatClampNeg)) = v3) →
            vp_in v6 250 ∧
            (¬ (S 17 (v6.toNatClampNeg)) = v4 →
              vp_in v6 250 ∧
              G 40 [some (.inr 10), some (.inl v1), some (.inl v2), some (.inl v3), some (.inl v4), some (.inl v5), some (.inl (S 23 (v6.toNatClampNeg))), some (.inl (v7 + 1)), none] [] S) ∧
            (¬ (¬ (S 17 (v6.toNatClampNeg)) = v4) →
              F v6 S))))))) :
  G 40 [some (.inr 10), some (.inl v1), some (.inl v2), some (.inl v3), some (.inl v4), some (.inl v5), some (.inl v6), some (.inl v7), none] [] S :=
  (h.s 40 rfl (h.s 42 rfl (And.intro (fun e1 => (q.1 e1)) (fun e1 => (h.s 45 rfl (h.s 47 rfl (h.s 50 rfl (And.intro (fun e2 => ((q.2 e1).1 e2)) (fun e2 => (h.s 53 rfl (h.s 54 rfl (h.s 57 rfl (h.s 59 rfl (And.intro ((q.2 e1).2 e2).1 (h.s 60 rfl (h.s 61 rfl (And.intro (fun e3 => (h.s 101 rfl (h.s 102 rfl (h.s 105 rfl (h.s 107 rfl (And.intro (((q.2 e1).2 e2).2.1 e3).1 (h.s 108 rfl (h.s 110 rfl (h.s 113 rfl (((q.2 e1).2 e2).2.1 e3).2))))))))) (fun e3 => (h.s 64 rfl (h.s 65 rfl (h.s 68 rfl (h.s 70 rfl (And.intro (((q.2 e1).2 e2).2.2 e3).1 (h.s 71 rfl (h.s 72 rfl (And.intro (fun e4 => (h.s 101 rfl (h.s 102 rfl (h.s 105 rfl (h.s 107 rfl (And.intro ((((q.2 e1).2 e2).2.2 e3).2.1 e4).1 (h.s 108 rfl (h.s 110 rfl (h.s 113 rfl ((((q.2 e1).2 e2).2.2 e3).2.1 e4).2))))))))) (fun e4 => (h.s 75 rfl (h.s 76 rfl (h.s 79 rfl (h.s 81 rfl (And.intro ((((q.2 e1).2 e2).2.2 e3).2.2 e4).1 (h.s 82 rfl (h.s 83 rfl (And.intro (fun e5 => (h.s 101 rfl (h.s 102 rfl (h.s 105 rfl (h.s 107 rfl (And.intro (((((q.2 e1).2 e2).2.2 e3).2.2 e4).2.1 e5).1 (h.s 108 rfl (h.s 110 rfl (h.s 113 rfl (((((q.2 e1).2 e2).2.2 e3).2.2 e4).2.1 e5).2))))))))) (fun e5 => (h.s 86 rfl (h.s 87 rfl (h.s 90 rfl (h.s 92 rfl (And.intro (((((q.2 e1).2 e2).2.2 e3).2.2 e4).2.2 e5).1 (h.s 93 rfl (h.s 95 rfl (And.intro (fun e6 => (h.s 101 rfl (h.s 102 rfl (h.s 105 rfl (h.s 107 rfl (And.intro ((((((q.2 e1).2 e2).2.2 e3).2.2 e4).2.2 e5).2.1 e6).1 (h.s 108 rfl (h.s 110 rfl (h.s 113 rfl ((((((q.2 e1).2 e2).2.2 e3).2.2 e4).2.2 e5).2.1 e6).2))))))))) (fun e6 => (h.s 98 rfl (h.s 100 rfl (kq_mk ((((((q.2 e1).2 e2).2.2 e3).2.2 e4).2.2 e5).2.2 e6)))))))))))))))))))))))))))))))))))))))))))))))))
set_option maxRecDepth 20000 in
theorem f_Te_store_116 {M : kM} (hM : kMo M) {F : Int32 → kS → Prop} {G : kG} (h : kCl kC M (kq F) 11 G) {S : kS} {v1 v2 v3 v4 v5 v6 v7 : Int32} (q :
  (v1 = 3 →
    G 131 [some (.inr 10), some (.inl v1), some (.inl v2), some (.inl v3), some (.inl v4), some (.inl v5), some (.inl v6), some (.inl v7), none] [.inl 1] S) ∧
  (¬ (v1 = 3) →
    (¬ v1 = 4 →
      G 131 [some (.inr 10), some (.inl v1), some (.inl v2), some (.inl v3), some (.inl v4), some (.inl v5), some (.inl v6), some (.inl v7), none] [.inl 0] S) ∧
    (¬ (¬ v1 = 4) →
      G 131 [some (.inr 10), some (.inl v1), some (.inl v2), some (.inl v3), some (.inl v4), some (.inl v5), some (.inl v6), some (.inl v7), none] [.inl 1] S))) :
  G 116 [some (.inr 10), some (.inl v1), some (.inl v2), some (.inl v3), some (.inl v4), some (.inl v5), some (.inl v6), some (.inl v7), none] [] S :=
  (h.s 116 rfl (h.s 117 rfl (h.s 118 rfl (And.intro (fun e1 => (h.s 126 rfl (h.s 127 rfl (q.1 e1)))) (fun e1 => (h.s 121 rfl (h.s 122 rfl (h.s 123 rfl (And.intro (fun e2 => (h.s 130 rfl ((q.2 e1).1 e2))) (fun e2 => (h.s 126 rfl (h.s 127 rfl ((q.2 e1).2 e2)))))))))))))
set_option maxRecDepth 20000 in
theorem f_Te_store_131 {M : kM} (hM : kMo M) {F : Int32 → kS → Prop} {G : kG} (h : kCl kC M (kq F) 11 G) {S : kS} {v1 v2 v3 v4 v5 v6 v7 w0 : Int32} (q :
  (w0 = 0 →
    G 159 [some (.inr 10), some (.inl v1), some (.inl v2), some (.inl v3), some (.inl v4), some (.inl v5), some (.inl v6), some (.inl w0), none] [.inl 1] S) ∧
  (¬ (w0 = 0) →
    vp_in v2 250 ∧
    vp_in v3 250 ∧
    G 159 [some (.inr 10), some (.inl v1), some (.inl v2), some (.inl v3), some (.inl v4), some (.inl v5), some (.inl v6), some (.inl w0), none] [.inl (1 + (km (S 21 (v2.toNatClampNeg)) (S 21 (v3.toNatClampNeg))))] S)) :
  G 131 [some (.inr 10), some (.inl v1), some (.inl v2), some (.inl v3), some (.inl v4), some (.inl v5), some (.inl v6), some (.inl v7), none] [.inl w0] S :=
  (h.s 131 rfl (h.s 133 rfl (h.s 135 rfl (And.intro (fun e1 => (h.s 158 rfl (q.1 e1))) (fun e1 => (h.s 138 rfl (h.s 139 rfl (h.s 140 rfl (h.s 143 rfl (h.s 144 rfl (And.intro (q.2 e1).1 (h.s 145 rfl (h.s 146 rfl (h.s 149 rfl (h.s 150 rfl (And.intro (q.2 e1).2.1 (h.s 151 rfl (And.intro (Nat.le_of_ble_eq_true rfl) (h.s 154 rfl (h.s 155 rfl (q.2 e1).2.2))))))))))))))))))))
set_option maxRecDepth 20000 in
theorem f_Te_store_159 {M : kM} (hM : kMo M) {F : Int32 → kS → Prop} {G : kG} (h : kCl kC M (kq F) 11 G) {S : kS} {v1 v2 v3 v4 v5 v6 v7 w0 : Int32} (q :
  (20 < w0 →
    F ((-1)) S) ∧
  (¬ (20 < w0) →
    ((S 10 13) < 250 →
      vp_in (S 10 13) 250 ∧
      vp_in (S 10 13) 250 ∧
      vp_in (S 10 13) 250 ∧
      vp_in (S 10 13) 250 ∧
      vp_in (S 10 13) 250 ∧
      (v1 = 0 →
        G 272 [some (.inr 10), some (.inl v1), some (.inl v2), some (.inl v3), some (.inl v4), some (.inl v5), some (.inl v6), some (.inl v7), some (.inl w0)] [.inl 1, .inl (S 10 13), .inr 20] (ku (ku (ku (ku (ku S 14 ((S 10 13).toNatClampNeg) v1) 15 ((S 10 13).toNatClampNeg) v2) 16 ((S 10 13).toNatClampNeg) v3) 17 ((S 10 13).toNatClampNeg) v4) 21 ((S 10 13).toNatClampNeg) w0)) ∧
      (¬ (v1 = 0) →
        (v7 = 0 →
          G 272 [some (.inr 10), some (.inl v1), some (.inl v2), some (.inl v3), some (.inl v4), some (.inl v5), some (.inl v6), some (.inl v7), some (.inl w0)] [.inl 0, .inl (S 10 13), .inr 20] (ku (ku (ku (ku (ku S 14 ((S 10 13).toNatClampNeg) v1) 15 ((S 10 13).toNatClampNeg) v2) 16 ((S 10 13).toNatClampNeg) v3) 17 ((S 10 13).toNatClampNeg) v4) 21 ((S 10 13).toNatClampNeg) w0)) ∧
        (¬ (v7 = 0) →
          vp_in v2 250 ∧
          (¬ (S 20 (v2.toNatClampNeg)) = 0 →
            G 272 [some (.inr 10), some (.inl v1), some (.inl v2), some (.inl v3), some (.inl v4), some (.inl v5), some (.inl v6), some (.inl v7), some (.inl w0)] [.inl 1, .inl (S 10 13), .inr 20] (ku (ku (ku (ku (ku S 14 ((S 10 13).toNatClampNeg) v1) 15 ((S 10 13).toNatClampNeg) v2) 16 ((S 10 13).toNatClampNeg) v3) 17 ((S 10 13).toNatClampNeg) v4) 21 ((S 10 13).toNatClampNeg) w0)) ∧
          (¬ (¬ (S 20 (v2.toNatClampNeg)) = 0) →
            vp_in v3 250 ∧
            ((S 20 (v3.toNatClampNeg)) = 0 →
              G 272 [some (.inr 10), some (.inl v1), some (.inl v2), some (.inl v3), some (.inl v4), some (.inl v5), some (.inl v6), some (.inl v7), some (.inl w0)] [.inl 0, .inl (S 10 13), .inr 20] (ku (ku (ku (ku (ku S 14 ((S 10 13).toNatClampNeg) v1) 15 ((S 10 13).toNatClampNeg) v2) 16 ((S 10 13).toNatClampNeg) v3) 17 ((S 10 13).toNatClampNeg) v4) 21 ((S 10 13).toNatClampNeg) w0)) ∧
            (¬ ((S 20 (v3.toNatClampNeg)) = 0) →
              G 272 [some (.inr 10), some (.inl v1), some (.inl v2), some (.inl v3), some (.inl v4), some (.inl v5), some (.inl v6), some (.inl v7), some (.inl w0)] [.inl 1, .inl (S 10 13), .inr 20] (ku (ku (ku (ku (ku S 14 ((S 10 13).toNatClampNeg) v1) 15 ((S 10 13).toNatClampNeg) v2) 16 ((S 10 13).toNatClampNeg) v3) 17 ((S 10 13).toNatClampNeg) v4) 21 ((S 10 13).toNatClampNeg) w0)))))) ∧
    (¬ ((S 10 13) < 250) →
      F ((-1)) S))) :
  G 159 [some (.inr 10), some (.inl v1), some (.inl v2), some (.inl v3), some (.inl v4), some (.inl v5), some (.inl v6), some (.inl v7), none] [.inl w0] S :=
  (h.s 159 rfl (h.s 161 rfl (h.s 163 rfl (h.s 165 rfl (And.intro (fun e1 => (h.s 178 rfl (h.s 179 rfl (kq_mk (q.1 e1))))) (fun e1 => (h.s 168 rfl (h.s 169 rfl (h.s 172 rfl (h.s 175 rfl (And.intro (fun e2 => (h.s 180 rfl (h.s 181 rfl (h.s 184 rfl (h.s 185 rfl (h.s 188 rfl (h.s 189 rfl (And.intro ((q.2 e1).1 e2).1 (h.s 190 rfl (h.s 191 rfl (h.s 194 rfl (h.s 195 rfl (h.s 198 rfl (h.s 199 rfl (And.intro ((q.2 e1).1 e2).2.1 (h.s 200 rfl (h.s 201 rfl (h.s 204 rfl (h.s 205 rfl (h.s 208 rfl (h.s 209 rfl (And.intro ((q.2 e1).1 e2).2.2.1 (h.s 210 rfl (h.s 211 rfl (h.s 214 rfl (h.s 215 rfl (h.s 218 rfl (h.s 220 rfl (And.intro ((q.2 e1).1 e2).2.2.2.1 (h.s 221 rfl (h.s 222 rfl (h.s 225 rfl (h.s 226 rfl (h.s 229 rfl (h.s 231 rfl (And.intro ((q.2 e1).1 e2).2.2.2.2.1 (h.s 232 rfl (h.s 233 rfl (h.s 236 rfl (h.s 237 rfl (h.s 240 rfl (h.s 241 rfl (And.intro (fun e3 => (h.s 267 rfl (h.s 268 rfl (((q.2 e1).1 e2).2.2.2.2.2.1 e3)))) (fun e3 => (h.s 244 rfl (h.s 246 rfl (And.intro (fun e4 => (h.s 271 rfl ((((q.2 e1).1 e2).2.2.2.2.2.2 e3).1 e4))) (fun e4 => (h.s 249 rfl (h.s 250 rfl (h.s 253 rfl (h.s 254 rfl (And.intro ((((q.2 e1).1 e2).2.2.2.2.2.2 e3).2 e4).1 (h.s 255 rfl (And.intro (fun e5 => (h.s 267 rfl (h.s 268 rfl (((((q.2 e1).1 e2).2.2.2.2.2.2 e3).2 e4).2.1 e5)))) (fun e5 => (h.s 258 rfl (h.s 259 rfl (h.s 262 rfl (h.s 263 rfl (And.intro (((((q.2 e1).1 e2).2.2.2.2.2.2 e3).2 e4).2.2 e5).1 (h.s 264 rfl (And.intro (fun e6 => (h.s 271 rfl ((((((q.2 e1).1 e2).2.2.2.2.2.2 e3).2 e4).2.2 e5).2.1 e6))) (fun e6 => (h.s 267 rfl (h.s 268 rfl ((((((q.2 e1).1 e2).2.2.2.2.2.2 e3).2 e4).2.2 e5).2.2 e6))))))))))))))))))))))))))))))))))))))))))))))))))))))))))))))))))) (fun e2 => (h.s 178 rfl (h.s 179 rfl (kq_mk ((q.2 e1).2 e2))))))))))))))))
set_option maxRecDepth 20000 in
theorem f_Te_store_272 {M : kM} (hM : kMo M) {F : Int32 → kS → Prop} {G : kG} (h : kCl kC M (kq F) 11 G) {S : kS} {v1 v2 v3 v4 v5 v6 v7 v8 w0 w1 : Int32} (q :
  vp_in w1 250 ∧
  vp_in v4 50 ∧
  (¬ (S 8 (v4.toNatClampNeg)) = 0 →
    G 322 [some (.inr 10), some (.inl v1), some (.inl v2), some (.inl v3), some (.inl v4), some (.inl v5), some (.inl v6), some (.inl v7), some (.inl v8)] [.inl 1, .inl (S 10 13), .inr 18] (ku S 20 (w1.toNatClampNeg) (vp_nar .boolean w0))) ∧
  (¬ (¬ (S 8 (v4.toNatClampNeg)) = 0) →
    (v7 = 0 →
      G 322 [some (.inr 10), some (.inl v1), some (.inl v2), some (.inl v3), some (.inl v4), some (.inl v5), some (.inl v6), some (.inl v7), some (.inl v8)] [.inl 0, .inl (S 10 13), .inr 18] (ku S 20 (w1.toNatClampNeg) (vp_nar .boolean w0))) ∧
    (¬ (v7 = 0) →
      vp_in v2 250 ∧
      (¬ (S 18 (v2.toNatClampNeg)) = 0 →
        G 322 [some (.inr 10), some (.inl v1), some (.inl v2), some (.inl v3), some (.inl v4), some (.inl v5), some (.inl v6), some (.inl v7), some (.inl v8)] [.inl 1, .inl (S 10 13), .inr 18] (ku S 20 (w1.toNatClampNeg) (vp_nar .boolean w0))) ∧
      (¬ (¬ (S 18 (v2.toNatClampNeg)) = 0) →
        vp_in v3 250 ∧
        ((S 18 (v3.toNatClampNeg)) = 0 →
          G 322 [some (.inr 10), some (.inl v1), some (.inl v2), some (.inl v3), some (.inl v4), some (.inl v5), some (.inl v6), some (.inl v7), some (.inl v8)] [.inl 0, .inl (S 10 13), .inr 18] (ku S 20 (w1.toNatClampNeg) (vp_nar .boolean w0))) ∧
        (¬ ((S 18 (v3.toNatClampNeg)) = 0) →
          G 322 [some (.inr 10), some (.inl v1), some (.inl v2), some (.inl v3), some (.inl v4), some (.inl v5), some (.inl v6), some (.inl v7), some (.inl v8)] [.inl 1, .inl (S 10 13), .inr 18] (ku S 20 (w1.toNatClampNeg) (vp_nar .boolean w0))))))) :
  G 272 [some (.inr 10), some (.inl v1), some (.inl v2), some (.inl v3), some (.inl v4), some (.inl v5), some (.inl v6), some (.inl v7), some (.inl v8)] [.inl w0, .inl w1, .inr 20] S :=
  (h.s 272 rfl (And.intro q.1 (h.s 273 rfl (h.s 274 rfl (h.s 277 rfl (h.s 278 rfl (h.s 281 rfl (h.s 282 rfl (h.s 285 rfl (h.s 288 rfl (h.s 290 rfl (And.intro q.2.1 (h.s 291 rfl (And.intro (fun e1 => (h.s 317 rfl (h.s 318 rfl (q.2.2.1 e1)))) (fun e1 => (h.s 294 rfl (h.s 296 rfl (And.intro (fun e2 => (h.s 321 rfl ((q.2.2.2 e1).1 e2))) (fun e2 => (h.s 299 rfl (h.s 300 rfl (h.s 303 rfl (h.s 304 rfl (And.intro ((q.2.2.2 e1).2 e2).1 (h.s 305 rfl (And.intro (fun e3 => (h.s 317 rfl (h.s 318 rfl (((q.2.2.2 e1).2 e2).2.1 e3)))) (fun e3 => (h.s 308 rfl (h.s 309 rfl (h.s 312 rfl (h.s 313 rfl (And.intro (((q.2.2.2 e1).2 e2).2.2 e3).1 (h.s 314 rfl (And.intro (fun e4 => (h.s 321 rfl ((((q.2.2.2 e1).2 e2).2.2 e3).2.1 e4))) (fun e4 => (h.s 317 rfl (h.s 318 rfl ((((q.2.2.2 e1).2 e2).2.2 e3).2.2 e4))))))))))))))))))))))))))))))))))))))
set_option maxRecDepth 20000 in
theorem f_Te_store_322 {M : kM} (hM : kMo M) {F : Int32 → kS → Prop} {G : kG} (h : kCl kC M (kq F) 11 G) {S : kS} {v1 v2 v3 v4 v5 v6 v7 v8 w0 w1 : Int32} (q :
  vp_in w1 250 ∧
  vp_in (S 10 13) 250 ∧
  vp_in v5 64 ∧
  vp_in (S 10 13) 250 ∧
  vp_in v5 64 ∧
  F (S 10 13) (ku (ku (ku (ku (ku S 18 (w1.toNatClampNeg) (vp_nar .boolean w0)) 24 ((S 10 13).toNatClampNeg) v5) 23 ((S 10 13).toNatClampNeg) (S 22 (v5.toNatClampNeg))) 22 (v5.toNatClampNeg) (S 10 13)) 10 13 ((S 10 13) + 1))) :
  G 322 [some (.inr 10), some (.inl v1), some (.inl v2), some (.inl v3), some (.inl v4), some (.inl v5), some (.inl v6), some (.inl v7), some (.inl v8)] [.inl w0, .inl w1, .inr 18] S :=
  (h.s 322 rfl (And.intro q.1 (h.s 323 rfl (h.s 324 rfl (h.s 327 rfl (h.s 328 rfl (h.s 331 rfl (h.s 333 rfl (And.intro q.2.1 (h.s 334 rfl (h.s 335 rfl (h.s 338 rfl (h.s 339 rfl (h.s 342 rfl (h.s 343 rfl (h.s 346 rfl (h.s 348 rfl (And.intro q.2.2.1 (h.s 349 rfl (And.intro q.2.2.2.1 (h.s 350 rfl (h.s 351 rfl (h.s 354 rfl (h.s 356 rfl (h.s 357 rfl (h.s 360 rfl (And.intro q.2.2.2.2.1 (h.s 361 rfl (h.s 362 rfl (h.s 363 rfl (h.s 366 rfl (h.s 367 rfl (h.s 368 rfl (h.s 369 rfl (h.s 372 rfl (kq_mk q.2.2.2.2.2))))))))))))))))))))))))))))))))))))
-- K_answeredTerm cuts []
set_option maxRecDepth 20000 in
theorem f_K_answeredTerm_0 {M : kM} (hM : kMo M) {F : Int32 → kS → Prop} {G : kG} (h : kCl kC M (kq F) 12 G) {S : kS} {a0 : Int32} (q :
  M m_K_settled [.inr 0, .inl a0] S (kq fun r2 S1 =>
    M m_Nu_numberOf [.inr 11, .inl r2] S1 (kq fun r4 S3 =>
      F r4 S3))) :
  G 0 [some (.inr 0), some (.inl a0)] [] S :=
  (h.s 0 rfl (h.s 1 rfl (h.s 4 rfl (h.s 7 rfl (h.s 8 rfl (h.s 9 rfl (And.intro (Nat.le_of_ble_eq_true rfl) (And.intro rfl (And.intro rfl (hM.q q (fun r2 S1 q5 => (h.s 12 rfl (And.intro (Nat.le_of_ble_eq_true rfl) (And.intro rfl (And.intro rfl (hM.q q5 (fun r4 S3 q6 => (h.s 15 rfl (kq_mk q6)))))))))))))))))))
theorem g_K_answeredTerm {d : Nat} {F : Int32 → kS → Prop} {S : kS} {a0 : Int32} (q :
  kK d m_K_settled [.inr 0, .inl a0] S (kq fun r2 S1 =>
    kK d m_Nu_numberOf [.inr 11, .inl r2] S1 (kq fun r4 S3 =>
      F r4 S3))) :
  kK (d + 1) m_K_answeredTerm [.inr 0, .inl a0] S (kq F) := kspec_of (fun _ h => f_K_answeredTerm_0 kspec_Mo h q)
-- K_equality cuts []
set_option maxRecDepth 20000 in
theorem f_K_equality_0 {M : kM} (hM : kMo M) {F : Int32 → kS → Prop} {G : kG} (h : kCl kC M (kq F) 13 G) {S : kS} {a0 : Int32} (q :
  M m_Nu_placeOf [.inr 2, .inl a0] S (kq fun r2 S1 =>
    M m_Te_equalityOf [.inr 10, .inl r2] S1 (kq fun r4 S3 =>
      M m_K_answeredTerm [.inr 0, .inl r4] S3 (kq fun r6 S5 =>
        F r6 S5)))) :
  G 0 [some (.inr 0), some (.inl a0)] [] S :=
  (h.s 0 rfl (h.s 1 rfl (h.s 2 rfl (h.s 5 rfl (h.s 6 rfl (h.s 9 rfl (h.s 12 rfl (h.s 13 rfl (And.intro (Nat.le_of_ble_eq_true rfl) (And.intro rfl (And.intro rfl (hM.q q (fun r2 S1 q7 => (h.s 16 rfl (And.intro (Nat.le_of_ble_eq_true rfl) (And.intro rfl (And.intro rfl (hM.q q7 (fun r4 S3 q8 => (h.s 19 rfl (And.intro (Nat.le_of_ble_eq_true rfl) (And.intro rfl (And.intro rfl (hM.q q8 (fun r6 S5 q9 => (h.s 22 rfl (kq_mk q9)))))))))))))))))))))))))))
theorem g_K_equality {d : Nat} {F : Int32 → kS → Prop} {S : kS} {a0 : Int32} (q :
  kK d m_Nu_placeOf [.inr 2, .inl a0] S (kq fun r2 S1 =>
    kK d m_Te_equalityOf [.inr 10, .inl r2] S1 (kq fun r4 S3 =>
      kK d m_K_answeredTerm [.inr 0, .inl r4] S3 (kq fun r6 S5 =>
        F r6 S5)))) :
  kK (d + 1) m_K_equality [.inr 0, .inl a0] S (kq F) := kspec_of (fun _ h => f_K_equality_0 kspec_Mo h q)
-- Te_equalityOf cuts []
set_option maxRecDepth 20000 in
theorem f_Te_equalityOf_0 {M : kM} (hM : kMo M) {F : Int32 → kS → Prop} {G : kG} (h : kCl kC M (kq F) 14 G) {S : kS} {a0 : Int32} (q :
  M m_Ty_store [.inr 1, .inl 3, .inl a0, .inl 0] S (kq fun r2 S1 =>
    M m_Ty_store [.inr 1, .inl 3, .inl a0, .inl r2] S1 (kq fun r4 S3 =>
      M m_Te_store [.inr 10, .inl 1, .inl 0, .inl 0, .inl r4] S3 (kq fun r6 S5 =>
        F r6 S5)))) :
  G 0 [some (.inr 10), some (.inl a0), none] [] S :=
  (h.s 0 rfl (h.s 1 rfl (h.s 4 rfl (h.s 5 rfl (h.s 6 rfl (h.s 7 rfl (And.intro (Nat.le_of_ble_eq_true rfl) (And.intro rfl (And.intro rfl (hM.q q (fun r2 S1 q7 => (h.s 10 rfl (h.s 11 rfl (h.s 12 rfl (h.s 13 rfl (h.s 14 rfl (h.s 15 rfl (h.s 16 rfl (h.s 19 rfl (h.s 20 rfl (h.s 21 rfl (h.s 22 rfl (And.intro (Nat.le_of_ble_eq_true rfl) (And.intro rfl (And.intro rfl (hM.q q7 (fun r4 S3 q8 => (h.s 25 rfl (And.intro (Nat.le_of_ble_eq_true rfl) (And.intro rfl (And.intro rfl (hM.q q8 (fun r6 S5 q9 => (h.s 28 rfl (kq_mk q9)))))))))))))))))))))))))))))))))))
theorem g_Te_equalityOf {d : Nat} {F : Int32 → kS → Prop} {S : kS} {a0 : Int32} (q :
  kK d m_Ty_store [.inr 1, .inl 3, .inl a0, .inl 0] S (kq fun r2 S1 =>
    kK d m_Ty_store [.inr 1, .inl 3, .inl a0, .inl r2] S1 (kq fun r4 S3 =>
      kK d m_Te_store [.inr 10, .inl 1, .inl 0, .inl 0, .inl r4] S3 (kq fun r6 S5 =>
        F r6 S5)))) :
  kK (d + 1) m_Te_equalityOf [.inr 10, .inl a0] S (kq F) := kspec_of (fun _ h => f_Te_equalityOf_0 kspec_Mo h q)
-- K_apply cuts []
set_option maxRecDepth 20000 in
theorem f_K_apply_0 {M : kM} (hM : kMo M) {F : Int32 → kS → Prop} {G : kG} (h : kCl kC M (kq F) 15 G) {S : kS} {a0 a1 : Int32} (q :
  M m_Nu_placeOf [.inr 11, .inl a0] S (kq fun r2 S1 =>
    M m_Nu_placeOf [.inr 11, .inl a1] S1 (kq fun r4 S3 =>
      M m_Te_application [.inr 10, .inl r2, .inl r4] S3 (kq fun r6 S5 =>
        M m_K_answeredTerm [.inr 0, .inl r6] S5 (kq fun r8 S7 =>
          F r8 S7))))) :
  G 0 [some (.inr 0), some (.inl a0), some (.inl a1)] [] S :=
  (h.s 0 rfl (h.s 1 rfl (h.s 2 rfl (h.s 5 rfl (h.s 6 rfl (h.s 9 rfl (h.s 12 rfl (h.s 13 rfl (And.intro (Nat.le_of_ble_eq_true rfl) (And.intro rfl (And.intro rfl (hM.q q (fun r2 S1 q9 => (h.s 16 rfl (h.s 17 rfl (h.s 20 rfl (h.s 23 rfl (h.s 24 rfl (And.intro (Nat.le_of_ble_eq_true rfl) (And.intro rfl (And.intro rfl (hM.q q9 (fun r4 S3 q10 => (h.s 27 rfl (And.intro (Nat.le_of_ble_eq_true rfl) (And.intro rfl (And.intro rfl (hM.q q10 (fun r6 S5 q11 => (h.s 30 rfl (And.intro (Nat.le_of_ble_eq_true rfl) (And.intro rfl (And.intro rfl (hM.q q11 (fun r8 S7 q12 => (h.s 33 rfl (kq_mk q12)))))))))))))))))))))))))))))))))))))
theorem g_K_apply {d : Nat} {F : Int32 → kS → Prop} {S : kS} {a0 a1 : Int32} (q :
  kK d m_Nu_placeOf [.inr 11, .inl a0] S (kq fun r2 S1 =>
    kK d m_Nu_placeOf [.inr 11, .inl a1] S1 (kq fun r4 S3 =>
      kK d m_Te_application [.inr 10, .inl r2, .inl r4] S3 (kq fun r6 S5 =>
        kK d m_K_answeredTerm [.inr 0, .inl r6] S5 (kq fun r8 S7 =>
          F r8 S7))))) :
  kK (d + 1) m_K_apply [.inr 0, .inl a0, .inl a1] S (kq F) := kspec_of (fun _ h => f_K_apply_0 kspec_Mo h q)
-- Te_application cuts []
set_option maxRecDepth 20000 in
theorem f_Te_application_0 {M : kM} (hM : kMo M) {F : Int32 → kS → Prop} {G : kG} (h : kCl kC M (kq F) 16 G) {S : kS} {a0 a1 : Int32} (q :
  (a0 < 0 →
    F ((-1)) S) ∧
  (¬ (a0 < 0) →
    (a1 < 0 →
      F ((-1)) S) ∧
    (¬ (a1 < 0) →
      vp_in a0 250 ∧
      vp_in a1 250 ∧
      M m_Ty_isArrowFrom [.inr 1, .inl (S 17 (a0.toNatClampNeg)), .inl (S 17 (a1.toNatClampNeg))] S (kq fun r2 S1 =>
        (¬ r2 = 0 →
          vp_in a0 250 ∧
          vp_in (S1 17 (a0.toNatClampNeg)) 50 ∧
          M m_Te_store [.inr 10, .inl 3, .inl a0, .inl a1, .inl (S1 7 ((S1 17 (a0.toNatClampNeg)).toNatClampNeg))] S1 (kq fun r4 S3 =>
            F r4 S3)) ∧
        (¬ (¬ r2 = 0) →
          F ((-1)) S1))))) :
  G 0 [some (.inr 10), some (.inl a0), some (.inl a1)] [] S :=
  (h.s 0 rfl (h.s 1 rfl (And.intro (fun e5 => (h.s 30 rfl (h.s 31 rfl (kq_mk (q.1 e5))))) (fun e5 => (h.s 4 rfl (h.s 5 rfl (And.intro (fun e6 => (h.s 30 rfl (h.s 31 rfl (kq_mk ((q.2 e5).1 e6))))) (fun e6 => (h.s 8 rfl (h.s 9 rfl (h.s 12 rfl (h.s 13 rfl (h.s 16 rfl (h.s 17 rfl (And.intro ((q.2 e5).2 e6).1 (h.s 18 rfl (h.s 19 rfl (h.s 22 rfl (h.s 23 rfl (And.intro ((q.2 e5).2 e6).2.1 (h.s 24 rfl (And.intro (Nat.le_of_ble_eq_true rfl) (And.intro rfl (And.intro rfl (hM.q ((q.2 e5).2 e6).2.2 (fun r2 S1 q7 => (h.s 27 rfl (And.intro (fun e8 => (h.s 32 rfl (h.s 33 rfl (h.s 34 rfl (h.s 35 rfl (h.s 36 rfl (h.s 37 rfl (h.s 40 rfl (h.s 43 rfl (h.s 44 rfl (h.s 47 rfl (h.s 48 rfl (And.intro (q7.1 e8).1 (h.s 49 rfl (And.intro (q7.1 e8).2.1 (h.s 50 rfl (And.intro (Nat.le_of_ble_eq_true rfl) (And.intro rfl (And.intro rfl (hM.q (q7.1 e8).2.2 (fun r4 S3 q9 => (h.s 53 rfl (kq_mk q9))))))))))))))))))))))) (fun e8 => (h.s 30 rfl (h.s 31 rfl (kq_mk (q7.2 e8)))))))))))))))))))))))))))))))))
theorem g_Te_application {d : Nat} {F : Int32 → kS → Prop} {S : kS} {a0 a1 : Int32} (q :
  (a0 < 0 →
    F ((-1)) S) ∧
  (¬ (a0 < 0) →
    (a1 < 0 →
      F ((-1)) S) ∧
    (¬ (a1 < 0) →
      vp_in a0 250 ∧
      vp_in a1 250 ∧
      kK d m_Ty_isArrowFrom [.inr 1, .inl (S 17 (a0.toNatClampNeg)), .inl (S 17 (a1.toNatClampNeg))] S (kq fun r2 S1 =>
        (¬ r2 = 0 →
          vp_in a0 250 ∧
          vp_in (S1 17 (a0.toNatClampNeg)) 50 ∧
          kK d m_Te_store [.inr 10, .inl 3, .inl a0, .inl a1, .inl (S1 7 ((S1 17 (a0.toNatClampNeg)).toNatClampNeg))] S1 (kq fun r4 S3 =>
            F r4 S3)) ∧
        (¬ (¬ r2 = 0) →
          F ((-1)) S1))))) :
  kK (d + 1) m_Te_application [.inr 10, .inl a0, .inl a1] S (kq F) := kspec_of (fun _ h => f_Te_application_0 kspec_Mo h q)
-- Ty_isArrowFrom cuts []
set_option maxRecDepth 20000 in
theorem f_Ty_isArrowFrom_0 {M : kM} (hM : kMo M) {F : Int32 → kS → Prop} {G : kG} (h : kCl kC M (kq F) 17 G) {S : kS} {a0 a1 : Int32} (q :
  vp_in a0 50 ∧
  (¬ (S 5 (a0.toNatClampNeg)) = 3 →
    F 0 S) ∧
  (¬ (¬ (S 5 (a0.toNatClampNeg)) = 3) →
    vp_in a0 50 ∧
    (¬ (S 6 (a0.toNatClampNeg)) = a1 →
      F 0 S) ∧
    (¬ (¬ (S 6 (a0.toNatClampNeg)) = a1) →
      F 1 S))) :
  G 0 [some (.inr 1), some (.inl a0), some (.inl a1)] [] S :=
  (h.s 0 rfl (h.s 1 rfl (h.s 4 rfl (h.s 5 rfl (And.intro q.1 (h.s 6 rfl (h.s 7 rfl (And.intro (fun e1 => (h.s 24 rfl (h.s 25 rfl (And.intro (Or.inl rfl) (kq_mk (q.2.1 e1)))))) (fun e1 => (h.s 10 rfl (h.s 11 rfl (h.s 14 rfl (h.s 15 rfl (And.intro (q.2.2 e1).1 (h.s 16 rfl (h.s 17 rfl (And.intro (fun e2 => (h.s 24 rfl (h.s 25 rfl (And.intro (Or.inl rfl) (kq_mk ((q.2.2 e1).2.1 e2)))))) (fun e2 => (h.s 20 rfl (h.s 21 rfl (h.s 25 rfl (And.intro (Or.inr rfl) (kq_mk ((q.2.2 e1).2.2 e2))))))))))))))))))))))))
theorem g_Ty_isArrowFrom {d : Nat} {F : Int32 → kS → Prop} {S : kS} {a0 a1 : Int32} (q :
  vp_in a0 50 ∧
  (¬ (S 5 (a0.toNatClampNeg)) = 3 →
    F 0 S) ∧
  (¬ (¬ (S 5 (a0.toNatClampNeg)) = 3) →
    vp_in a0 50 ∧
    (¬ (S 6 (a0.toNatClampNeg)) = a1 →
      F 0 S) ∧
    (¬ (¬ (S 6 (a0.toNatClampNeg)) = a1) →
      F 1 S))) :
  kK (d + 1) m_Ty_isArrowFrom [.inr 1, .inl a0, .inl a1] S (kq F) := kspec_of (fun _ h => f_Ty_isArrowFrom_0 kspec_Mo h q)
-- K_lambda cuts []
set_option maxRecDepth 20000 in
theorem f_K_lambda_0 {M : kM} (hM : kMo M) {F : Int32 → kS → Prop} {G : kG} (h : kCl kC M (kq F) 18 G) {S : kS} {a0 a1 : Int32} (q :
  M m_Nu_placeOf [.inr 11, .inl a0] S (kq fun r2 S1 =>
    M m_Nu_placeOf [.inr 11, .inl a1] S1 (kq fun r4 S3 =>
      M m_Ch_abstracted [.inr 30, .inl r2, .inl r4] S3 (kq fun r6 S5 =>
        M m_K_answeredTerm [.inr 0, .inl r6] S5 (kq fun r8 S7 =>
          F r8 S7))))) :
  G 0 [some (.inr 0), some (.inl a0), some (.inl a1)] [] S :=
  (h.s 0 rfl (h.s 1 rfl (h.s 2 rfl (h.s 5 rfl (h.s 6 rfl (h.s 9 rfl (h.s 12 rfl (h.s 13 rfl (And.intro (Nat.le_of_ble_eq_true rfl) (And.intro rfl (And.intro rfl (hM.q q (fun r2 S1 q9 => (h.s 16 rfl (h.s 17 rfl (h.s 20 rfl (h.s 23 rfl (h.s 24 rfl (And.intro (Nat.le_of_ble_eq_true rfl) (And.intro rfl (And.intro rfl (hM.q q9 (fun r4 S3 q10 => (h.s 27 rfl (And.intro (Nat.le_of_ble_eq_true rfl) (And.intro rfl (And.intro rfl (hM.q q10 (fun r6 S5 q11 => (h.s 30 rfl (And.intro (Nat.le_of_ble_eq_true rfl) (And.intro rfl (And.intro rfl (hM.q q11 (fun r8 S7 q12 => (h.s 33 rfl (kq_mk q12)))))))))))))))))))))))))))))))))))))
theorem g_K_lambda {d : Nat} {F : Int32 → kS → Prop} {S : kS} {a0 a1 : Int32} (q :
  kK d m_Nu_placeOf [.inr 11, .inl a0] S (kq fun r2 S1 =>
    kK d m_Nu_placeOf [.inr 11, .inl a1] S1 (kq fun r4 S3 =>
      kK d m_Ch_abstracted [.inr 30, .inl r2, .inl r4] S3 (kq fun r6 S5 =>
        kK d m_K_answeredTerm [.inr 0, .inl r6] S5 (kq fun r8 S7 =>
          F r8 S7))))) :
  kK (d + 1) m_K_lambda [.inr 0, .inl a0, .inl a1] S (kq F) := kspec_of (fun _ h => f_K_lambda_0 kspec_Mo h q)
-- Ch_abstracted cuts []
set_option maxRecDepth 20000 in
theorem f_Ch_abstracted_0 {M : kM} (hM : kMo M) {F : Int32 → kS → Prop} {G : kG} (h : kCl kC M (kq F) 19 G) {S : kS} {a0 a1 : Int32} (q :
  M m_Te_sortAt [.inr 10, .inl a0] S (kq fun r2 S1 =>
    (r2 = 0 →
      M m_Ch_begin [.inr 30, .inl 2, .inl a0, .inl ((-1))] S1 (kv fun S3 =>
        vp_in a0 250 ∧
        M m_Ch_changed [.inr 30, .inl a1, .inl 0, .inl 0] S3 (kq fun r5 S4 =>
          M m_Te_abstraction [.inr 10, .inl (S3 17 (a0.toNatClampNeg)), .inl r5] S4 (kq fun r7 S6 =>
            F r7 S6)))) ∧
    (¬ (r2 = 0) →
      F ((-1)) S1))) :
  G 0 [some (.inr 30), some (.inl a0), some (.inl a1)] [] S :=
  (h.s 0 rfl (h.s 1 rfl (h.s 4 rfl (h.s 5 rfl (And.intro (Nat.le_of_ble_eq_true rfl) (And.intro rfl (And.intro rfl (hM.q q (fun r2 S1 q8 => (h.s 8 rfl (And.intro (fun e9 => (h.s 13 rfl (h.s 14 rfl (h.s 15 rfl (h.s 16 rfl (h.s 17 rfl (And.intro (Nat.le_of_ble_eq_true rfl) (And.intro rfl (And.intro rfl (hM.v (q8.1 e9) (fun S3 q10 => (h.s 20 rfl (h.s 21 rfl (h.s 24 rfl (h.s 25 rfl (h.s 28 rfl (h.s 31 rfl (h.s 32 rfl (And.intro q10.1 (h.s 33 rfl (h.s 34 rfl (h.s 35 rfl (h.s 36 rfl (h.s 37 rfl (And.intro (Nat.le_of_ble_eq_true rfl) (And.intro rfl (And.intro rfl (hM.q q10.2 (fun r5 S4 q11 => (h.s 40 rfl (And.intro (Nat.le_of_ble_eq_true rfl) (And.intro rfl (And.intro rfl (hM.q q11 (fun r7 S6 q12 => (h.s 43 rfl (kq_mk q12))))))))))))))))))))))))))))))))))))) (fun e9 => (h.s 11 rfl (h.s 12 rfl (kq_mk (q8.2 e9))))))))))))))))
theorem g_Ch_abstracted {d : Nat} {F : Int32 → kS → Prop} {S : kS} {a0 a1 : Int32} (q :
  kK d m_Te_sortAt [.inr 10, .inl a0] S (kq fun r2 S1 =>
    (r2 = 0 →
      kK d m_Ch_begin [.inr 30, .inl 2, .inl a0, .inl ((-1))] S1 (kv fun S3 =>
        vp_in a0 250 ∧
        kK d m_Ch_changed [.inr 30, .inl a1, .inl 0, .inl 0] S3 (kq fun r5 S4 =>
          kK d m_Te_abstraction [.inr 10, .inl (S3 17 (a0.toNatClampNeg)), .inl r5] S4 (kq fun r7 S6 =>
            F r7 S6)))) ∧
    (¬ (r2 = 0) →
      F ((-1)) S1))) :
  kK (d + 1) m_Ch_abstracted [.inr 30, .inl a0, .inl a1] S (kq F) := kspec_of (fun _ h => f_Ch_abstracted_0 kspec_Mo h q)
-- Te_sortAt cuts []
set_option maxRecDepth 20000 in
theorem f_Te_sortAt_0 {M : kM} (hM : kMo M) {F : Int32 → kS → Prop} {G : kG} (h : kCl kC M (kq F) 20 G) {S : kS} {a0 : Int32} (q :
  (0 ≤ a0 →
    vp_in a0 250 ∧
    F (S 14 (a0.toNatClampNeg)) S) ∧
  (¬ (0 ≤ a0) →
    F ((-1)) S)) :
  G 0 [some (.inr 10), some (.inl a0)] [] S :=
  (h.s 0 rfl (h.s 1 rfl (And.intro (fun e1 => (h.s 8 rfl (h.s 9 rfl (h.s 12 rfl (h.s 13 rfl (And.intro (q.1 e1).1 (h.s 14 rfl (kq_mk (q.1 e1).2)))))))) (fun e1 => (h.s 4 rfl (h.s 5 rfl (h.s 14 rfl (kq_mk (q.2 e1)))))))))
theorem g_Te_sortAt {d : Nat} {F : Int32 → kS → Prop} {S : kS} {a0 : Int32} (q :
  (0 ≤ a0 →
    vp_in a0 250 ∧
    F (S 14 (a0.toNatClampNeg)) S) ∧
  (¬ (0 ≤ a0) →
    F ((-1)) S)) :
  kK (d + 1) m_Te_sortAt [.inr 10, .inl a0] S (kq F) := kspec_of (fun _ h => f_Te_sortAt_0 kspec_Mo h q)
-- Ch_begin cuts []
set_option maxRecDepth 20000 in
theorem f_Ch_begin_0 {M : kM} (hM : kMo M) {F : kS → Prop} {G : kG} (h : kCl kC M (kv F) 21 G) {S : kS} {a0 a1 a2 : Int32} (q :
  F (ku (ku (ku (ku S 30 4 ((S 30 4) + 1)) 30 5 a0) 30 6 a1) 30 7 a2)) :
  G 0 [some (.inr 30), some (.inl a0), some (.inl a1), some (.inl a2)] [] S :=
  (h.s 0 rfl (h.s 1 rfl (h.s 2 rfl (h.s 5 rfl (h.s 6 rfl (h.s 7 rfl (h.s 10 rfl (h.s 11 rfl (h.s 12 rfl (h.s 15 rfl (h.s 16 rfl (h.s 17 rfl (h.s 20 rfl (h.s 21 rfl (h.s 22 rfl (h.s 25 rfl (kv_mk q)))))))))))))))))
theorem g_Ch_begin {d : Nat} {F : kS → Prop} {S : kS} {a0 a1 a2 : Int32} (q :
  F (ku (ku (ku (ku S 30 4 ((S 30 4) + 1)) 30 5 a0) 30 6 a1) 30 7 a2)) :
  kK (d + 1) m_Ch_begin [.inr 30, .inl a0, .inl a1, .inl a2] S (kv F) := kspec_of (fun _ h => f_Ch_begin_0 kspec_Mo h q)
