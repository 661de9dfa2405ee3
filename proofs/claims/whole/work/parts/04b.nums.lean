/-! ===== SMALL NUMBERS AS INTS ===== -/
def kn (n : Nat) : Int32 := Int32.ofNat n
def kb (b : Bool) : Int32 := bif b then 1 else 0
theorem kn_tn {n : Nat} (h : n < 2147483648) : (kn n).toNatClampNeg = n := Int32.toNatClampNeg_ofNat_of_lt (by omega)
theorem kn_ti {n : Nat} (h : n < 2147483648) : (kn n).toInt = n := Int32.toInt_ofNat_of_lt (by omega)
theorem kn_inj {n m : Nat} (hn : n < 2147483648) (hm : m < 2147483648) (h : kn n = kn m) : n = m := by
  have := kn_tn hn
  rw [h, kn_tn hm] at this
  exact this.symm
theorem kn_eq {n m : Nat} (hn : n < 2147483648) (hm : m < 2147483648) : kn n = kn m ↔ n = m := ⟨kn_inj hn hm, fun h => by rw [h]⟩
theorem kn_lt {n m : Nat} (hn : n < 2147483648) (hm : m < 2147483648) : kn n < kn m ↔ n < m := Int32.ofNat_lt_iff_lt (by omega) (by omega)
theorem kn_le {n m : Nat} (hn : n < 2147483648) (hm : m < 2147483648) : kn n ≤ kn m ↔ n ≤ m := Int32.ofNat_le_iff_le (by omega) (by omega)
theorem kn_nn {n : Nat} (h : n < 2147483648) : ¬ kn n < 0 := by
  have := kn_lt h (show 0 < 2147483648 by decide)
  intro q
  exact absurd (this.mp q) (Nat.not_lt_zero _)
theorem kn_ge {n : Nat} (h : n < 2147483648) : 0 ≤ kn n := (kn_le (by decide) h).mpr (Nat.zero_le _)
theorem kn_add (n m : Nat) : kn n + kn m = kn (n + m) := (Int32.ofNat_add n m).symm
theorem kn_suc (n : Nat) : kn n + 1 = kn (n + 1) := kn_add n 1
theorem kn_mul (n m : Nat) : kn n * kn m = kn (n * m) := (Int32.ofNat_mul n m).symm
theorem kn_sub {n m : Nat} (h : m ≤ n) : kn n - kn m = kn (n - m) := (Int32.ofNat_sub n m h).symm
theorem kn_in {n L : Nat} (h : n < L) (hL : L ≤ 2147483648) : vp_in (kn n) L := by
  rintro (q | q)
  · exact kn_nn (by omega) q
  · rw [kn_tn (by omega)] at q
    omega
theorem kn_m1 {n : Nat} (h : n < 2147483648) : kn n ≠ -1 := by
  intro q
  have h1 := kn_ti h
  rw [q] at h1
  have h2 : (-1 : Int32).toInt = -1 := by decide
  omega
theorem kn_m1lt : (-1 : Int32) < 0 := by decide
/-- any int is a small number or less than none -/
theorem kn_of (x : Int32) : x < 0 ∨ ∃ n, n < 2147483648 ∧ x = kn n := by
  by_cases h : x < 0
  · exact Or.inl h
  · refine Or.inr ⟨x.toNatClampNeg, ?_, ?_⟩
    · have := Int32.toNatClampNeg_lt x
      omega
    · exact (Int32.ofNat_toNatClampNeg x (Int32.not_lt.mp h)).symm
theorem kn_max {n m : Nat} (hn : n < 2147483648) (hm : m < 2147483648) : km (kn n) (kn m) = kn (max n m) := by
  unfold km
  by_cases h : kn n < kn m
  · rw [if_pos h]
    have := (kn_lt hn hm).mp h
    rw [Nat.max_eq_right (by omega)]
  · rw [if_neg h]
    have : ¬ n < m := fun q => h ((kn_lt hn hm).mpr q)
    rw [Nat.max_eq_left (by omega)]
theorem kb_z (b : Bool) : kz (kb b) := by cases b
                                          · exact Or.inl rfl
                                          · exact Or.inr rfl
theorem kb_one {b : Bool} : kb b = 1 ↔ b = true := by cases b <;> decide
theorem kb_zero {b : Bool} : kb b = 0 ↔ b = false := by cases b <;> decide
theorem kb_nz {b : Bool} : ¬ kb b = 0 ↔ b = true := by cases b <;> decide
theorem kb_or (a b : Bool) : kb (a || b) = if kb a = 0 then kb b else 1 := by cases a <;> cases b <;> decide
theorem kb_nar (b : Bool) : vp_nar .boolean (kb b) = kb b := by cases b <;> decide +kernel
/-! bits: memory entries turn * 256 + place; the class's hash -/
theorem kn_shr8 {n : Nat} (h : n < 2147483648) : kn n >>> ((8 : Int32) &&& 31) = kn (n / 256) := by
  have hd : n / 256 ≤ n := Nat.div_le_self _ _
  apply Int32.toInt_inj.mp
  have hD : (((8 : Int32) &&& 31).toBitVec.smod 32).toNat = 8 := by decide +kernel
  have e : (kn n >>> ((8 : Int32) &&& 31)).toInt = (kn n).toInt >>> 8 := by
    have := BitVec.toInt_sshiftRight (x := (kn n).toBitVec) (n := (((8 : Int32) &&& 31).toBitVec.smod 32).toNat)
    rw [hD] at this
    exact this
  rw [e, Int.shiftRight_eq_div_pow, kn_ti h, kn_ti (by omega)]
  rfl
theorem kn_and (a b : Nat) : kn a &&& kn b = kn (a &&& b) := by
  apply Int32.toBitVec_inj.1
  show BitVec.ofNat 32 a &&& BitVec.ofNat 32 b = BitVec.ofNat 32 (a &&& b)
  apply BitVec.eq_of_getLsbD_eq
  intro i hi
  simp [hi]
theorem kn_or (a b : Nat) : kn a ||| kn b = kn (a ||| b) := by
  apply Int32.toBitVec_inj.1
  show BitVec.ofNat 32 a ||| BitVec.ofNat 32 b = BitVec.ofNat 32 (a ||| b)
  apply BitVec.eq_of_getLsbD_eq
  intro i hi
  simp [hi]
theorem kn_and255 (n : Nat) : kn n &&& 255 = kn (n % 256) := by
  have h := kn_and n 255
  rw [show (255 : Nat) = 2 ^ 8 - 1 by decide, Nat.and_two_pow_sub_one_eq_mod] at h
  exact h
theorem kn_and63 (n : Nat) : kn n &&& 63 = kn (n % 64) := by
  have h := kn_and n 63
  rw [show (63 : Nat) = 2 ^ 6 - 1 by decide, Nat.and_two_pow_sub_one_eq_mod] at h
  exact h
theorem kn_shl8 {n : Nat} (h : n < 8388608) : kn n <<< ((8 : Int32) &&& 31) = kn (n * 256) := by
  apply Int32.toBitVec_inj.1
  have hD : ((8 : Int32) &&& 31).toBitVec.smod 32 = BitVec.ofNat 32 8 := by decide +kernel
  rw [Int32.toBitVec_shiftLeft, hD]
  apply BitVec.eq_of_toNat_eq
  have hb : (kn n).toBitVec.toNat = n := Nat.mod_eq_of_lt (by omega)
  have hc : (kn (n * 256)).toBitVec.toNat = n * 256 := Nat.mod_eq_of_lt (by omega)
  have hk' : (BitVec.ofNat 32 8).toNat = 8 := rfl
  rw [hc]
  simp only [BitVec.shiftLeft_eq', BitVec.toNat_shiftLeft, hb, hk', Nat.shiftLeft_eq]
  omega
theorem kn_mem {n p : Nat} (h : n < 8388608) (hp : p < 256) : (kn n <<< ((8 : Int32) &&& 31)) ||| kn p = kn (n * 256 + p) := by
  rw [kn_shl8 h, kn_or]
  congr 1
  have := Nat.shiftLeft_add_eq_or_of_lt (i := 8) (b := p) (by omega) n
  rw [Nat.shiftLeft_eq] at this
  exact this.symm
theorem kn_hash (x : Int32) : ∃ h, h < 64 ∧ x &&& 63 = kn h := by
  have e : x = kn x.toBitVec.toNat := by
    apply Int32.toBitVec_inj.1
    show x.toBitVec = BitVec.ofNat 32 x.toBitVec.toNat
    simp
  refine ⟨x.toBitVec.toNat % 64, Nat.mod_lt _ (by decide), ?_⟩
  rw [← kn_and63, ← e]
