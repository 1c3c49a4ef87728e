/-! Long.bitCount: no bit, no count -/
abbrev cx_n64 (x : Int64) : Nat := x.toBitVec.toNat
theorem cx_ush (x : Int64) (y : Int32) (s : Nat) (h : ((y.toInt64.toUInt64 &&& Int64.toUInt64 63).toBitVec % 64).toNat = s) : cx_n64 ((x.toUInt64 >>> (y.toInt64.toUInt64 &&& Int64.toUInt64 63)).toInt64) = cx_n64 x / 2 ^ s := by
  show (x.toUInt64 >>> (y.toInt64.toUInt64 &&& Int64.toUInt64 63)).toBitVec.toNat = _
  rw [UInt64.toBitVec_shiftRight]
  show (x.toUInt64.toBitVec >>> ((y.toInt64.toUInt64 &&& Int64.toUInt64 63).toBitVec % 64).toNat).toNat = _
  rw [h, BitVec.toNat_ushiftRight, Nat.shiftRight_eq_div_pow]
  rfl
theorem cx_nand (x y : Int64) : cx_n64 (x &&& y) = cx_n64 x &&& cx_n64 y := by
  show (x &&& y).toBitVec.toNat = _
  rw [Int64.toBitVec_and, BitVec.toNat_and]
theorem cx_nadd (x y : Int64) (h : cx_n64 x + cx_n64 y < 2 ^ 64) : cx_n64 (x + y) = cx_n64 x + cx_n64 y := by
  show (x + y).toBitVec.toNat = _
  rw [Int64.toBitVec_add, BitVec.toNat_add]
  exact Nat.mod_eq_of_lt h
theorem cx_nsub (x y : Int64) (h : cx_n64 y ≤ cx_n64 x) : cx_n64 (x - y) = cx_n64 x - cx_n64 y := by
  show (x - y).toBitVec.toNat = _
  rw [Int64.toBitVec_sub, BitVec.toNat_sub]
  have h1 : cx_n64 x < 2 ^ 64 := x.toBitVec.isLt
  have h2 : cx_n64 y < 2 ^ 64 := y.toBitVec.isLt
  show (2 ^ 64 - cx_n64 y + cx_n64 x) % 2 ^ 64 = _
  rw [show 2 ^ 64 - cx_n64 y + cx_n64 x = 2 ^ 64 + (cx_n64 x - cx_n64 y) by omega, Nat.add_mod_left]
  exact Nat.mod_eq_of_lt (by omega)
theorem cx_andle (a b : Nat) : a &&& b ≤ b := Nat.and_le_right
theorem cx_pc2 : ∀ (b B : Nat), (∀ j, B / 16 ^ j % 16 ≤ 6) → B < 256 ^ b → (∀ i, i < b → (B + B / 16) / 256 ^ i % 16 = 0) → B = 0 := by
  intro b
  induction b with
  | zero => intro B _ h _; simpa using h
  | succ b ih =>
    intro B hn hB h
    have h0 := h 0 (by omega)
    have n0 := hn 0
    have n1 := hn 1
    rw [Nat.pow_zero, Nat.div_one] at h0 n0
    rw [Nat.pow_one] at n1
    have h0' : (B % 16 + B / 16 % 16) % 16 = 0 := by
      rw [Nat.add_mod] at h0
      exact h0
    have hs : B % 16 = 0 ∧ B / 16 % 16 = 0 := by omega
    have hB2 : B = 256 * (B / 256) := by omega
    have hB3 : B / 16 = 16 * (B / 256) := by omega
    have hlt : B / 256 < 256 ^ b := by
      rw [Nat.pow_succ] at hB
      exact Nat.div_lt_of_lt_mul (by rw [Nat.mul_comm]; exact hB)
    have hz : B / 256 = 0 := by
      refine ih (B / 256) (fun j => ?_) hlt (fun i hi => ?_)
      · have := hn (j + 2)
        rw [Nat.pow_add, Nat.mul_comm, ← Nat.div_div_eq_div_mul] at this
        exact this
      · have := h (i + 1) (by omega)
        rw [Nat.pow_succ, Nat.mul_comm, ← Nat.div_div_eq_div_mul] at this
        have e : (B + B / 16) / 256 = B / 256 + B / 256 / 16 := by
          rw [hB3]
          generalize B / 256 = y at *
          subst hB2
          omega
        rw [e] at this
        exact this
    omega
theorem cx_pc3 : ∀ (j p q : Nat), (∀ i, p / 16 ^ i % 16 ≤ 3) → (∀ i, q / 16 ^ i % 16 ≤ 3) → (p + q) / 16 ^ j % 16 ≤ 6 := by
  intro j
  induction j with
  | zero =>
    intro p q hp hq
    have h0 := hp 0
    have h1 := hq 0
    rw [Nat.pow_zero, Nat.div_one] at h0 h1 ⊢
    omega
  | succ j ih =>
    intro p q hp hq
    have h0 := hp 0
    have h1 := hq 0
    rw [Nat.pow_zero, Nat.div_one] at h0 h1
    have e : (p + q) / 16 = p / 16 + q / 16 := by omega
    rw [Nat.pow_succ, Nat.mul_comm, ← Nat.div_div_eq_div_mul, e]
    refine ih _ _ (fun i => ?_) (fun i => ?_)
    · have := hp (i + 1)
      rw [Nat.pow_succ, Nat.mul_comm, ← Nat.div_div_eq_div_mul] at this
      exact this
    · have := hq (i + 1)
      rw [Nat.pow_succ, Nat.mul_comm, ← Nat.div_div_eq_div_mul] at this
      exact this
theorem cx_anddm (a m i k : Nat) : (a &&& m) / 2 ^ i % 2 ^ k = (a / 2 ^ i % 2 ^ k) &&& (m / 2 ^ i % 2 ^ k) := by
  apply Nat.eq_of_testBit_eq
  intro j
  simp only [Nat.testBit_mod_two_pow, Nat.testBit_div_two_pow, Nat.testBit_and]
  by_cases h : j < k <;> simp [h]
theorem cx_m3n : ∀ j, (3689348814741910323 : Nat) / 16 ^ j % 16 ≤ 3 := by
  intro j
  by_cases h : j < 16
  · exact (by decide +kernel : ∀ j, j < 16 → (3689348814741910323 : Nat) / 16 ^ j % 16 ≤ 3) j h
  · have : (3689348814741910323 : Nat) / 16 ^ j = 0 := Nat.div_eq_of_lt (Nat.lt_of_lt_of_le (by decide : 3689348814741910323 < 16 ^ 16) (Nat.pow_le_pow_right (by decide) (by omega)))
    rw [this]
    decide
theorem cx_m3a (a : Nat) : ∀ j, (a &&& 3689348814741910323) / 16 ^ j % 16 ≤ 3 := by
  intro j
  have e : (16 : Nat) ^ j = 2 ^ (4 * j) := by rw [Nat.pow_mul]
  have h := cx_anddm a 3689348814741910323 (4 * j) 4
  rw [← e, show (2 : Nat) ^ 4 = 16 by decide] at h
  rw [h]
  exact Nat.le_trans (cx_andle _ _) (cx_m3n j)
theorem cx_pc4 {A : Nat} (hA : A < 2 ^ 64) (h1 : A &&& 3689348814741910323 = 0) (h2 : A / 4 &&& 3689348814741910323 = 0) : A = 0 := by
  apply Nat.eq_of_testBit_eq
  intro i
  rw [Nat.zero_testBit]
  by_cases hi : i < 64
  · have hm := (by decide +kernel : ∀ i, i < 64 → ((3689348814741910323 : Nat).testBit i = true ∨ (2 ≤ i ∧ (3689348814741910323 : Nat).testBit (i - 2) = true))) i hi
    rcases hm with hm | ⟨h2i, hm⟩
    · have := congrArg (fun z => z.testBit i) h1
      simp only [Nat.testBit_and, hm, Bool.and_true, Nat.zero_testBit] at this
      exact this
    · have := congrArg (fun z => z.testBit (i - 2)) h2
      rw [show A / 4 = A / 2 ^ 2 by rfl] at this
      simp only [Nat.testBit_and, hm, Bool.and_true, Nat.zero_testBit, Nat.testBit_div_two_pow] at this
      rw [show i - 2 + 2 = i by omega] at this
      exact this
  · exact Nat.testBit_lt_two_pow (Nat.lt_of_lt_of_le hA (Nat.pow_le_pow_right (by decide) (by omega)))
theorem cx_nI64 : cx_n64 (6148914691236517205 : Int64) = 6148914691236517205 ∧ cx_n64 (3689348814741910323 : Int64) = 3689348814741910323 ∧ cx_n64 (1085102592571150095 : Int64) = 1085102592571150095 := by decide +kernel
theorem cx_127 {y : Int32} : (y &&& nI 127) = nI ((y &&& nI 127).toBitVec.toNat) ∧ (y &&& nI 127).toBitVec.toNat = y.toBitVec.toNat % 128 := by
  have h : (y &&& nI 127).toBitVec.toNat = y.toBitVec.toNat % 128 := by
    rw [Int32.toBitVec_and, BitVec.toNat_and, show (nI 127).toBitVec.toNat = 2 ^ 7 - 1 by decide, Nat.and_two_pow_sub_one_eq_mod]
  refine ⟨?_, h⟩
  apply Int32.toBitVec_inj.mp
  apply BitVec.eq_of_toNat_eq
  generalize hz : (y &&& nI 127).toBitVec.toNat = z
  have hz2 : z < 128 := by rw [← hz, h]; exact Nat.mod_lt _ (by decide)
  exact (by decide +kernel : ∀ z, z < 128 → z = (nI z).toBitVec.toNat) z hz2
theorem cx_mf : ∀ i, i < 8 → ∀ v : Nat, (v &&& 1085102592571150095) / 256 ^ i % 256 ≤ 15 ∧ (v &&& 1085102592571150095) / 256 ^ i % 16 = v / 256 ^ i % 16 := by
  intro i hi v
  have e : (256 : Nat) ^ i = 2 ^ (8 * i) := by rw [Nat.pow_mul]
  have h8 := cx_anddm v 1085102592571150095 (8 * i) 8
  have h4 := cx_anddm v 1085102592571150095 (8 * i) 4
  rw [← e] at h8 h4
  have k8 := (by decide +kernel : ∀ i, i < 8 → (1085102592571150095 : Nat) / 256 ^ i % 2 ^ 8 = 15 ∧ (1085102592571150095 : Nat) / 256 ^ i % 2 ^ 4 = 2 ^ 4 - 1) i hi
  rw [k8.1] at h8
  rw [k8.2, Nat.and_two_pow_sub_one_eq_mod, Nat.mod_mod] at h4
  refine ⟨?_, h4⟩
  have h9 : (v &&& 1085102592571150095) / 256 ^ i % 256 = (v / 256 ^ i % 2 ^ 8) &&& 15 := h8
  rw [h9]
  exact cx_andle _ _
theorem cx_half {x : Nat} (h : x ≤ x / 2 ^ 1) : x = 0 := by
  rw [Nat.pow_one] at h
  omega
theorem cx_lt64 {a b : Nat} (h1 : a ≤ 3689348814741910323) (h2 : b ≤ 3689348814741910323) : a + b < 2 ^ 64 := Nat.lt_of_le_of_lt (Nat.add_le_add h1 h2) (by decide)
theorem cx_lt64b {a : Nat} (h1 : a ≤ 7378697629483820646) : a + a / 2 ^ 4 < 2 ^ 64 := Nat.lt_of_le_of_lt (Nat.add_le_add h1 (Nat.le_trans (Nat.div_le_self _ _) h1)) (by decide)
theorem cx_lt64c {c : Nat} (h : c ≤ 1085102592571150095) : c + c / 2 ^ 8 < 2 ^ 64 ∧ (c + c / 256) + (c + c / 256) / 2 ^ 16 < 2 ^ 64 ∧ ((c + c / 256) + (c + c / 256) / 65536) + ((c + c / 256) + (c + c / 256) / 65536) / 2 ^ 32 < 2 ^ 64 := by
  have d1 : c + c / 256 ≤ 2170205185142300190 := Nat.add_le_add h (Nat.le_trans (Nat.div_le_self _ _) h)
  have d2 : (c + c / 256) + (c + c / 256) / 65536 ≤ 4340410370284600380 := Nat.add_le_add d1 (Nat.le_trans (Nat.div_le_self _ _) d1)
  have d3 : ((c + c / 256) + (c + c / 256) / 65536) + ((c + c / 256) + (c + c / 256) / 65536) / 2 ^ 32 ≤ 8680820740569200760 := Nat.add_le_add d2 (Nat.le_trans (Nat.div_le_self _ _) d2)
  exact ⟨Nat.lt_of_le_of_lt d1 (by decide), Nat.lt_of_le_of_lt d2 (by decide), Nat.lt_of_le_of_lt d3 (by decide)⟩
