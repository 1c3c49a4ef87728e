/-- the sum of the bytes -/
theorem cx_dig (C i : Nat) : C / 256 ^ i = C / 256 ^ i % 256 + 256 * (C / 256 ^ (i + 1)) := by
  have h := (Nat.mod_add_div (C / 256 ^ i) 256).symm
  rw [Nat.div_div_eq_div_mul, ← Nat.pow_succ] at h
  exact h
theorem cx_pcA {a b c x y z w : Nat} (ha : a ≤ 15) (hb : b ≤ 15) (hc : c ≤ 15) (e0 : x = a + 256 * y) (e1 : y = b + 256 * z) (e2 : z = c + 256 * w) : (x + y) / 65536 = z + w := by
  have e : x + y = (a + b + 256 * (b + c)) + 65536 * (z + w) := by omega
  rw [e, Nat.add_mul_div_left _ _ (by decide), Nat.div_eq_of_lt (by omega), Nat.zero_add]
theorem cx_pcB {a b c d x y z w v : Nat} (e0 : x = a + 256 * y) (e1 : y = b + 256 * z) (e2 : z = c + 256 * w) (e3 : w = d + 256 * v) : x = (a + 256 * b + 65536 * c + 16777216 * d) + 4294967296 * v := by omega
theorem cx_pcC {a0 a1 a2 a3 c0 c1 c2 c3 c4 c5 c6 x0 x1 x2 x3 x4 x5 x6 x7 : Nat} (h0 : c0 ≤ 15) (h1 : c1 ≤ 15) (h2 : c2 ≤ 15) (h3 : c3 ≤ 15) (h4 : c4 ≤ 15) (h5 : c5 ≤ 15) (h6 : c6 ≤ 15)
    (p0 : x0 = (c0 + 256 * c1 + 65536 * c2 + 16777216 * c3) + 4294967296 * x4) (p1 : x1 = (c1 + 256 * c2 + 65536 * c3 + 16777216 * c4) + 4294967296 * x5) (p2 : x2 = (c2 + 256 * c3 + 65536 * c4 + 16777216 * c5) + 4294967296 * x6) (p3 : x3 = (c3 + 256 * c4 + 65536 * c5 + 16777216 * c6) + 4294967296 * x7) : (x0 + x1 + (x2 + x3)) / 4294967296 = x4 + x5 + x6 + x7 := by
  have e : x0 + x1 + (x2 + x3) = ((c0 + c1 + c2 + c3) + 256 * (c1 + c2 + c3 + c4) + 65536 * (c2 + c3 + c4 + c5) + 16777216 * (c3 + c4 + c5 + c6)) + 4294967296 * (x4 + x5 + x6 + x7) := by
    rw [p0, p1, p2, p3]
    simp only [Nat.mul_add]
    ac_rfl
  rw [e, Nat.add_mul_div_left _ _ (by decide), Nat.div_eq_of_lt (by omega), Nat.zero_add]
theorem cx_pcD {c0 c1 c2 c3 c4 c5 c6 c7 x0 x1 x2 x3 x4 x5 x6 x7 : Nat} (h0 : c0 ≤ 15) (h1 : c1 ≤ 15) (h2 : c2 ≤ 15) (h3 : c3 ≤ 15) (h4 : c4 ≤ 15) (h5 : c5 ≤ 15) (h6 : c6 ≤ 15) (h7 : c7 ≤ 15)
    (e0 : x0 = c0 + 256 * x1) (e1 : x1 = c1 + 256 * x2) (e2 : x2 = c2 + 256 * x3) (e3 : x3 = c3 + 256 * x4) (e4 : x4 = c4 + 256 * x5) (e5 : x5 = c5 + 256 * x6) (e6 : x6 = c6 + 256 * x7) (e7 : x7 = c7) (h : (x0 + x1 + (x2 + x3) + (x4 + x5 + x6 + x7)) % 128 = 0) : x0 = 0 := by
  have e : x0 + x1 + (x2 + x3) + (x4 + x5 + x6 + x7) = (c0 + c1 + c2 + c3 + c4 + c5 + c6 + c7) + 128 * (2 * (x1 + x2 + x3 + x4 + x5 + x6 + x7)) := by
    have e' : x0 + x1 + (x2 + x3) + (x4 + x5 + x6 + x7) = (c0 + 256 * x1) + (c1 + 256 * x2) + ((c2 + 256 * x3) + (c3 + 256 * x4)) + ((c4 + 256 * x5) + (c5 + 256 * x6) + (c6 + 256 * x7) + c7) := by
      rw [← e0, ← e1, ← e2, ← e3, ← e4, ← e5, ← e6, ← e7]
    rw [e']
    omega
  rw [e, Nat.add_mul_mod_self_left, Nat.mod_eq_of_lt (by omega)] at h
  have z : c0 = 0 ∧ c1 = 0 ∧ c2 = 0 ∧ c3 = 0 ∧ c4 = 0 ∧ c5 = 0 ∧ c6 = 0 ∧ c7 = 0 := by omega
  obtain ⟨z0, z1, z2, z3, z4, z5, z6, z7⟩ := z
  rw [e0, e1, e2, e3, e4, e5, e6, e7, z0, z1, z2, z3, z4, z5, z6, z7]
theorem cx_pc1 {C : Nat} (hb : ∀ i, i < 8 → C / 256 ^ i % 256 ≤ 15) (hC : C < 2 ^ 64) (h : (C + C / 256 + (C + C / 256) / 65536 + (C + C / 256 + (C + C / 256) / 65536) / 4294967296) % 128 = 0) : C = 0 := by
  have b0 := hb 0 (by decide)
  have b1 := hb 1 (by decide)
  have b2 := hb 2 (by decide)
  have b3 := hb 3 (by decide)
  have b4 := hb 4 (by decide)
  have b5 := hb 5 (by decide)
  have b6 := hb 6 (by decide)
  have b7 := hb 7 (by decide)
  have d0 := cx_dig C 0
  have d1 := cx_dig C 1
  have d2 := cx_dig C 2
  have d3 := cx_dig C 3
  have d4 := cx_dig C 4
  have d5 := cx_dig C 5
  have d6 := cx_dig C 6
  have d7 := cx_dig C 7
  have d8 : C / 256 ^ (7 + 1) = 0 := Nat.div_eq_of_lt (Nat.lt_of_lt_of_le hC (by decide))
  rw [d8, Nat.mul_zero, Nat.add_zero] at d7
  have g0 : C / 256 ^ 0 = C := by rw [Nat.pow_zero, Nat.div_one]
  have g1 : C / 256 ^ 1 = C / 256 := by rw [Nat.pow_one]
  rw [← g1] at h
  generalize C / 256 ^ 0 % 256 = c0 at *
  generalize C / 256 ^ 1 % 256 = c1 at *
  generalize C / 256 ^ 2 % 256 = c2 at *
  generalize C / 256 ^ 3 % 256 = c3 at *
  generalize C / 256 ^ 4 % 256 = c4 at *
  generalize C / 256 ^ 5 % 256 = c5 at *
  generalize C / 256 ^ 6 % 256 = c6 at *
  generalize C / 256 ^ 7 % 256 = c7 at *
  rw [g0] at d0
  change C = c0 + 256 * (C / 256 ^ 1) at d0
  change C / 256 ^ 1 = c1 + 256 * (C / 256 ^ 2) at d1
  change C / 256 ^ 2 = c2 + 256 * (C / 256 ^ 3) at d2
  change C / 256 ^ 3 = c3 + 256 * (C / 256 ^ 4) at d3
  change C / 256 ^ 4 = c4 + 256 * (C / 256 ^ 5) at d4
  change C / 256 ^ 5 = c5 + 256 * (C / 256 ^ 6) at d5
  change C / 256 ^ 6 = c6 + 256 * (C / 256 ^ 7) at d6
  generalize C / 256 ^ 1 = x1 at *
  generalize C / 256 ^ 2 = x2 at *
  generalize C / 256 ^ 3 = x3 at *
  generalize C / 256 ^ 4 = x4 at *
  generalize C / 256 ^ 5 = x5 at *
  generalize C / 256 ^ 6 = x6 at *
  generalize C / 256 ^ 7 = x7 at *
  rw [cx_pcA b0 b1 b2 d0 d1 d2, cx_pcC (a0 := 0) (a1 := 0) (a2 := 0) (a3 := 0) b0 b1 b2 b3 b4 b5 b6 (cx_pcB d0 d1 d2 d3) (cx_pcB d1 d2 d3 d4) (cx_pcB d2 d3 d4 d5) (cx_pcB d3 d4 d5 d6)] at h
  exact cx_pcD b0 b1 b2 b3 b4 b5 b6 b7 d0 d1 d2 d3 d4 d5 d6 d7 h
