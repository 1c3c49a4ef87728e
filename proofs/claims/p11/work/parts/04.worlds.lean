/-- the cells of a ClassRules: its parts, then its arrays -/
def cxW (q : Nat → Nat) (cI cJ : ClassId) (n : Nat) (T : Nat → Nat → Int32) (k : Nat) (M : Nat → Nat → Int32) (d : Nat) (C J : Nat → Nat → Int32) (g : Nat → Int64) : va_W := [(q 0, .inr (6, [.ref (q 1), .ref (q 2), .ref (q 3), .ref (q 4)])), (q 1, .inr (5, [.ref (q 7), .ref (q 8), .ref (q 9), .ref (q 10), .ref (q 11), .ref (q 12), .ref (q 13), .ref (q 14), .ref (q 15), .ref (q 16), .ref (q 17), .int (nI n)])), (q 2, .inr (3, [.ref (q 1), .ref (q 18), .ref (q 19), .ref (q 20), .ref (q 21), .ref (q 22), .ref (q 23), .int (nI k)])), (q 3, .inr (0, [.ref (q 1), .ref (q 2), .ref (q 24), .ref (q 25), .ref (q 26), .int (nI d), .int (C 4 0)])), (q 4, .inr (1, [.ref (q 1), .ref (q 2), .ref (q 3), .ref (q 5), .ref (q 6), .ref (q 27), .ref (q 28), .int (J 1 0), .int (J 2 0)])), (q 5, .inr (4, [.ref (q 1)])), (q 6, .inr (2, [.ref (q 1), .ref (q 2)])), (q 7, .inl (cI, 20, .inl (T 0))), (q 8, .inl (cI, 20, .inl (T 1))), (q 9, .inl (cI, 20, .inl (T 2))), (q 10, .inl (cI, 20, .inl (T 3))), (q 11, .inl (cI, 20, .inl (T 4))), (q 12, .inl (cI, 20, .inl (T 5))), (q 13, .inl (cI, 20, .inl (T 6))), (q 14, .inl (cI, 20, .inl (T 7))), (q 15, .inl (cI, 20, .inl (T 8))), (q 16, .inl (cI, 20, .inl (T 9))), (q 17, .inl (cI, 20, .inl (T 10))), (q 18, .inl (cI, 80, .inl (M 0))), (q 19, .inl (cI, 80, .inl (M 1))), (q 20, .inl (cI, 80, .inl (M 2))), (q 21, .inl (cI, 80, .inl (M 3))), (q 22, .inl (cI, 80, .inl (M 4))), (q 23, .inl (cI, 80, .inl (M 5))), (q 24, .inl (cI, 20, .inl (C 0))), (q 25, .inl (cI, 20, .inl (C 1))), (q 26, .inl (cI, 20, .inl (C 2))), (q 27, .inl (cJ, 36, .inr (.inl g))), (q 28, .inl (cI, 20, .inl (J 0)))]
/-- the cells of a ClassRulesModel -/
def cyW (q : Nat → Nat) (cI cZ : ClassId) (n : Nat) (T : Nat → Nat → Int32) (k : Nat) (M : Nat → Nat → Int32) (d : Nat) (Z F : Nat → Nat → Int32) : va_W := [(q 0, .inr (7, [.int (nI n), .ref (q 1), .ref (q 2), .ref (q 3), .ref (q 4), .ref (q 5), .ref (q 6), .ref (q 7), .ref (q 8), .int (nI k), .ref (q 9), .ref (q 10), .ref (q 11), .ref (q 12), .ref (q 13), .ref (q 14), .ref (q 15), .int (Z 3 0), .ref (q 16), .ref (q 17), .int (nI d), .ref (q 18)])), (q 1, .inl (cI, 20, .inl (T 0))), (q 2, .inl (cI, 20, .inl (T 1))), (q 3, .inl (cI, 20, .inl (T 2))), (q 4, .inl (cI, 20, .inl (T 3))), (q 5, .inl (cI, 60, .inl (T 4))), (q 6, .inl (cI, 20, .inl (T 5))), (q 7, .inl (cI, 60, .inl (T 6))), (q 8, .inl (cI, 20, .inl (T 7))), (q 9, .inl (cI, 80, .inl (M 0))), (q 10, .inl (cI, 80, .inl (M 1))), (q 11, .inl (cI, 80, .inl (M 2))), (q 12, .inl (cI, 80, .inl (M 3))), (q 13, .inl (cI, 80, .inl (M 4))), (q 14, .inl (cI, 80, .inl (M 5))), (q 15, .inl (cZ, 400, .inl (Z 0))), (q 16, .inl (cZ, 1600, .inl (Z 1))), (q 17, .inl (cI, 20, .inl (F 0))), (q 18, .inl (cZ, 6400, .inl (Z 2)))]
def cx_NW : List Cond := [.fieldLinkNest RX0 36 "ClassRules$Types" "kinds" "[I" "ClassRules", .fieldLinkNest RX4 38 "ClassRules$Types" "kinds" "[I" "ClassRules", .fieldLinkNest RX2 54 "ClassRules$Types" "kinds" "[I" "ClassRules", .fieldLinkNest RX3 42 "ClassRules$Types" "kinds" "[I" "ClassRules", .fieldLinkNest RX1 167 "ClassRules$Types" "kinds" "[I" "ClassRules", .fieldLinkNest RX6 107 "ClassRules$Types" "kinds" "[I" "ClassRules", .fieldLinkNest RX4 50 "ClassRules$Types" "marks" "[I" "ClassRules", .fieldLinkNest RX3 64 "ClassRules$Types" "packs" "[I" "ClassRules", .fieldLinkNest RX4 35 "ClassRules$Types" "parentSets" "[I" "ClassRules", .fieldLinkNest RX4 44 "ClassRules$Types" "uppers" "[I" "ClassRules", .fieldLinkNest RX4 69 "ClassRules$Types" "uppersTwice" "[I" "ClassRules", .fieldLinkNest RX6 62 "ClassRules$Types" "uppersTold" "[I" "ClassRules", .fieldLinkNest RX4 21 "ClassRules$Types" "permitted" "[I" "ClassRules", .fieldLinkNest RX6 70 "ClassRules$Types" "permittedTold" "[I" "ClassRules", .fieldLinkNest RX4 29 "ClassRules$Types" "above" "[I" "ClassRules", .fieldLinkNest RX0 71 "ClassRules$Types" "above" "[I" "ClassRules", .fieldLinkNest RX3 55 "ClassRules$Types" "above" "[I" "ClassRules", .fieldLinkNest RX6 47 "ClassRules$Types" "count" "I" "ClassRules", .fieldLinkNest RX4 62 "ClassRules$Types" "count" "I" "ClassRules", .fieldLinkNest RX2 19 "ClassRules$Members" "owners" "[I" "ClassRules", .fieldLinkNest RX0 46 "ClassRules$Members" "owners" "[I" "ClassRules", .fieldLinkNest RX1 134 "ClassRules$Members" "owners" "[I" "ClassRules", .fieldLinkNest RX1 176 "ClassRules$Members" "names" "[I" "ClassRules", .fieldLinkNest RX1 179 "ClassRules$Members" "params" "[I" "ClassRules", .fieldLinkNest RX2 45 "ClassRules$Members" "marks" "[I" "ClassRules", .fieldLinkNest RX2 39 "ClassRules$Members" "accesses" "[I" "ClassRules", .fieldLinkNest RX0 84 "ClassRules$Members" "accesses" "[I" "ClassRules", .fieldLinkNest RX1 146 "ClassRules$Members" "accesses" "[I" "ClassRules", .fieldLinkNest RX1 161 "ClassRules$Members" "results" "[I" "ClassRules", .fieldLinkNest RX0 41 "ClassRules$Members" "count" "I" "ClassRules", .fieldLinkNest RX6 76 "ClassRules$Members" "count" "I" "ClassRules", .fieldLinkNest RX1 129 "ClassRules$Members" "count" "I" "ClassRules", .methodLinkNest RX6 11 yX5_init "ClassRules", .methodLinkNest RX5 49 yX6_bit "ClassRules", .methodLinkNest RX5 63 yX6_holds "ClassRules", .methodLinkNest RX1 56 yX6_holds "ClassRules", .methodLinkNest RX4 32 yX6_bit "ClassRules", .methodLinkNest RX4 66 yX6_holds "ClassRules", .methodLinkNest RX3 58 yX6_holds "ClassRules", .methodLinkNest RX0 68 yX6_bit "ClassRules", .methodLinkNest RX0 74 yX6_holds "ClassRules", .methodLinkNest RX1 68 yX6_bit "ClassRules"]
theorem cx_NW_ok : cx_NW.all cx_isN = true := by decide +kernel
/-- what type() asks of its numbers -/
def cx_okT (kd mk pk pr : Int32) : Prop := (0 ≤ kd ∧ kd < nI 4) ∧ (0 ≤ mk ∧ mk < nI 16) ∧ (0 ≤ pk ∧ pk < nI 4) ∧ (pr = -1 ∨ (0 ≤ pr ∧ pr < nI 20))
theorem cx_no0 {n : Nat} {t : Int32} (h : n = 0) (z : 0 ≤ t ∧ t < nI n) : False := by
  subst h
  rw [nI_0] at z
  exact absurd z.2 (Int32.not_lt.mpr z.1)
theorem cx_bc {P Q : Prop} [Decidable P] [Decidable Q] (h : P ↔ Q) : cx_b P = cx_b Q := by
  by_cases p : P
  · rw [cx_b, cx_b, if_pos p, if_pos (h.mp p)]
  · rw [cx_b, cx_b, if_neg p, if_neg (fun q => p (h.mpr q))]
theorem cx_leL (x : Int32) (a : Nat) (h : a < 2 ^ 30) : x ≤ nI a ↔ x < nI (a + 1) := by
  rw [Int32.le_iff_toInt_le, Int32.lt_iff_toInt_lt, nI_toInt (by omega), nI_toInt (by omega)]
  omega
theorem cx_m1 (n : Nat) (h : n < 2 ^ 30) (t : Int32) : (0 ≤ t ∧ t ≤ nI n - 1) ↔ (0 ≤ t ∧ t < nI n) := by
  cases n with
  | zero =>
    rw [nI_0]
    constructor
    · intro z
      exact absurd (Int32.le_trans z.1 z.2) (by decide)
    · intro z
      exact absurd z.2 (Int32.not_lt.mpr z.1)
  | succ n =>
    rw [nI_pred, cx_leL t n (by omega)]
theorem cx_le3 (x : Int32) : x ≤ nI 3 ↔ x < nI 4 := cx_leL x 3 (by decide)
theorem cx_le15 (x : Int32) : x ≤ nI 15 ↔ x < nI 16 := cx_leL x 15 (by decide)
theorem cx_le19 (x : Int32) : x ≤ nI 19 ↔ x < nI 20 := cx_leL x 19 (by decide)
theorem cx_pr (x : Int32) : (-1 ≤ x ∧ x ≤ nI 19) ↔ (x = -1 ∨ (0 ≤ x ∧ x < nI 20)) := by
  rw [cx_le19]
  constructor
  · intro z
    by_cases h : x = -1
    · exact Or.inl h
    · refine Or.inr ⟨?_, z.2⟩
      have h1 := Int32.le_iff_toInt_le.mp z.1
      rw [Int32.le_iff_toInt_le]
      have h2 : x.toInt ≠ (-1 : Int32).toInt := fun e => h (Int32.toInt_inj.mp e)
      have e1 : (-1 : Int32).toInt = -1 := by decide
      have e0 : (0 : Int32).toInt = 0 := by decide
      rw [e1] at h1 h2
      rw [e0]
      omega
  · intro z
    rcases z with rfl | z
    · exact ⟨Int32.le_refl _, by decide⟩
    · exact ⟨Int32.le_trans (by decide) z.1, z.2⟩
