theorem cx_bcL {x a b c d e f : Int64} (ha : a = x - (((x.toUInt64 >>> ((1 : Int32).toInt64.toUInt64 &&& Int64.toUInt64 63)).toInt64) &&& (6148914691236517205 : Int64)))
    (hb : b = (a &&& (3689348814741910323 : Int64)) + (((a.toUInt64 >>> ((nI 2).toInt64.toUInt64 &&& Int64.toUInt64 63)).toInt64) &&& (3689348814741910323 : Int64)))
    (hc : c = (b + ((b.toUInt64 >>> ((nI 4).toInt64.toUInt64 &&& Int64.toUInt64 63)).toInt64)) &&& (1085102592571150095 : Int64))
    (hd : d = c + ((c.toUInt64 >>> ((nI 8).toInt64.toUInt64 &&& Int64.toUInt64 63)).toInt64))
    (he : e = d + ((d.toUInt64 >>> ((nI 16).toInt64.toUInt64 &&& Int64.toUInt64 63)).toInt64))
    (hf : f = e + ((e.toUInt64 >>> ((nI 32).toInt64.toUInt64 &&& Int64.toUInt64 63)).toInt64)) : cx_cnt (f.toInt32 &&& nI 127) 127 (¬ x = 0) := by
  obtain ⟨k5, k3, kf⟩ := cx_nI64
  have h127 := cx_127 (y := f.toInt32)
  have e32 : f.toInt32.toBitVec.toNat = cx_n64 f % 2 ^ 32 := by
    rw [Int64.toBitVec_toInt32]
    first
      | rw [BitVec.signExtend_eq_setWidth_of_le _ (by decide), BitVec.toNat_setWidth]
      | rw [BitVec.signExtend_eq_setWidth_of_lt _ (by decide), BitVec.toNat_setWidth]
      | rw [BitVec.toNat_setWidth]
      | simp [BitVec.signExtend, BitVec.toNat_setWidth]
  have s1 := cx_ush x 1 1 (by decide +kernel)
  have s2 := cx_ush a (nI 2) 2 (by decide +kernel)
  have s4 := cx_ush b (nI 4) 4 (by decide +kernel)
  have s8 := cx_ush c (nI 8) 8 (by decide +kernel)
  have s16 := cx_ush d (nI 16) 16 (by decide +kernel)
  have s32 := cx_ush e (nI 32) 32 (by decide +kernel)
  have xa : cx_n64 x < 2 ^ 64 := x.toBitVec.isLt
  have aa : cx_n64 a < 2 ^ 64 := a.toBitVec.isLt
  have hA : cx_n64 a = cx_n64 x - (cx_n64 x / 2 ^ 1 &&& 6148914691236517205) := by
    have hle : cx_n64 (((x.toUInt64 >>> ((1 : Int32).toInt64.toUInt64 &&& Int64.toUInt64 63)).toInt64) &&& (6148914691236517205 : Int64)) ≤ cx_n64 x := by
      rw [cx_nand, s1, k5]
      exact Nat.le_trans Nat.and_le_left (Nat.div_le_self _ _)
    rw [ha, cx_nsub _ _ hle, cx_nand, s1, k5]
  have hB : cx_n64 b = (cx_n64 a &&& 3689348814741910323) + (cx_n64 a / 2 ^ 2 &&& 3689348814741910323) := by
    have u1 := cx_andle (cx_n64 a) 3689348814741910323
    have u2 := cx_andle (cx_n64 a / 2 ^ 2) 3689348814741910323
    have u3 : cx_n64 (a &&& (3689348814741910323 : Int64)) = cx_n64 a &&& 3689348814741910323 := by rw [cx_nand, k3]
    have u4 : cx_n64 (((a.toUInt64 >>> ((nI 2).toInt64.toUInt64 &&& Int64.toUInt64 63)).toInt64) &&& (3689348814741910323 : Int64)) = cx_n64 a / 2 ^ 2 &&& 3689348814741910323 := by rw [cx_nand, s2, k3]
    rw [hb, cx_nadd _ _ (by rw [u3, u4]; exact cx_lt64 u1 u2), u3, u4]
  have hBle : cx_n64 b ≤ 7378697629483820646 := by
    have u1 := cx_andle (cx_n64 a) 3689348814741910323
    have u2 := cx_andle (cx_n64 a / 2 ^ 2) 3689348814741910323
    rw [hB]
    exact Nat.add_le_add u1 u2
  have hC : cx_n64 c = (cx_n64 b + cx_n64 b / 2 ^ 4) &&& 1085102592571150095 := by
    rw [hc, cx_nand, kf, cx_nadd _ _ (by rw [s4]; exact cx_lt64b hBle), s4]
  have hCle : cx_n64 c ≤ 1085102592571150095 := by rw [hC]; exact cx_andle _ _
  obtain ⟨hl1, hl2, hl3⟩ := cx_lt64c hCle
  have hD : cx_n64 d = cx_n64 c + cx_n64 c / 256 := by
    rw [hd, cx_nadd _ _ (by rw [s8]; exact hl1), s8]
  have hE : cx_n64 e = cx_n64 d + cx_n64 d / 65536 := by
    rw [he, cx_nadd _ _ (by rw [s16, hD]; exact hl2), s16]
  have hF : cx_n64 f = cx_n64 e + cx_n64 e / 4294967296 := by
    rw [hf, cx_nadd _ _ (by rw [s32, hE, hD]; exact hl3), s32]
  have hz0 : (f.toInt32 &&& nI 127).toBitVec.toNat = cx_n64 f % 128 := by
    rw [h127.2, e32]
    exact Nat.mod_mod_of_dvd _ (by decide)
  refine ⟨_, h127.1, by rw [hz0]; exact Nat.le_of_lt_succ (Nat.mod_lt _ (by decide)), ?_⟩
  rw [hz0]
  constructor
  · intro h0 hx
    apply h0
    have x0 : cx_n64 x = 0 := by rw [hx]; rfl
    have a0 : cx_n64 a = 0 := by rw [hA, x0]; exact Nat.zero_sub _
    have b0 : cx_n64 b = 0 := by rw [hB, a0, Nat.zero_div, Nat.zero_and]
    have c0 : cx_n64 c = 0 := by rw [hC, b0, Nat.zero_div, Nat.zero_and]
    rw [hF, hE, hD, c0]
  · intro hx hz
    apply hx
    have hc0 : cx_n64 c = 0 := by
      refine cx_pc1 (fun i hi => by rw [hC]; exact (cx_mf i hi _).1) (Nat.lt_of_le_of_lt hCle (by decide)) ?_
      rw [← hD, ← hE, ← hF]
      exact hz
    have hb0 : cx_n64 b = 0 := by
      refine cx_pc2 8 _ (fun j => ?_) (Nat.lt_of_le_of_lt hBle (by decide)) (fun i hi => ?_)
      · rw [hB]
        exact cx_pc3 j _ _ (cx_m3a _) (cx_m3a _)
      · rw [hC] at hc0
        have := (cx_mf i hi (cx_n64 b + cx_n64 b / 2 ^ 4)).2
        rw [hc0, Nat.zero_div, Nat.zero_mod] at this
        exact this.symm
    have ha0 : cx_n64 a = 0 := by
      rw [hB] at hb0
      exact cx_pc4 aa (Nat.eq_zero_of_add_eq_zero_right hb0) (Nat.eq_zero_of_add_eq_zero_left hb0)
    have hx0 : cx_n64 x = 0 := by
      rw [hA] at ha0
      have h1 : cx_n64 x / 2 ^ 1 &&& 6148914691236517205 ≤ cx_n64 x / 2 ^ 1 := Nat.and_le_left
      have h2 := Nat.le_of_sub_eq_zero ha0
      exact cx_half (Nat.le_trans h2 h1)
    apply Int64.toBitVec_inj.mp
    exact BitVec.eq_of_toNat_eq hx0
