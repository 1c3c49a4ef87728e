/-- at the first call both are as they were made; behind it nothing is asked any more -/
def lw_I (i : Nat) (n : Nat) (T : Nat → Nat → Int32) (k : Nat) (M C J : Nat → Nat → Int32) (g : Nat → Int64) (na : Nat) (Ta : Nat → Nat → Int32) (ka : Nat) (Ma Za Fa : Nat → Nat → Int32) : Prop := i = 7 ∨ (i = 0 ∧ n = 0 ∧ k = 0 ∧ na = 0 ∧ ka = 0)
set_option maxHeartbeats 4000000 in
set_option maxRecDepth 100000 in
theorem law_loop {p : Program} {l : Launch} {e : Env} {s : State} {m : MethodId} {below : List Frame} {meth : Method} {c : Code} {D : va_G} {b L : Nat} {xs : Nat → Int32} {A : Nat → Prop} (hAA : ∀ q, A q → s.heap.size ≤ q) (hbA : ¬ A b) (hL : L ≤ 7) (hx : p.tables.exec = Jvm.exec) (hb : c.code = code) (hr : meth.sig.returnType = ret) (hml : c.maxLocals = 4) (hown : s.vm.findClass RL = some m.cls) (hts : ∀ w ∈ wsL_law, w.before #[Value.ref b] s = true) (hX : va_X b L xs s s.heap) (hbl : b < s.heap.size) (hlocks : meth.locks = false) {cI cJ cZ : ClassId} (hE : cx_E D vwCl [(cI, .int), (cJ, .long), (cZ, .boolean)] cx_NW A s) (qx qm : Nat → Nat) :
    ∀ (N i : Nat) (n : Nat) (T : Nat → Nat → Int32) (k : Nat) (M : Nat → Nat → Int32) (C : Nat → Nat → Int32) (J : Nat → Nat → Int32) (g : Nat → Int64) (na : Nat) (Ta : Nat → Nat → Int32) (ka : Nat) (Ma : Nat → Nat → Int32) (Za : Nat → Nat → Int32) (Fa : Nat → Nat → Int32) (H : Heap) (locs : List Loc) (ls : Array Slot), L + 7 - i < N → i ≤ L → lw_I i n T k M C J g na Ta ka Ma Za Fa → cx_S D vwCl A s ((cxW qx cI cJ n T k M C J g) ++ (cyW qm cI cZ na Ta ka Ma Za Fa)) H locs → lv_has ls 4 [(0, .ref b), (1, .ref (qx 0)), (2, .ref (qm 0)), (3, .int (nI i))] → W p l e room_1 s m #[Value.ref b] below meth c H locs 48 10021 (lw_Z below #[Value.ref b] s) (F0 m 18 ls []) := by
  intro N
  induction N with
  | zero => intro i n T k M C J g na Ta ka Ma Za Fa H locs ls hN; exact absurd hN (by omega)
  | succ N ih =>
    intro i n T k M C J g na Ta ka Ma Za Fa H locs ls hN hi hI hS hl
    refine lv_iload_n hx hb dL_law_18 rfl (lv_at hl 3 rfl) ?_
    refine lv_aload_n hx hb dL_law_19 rfl (lv_at hl 0 rfl) ?_
    refine va_slen hx hb hX hbl hbA hS.2.2 dL_law_20 ?_
    refine lv_bipush (v := nI 7) hx hb dL_law_21 (by decide) ?_
    refine lv_isub hx hb dL_law_23 ?_
    refine lv_icmp_gt (tgt := 523) hx hb dL_law_24 (by decide) (fun h24 => ?_) (fun h24 => ?_)
    · refine lv_iconst (v := 1) hx hb dL_law_523 (by decide) ?_
      refine va_forget (fun q hq => hAA _ (hS.2.2.2.2 q hq)) ?_
      refine W.widen (k := 48) (n := 10021) (Nat.le_refl _) (Nat.le_refl _) ?_
      exact lw_ret hx hb hr hlocks dL_law_524
    · skip
      have h7 : i + 7 ≤ L := cx_law7 (by omega) (by omega) h24
      have hi0 : i = 0 := by omega
      obtain ⟨-, hn0, hk0, hna0, hka0⟩ := hI.resolve_left (by omega)
      have hI7 : i + 7 = 7 := by omega
      refine lv_aload_n hx hb dL_law_27 rfl (lv_at hl 0 rfl) ?_
      refine lv_iload_n hx hb dL_law_28 rfl (lv_at hl 3 rfl) ?_
      refine cx_sld (k := i) hx hb hX hbl hbA hS (by omega) (by omega) dL_law_29 ?_
      refine lv_bipush (v := nI 15) hx hb dL_law_30 (by decide) ?_
      refine lv_iand hx hb dL_law_32 ?_
      obtain ⟨j, hj, ej⟩ := pk_andE (xs i) (m := nI 15) 4 (by decide)
      rw [ej]
      by_cases hjn : 11 ≤ j
      · refine lv_tableOut (tgt := 517) hx hb dL_law_33 (Or.inr (by rw [nI_toInt (by omega)]; omega)) (by decide) ?_
        refine lv_iinc (v := nI (i + 7)) (lv' := [(3, .int (nI (i + 7))), (0, .ref b), (1, .ref (qx 0)), (2, .ref (qm 0))]) hx hb dL_law_517 hl (k := 3) rfl (nI_add i 7) (by decide) rfl (fun ls hl => ?_)
        refine lv_goto (tgt := 18) hx hb dL_law_520 (by decide) ?_
        exact ih (i + 7) n T k M C J g na Ta ka Ma Za Fa _ _ _ (by omega) (by omega) (Or.inl hI7) hS (lv_sub hl [1, 2, 3, 0] rfl)
      · have hjl : j < 11 := by omega
        rcases (show j = 0 ∨ j = 1 ∨ j = 2 ∨ j = 3 ∨ j = 4 ∨ j = 5 ∨ j = 6 ∨ j = 7 ∨ j = 8 ∨ j = 9 ∨ j = 10 by omega) with rfl | rfl | rfl | rfl | rfl | rfl | rfl | rfl | rfl | rfl | rfl
        · refine lv_tableIn (off := 59) (tgt := 92) hx hb dL_law_33 (by decide) (by decide) (by decide) (by decide) ?_
          refine lv_aload_n hx hb dL_law_92 rfl (lv_at hl 1 rfl) ?_
          refine lv_aload_n hx hb dL_law_93 rfl (lv_at hl 0 rfl) ?_
          refine lv_iload_n hx hb dL_law_94 rfl (lv_at hl 3 rfl) ?_
          refine lv_iconst (v := (1 : Int32)) hx hb dL_law_95 (by decide) ?_
          refine lv_iadd hx hb dL_law_96 ?_
          refine cx_topr (z := nI (i + 1)) (nI_1 _) ?_
          refine cx_sld (k := i + 1) hx hb hX hbl hbA hS (by omega) (by omega) dL_law_97 ?_
          refine lv_aload_n hx hb dL_law_98 rfl (lv_at hl 0 rfl) ?_
          refine lv_iload_n hx hb dL_law_99 rfl (lv_at hl 3 rfl) ?_
          refine lv_iconst (v := nI 2) hx hb dL_law_100 (by decide) ?_
          refine lv_iadd hx hb dL_law_101 ?_
          refine cx_topr (z := nI (i + 2)) (nI_add _ _) ?_
          refine cx_sld (k := i + 2) hx hb hX hbl hbA hS (by omega) (by omega) dL_law_102 ?_
          refine lv_aload_n hx hb dL_law_103 rfl (lv_at hl 0 rfl) ?_
          refine lv_iload_n hx hb dL_law_104 rfl (lv_at hl 3 rfl) ?_
          refine lv_iconst (v := nI 3) hx hb dL_law_105 (by decide) ?_
          refine lv_iadd hx hb dL_law_106 ?_
          refine cx_topr (z := nI (i + 3)) (nI_add _ _) ?_
          refine cx_sld (k := i + 3) hx hb hX hbl hbA hS (by omega) (by omega) dL_law_107 ?_
          refine lv_aload_n hx hb dL_law_108 rfl (lv_at hl 0 rfl) ?_
          refine lv_iload_n hx hb dL_law_109 rfl (lv_at hl 3 rfl) ?_
          refine lv_iconst (v := nI 4) hx hb dL_law_110 (by decide) ?_
          refine lv_iadd hx hb dL_law_111 ?_
          refine cx_topr (z := nI (i + 4)) (nI_add _ _) ?_
          refine cx_sld (k := i + 4) hx hb hX hbl hbA hS (by omega) (by omega) dL_law_112 ?_
          refine cx_lVi (As := [.int (xs (i + 1)), .int (xs (i + 2)), .int (xs (i + 3)), .int (xs (i + 4))]) (rest := []) (wr := (cyW qm cI cZ na Ta ka Ma Za Fa)) ⟨hx, hb, hml, hown, hts⟩ hE hS [0, 1, 2, 3, 4, 5, 6, 7, 8, 9, 10, 11, 12, 13, 14, 15, 16, 17, 18, 19, 20, 21, 22, 23, 24, 25, 26, 27, 28] [29, 30, 31, 32, 33, 34, 35, 36, 37, 38, 39, 40, 41, 42, 43, 44, 45, 46, 47] cx_ndX rfl rfl cx_ndR cx_diX (c_X6_type l D qx cI cJ n T k M C J g (xs (i + 1)) (xs (i + 2)) (xs (i + 3)) (xs (i + 4)) (by omega)) (hE.1.sub [0, 1] rfl) (cwV 4 hts gL_law_X6_type rfl rfl rfl (by decide +kernel) ⟨Nat.le_of_ble_eq_true rfl, Nat.le_of_ble_eq_true rfl⟩) 0 6 rfl rfl rfl hl.1 rfl (Nat.le_of_ble_eq_true rfl) ⟨Nat.le_of_ble_eq_true rfl, Nat.le_of_ble_eq_true rfl⟩ dL_law_113 (fun r_113 u_113 H locs hp_113 hS => ?_)
          obtain ⟨n1_113, T1_113, J1_113⟩ := u_113
          have hS : cx_S D vwCl A s ((cyW qm cI cZ na Ta ka Ma Za Fa) ++ (cxW qx cI cJ n1_113 T1_113 k M C J1_113 g)) H locs := hS
          have hS := hS.cut (ws := (cxW qx cI cJ n1_113 T1_113 k M C J1_113 g) ++ (cyW qm cI cZ na Ta ka Ma Za Fa)) [19, 20, 21, 22, 23, 24, 25, 26, 27, 28, 29, 30, 31, 32, 33, 34, 35, 36, 37, 38, 39, 40, 41, 42, 43, 44, 45, 46, 47, 0, 1, 2, 3, 4, 5, 6, 7, 8, 9, 10, 11, 12, 13, 14, 15, 16, 17, 18] cx_ndP rfl
          have hp_113 : (¬ cx_okT (xs (i + 1)) (xs (i + 2)) (xs (i + 3)) (xs (i + 4)) ∧ r_113 = (-1 : Int32) ∧ n1_113 = n ∧ T1_113 = T) ∨ (cx_okT (xs (i + 1)) (xs (i + 2)) (xs (i + 3)) (xs (i + 4)) ∧ ¬ n < 20 ∧ r_113 = (-2 : Int32) ∧ n1_113 = n ∧ T1_113 = T) ∨ (cx_okT (xs (i + 1)) (xs (i + 2)) (xs (i + 3)) (xs (i + 4)) ∧ n < 20 ∧ r_113 = nI n ∧ n1_113 = n + 1 ∧ ∃ (f : Nat → Int32) (b : Int32), T1_113 = cx_u (cx_u (cx_u (cx_u (cx_u (cx_u T 0 (upd (T 0) n (xs (i + 1)))) 1 (upd (T 1) n (xs (i + 2)))) 2 (upd (T 2) n (xs (i + 3)))) 3 (upd (T 3) n (xs (i + 4)))) 4 (upd (T 4) n b)) 10 f) := hp_113
          refine lv_aload_n hx hb dL_law_116 rfl (lv_at hl 2 rfl) ?_
          refine lv_aload_n hx hb dL_law_117 rfl (lv_at hl 0 rfl) ?_
          refine lv_iload_n hx hb dL_law_118 rfl (lv_at hl 3 rfl) ?_
          refine lv_iconst (v := (1 : Int32)) hx hb dL_law_119 (by decide) ?_
          refine lv_iadd hx hb dL_law_120 ?_
          refine cx_topr (z := nI (i + 1)) (nI_1 _) ?_
          refine cx_sld (k := i + 1) hx hb hX hbl hbA hS (by omega) (by omega) dL_law_121 ?_
          refine lv_aload_n hx hb dL_law_122 rfl (lv_at hl 0 rfl) ?_
          refine lv_iload_n hx hb dL_law_123 rfl (lv_at hl 3 rfl) ?_
          refine lv_iconst (v := nI 2) hx hb dL_law_124 (by decide) ?_
          refine lv_iadd hx hb dL_law_125 ?_
          refine cx_topr (z := nI (i + 2)) (nI_add _ _) ?_
          refine cx_sld (k := i + 2) hx hb hX hbl hbA hS (by omega) (by omega) dL_law_126 ?_
          refine lv_aload_n hx hb dL_law_127 rfl (lv_at hl 0 rfl) ?_
          refine lv_iload_n hx hb dL_law_128 rfl (lv_at hl 3 rfl) ?_
          refine lv_iconst (v := nI 3) hx hb dL_law_129 (by decide) ?_
          refine lv_iadd hx hb dL_law_130 ?_
          refine cx_topr (z := nI (i + 3)) (nI_add _ _) ?_
          refine cx_sld (k := i + 3) hx hb hX hbl hbA hS (by omega) (by omega) dL_law_131 ?_
          refine lv_aload_n hx hb dL_law_132 rfl (lv_at hl 0 rfl) ?_
          refine lv_iload_n hx hb dL_law_133 rfl (lv_at hl 3 rfl) ?_
          refine lv_iconst (v := nI 4) hx hb dL_law_134 (by decide) ?_
          refine lv_iadd hx hb dL_law_135 ?_
          refine cx_topr (z := nI (i + 4)) (nI_add _ _) ?_
          refine cx_sld (k := i + 4) hx hb hX hbl hbA hS (by omega) (by omega) dL_law_136 ?_
          refine cx_lVi (As := [.int (xs (i + 1)), .int (xs (i + 2)), .int (xs (i + 3)), .int (xs (i + 4))]) (rest := [.int r_113]) (wr := (cxW qx cI cJ n1_113 T1_113 k M C J1_113 g)) ⟨hx, hb, hml, hown, hts⟩ hE hS [29, 30, 31, 32, 33, 34, 35, 36, 37, 38, 39, 40, 41, 42, 43, 44, 45, 46, 47] [0, 1, 2, 3, 4, 5, 6, 7, 8, 9, 10, 11, 12, 13, 14, 15, 16, 17, 18, 19, 20, 21, 22, 23, 24, 25, 26, 27, 28] cx_ndR rfl rfl cx_ndX cx_diR (c_X7_type l D qm cI cZ na Ta ka Ma Za Fa (xs (i + 1)) (xs (i + 2)) (xs (i + 3)) (xs (i + 4)) (by omega)) (hE.1.sub [0, 2] rfl) (cwV 4 hts gL_law_X7_type rfl rfl rfl (by decide +kernel) ⟨Nat.le_of_ble_eq_true rfl, Nat.le_of_ble_eq_true rfl⟩) 0 7 rfl rfl rfl hl.1 rfl (Nat.le_of_ble_eq_true rfl) ⟨Nat.le_of_ble_eq_true rfl, Nat.le_of_ble_eq_true rfl⟩ dL_law_137 (fun r_137 u_137 H locs hp_137 hS => ?_)
          obtain ⟨n1_137, T1_137, Z1_137⟩ := u_137
          have hS : cx_S D vwCl A s ((cxW qx cI cJ n1_113 T1_113 k M C J1_113 g) ++ (cyW qm cI cZ n1_137 T1_137 ka Ma Z1_137 Fa)) H locs := hS
          have hp_137 : (¬ cx_okT (xs (i + 1)) (xs (i + 2)) (xs (i + 3)) (xs (i + 4)) ∧ r_137 = (-1 : Int32) ∧ n1_137 = na ∧ T1_137 = Ta ∧ Z1_137 = Za) ∨ (cx_okT (xs (i + 1)) (xs (i + 2)) (xs (i + 3)) (xs (i + 4)) ∧ ¬ na < 20 ∧ r_137 = (-2 : Int32) ∧ n1_137 = na ∧ T1_137 = Ta ∧ Z1_137 = Za) ∨ (cx_okT (xs (i + 1)) (xs (i + 2)) (xs (i + 3)) (xs (i + 4)) ∧ na < 20 ∧ r_137 = nI na ∧ n1_137 = na + 1 ∧ T1_137 = cx_u (cx_u (cx_u (cx_u Ta 0 (upd (Ta 0) na (xs (i + 1)))) 1 (upd (Ta 1) na (xs (i + 2)))) 2 (upd (Ta 2) na (xs (i + 3)))) 3 (upd (Ta 3) na (xs (i + 4))) ∧ Z1_137 = cx_u Za 3 (fun _ => (0 : Int32))) := hp_137
          refine lv_icmp_eq (tgt := 517) hx hb dL_law_140 (by decide) (fun _ => ?_) (fun h140 => absurd (by rcases hp_113 with z | z | z <;> rcases hp_137 with y | y | y <;> first | exact z.2.1.trans y.2.1.symm | exact absurd y.1 z.1 | exact absurd z.1 y.1 | (exfalso; omega) | (rw [z.2.2.1, y.2.2.1, hn0, hna0])) h140)
          refine lv_iinc (v := nI (i + 7)) (lv' := [(3, .int (nI (i + 7))), (0, .ref b), (1, .ref (qx 0)), (2, .ref (qm 0))]) hx hb dL_law_517 hl (k := 3) rfl (nI_add i 7) (by decide) rfl (fun ls hl => ?_)
          refine lv_goto (tgt := 18) hx hb dL_law_520 (by decide) ?_
          exact ih (i + 7) n1_113 T1_113 k M C J1_113 g n1_137 T1_137 ka Ma Z1_137 Fa _ _ _ (by omega) (by omega) (Or.inl hI7) hS (lv_sub hl [1, 2, 3, 0] rfl)
        · refine lv_tableIn (off := 112) (tgt := 145) hx hb dL_law_33 (by decide) (by decide) (by decide) (by decide) ?_
          refine lv_aload_n hx hb dL_law_145 rfl (lv_at hl 1 rfl) ?_
          refine lv_aload_n hx hb dL_law_146 rfl (lv_at hl 0 rfl) ?_
          refine lv_iload_n hx hb dL_law_147 rfl (lv_at hl 3 rfl) ?_
          refine lv_iconst (v := (1 : Int32)) hx hb dL_law_148 (by decide) ?_
          refine lv_iadd hx hb dL_law_149 ?_
          refine cx_topr (z := nI (i + 1)) (nI_1 _) ?_
          refine cx_sld (k := i + 1) hx hb hX hbl hbA hS (by omega) (by omega) dL_law_150 ?_
          refine lv_aload_n hx hb dL_law_151 rfl (lv_at hl 0 rfl) ?_
          refine lv_iload_n hx hb dL_law_152 rfl (lv_at hl 3 rfl) ?_
          refine lv_iconst (v := nI 2) hx hb dL_law_153 (by decide) ?_
          refine lv_iadd hx hb dL_law_154 ?_
          refine cx_topr (z := nI (i + 2)) (nI_add _ _) ?_
          refine cx_sld (k := i + 2) hx hb hX hbl hbA hS (by omega) (by omega) dL_law_155 ?_
          refine cx_lVi (As := [.int (xs (i + 1)), .int (xs (i + 2))]) (rest := []) (wr := (cyW qm cI cZ na Ta ka Ma Za Fa)) ⟨hx, hb, hml, hown, hts⟩ hE hS [0, 1, 2, 3, 4, 5, 6, 7, 8, 9, 10, 11, 12, 13, 14, 15, 16, 17, 18, 19, 20, 21, 22, 23, 24, 25, 26, 27, 28] [29, 30, 31, 32, 33, 34, 35, 36, 37, 38, 39, 40, 41, 42, 43, 44, 45, 46, 47] cx_ndX rfl rfl cx_ndR cx_diX (c_X6_upper_at_0 l D qx cI cJ n T k M C J g (xs (i + 1)) (xs (i + 2)) hn0) (hE.1.sub [0, 1] rfl) (cwV 2 hts gL_law_X6_upper rfl rfl rfl (by decide +kernel) ⟨Nat.le_of_ble_eq_true rfl, Nat.le_of_ble_eq_true rfl⟩) 0 6 rfl rfl rfl hl.1 rfl (Nat.le_of_ble_eq_true rfl) ⟨Nat.le_of_ble_eq_true rfl, Nat.le_of_ble_eq_true rfl⟩ dL_law_156 (fun r_156 u_156 H locs hp_156 hS => ?_)
          have hS : cx_S D vwCl A s ((cyW qm cI cZ na Ta ka Ma Za Fa) ++ (cxW qx cI cJ n T k M C J g)) H locs := hS
          have hS := hS.cut (ws := (cxW qx cI cJ n T k M C J g) ++ (cyW qm cI cZ na Ta ka Ma Za Fa)) [19, 20, 21, 22, 23, 24, 25, 26, 27, 28, 29, 30, 31, 32, 33, 34, 35, 36, 37, 38, 39, 40, 41, 42, 43, 44, 45, 46, 47, 0, 1, 2, 3, 4, 5, 6, 7, 8, 9, 10, 11, 12, 13, 14, 15, 16, 17, 18] cx_ndP rfl
          have hp_156 : r_156 = (-1 : Int32) := hp_156
          refine lv_aload_n hx hb dL_law_159 rfl (lv_at hl 2 rfl) ?_
          refine lv_aload_n hx hb dL_law_160 rfl (lv_at hl 0 rfl) ?_
          refine lv_iload_n hx hb dL_law_161 rfl (lv_at hl 3 rfl) ?_
          refine lv_iconst (v := (1 : Int32)) hx hb dL_law_162 (by decide) ?_
          refine lv_iadd hx hb dL_law_163 ?_
          refine cx_topr (z := nI (i + 1)) (nI_1 _) ?_
          refine cx_sld (k := i + 1) hx hb hX hbl hbA hS (by omega) (by omega) dL_law_164 ?_
          refine lv_aload_n hx hb dL_law_165 rfl (lv_at hl 0 rfl) ?_
          refine lv_iload_n hx hb dL_law_166 rfl (lv_at hl 3 rfl) ?_
          refine lv_iconst (v := nI 2) hx hb dL_law_167 (by decide) ?_
          refine lv_iadd hx hb dL_law_168 ?_
          refine cx_topr (z := nI (i + 2)) (nI_add _ _) ?_
          refine cx_sld (k := i + 2) hx hb hX hbl hbA hS (by omega) (by omega) dL_law_169 ?_
          refine cx_lVi (As := [.int (xs (i + 1)), .int (xs (i + 2))]) (rest := [.int r_156]) (wr := (cxW qx cI cJ n T k M C J g)) ⟨hx, hb, hml, hown, hts⟩ hE hS [29, 30, 31, 32, 33, 34, 35, 36, 37, 38, 39, 40, 41, 42, 43, 44, 45, 46, 47] [0, 1, 2, 3, 4, 5, 6, 7, 8, 9, 10, 11, 12, 13, 14, 15, 16, 17, 18, 19, 20, 21, 22, 23, 24, 25, 26, 27, 28] cx_ndR rfl rfl cx_ndX cx_diR (c_X7_upper_at_0 l D qm cI cZ na Ta ka Ma Za Fa (xs (i + 1)) (xs (i + 2)) hna0) (hE.1.sub [0, 2] rfl) (cwV 2 hts gL_law_X7_upper rfl rfl rfl (by decide +kernel) ⟨Nat.le_of_ble_eq_true rfl, Nat.le_of_ble_eq_true rfl⟩) 0 7 rfl rfl rfl hl.1 rfl (Nat.le_of_ble_eq_true rfl) ⟨Nat.le_of_ble_eq_true rfl, Nat.le_of_ble_eq_true rfl⟩ dL_law_170 (fun r_170 u_170 H locs hp_170 hS => ?_)
          have hS : cx_S D vwCl A s ((cxW qx cI cJ n T k M C J g) ++ (cyW qm cI cZ na Ta ka Ma Za Fa)) H locs := hS
          have hp_170 : r_170 = (-1 : Int32) := hp_170
          refine lv_icmp_eq (tgt := 517) hx hb dL_law_173 (by decide) (fun _ => ?_) (fun h173 => absurd (hp_156.trans hp_170.symm) h173)
          refine lv_iinc (v := nI (i + 7)) (lv' := [(3, .int (nI (i + 7))), (0, .ref b), (1, .ref (qx 0)), (2, .ref (qm 0))]) hx hb dL_law_517 hl (k := 3) rfl (nI_add i 7) (by decide) rfl (fun ls hl => ?_)
          refine lv_goto (tgt := 18) hx hb dL_law_520 (by decide) ?_
          exact ih (i + 7) n T k M C J g na Ta ka Ma Za Fa _ _ _ (by omega) (by omega) (Or.inl hI7) hS (lv_sub hl [1, 2, 3, 0] rfl)
        · refine lv_tableIn (off := 145) (tgt := 178) hx hb dL_law_33 (by decide) (by decide) (by decide) (by decide) ?_
          refine lv_aload_n hx hb dL_law_178 rfl (lv_at hl 1 rfl) ?_
          refine lv_aload_n hx hb dL_law_179 rfl (lv_at hl 0 rfl) ?_
          refine lv_iload_n hx hb dL_law_180 rfl (lv_at hl 3 rfl) ?_
          refine lv_iconst (v := (1 : Int32)) hx hb dL_law_181 (by decide) ?_
          refine lv_iadd hx hb dL_law_182 ?_
          refine cx_topr (z := nI (i + 1)) (nI_1 _) ?_
          refine cx_sld (k := i + 1) hx hb hX hbl hbA hS (by omega) (by omega) dL_law_183 ?_
          refine lv_aload_n hx hb dL_law_184 rfl (lv_at hl 0 rfl) ?_
          refine lv_iload_n hx hb dL_law_185 rfl (lv_at hl 3 rfl) ?_
          refine lv_iconst (v := nI 2) hx hb dL_law_186 (by decide) ?_
          refine lv_iadd hx hb dL_law_187 ?_
          refine cx_topr (z := nI (i + 2)) (nI_add _ _) ?_
          refine cx_sld (k := i + 2) hx hb hX hbl hbA hS (by omega) (by omega) dL_law_188 ?_
          refine cx_lVi (As := [.int (xs (i + 1)), .int (xs (i + 2))]) (rest := []) (wr := (cyW qm cI cZ na Ta ka Ma Za Fa)) ⟨hx, hb, hml, hown, hts⟩ hE hS [0, 1, 2, 3, 4, 5, 6, 7, 8, 9, 10, 11, 12, 13, 14, 15, 16, 17, 18, 19, 20, 21, 22, 23, 24, 25, 26, 27, 28] [29, 30, 31, 32, 33, 34, 35, 36, 37, 38, 39, 40, 41, 42, 43, 44, 45, 46, 47] cx_ndX rfl rfl cx_ndR cx_diX (c_X6_permit_at_0 l D qx cI cJ n T k M C J g (xs (i + 1)) (xs (i + 2)) hn0) (hE.1.sub [0, 1] rfl) (cwV 2 hts gL_law_X6_permit rfl rfl rfl (by decide +kernel) ⟨Nat.le_of_ble_eq_true rfl, Nat.le_of_ble_eq_true rfl⟩) 0 6 rfl rfl rfl hl.1 rfl (Nat.le_of_ble_eq_true rfl) ⟨Nat.le_of_ble_eq_true rfl, Nat.le_of_ble_eq_true rfl⟩ dL_law_189 (fun r_189 u_189 H locs hp_189 hS => ?_)
          have hS : cx_S D vwCl A s ((cyW qm cI cZ na Ta ka Ma Za Fa) ++ (cxW qx cI cJ n T k M C J g)) H locs := hS
          have hS := hS.cut (ws := (cxW qx cI cJ n T k M C J g) ++ (cyW qm cI cZ na Ta ka Ma Za Fa)) [19, 20, 21, 22, 23, 24, 25, 26, 27, 28, 29, 30, 31, 32, 33, 34, 35, 36, 37, 38, 39, 40, 41, 42, 43, 44, 45, 46, 47, 0, 1, 2, 3, 4, 5, 6, 7, 8, 9, 10, 11, 12, 13, 14, 15, 16, 17, 18] cx_ndP rfl
          have hp_189 : r_189 = (-1 : Int32) := hp_189
          refine lv_aload_n hx hb dL_law_192 rfl (lv_at hl 2 rfl) ?_
          refine lv_aload_n hx hb dL_law_193 rfl (lv_at hl 0 rfl) ?_
          refine lv_iload_n hx hb dL_law_194 rfl (lv_at hl 3 rfl) ?_
          refine lv_iconst (v := (1 : Int32)) hx hb dL_law_195 (by decide) ?_
          refine lv_iadd hx hb dL_law_196 ?_
          refine cx_topr (z := nI (i + 1)) (nI_1 _) ?_
          refine cx_sld (k := i + 1) hx hb hX hbl hbA hS (by omega) (by omega) dL_law_197 ?_
          refine lv_aload_n hx hb dL_law_198 rfl (lv_at hl 0 rfl) ?_
          refine lv_iload_n hx hb dL_law_199 rfl (lv_at hl 3 rfl) ?_
          refine lv_iconst (v := nI 2) hx hb dL_law_200 (by decide) ?_
          refine lv_iadd hx hb dL_law_201 ?_
          refine cx_topr (z := nI (i + 2)) (nI_add _ _) ?_
          refine cx_sld (k := i + 2) hx hb hX hbl hbA hS (by omega) (by omega) dL_law_202 ?_
          refine cx_lVi (As := [.int (xs (i + 1)), .int (xs (i + 2))]) (rest := [.int r_189]) (wr := (cxW qx cI cJ n T k M C J g)) ⟨hx, hb, hml, hown, hts⟩ hE hS [29, 30, 31, 32, 33, 34, 35, 36, 37, 38, 39, 40, 41, 42, 43, 44, 45, 46, 47] [0, 1, 2, 3, 4, 5, 6, 7, 8, 9, 10, 11, 12, 13, 14, 15, 16, 17, 18, 19, 20, 21, 22, 23, 24, 25, 26, 27, 28] cx_ndR rfl rfl cx_ndX cx_diR (c_X7_permit_at_0 l D qm cI cZ na Ta ka Ma Za Fa (xs (i + 1)) (xs (i + 2)) hna0) (hE.1.sub [0, 2] rfl) (cwV 2 hts gL_law_X7_permit rfl rfl rfl (by decide +kernel) ⟨Nat.le_of_ble_eq_true rfl, Nat.le_of_ble_eq_true rfl⟩) 0 7 rfl rfl rfl hl.1 rfl (Nat.le_of_ble_eq_true rfl) ⟨Nat.le_of_ble_eq_true rfl, Nat.le_of_ble_eq_true rfl⟩ dL_law_203 (fun r_203 u_203 H locs hp_203 hS => ?_)
          have hS : cx_S D vwCl A s ((cxW qx cI cJ n T k M C J g) ++ (cyW qm cI cZ na Ta ka Ma Za Fa)) H locs := hS
          have hp_203 : r_203 = (-1 : Int32) := hp_203
          refine lv_icmp_eq (tgt := 517) hx hb dL_law_206 (by decide) (fun _ => ?_) (fun h206 => absurd (hp_189.trans hp_203.symm) h206)
          refine lv_iinc (v := nI (i + 7)) (lv' := [(3, .int (nI (i + 7))), (0, .ref b), (1, .ref (qx 0)), (2, .ref (qm 0))]) hx hb dL_law_517 hl (k := 3) rfl (nI_add i 7) (by decide) rfl (fun ls hl => ?_)
          refine lv_goto (tgt := 18) hx hb dL_law_520 (by decide) ?_
          exact ih (i + 7) n T k M C J g na Ta ka Ma Za Fa _ _ _ (by omega) (by omega) (Or.inl hI7) hS (lv_sub hl [1, 2, 3, 0] rfl)
        · refine lv_tableIn (off := 178) (tgt := 211) hx hb dL_law_33 (by decide) (by decide) (by decide) (by decide) ?_
          refine lv_aload_n hx hb dL_law_211 rfl (lv_at hl 1 rfl) ?_
          refine lv_aload_n hx hb dL_law_212 rfl (lv_at hl 0 rfl) ?_
          refine lv_iload_n hx hb dL_law_213 rfl (lv_at hl 3 rfl) ?_
          refine lv_iconst (v := (1 : Int32)) hx hb dL_law_214 (by decide) ?_
          refine lv_iadd hx hb dL_law_215 ?_
          refine cx_topr (z := nI (i + 1)) (nI_1 _) ?_
          refine cx_sld (k := i + 1) hx hb hX hbl hbA hS (by omega) (by omega) dL_law_216 ?_
          refine lv_aload_n hx hb dL_law_217 rfl (lv_at hl 0 rfl) ?_
          refine lv_iload_n hx hb dL_law_218 rfl (lv_at hl 3 rfl) ?_
          refine lv_iconst (v := nI 2) hx hb dL_law_219 (by decide) ?_
          refine lv_iadd hx hb dL_law_220 ?_
          refine cx_topr (z := nI (i + 2)) (nI_add _ _) ?_
          refine cx_sld (k := i + 2) hx hb hX hbl hbA hS (by omega) (by omega) dL_law_221 ?_
          refine lv_aload_n hx hb dL_law_222 rfl (lv_at hl 0 rfl) ?_
          refine lv_iload_n hx hb dL_law_223 rfl (lv_at hl 3 rfl) ?_
          refine lv_iconst (v := nI 3) hx hb dL_law_224 (by decide) ?_
          refine lv_iadd hx hb dL_law_225 ?_
          refine cx_topr (z := nI (i + 3)) (nI_add _ _) ?_
          refine cx_sld (k := i + 3) hx hb hX hbl hbA hS (by omega) (by omega) dL_law_226 ?_
          refine lv_aload_n hx hb dL_law_227 rfl (lv_at hl 0 rfl) ?_
          refine lv_iload_n hx hb dL_law_228 rfl (lv_at hl 3 rfl) ?_
          refine lv_iconst (v := nI 4) hx hb dL_law_229 (by decide) ?_
          refine lv_iadd hx hb dL_law_230 ?_
          refine cx_topr (z := nI (i + 4)) (nI_add _ _) ?_
          refine cx_sld (k := i + 4) hx hb hX hbl hbA hS (by omega) (by omega) dL_law_231 ?_
          refine lv_aload_n hx hb dL_law_232 rfl (lv_at hl 0 rfl) ?_
          refine lv_iload_n hx hb dL_law_233 rfl (lv_at hl 3 rfl) ?_
          refine lv_iconst (v := nI 5) hx hb dL_law_234 (by decide) ?_
          refine lv_iadd hx hb dL_law_235 ?_
          refine cx_topr (z := nI (i + 5)) (nI_add _ _) ?_
          refine cx_sld (k := i + 5) hx hb hX hbl hbA hS (by omega) (by omega) dL_law_236 ?_
          refine lv_aload_n hx hb dL_law_237 rfl (lv_at hl 0 rfl) ?_
          refine lv_iload_n hx hb dL_law_238 rfl (lv_at hl 3 rfl) ?_
          refine lv_bipush (v := nI 6) hx hb dL_law_239 (by decide) ?_
          refine lv_iadd hx hb dL_law_241 ?_
          refine cx_topr (z := nI (i + 6)) (nI_add _ _) ?_
          refine cx_sld (k := i + 6) hx hb hX hbl hbA hS (by omega) (by omega) dL_law_242 ?_
          refine cx_lVi (As := [.int (xs (i + 1)), .int (xs (i + 2)), .int (xs (i + 3)), .int (xs (i + 4)), .int (xs (i + 5)), .int (xs (i + 6))]) (rest := []) (wr := (cyW qm cI cZ na Ta ka Ma Za Fa)) ⟨hx, hb, hml, hown, hts⟩ hE hS [0, 1, 2, 3, 4, 5, 6, 7, 8, 9, 10, 11, 12, 13, 14, 15, 16, 17, 18, 19, 20, 21, 22, 23, 24, 25, 26, 27, 28] [29, 30, 31, 32, 33, 34, 35, 36, 37, 38, 39, 40, 41, 42, 43, 44, 45, 46, 47] cx_ndX rfl rfl cx_ndR cx_diX (c_X6_member_at_0 l D qx cI cJ n T k M C J g (xs (i + 1)) (xs (i + 2)) (xs (i + 3)) (xs (i + 4)) (xs (i + 5)) (xs (i + 6)) hn0) (hE.1.sub [0, 1] rfl) (cwV 6 hts gL_law_X6_member rfl rfl rfl (by decide +kernel) ⟨Nat.le_of_ble_eq_true rfl, Nat.le_of_ble_eq_true rfl⟩) 0 6 rfl rfl rfl hl.1 rfl (Nat.le_of_ble_eq_true rfl) ⟨Nat.le_of_ble_eq_true rfl, Nat.le_of_ble_eq_true rfl⟩ dL_law_243 (fun r_243 u_243 H locs hp_243 hS => ?_)
          have hS : cx_S D vwCl A s ((cyW qm cI cZ na Ta ka Ma Za Fa) ++ (cxW qx cI cJ n T k M C J g)) H locs := hS
          have hS := hS.cut (ws := (cxW qx cI cJ n T k M C J g) ++ (cyW qm cI cZ na Ta ka Ma Za Fa)) [19, 20, 21, 22, 23, 24, 25, 26, 27, 28, 29, 30, 31, 32, 33, 34, 35, 36, 37, 38, 39, 40, 41, 42, 43, 44, 45, 46, 47, 0, 1, 2, 3, 4, 5, 6, 7, 8, 9, 10, 11, 12, 13, 14, 15, 16, 17, 18] cx_ndP rfl
          have hp_243 : r_243 = (-1 : Int32) := hp_243
          refine lv_aload_n hx hb dL_law_246 rfl (lv_at hl 2 rfl) ?_
          refine lv_aload_n hx hb dL_law_247 rfl (lv_at hl 0 rfl) ?_
          refine lv_iload_n hx hb dL_law_248 rfl (lv_at hl 3 rfl) ?_
          refine lv_iconst (v := (1 : Int32)) hx hb dL_law_249 (by decide) ?_
          refine lv_iadd hx hb dL_law_250 ?_
          refine cx_topr (z := nI (i + 1)) (nI_1 _) ?_
          refine cx_sld (k := i + 1) hx hb hX hbl hbA hS (by omega) (by omega) dL_law_251 ?_
          refine lv_aload_n hx hb dL_law_252 rfl (lv_at hl 0 rfl) ?_
          refine lv_iload_n hx hb dL_law_253 rfl (lv_at hl 3 rfl) ?_
          refine lv_iconst (v := nI 2) hx hb dL_law_254 (by decide) ?_
          refine lv_iadd hx hb dL_law_255 ?_
          refine cx_topr (z := nI (i + 2)) (nI_add _ _) ?_
          refine cx_sld (k := i + 2) hx hb hX hbl hbA hS (by omega) (by omega) dL_law_256 ?_
          refine lv_aload_n hx hb dL_law_257 rfl (lv_at hl 0 rfl) ?_
          refine lv_iload_n hx hb dL_law_258 rfl (lv_at hl 3 rfl) ?_
          refine lv_iconst (v := nI 3) hx hb dL_law_259 (by decide) ?_
          refine lv_iadd hx hb dL_law_260 ?_
          refine cx_topr (z := nI (i + 3)) (nI_add _ _) ?_
          refine cx_sld (k := i + 3) hx hb hX hbl hbA hS (by omega) (by omega) dL_law_261 ?_
          refine lv_aload_n hx hb dL_law_262 rfl (lv_at hl 0 rfl) ?_
          refine lv_iload_n hx hb dL_law_263 rfl (lv_at hl 3 rfl) ?_
          refine lv_iconst (v := nI 4) hx hb dL_law_264 (by decide) ?_
          refine lv_iadd hx hb dL_law_265 ?_
          refine cx_topr (z := nI (i + 4)) (nI_add _ _) ?_
          refine cx_sld (k := i + 4) hx hb hX hbl hbA hS (by omega) (by omega) dL_law_266 ?_
          refine lv_aload_n hx hb dL_law_267 rfl (lv_at hl 0 rfl) ?_
          refine lv_iload_n hx hb dL_law_268 rfl (lv_at hl 3 rfl) ?_
          refine lv_iconst (v := nI 5) hx hb dL_law_269 (by decide) ?_
          refine lv_iadd hx hb dL_law_270 ?_
          refine cx_topr (z := nI (i + 5)) (nI_add _ _) ?_
          refine cx_sld (k := i + 5) hx hb hX hbl hbA hS (by omega) (by omega) dL_law_271 ?_
          refine lv_aload_n hx hb dL_law_272 rfl (lv_at hl 0 rfl) ?_
          refine lv_iload_n hx hb dL_law_273 rfl (lv_at hl 3 rfl) ?_
          refine lv_bipush (v := nI 6) hx hb dL_law_274 (by decide) ?_
          refine lv_iadd hx hb dL_law_276 ?_
          refine cx_topr (z := nI (i + 6)) (nI_add _ _) ?_
          refine cx_sld (k := i + 6) hx hb hX hbl hbA hS (by omega) (by omega) dL_law_277 ?_
          refine cx_lVi (As := [.int (xs (i + 1)), .int (xs (i + 2)), .int (xs (i + 3)), .int (xs (i + 4)), .int (xs (i + 5)), .int (xs (i + 6))]) (rest := [.int r_243]) (wr := (cxW qx cI cJ n T k M C J g)) ⟨hx, hb, hml, hown, hts⟩ hE hS [29, 30, 31, 32, 33, 34, 35, 36, 37, 38, 39, 40, 41, 42, 43, 44, 45, 46, 47] [0, 1, 2, 3, 4, 5, 6, 7, 8, 9, 10, 11, 12, 13, 14, 15, 16, 17, 18, 19, 20, 21, 22, 23, 24, 25, 26, 27, 28] cx_ndR rfl rfl cx_ndX cx_diR (c_X7_member_at_0 l D qm cI cZ na Ta ka Ma Za Fa (xs (i + 1)) (xs (i + 2)) (xs (i + 3)) (xs (i + 4)) (xs (i + 5)) (xs (i + 6)) hna0) (hE.1.sub [0, 2] rfl) (cwV 6 hts gL_law_X7_member rfl rfl rfl (by decide +kernel) ⟨Nat.le_of_ble_eq_true rfl, Nat.le_of_ble_eq_true rfl⟩) 0 7 rfl rfl rfl hl.1 rfl (Nat.le_of_ble_eq_true rfl) ⟨Nat.le_of_ble_eq_true rfl, Nat.le_of_ble_eq_true rfl⟩ dL_law_278 (fun r_278 u_278 H locs hp_278 hS => ?_)
          have hS : cx_S D vwCl A s ((cxW qx cI cJ n T k M C J g) ++ (cyW qm cI cZ na Ta ka Ma Za Fa)) H locs := hS
          have hp_278 : r_278 = (-1 : Int32) := hp_278
          refine lv_icmp_eq (tgt := 517) hx hb dL_law_281 (by decide) (fun _ => ?_) (fun h281 => absurd (hp_243.trans hp_278.symm) h281)
          refine lv_iinc (v := nI (i + 7)) (lv' := [(3, .int (nI (i + 7))), (0, .ref b), (1, .ref (qx 0)), (2, .ref (qm 0))]) hx hb dL_law_517 hl (k := 3) rfl (nI_add i 7) (by decide) rfl (fun ls hl => ?_)
          refine lv_goto (tgt := 18) hx hb dL_law_520 (by decide) ?_
          exact ih (i + 7) n T k M C J g na Ta ka Ma Za Fa _ _ _ (by omega) (by omega) (Or.inl hI7) hS (lv_sub hl [1, 2, 3, 0] rfl)
        · refine lv_tableIn (off := 253) (tgt := 286) hx hb dL_law_33 (by decide) (by decide) (by decide) (by decide) ?_
          refine lv_aload_n hx hb dL_law_286 rfl (lv_at hl 1 rfl) ?_
          refine lv_aload_n hx hb dL_law_287 rfl (lv_at hl 0 rfl) ?_
          refine lv_iload_n hx hb dL_law_288 rfl (lv_at hl 3 rfl) ?_
          refine lv_iconst (v := (1 : Int32)) hx hb dL_law_289 (by decide) ?_
          refine lv_iadd hx hb dL_law_290 ?_
          refine cx_topr (z := nI (i + 1)) (nI_1 _) ?_
          refine cx_sld (k := i + 1) hx hb hX hbl hbA hS (by omega) (by omega) dL_law_291 ?_
          refine cx_lVi (As := [.int (xs (i + 1))]) (rest := []) (wr := (cyW qm cI cZ na Ta ka Ma Za Fa)) ⟨hx, hb, hml, hown, hts⟩ hE hS [0, 1, 2, 3, 4, 5, 6, 7, 8, 9, 10, 11, 12, 13, 14, 15, 16, 17, 18, 19, 20, 21, 22, 23, 24, 25, 26, 27, 28] [29, 30, 31, 32, 33, 34, 35, 36, 37, 38, 39, 40, 41, 42, 43, 44, 45, 46, 47] cx_ndX rfl rfl cx_ndR cx_diX (c_X6_faults_at_0 l D qx cI cJ n T k M C J g (xs (i + 1)) hn0) (hE.1.sub [0, 1] rfl) (cwV 1 hts gL_law_X6_faults rfl rfl rfl (by decide +kernel) ⟨Nat.le_of_ble_eq_true rfl, Nat.le_of_ble_eq_true rfl⟩) 0 6 rfl rfl rfl hl.1 rfl (Nat.le_of_ble_eq_true rfl) ⟨Nat.le_of_ble_eq_true rfl, Nat.le_of_ble_eq_true rfl⟩ dL_law_292 (fun r_292 u_292 H locs hp_292 hS => ?_)
          have hS : cx_S D vwCl A s ((cyW qm cI cZ na Ta ka Ma Za Fa) ++ (cxW qx cI cJ n T k M C J g)) H locs := hS
          have hS := hS.cut (ws := (cxW qx cI cJ n T k M C J g) ++ (cyW qm cI cZ na Ta ka Ma Za Fa)) [19, 20, 21, 22, 23, 24, 25, 26, 27, 28, 29, 30, 31, 32, 33, 34, 35, 36, 37, 38, 39, 40, 41, 42, 43, 44, 45, 46, 47, 0, 1, 2, 3, 4, 5, 6, 7, 8, 9, 10, 11, 12, 13, 14, 15, 16, 17, 18] cx_ndP rfl
          have hp_292 : r_292 = (-1 : Int32) := hp_292
          refine lv_aload_n hx hb dL_law_295 rfl (lv_at hl 2 rfl) ?_
          refine lv_aload_n hx hb dL_law_296 rfl (lv_at hl 0 rfl) ?_
          refine lv_iload_n hx hb dL_law_297 rfl (lv_at hl 3 rfl) ?_
          refine lv_iconst (v := (1 : Int32)) hx hb dL_law_298 (by decide) ?_
          refine lv_iadd hx hb dL_law_299 ?_
          refine cx_topr (z := nI (i + 1)) (nI_1 _) ?_
          refine cx_sld (k := i + 1) hx hb hX hbl hbA hS (by omega) (by omega) dL_law_300 ?_
          refine cx_lVi (As := [.int (xs (i + 1))]) (rest := [.int r_292]) (wr := (cxW qx cI cJ n T k M C J g)) ⟨hx, hb, hml, hown, hts⟩ hE hS [29, 30, 31, 32, 33, 34, 35, 36, 37, 38, 39, 40, 41, 42, 43, 44, 45, 46, 47] [0, 1, 2, 3, 4, 5, 6, 7, 8, 9, 10, 11, 12, 13, 14, 15, 16, 17, 18, 19, 20, 21, 22, 23, 24, 25, 26, 27, 28] cx_ndR rfl rfl cx_ndX cx_diR (c_X7_faults_at_0 l D qm cI cZ na Ta ka Ma Za Fa (xs (i + 1)) hna0) (hE.1.sub [0, 2] rfl) (cwV 1 hts gL_law_X7_faults rfl rfl rfl (by decide +kernel) ⟨Nat.le_of_ble_eq_true rfl, Nat.le_of_ble_eq_true rfl⟩) 0 7 rfl rfl rfl hl.1 rfl (Nat.le_of_ble_eq_true rfl) ⟨Nat.le_of_ble_eq_true rfl, Nat.le_of_ble_eq_true rfl⟩ dL_law_301 (fun r_301 u_301 H locs hp_301 hS => ?_)
          have hS : cx_S D vwCl A s ((cxW qx cI cJ n T k M C J g) ++ (cyW qm cI cZ na Ta ka Ma Za Fa)) H locs := hS
          have hp_301 : r_301 = (-1 : Int32) := hp_301
          refine lv_icmp_eq (tgt := 517) hx hb dL_law_304 (by decide) (fun _ => ?_) (fun h304 => absurd (hp_292.trans hp_301.symm) h304)
          refine lv_iinc (v := nI (i + 7)) (lv' := [(3, .int (nI (i + 7))), (0, .ref b), (1, .ref (qx 0)), (2, .ref (qm 0))]) hx hb dL_law_517 hl (k := 3) rfl (nI_add i 7) (by decide) rfl (fun ls hl => ?_)
          refine lv_goto (tgt := 18) hx hb dL_law_520 (by decide) ?_
          exact ih (i + 7) n T k M C J g na Ta ka Ma Za Fa _ _ _ (by omega) (by omega) (Or.inl hI7) hS (lv_sub hl [1, 2, 3, 0] rfl)
        · refine lv_tableIn (off := 276) (tgt := 309) hx hb dL_law_33 (by decide) (by decide) (by decide) (by decide) ?_
          refine lv_aload_n hx hb dL_law_309 rfl (lv_at hl 1 rfl) ?_
          refine lv_aload_n hx hb dL_law_310 rfl (lv_at hl 0 rfl) ?_
          refine lv_iload_n hx hb dL_law_311 rfl (lv_at hl 3 rfl) ?_
          refine lv_iconst (v := (1 : Int32)) hx hb dL_law_312 (by decide) ?_
          refine lv_iadd hx hb dL_law_313 ?_
          refine cx_topr (z := nI (i + 1)) (nI_1 _) ?_
          refine cx_sld (k := i + 1) hx hb hX hbl hbA hS (by omega) (by omega) dL_law_314 ?_
          refine lv_aload_n hx hb dL_law_315 rfl (lv_at hl 0 rfl) ?_
          refine lv_iload_n hx hb dL_law_316 rfl (lv_at hl 3 rfl) ?_
          refine lv_iconst (v := nI 2) hx hb dL_law_317 (by decide) ?_
          refine lv_iadd hx hb dL_law_318 ?_
          refine cx_topr (z := nI (i + 2)) (nI_add _ _) ?_
          refine cx_sld (k := i + 2) hx hb hX hbl hbA hS (by omega) (by omega) dL_law_319 ?_
          refine lv_aload_n hx hb dL_law_320 rfl (lv_at hl 0 rfl) ?_
          refine lv_iload_n hx hb dL_law_321 rfl (lv_at hl 3 rfl) ?_
          refine lv_iconst (v := nI 3) hx hb dL_law_322 (by decide) ?_
          refine lv_iadd hx hb dL_law_323 ?_
          refine cx_topr (z := nI (i + 3)) (nI_add _ _) ?_
          refine cx_sld (k := i + 3) hx hb hX hbl hbA hS (by omega) (by omega) dL_law_324 ?_
          refine cx_lVi (As := [.int (xs (i + 1)), .int (xs (i + 2)), .int (xs (i + 3))]) (rest := []) (wr := (cyW qm cI cZ na Ta ka Ma Za Fa)) ⟨hx, hb, hml, hown, hts⟩ hE hS [0, 1, 2, 3, 4, 5, 6, 7, 8, 9, 10, 11, 12, 13, 14, 15, 16, 17, 18, 19, 20, 21, 22, 23, 24, 25, 26, 27, 28] [29, 30, 31, 32, 33, 34, 35, 36, 37, 38, 39, 40, 41, 42, 43, 44, 45, 46, 47] cx_ndX rfl rfl cx_ndR cx_diX (c_X6_fault_at_0 l D qx cI cJ n T k M C J g (xs (i + 1)) (xs (i + 2)) (xs (i + 3)) hn0) (hE.1.sub [0, 1] rfl) (cwV 3 hts gL_law_X6_fault rfl rfl rfl (by decide +kernel) ⟨Nat.le_of_ble_eq_true rfl, Nat.le_of_ble_eq_true rfl⟩) 0 6 rfl rfl rfl hl.1 rfl (Nat.le_of_ble_eq_true rfl) ⟨Nat.le_of_ble_eq_true rfl, Nat.le_of_ble_eq_true rfl⟩ dL_law_325 (fun r_325 u_325 H locs hp_325 hS => ?_)
          have hS : cx_S D vwCl A s ((cyW qm cI cZ na Ta ka Ma Za Fa) ++ (cxW qx cI cJ n T k M C J g)) H locs := hS
          have hS := hS.cut (ws := (cxW qx cI cJ n T k M C J g) ++ (cyW qm cI cZ na Ta ka Ma Za Fa)) [19, 20, 21, 22, 23, 24, 25, 26, 27, 28, 29, 30, 31, 32, 33, 34, 35, 36, 37, 38, 39, 40, 41, 42, 43, 44, 45, 46, 47, 0, 1, 2, 3, 4, 5, 6, 7, 8, 9, 10, 11, 12, 13, 14, 15, 16, 17, 18] cx_ndP rfl
          have hp_325 : r_325 = (-1 : Int32) := hp_325
          refine lv_aload_n hx hb dL_law_328 rfl (lv_at hl 2 rfl) ?_
          refine lv_aload_n hx hb dL_law_329 rfl (lv_at hl 0 rfl) ?_
          refine lv_iload_n hx hb dL_law_330 rfl (lv_at hl 3 rfl) ?_
          refine lv_iconst (v := (1 : Int32)) hx hb dL_law_331 (by decide) ?_
          refine lv_iadd hx hb dL_law_332 ?_
          refine cx_topr (z := nI (i + 1)) (nI_1 _) ?_
          refine cx_sld (k := i + 1) hx hb hX hbl hbA hS (by omega) (by omega) dL_law_333 ?_
          refine lv_aload_n hx hb dL_law_334 rfl (lv_at hl 0 rfl) ?_
          refine lv_iload_n hx hb dL_law_335 rfl (lv_at hl 3 rfl) ?_
          refine lv_iconst (v := nI 2) hx hb dL_law_336 (by decide) ?_
          refine lv_iadd hx hb dL_law_337 ?_
          refine cx_topr (z := nI (i + 2)) (nI_add _ _) ?_
          refine cx_sld (k := i + 2) hx hb hX hbl hbA hS (by omega) (by omega) dL_law_338 ?_
          refine lv_aload_n hx hb dL_law_339 rfl (lv_at hl 0 rfl) ?_
          refine lv_iload_n hx hb dL_law_340 rfl (lv_at hl 3 rfl) ?_
          refine lv_iconst (v := nI 3) hx hb dL_law_341 (by decide) ?_
          refine lv_iadd hx hb dL_law_342 ?_
          refine cx_topr (z := nI (i + 3)) (nI_add _ _) ?_
          refine cx_sld (k := i + 3) hx hb hX hbl hbA hS (by omega) (by omega) dL_law_343 ?_
          refine cx_lVi (As := [.int (xs (i + 1)), .int (xs (i + 2)), .int (xs (i + 3))]) (rest := [.int r_325]) (wr := (cxW qx cI cJ n T k M C J g)) ⟨hx, hb, hml, hown, hts⟩ hE hS [29, 30, 31, 32, 33, 34, 35, 36, 37, 38, 39, 40, 41, 42, 43, 44, 45, 46, 47] [0, 1, 2, 3, 4, 5, 6, 7, 8, 9, 10, 11, 12, 13, 14, 15, 16, 17, 18, 19, 20, 21, 22, 23, 24, 25, 26, 27, 28] cx_ndR rfl rfl cx_ndX cx_diR (c_X7_fault_at_0 l D qm cI cZ na Ta ka Ma Za Fa (xs (i + 1)) (xs (i + 2)) (xs (i + 3)) hna0) (hE.1.sub [0, 2] rfl) (cwV 3 hts gL_law_X7_fault rfl rfl rfl (by decide +kernel) ⟨Nat.le_of_ble_eq_true rfl, Nat.le_of_ble_eq_true rfl⟩) 0 7 rfl rfl rfl hl.1 rfl (Nat.le_of_ble_eq_true rfl) ⟨Nat.le_of_ble_eq_true rfl, Nat.le_of_ble_eq_true rfl⟩ dL_law_344 (fun r_344 u_344 H locs hp_344 hS => ?_)
          have hS : cx_S D vwCl A s ((cxW qx cI cJ n T k M C J g) ++ (cyW qm cI cZ na Ta ka Ma Za Fa)) H locs := hS
          have hp_344 : r_344 = (-1 : Int32) := hp_344
          refine lv_icmp_eq (tgt := 517) hx hb dL_law_347 (by decide) (fun _ => ?_) (fun h347 => absurd (hp_325.trans hp_344.symm) h347)
          refine lv_iinc (v := nI (i + 7)) (lv' := [(3, .int (nI (i + 7))), (0, .ref b), (1, .ref (qx 0)), (2, .ref (qm 0))]) hx hb dL_law_517 hl (k := 3) rfl (nI_add i 7) (by decide) rfl (fun ls hl => ?_)
          refine lv_goto (tgt := 18) hx hb dL_law_520 (by decide) ?_
          exact ih (i + 7) n T k M C J g na Ta ka Ma Za Fa _ _ _ (by omega) (by omega) (Or.inl hI7) hS (lv_sub hl [1, 2, 3, 0] rfl)
        · refine lv_tableIn (off := 319) (tgt := 352) hx hb dL_law_33 (by decide) (by decide) (by decide) (by decide) ?_
          refine lv_aload_n hx hb dL_law_352 rfl (lv_at hl 1 rfl) ?_
          refine cx_lVi (As := []) (rest := []) (wr := (cyW qm cI cZ na Ta ka Ma Za Fa)) ⟨hx, hb, hml, hown, hts⟩ hE hS [0, 1, 2, 3, 4, 5, 6, 7, 8, 9, 10, 11, 12, 13, 14, 15, 16, 17, 18, 19, 20, 21, 22, 23, 24, 25, 26, 27, 28] [29, 30, 31, 32, 33, 34, 35, 36, 37, 38, 39, 40, 41, 42, 43, 44, 45, 46, 47] cx_ndX rfl rfl cx_ndR cx_diX (c_X6_all_at_0 l D qx cI cJ n T k M C J g  hn0) (hE.1.sub [0, 1] rfl) (cwV 0 hts gL_law_X6_all rfl rfl rfl (by decide +kernel) ⟨Nat.le_of_ble_eq_true rfl, Nat.le_of_ble_eq_true rfl⟩) 0 6 rfl rfl rfl hl.1 rfl (Nat.le_of_ble_eq_true rfl) ⟨Nat.le_of_ble_eq_true rfl, Nat.le_of_ble_eq_true rfl⟩ dL_law_353 (fun r_353 u_353 H locs hp_353 hS => ?_)
          have hS : cx_S D vwCl A s ((cyW qm cI cZ na Ta ka Ma Za Fa) ++ (cxW qx cI cJ n T k M C J g)) H locs := hS
          have hS := hS.cut (ws := (cxW qx cI cJ n T k M C J g) ++ (cyW qm cI cZ na Ta ka Ma Za Fa)) [19, 20, 21, 22, 23, 24, 25, 26, 27, 28, 29, 30, 31, 32, 33, 34, 35, 36, 37, 38, 39, 40, 41, 42, 43, 44, 45, 46, 47, 0, 1, 2, 3, 4, 5, 6, 7, 8, 9, 10, 11, 12, 13, 14, 15, 16, 17, 18] cx_ndP rfl
          have hp_353 : r_353 = nI 0 := hp_353
          refine lv_aload_n hx hb dL_law_356 rfl (lv_at hl 2 rfl) ?_
          refine cx_lVi (As := []) (rest := [.int r_353]) (wr := (cxW qx cI cJ n T k M C J g)) ⟨hx, hb, hml, hown, hts⟩ hE hS [29, 30, 31, 32, 33, 34, 35, 36, 37, 38, 39, 40, 41, 42, 43, 44, 45, 46, 47] [0, 1, 2, 3, 4, 5, 6, 7, 8, 9, 10, 11, 12, 13, 14, 15, 16, 17, 18, 19, 20, 21, 22, 23, 24, 25, 26, 27, 28] cx_ndR rfl rfl cx_ndX cx_diR (c_X7_all_at_0 l D qm cI cZ na Ta ka Ma Za Fa  hna0) (hE.1.sub [0, 2] rfl) (cwV 0 hts gL_law_X7_all rfl rfl rfl (by decide +kernel) ⟨Nat.le_of_ble_eq_true rfl, Nat.le_of_ble_eq_true rfl⟩) 0 7 rfl rfl rfl hl.1 rfl (Nat.le_of_ble_eq_true rfl) ⟨Nat.le_of_ble_eq_true rfl, Nat.le_of_ble_eq_true rfl⟩ dL_law_357 (fun r_357 u_357 H locs hp_357 hS => ?_)
          have hS : cx_S D vwCl A s ((cxW qx cI cJ n T k M C J g) ++ (cyW qm cI cZ na Ta ka Ma Za Fa)) H locs := hS
          have hp_357 : r_357 = nI 0 := hp_357
          refine lv_icmp_eq (tgt := 517) hx hb dL_law_360 (by decide) (fun _ => ?_) (fun h360 => absurd (hp_353.trans hp_357.symm) h360)
          refine lv_iinc (v := nI (i + 7)) (lv' := [(3, .int (nI (i + 7))), (0, .ref b), (1, .ref (qx 0)), (2, .ref (qm 0))]) hx hb dL_law_517 hl (k := 3) rfl (nI_add i 7) (by decide) rfl (fun ls hl => ?_)
          refine lv_goto (tgt := 18) hx hb dL_law_520 (by decide) ?_
          exact ih (i + 7) n T k M C J g na Ta ka Ma Za Fa _ _ _ (by omega) (by omega) (Or.inl hI7) hS (lv_sub hl [1, 2, 3, 0] rfl)
        · refine lv_tableIn (off := 332) (tgt := 365) hx hb dL_law_33 (by decide) (by decide) (by decide) (by decide) ?_
          refine lv_aload_n hx hb dL_law_365 rfl (lv_at hl 1 rfl) ?_
          refine lv_aload_n hx hb dL_law_366 rfl (lv_at hl 0 rfl) ?_
          refine lv_iload_n hx hb dL_law_367 rfl (lv_at hl 3 rfl) ?_
          refine lv_iconst (v := (1 : Int32)) hx hb dL_law_368 (by decide) ?_
          refine lv_iadd hx hb dL_law_369 ?_
          refine cx_topr (z := nI (i + 1)) (nI_1 _) ?_
          refine cx_sld (k := i + 1) hx hb hX hbl hbA hS (by omega) (by omega) dL_law_370 ?_
          refine lv_aload_n hx hb dL_law_371 rfl (lv_at hl 0 rfl) ?_
          refine lv_iload_n hx hb dL_law_372 rfl (lv_at hl 3 rfl) ?_
          refine lv_iconst (v := nI 2) hx hb dL_law_373 (by decide) ?_
          refine lv_iadd hx hb dL_law_374 ?_
          refine cx_topr (z := nI (i + 2)) (nI_add _ _) ?_
          refine cx_sld (k := i + 2) hx hb hX hbl hbA hS (by omega) (by omega) dL_law_375 ?_
          refine cx_lVi (As := [.int (xs (i + 1)), .int (xs (i + 2))]) (rest := []) (wr := (cyW qm cI cZ na Ta ka Ma Za Fa)) ⟨hx, hb, hml, hown, hts⟩ hE hS [0, 1, 2, 3, 4, 5, 6, 7, 8, 9, 10, 11, 12, 13, 14, 15, 16, 17, 18, 19, 20, 21, 22, 23, 24, 25, 26, 27, 28] [29, 30, 31, 32, 33, 34, 35, 36, 37, 38, 39, 40, 41, 42, 43, 44, 45, 46, 47] cx_ndX rfl rfl cx_ndR cx_diX (c_X6_is_at_0 l D qx cI cJ n T k M C J g (xs (i + 1)) (xs (i + 2)) hn0) (hE.1.sub [0, 1] rfl) (cwV 2 hts gL_law_X6_is rfl rfl rfl (by decide +kernel) ⟨Nat.le_of_ble_eq_true rfl, Nat.le_of_ble_eq_true rfl⟩) 0 6 rfl rfl rfl hl.1 rfl (Nat.le_of_ble_eq_true rfl) ⟨Nat.le_of_ble_eq_true rfl, Nat.le_of_ble_eq_true rfl⟩ dL_law_376 (fun r_376 u_376 H locs hp_376 hS => ?_)
          have hS : cx_S D vwCl A s ((cyW qm cI cZ na Ta ka Ma Za Fa) ++ (cxW qx cI cJ n T k M C J g)) H locs := hS
          have hS := hS.cut (ws := (cxW qx cI cJ n T k M C J g) ++ (cyW qm cI cZ na Ta ka Ma Za Fa)) [19, 20, 21, 22, 23, 24, 25, 26, 27, 28, 29, 30, 31, 32, 33, 34, 35, 36, 37, 38, 39, 40, 41, 42, 43, 44, 45, 46, 47, 0, 1, 2, 3, 4, 5, 6, 7, 8, 9, 10, 11, 12, 13, 14, 15, 16, 17, 18] cx_ndP rfl
          have hp_376 : r_376 = (-1 : Int32) := hp_376
          refine lv_aload_n hx hb dL_law_379 rfl (lv_at hl 2 rfl) ?_
          refine lv_aload_n hx hb dL_law_380 rfl (lv_at hl 0 rfl) ?_
          refine lv_iload_n hx hb dL_law_381 rfl (lv_at hl 3 rfl) ?_
          refine lv_iconst (v := (1 : Int32)) hx hb dL_law_382 (by decide) ?_
          refine lv_iadd hx hb dL_law_383 ?_
          refine cx_topr (z := nI (i + 1)) (nI_1 _) ?_
          refine cx_sld (k := i + 1) hx hb hX hbl hbA hS (by omega) (by omega) dL_law_384 ?_
          refine lv_aload_n hx hb dL_law_385 rfl (lv_at hl 0 rfl) ?_
          refine lv_iload_n hx hb dL_law_386 rfl (lv_at hl 3 rfl) ?_
          refine lv_iconst (v := nI 2) hx hb dL_law_387 (by decide) ?_
          refine lv_iadd hx hb dL_law_388 ?_
          refine cx_topr (z := nI (i + 2)) (nI_add _ _) ?_
          refine cx_sld (k := i + 2) hx hb hX hbl hbA hS (by omega) (by omega) dL_law_389 ?_
          refine cx_lVi (As := [.int (xs (i + 1)), .int (xs (i + 2))]) (rest := [.int r_376]) (wr := (cxW qx cI cJ n T k M C J g)) ⟨hx, hb, hml, hown, hts⟩ hE hS [29, 30, 31, 32, 33, 34, 35, 36, 37, 38, 39, 40, 41, 42, 43, 44, 45, 46, 47] [0, 1, 2, 3, 4, 5, 6, 7, 8, 9, 10, 11, 12, 13, 14, 15, 16, 17, 18, 19, 20, 21, 22, 23, 24, 25, 26, 27, 28] cx_ndR rfl rfl cx_ndX cx_diR (c_X7_is__at_0 l D qm cI cZ na Ta ka Ma Za Fa (xs (i + 1)) (xs (i + 2)) hna0) (hE.1.sub [0, 2] rfl) (cwV 2 hts gL_law_X7_is_ rfl rfl rfl (by decide +kernel) ⟨Nat.le_of_ble_eq_true rfl, Nat.le_of_ble_eq_true rfl⟩) 0 7 rfl rfl rfl hl.1 rfl (Nat.le_of_ble_eq_true rfl) ⟨Nat.le_of_ble_eq_true rfl, Nat.le_of_ble_eq_true rfl⟩ dL_law_390 (fun r_390 u_390 H locs hp_390 hS => ?_)
          have hS : cx_S D vwCl A s ((cxW qx cI cJ n T k M C J g) ++ (cyW qm cI cZ na Ta ka Ma Za Fa)) H locs := hS
          have hp_390 : r_390 = (-1 : Int32) := hp_390
          refine lv_icmp_eq (tgt := 517) hx hb dL_law_393 (by decide) (fun _ => ?_) (fun h393 => absurd (hp_376.trans hp_390.symm) h393)
          refine lv_iinc (v := nI (i + 7)) (lv' := [(3, .int (nI (i + 7))), (0, .ref b), (1, .ref (qx 0)), (2, .ref (qm 0))]) hx hb dL_law_517 hl (k := 3) rfl (nI_add i 7) (by decide) rfl (fun ls hl => ?_)
          refine lv_goto (tgt := 18) hx hb dL_law_520 (by decide) ?_
          exact ih (i + 7) n T k M C J g na Ta ka Ma Za Fa _ _ _ (by omega) (by omega) (Or.inl hI7) hS (lv_sub hl [1, 2, 3, 0] rfl)
        · refine lv_tableIn (off := 365) (tgt := 398) hx hb dL_law_33 (by decide) (by decide) (by decide) (by decide) ?_
          refine lv_aload_n hx hb dL_law_398 rfl (lv_at hl 1 rfl) ?_
          refine lv_aload_n hx hb dL_law_399 rfl (lv_at hl 0 rfl) ?_
          refine lv_iload_n hx hb dL_law_400 rfl (lv_at hl 3 rfl) ?_
          refine lv_iconst (v := (1 : Int32)) hx hb dL_law_401 (by decide) ?_
          refine lv_iadd hx hb dL_law_402 ?_
          refine cx_topr (z := nI (i + 1)) (nI_1 _) ?_
          refine cx_sld (k := i + 1) hx hb hX hbl hbA hS (by omega) (by omega) dL_law_403 ?_
          refine lv_aload_n hx hb dL_law_404 rfl (lv_at hl 0 rfl) ?_
          refine lv_iload_n hx hb dL_law_405 rfl (lv_at hl 3 rfl) ?_
          refine lv_iconst (v := nI 2) hx hb dL_law_406 (by decide) ?_
          refine lv_iadd hx hb dL_law_407 ?_
          refine cx_topr (z := nI (i + 2)) (nI_add _ _) ?_
          refine cx_sld (k := i + 2) hx hb hX hbl hbA hS (by omega) (by omega) dL_law_408 ?_
          refine lv_aload_n hx hb dL_law_409 rfl (lv_at hl 0 rfl) ?_
          refine lv_iload_n hx hb dL_law_410 rfl (lv_at hl 3 rfl) ?_
          refine lv_iconst (v := nI 3) hx hb dL_law_411 (by decide) ?_
          refine lv_iadd hx hb dL_law_412 ?_
          refine cx_topr (z := nI (i + 3)) (nI_add _ _) ?_
          refine cx_sld (k := i + 3) hx hb hX hbl hbA hS (by omega) (by omega) dL_law_413 ?_
          refine cx_lVi (As := [.int (xs (i + 1)), .int (xs (i + 2)), .int (xs (i + 3))]) (rest := []) (wr := (cyW qm cI cZ na Ta ka Ma Za Fa)) ⟨hx, hb, hml, hown, hts⟩ hE hS [0, 1, 2, 3, 4, 5, 6, 7, 8, 9, 10, 11, 12, 13, 14, 15, 16, 17, 18, 19, 20, 21, 22, 23, 24, 25, 26, 27, 28] [29, 30, 31, 32, 33, 34, 35, 36, 37, 38, 39, 40, 41, 42, 43, 44, 45, 46, 47] cx_ndX rfl rfl cx_ndR cx_diX (c_X6_runs_at_0 l D qx cI cJ n T k M C J g (xs (i + 1)) (xs (i + 2)) (xs (i + 3)) hn0) (hE.1.sub [0, 1] rfl) (cwV 3 hts gL_law_X6_runs rfl rfl rfl (by decide +kernel) ⟨Nat.le_of_ble_eq_true rfl, Nat.le_of_ble_eq_true rfl⟩) 0 6 rfl rfl rfl hl.1 rfl (Nat.le_of_ble_eq_true rfl) ⟨Nat.le_of_ble_eq_true rfl, Nat.le_of_ble_eq_true rfl⟩ dL_law_414 (fun r_414 u_414 H locs hp_414 hS => ?_)
          have hS : cx_S D vwCl A s ((cyW qm cI cZ na Ta ka Ma Za Fa) ++ (cxW qx cI cJ n T k M C J g)) H locs := hS
          have hS := hS.cut (ws := (cxW qx cI cJ n T k M C J g) ++ (cyW qm cI cZ na Ta ka Ma Za Fa)) [19, 20, 21, 22, 23, 24, 25, 26, 27, 28, 29, 30, 31, 32, 33, 34, 35, 36, 37, 38, 39, 40, 41, 42, 43, 44, 45, 46, 47, 0, 1, 2, 3, 4, 5, 6, 7, 8, 9, 10, 11, 12, 13, 14, 15, 16, 17, 18] cx_ndP rfl
          have hp_414 : r_414 = (-1 : Int32) := hp_414
          refine lv_aload_n hx hb dL_law_417 rfl (lv_at hl 2 rfl) ?_
          refine lv_aload_n hx hb dL_law_418 rfl (lv_at hl 0 rfl) ?_
          refine lv_iload_n hx hb dL_law_419 rfl (lv_at hl 3 rfl) ?_
          refine lv_iconst (v := (1 : Int32)) hx hb dL_law_420 (by decide) ?_
          refine lv_iadd hx hb dL_law_421 ?_
          refine cx_topr (z := nI (i + 1)) (nI_1 _) ?_
          refine cx_sld (k := i + 1) hx hb hX hbl hbA hS (by omega) (by omega) dL_law_422 ?_
          refine lv_aload_n hx hb dL_law_423 rfl (lv_at hl 0 rfl) ?_
          refine lv_iload_n hx hb dL_law_424 rfl (lv_at hl 3 rfl) ?_
          refine lv_iconst (v := nI 2) hx hb dL_law_425 (by decide) ?_
          refine lv_iadd hx hb dL_law_426 ?_
          refine cx_topr (z := nI (i + 2)) (nI_add _ _) ?_
          refine cx_sld (k := i + 2) hx hb hX hbl hbA hS (by omega) (by omega) dL_law_427 ?_
          refine lv_aload_n hx hb dL_law_428 rfl (lv_at hl 0 rfl) ?_
          refine lv_iload_n hx hb dL_law_429 rfl (lv_at hl 3 rfl) ?_
          refine lv_iconst (v := nI 3) hx hb dL_law_430 (by decide) ?_
          refine lv_iadd hx hb dL_law_431 ?_
          refine cx_topr (z := nI (i + 3)) (nI_add _ _) ?_
          refine cx_sld (k := i + 3) hx hb hX hbl hbA hS (by omega) (by omega) dL_law_432 ?_
          refine cx_lVi (As := [.int (xs (i + 1)), .int (xs (i + 2)), .int (xs (i + 3))]) (rest := [.int r_414]) (wr := (cxW qx cI cJ n T k M C J g)) ⟨hx, hb, hml, hown, hts⟩ hE hS [29, 30, 31, 32, 33, 34, 35, 36, 37, 38, 39, 40, 41, 42, 43, 44, 45, 46, 47] [0, 1, 2, 3, 4, 5, 6, 7, 8, 9, 10, 11, 12, 13, 14, 15, 16, 17, 18, 19, 20, 21, 22, 23, 24, 25, 26, 27, 28] cx_ndR rfl rfl cx_ndX cx_diR (c_X7_runs_at_0 l D qm cI cZ na Ta ka Ma Za Fa (xs (i + 1)) (xs (i + 2)) (xs (i + 3)) hna0) (hE.1.sub [0, 2] rfl) (cwV 3 hts gL_law_X7_runs rfl rfl rfl (by decide +kernel) ⟨Nat.le_of_ble_eq_true rfl, Nat.le_of_ble_eq_true rfl⟩) 0 7 rfl rfl rfl hl.1 rfl (Nat.le_of_ble_eq_true rfl) ⟨Nat.le_of_ble_eq_true rfl, Nat.le_of_ble_eq_true rfl⟩ dL_law_433 (fun r_433 u_433 H locs hp_433 hS => ?_)
          have hS : cx_S D vwCl A s ((cxW qx cI cJ n T k M C J g) ++ (cyW qm cI cZ na Ta ka Ma Za Fa)) H locs := hS
          have hp_433 : r_433 = (-1 : Int32) := hp_433
          refine lv_icmp_eq (tgt := 517) hx hb dL_law_436 (by decide) (fun _ => ?_) (fun h436 => absurd (hp_414.trans hp_433.symm) h436)
          refine lv_iinc (v := nI (i + 7)) (lv' := [(3, .int (nI (i + 7))), (0, .ref b), (1, .ref (qx 0)), (2, .ref (qm 0))]) hx hb dL_law_517 hl (k := 3) rfl (nI_add i 7) (by decide) rfl (fun ls hl => ?_)
          refine lv_goto (tgt := 18) hx hb dL_law_520 (by decide) ?_
          exact ih (i + 7) n T k M C J g na Ta ka Ma Za Fa _ _ _ (by omega) (by omega) (Or.inl hI7) hS (lv_sub hl [1, 2, 3, 0] rfl)
        · refine lv_tableIn (off := 408) (tgt := 441) hx hb dL_law_33 (by decide) (by decide) (by decide) (by decide) ?_
          refine lv_aload_n hx hb dL_law_441 rfl (lv_at hl 1 rfl) ?_
          refine lv_aload_n hx hb dL_law_442 rfl (lv_at hl 0 rfl) ?_
          refine lv_iload_n hx hb dL_law_443 rfl (lv_at hl 3 rfl) ?_
          refine lv_iconst (v := (1 : Int32)) hx hb dL_law_444 (by decide) ?_
          refine lv_iadd hx hb dL_law_445 ?_
          refine cx_topr (z := nI (i + 1)) (nI_1 _) ?_
          refine cx_sld (k := i + 1) hx hb hX hbl hbA hS (by omega) (by omega) dL_law_446 ?_
          refine lv_aload_n hx hb dL_law_447 rfl (lv_at hl 0 rfl) ?_
          refine lv_iload_n hx hb dL_law_448 rfl (lv_at hl 3 rfl) ?_
          refine lv_iconst (v := nI 2) hx hb dL_law_449 (by decide) ?_
          refine lv_iadd hx hb dL_law_450 ?_
          refine cx_topr (z := nI (i + 2)) (nI_add _ _) ?_
          refine cx_sld (k := i + 2) hx hb hX hbl hbA hS (by omega) (by omega) dL_law_451 ?_
          refine lv_aload_n hx hb dL_law_452 rfl (lv_at hl 0 rfl) ?_
          refine lv_iload_n hx hb dL_law_453 rfl (lv_at hl 3 rfl) ?_
          refine lv_iconst (v := nI 3) hx hb dL_law_454 (by decide) ?_
          refine lv_iadd hx hb dL_law_455 ?_
          refine cx_topr (z := nI (i + 3)) (nI_add _ _) ?_
          refine cx_sld (k := i + 3) hx hb hX hbl hbA hS (by omega) (by omega) dL_law_456 ?_
          refine lv_aload_n hx hb dL_law_457 rfl (lv_at hl 0 rfl) ?_
          refine lv_iload_n hx hb dL_law_458 rfl (lv_at hl 3 rfl) ?_
          refine lv_iconst (v := nI 4) hx hb dL_law_459 (by decide) ?_
          refine lv_iadd hx hb dL_law_460 ?_
          refine cx_topr (z := nI (i + 4)) (nI_add _ _) ?_
          refine cx_sld (k := i + 4) hx hb hX hbl hbA hS (by omega) (by omega) dL_law_461 ?_
          refine cx_lVi (As := [.int (xs (i + 1)), .int (xs (i + 2)), .int (xs (i + 3)), .int (xs (i + 4))]) (rest := []) (wr := (cyW qm cI cZ na Ta ka Ma Za Fa)) ⟨hx, hb, hml, hown, hts⟩ hE hS [0, 1, 2, 3, 4, 5, 6, 7, 8, 9, 10, 11, 12, 13, 14, 15, 16, 17, 18, 19, 20, 21, 22, 23, 24, 25, 26, 27, 28] [29, 30, 31, 32, 33, 34, 35, 36, 37, 38, 39, 40, 41, 42, 43, 44, 45, 46, 47] cx_ndX rfl rfl cx_ndR cx_diX (c_X6_call_at_0 l D qx cI cJ n T k M C J g (xs (i + 1)) (xs (i + 2)) (xs (i + 3)) (xs (i + 4)) hn0) (hE.1.sub [0, 1] rfl) (cwV 4 hts gL_law_X6_call rfl rfl rfl (by decide +kernel) ⟨Nat.le_of_ble_eq_true rfl, Nat.le_of_ble_eq_true rfl⟩) 0 6 rfl rfl rfl hl.1 rfl (Nat.le_of_ble_eq_true rfl) ⟨Nat.le_of_ble_eq_true rfl, Nat.le_of_ble_eq_true rfl⟩ dL_law_462 (fun r_462 u_462 H locs hp_462 hS => ?_)
          have hS : cx_S D vwCl A s ((cyW qm cI cZ na Ta ka Ma Za Fa) ++ (cxW qx cI cJ n T k M C J g)) H locs := hS
          have hS := hS.cut (ws := (cxW qx cI cJ n T k M C J g) ++ (cyW qm cI cZ na Ta ka Ma Za Fa)) [19, 20, 21, 22, 23, 24, 25, 26, 27, 28, 29, 30, 31, 32, 33, 34, 35, 36, 37, 38, 39, 40, 41, 42, 43, 44, 45, 46, 47, 0, 1, 2, 3, 4, 5, 6, 7, 8, 9, 10, 11, 12, 13, 14, 15, 16, 17, 18] cx_ndP rfl
          have hp_462 : r_462 = (-1 : Int32) := hp_462
          refine lv_aload_n hx hb dL_law_465 rfl (lv_at hl 2 rfl) ?_
          refine lv_aload_n hx hb dL_law_466 rfl (lv_at hl 0 rfl) ?_
          refine lv_iload_n hx hb dL_law_467 rfl (lv_at hl 3 rfl) ?_
          refine lv_iconst (v := (1 : Int32)) hx hb dL_law_468 (by decide) ?_
          refine lv_iadd hx hb dL_law_469 ?_
          refine cx_topr (z := nI (i + 1)) (nI_1 _) ?_
          refine cx_sld (k := i + 1) hx hb hX hbl hbA hS (by omega) (by omega) dL_law_470 ?_
          refine lv_aload_n hx hb dL_law_471 rfl (lv_at hl 0 rfl) ?_
          refine lv_iload_n hx hb dL_law_472 rfl (lv_at hl 3 rfl) ?_
          refine lv_iconst (v := nI 2) hx hb dL_law_473 (by decide) ?_
          refine lv_iadd hx hb dL_law_474 ?_
          refine cx_topr (z := nI (i + 2)) (nI_add _ _) ?_
          refine cx_sld (k := i + 2) hx hb hX hbl hbA hS (by omega) (by omega) dL_law_475 ?_
          refine lv_aload_n hx hb dL_law_476 rfl (lv_at hl 0 rfl) ?_
          refine lv_iload_n hx hb dL_law_477 rfl (lv_at hl 3 rfl) ?_
          refine lv_iconst (v := nI 3) hx hb dL_law_478 (by decide) ?_
          refine lv_iadd hx hb dL_law_479 ?_
          refine cx_topr (z := nI (i + 3)) (nI_add _ _) ?_
          refine cx_sld (k := i + 3) hx hb hX hbl hbA hS (by omega) (by omega) dL_law_480 ?_
          refine lv_aload_n hx hb dL_law_481 rfl (lv_at hl 0 rfl) ?_
          refine lv_iload_n hx hb dL_law_482 rfl (lv_at hl 3 rfl) ?_
          refine lv_iconst (v := nI 4) hx hb dL_law_483 (by decide) ?_
          refine lv_iadd hx hb dL_law_484 ?_
          refine cx_topr (z := nI (i + 4)) (nI_add _ _) ?_
          refine cx_sld (k := i + 4) hx hb hX hbl hbA hS (by omega) (by omega) dL_law_485 ?_
          refine cx_lVi (As := [.int (xs (i + 1)), .int (xs (i + 2)), .int (xs (i + 3)), .int (xs (i + 4))]) (rest := [.int r_462]) (wr := (cxW qx cI cJ n T k M C J g)) ⟨hx, hb, hml, hown, hts⟩ hE hS [29, 30, 31, 32, 33, 34, 35, 36, 37, 38, 39, 40, 41, 42, 43, 44, 45, 46, 47] [0, 1, 2, 3, 4, 5, 6, 7, 8, 9, 10, 11, 12, 13, 14, 15, 16, 17, 18, 19, 20, 21, 22, 23, 24, 25, 26, 27, 28] cx_ndR rfl rfl cx_ndX cx_diR (c_X7_call_at_0 l D qm cI cZ na Ta ka Ma Za Fa (xs (i + 1)) (xs (i + 2)) (xs (i + 3)) (xs (i + 4)) hna0) (hE.1.sub [0, 2] rfl) (cwV 4 hts gL_law_X7_call rfl rfl rfl (by decide +kernel) ⟨Nat.le_of_ble_eq_true rfl, Nat.le_of_ble_eq_true rfl⟩) 0 7 rfl rfl rfl hl.1 rfl (Nat.le_of_ble_eq_true rfl) ⟨Nat.le_of_ble_eq_true rfl, Nat.le_of_ble_eq_true rfl⟩ dL_law_486 (fun r_486 u_486 H locs hp_486 hS => ?_)
          have hS : cx_S D vwCl A s ((cxW qx cI cJ n T k M C J g) ++ (cyW qm cI cZ na Ta ka Ma Za Fa)) H locs := hS
          have hp_486 : r_486 = (-1 : Int32) := hp_486
          refine lv_icmp_eq (tgt := 517) hx hb dL_law_489 (by decide) (fun _ => ?_) (fun h489 => absurd (hp_462.trans hp_486.symm) h489)
          refine lv_iinc (v := nI (i + 7)) (lv' := [(3, .int (nI (i + 7))), (0, .ref b), (1, .ref (qx 0)), (2, .ref (qm 0))]) hx hb dL_law_517 hl (k := 3) rfl (nI_add i 7) (by decide) rfl (fun ls hl => ?_)
          refine lv_goto (tgt := 18) hx hb dL_law_520 (by decide) ?_
          exact ih (i + 7) n T k M C J g na Ta ka Ma Za Fa _ _ _ (by omega) (by omega) (Or.inl hI7) hS (lv_sub hl [1, 2, 3, 0] rfl)
        · refine lv_tableIn (off := 461) (tgt := 494) hx hb dL_law_33 (by decide) (by decide) (by decide) (by decide) ?_
          refine lv_aload_n hx hb dL_law_494 rfl (lv_at hl 1 rfl) ?_
          refine lv_aload_n hx hb dL_law_495 rfl (lv_at hl 0 rfl) ?_
          refine lv_iload_n hx hb dL_law_496 rfl (lv_at hl 3 rfl) ?_
          refine lv_iconst (v := (1 : Int32)) hx hb dL_law_497 (by decide) ?_
          refine lv_iadd hx hb dL_law_498 ?_
          refine cx_topr (z := nI (i + 1)) (nI_1 _) ?_
          refine cx_sld (k := i + 1) hx hb hX hbl hbA hS (by omega) (by omega) dL_law_499 ?_
          refine cx_lVi (As := [.int (xs (i + 1))]) (rest := []) (wr := (cyW qm cI cZ na Ta ka Ma Za Fa)) ⟨hx, hb, hml, hown, hts⟩ hE hS [0, 1, 2, 3, 4, 5, 6, 7, 8, 9, 10, 11, 12, 13, 14, 15, 16, 17, 18, 19, 20, 21, 22, 23, 24, 25, 26, 27, 28] [29, 30, 31, 32, 33, 34, 35, 36, 37, 38, 39, 40, 41, 42, 43, 44, 45, 46, 47] cx_ndX rfl rfl cx_ndR cx_diX (c_X6_told l D qx cI cJ n T k M C J g (xs (i + 1)) ) (hE.1.sub [0, 1] rfl) (cwV 1 hts gL_law_X6_told rfl rfl rfl (by decide +kernel) ⟨Nat.le_of_ble_eq_true rfl, Nat.le_of_ble_eq_true rfl⟩) 0 6 rfl rfl rfl hl.1 rfl (Nat.le_of_ble_eq_true rfl) ⟨Nat.le_of_ble_eq_true rfl, Nat.le_of_ble_eq_true rfl⟩ dL_law_500 (fun r_500 u_500 H locs hp_500 hS => ?_)
          have hS : cx_S D vwCl A s ((cyW qm cI cZ na Ta ka Ma Za Fa) ++ (cxW qx cI cJ n T k M C J g)) H locs := hS
          have hS := hS.cut (ws := (cxW qx cI cJ n T k M C J g) ++ (cyW qm cI cZ na Ta ka Ma Za Fa)) [19, 20, 21, 22, 23, 24, 25, 26, 27, 28, 29, 30, 31, 32, 33, 34, 35, 36, 37, 38, 39, 40, 41, 42, 43, 44, 45, 46, 47, 0, 1, 2, 3, 4, 5, 6, 7, 8, 9, 10, 11, 12, 13, 14, 15, 16, 17, 18] cx_ndP rfl
          have hp_500 : r_500 = (if (xs (i + 1)) = 0 then nI n else if (xs (i + 1)) = 1 then nI k else (-1 : Int32)) := hp_500
          refine lv_aload_n hx hb dL_law_503 rfl (lv_at hl 2 rfl) ?_
          refine lv_aload_n hx hb dL_law_504 rfl (lv_at hl 0 rfl) ?_
          refine lv_iload_n hx hb dL_law_505 rfl (lv_at hl 3 rfl) ?_
          refine lv_iconst (v := (1 : Int32)) hx hb dL_law_506 (by decide) ?_
          refine lv_iadd hx hb dL_law_507 ?_
          refine cx_topr (z := nI (i + 1)) (nI_1 _) ?_
          refine cx_sld (k := i + 1) hx hb hX hbl hbA hS (by omega) (by omega) dL_law_508 ?_
          refine cx_lVi (As := [.int (xs (i + 1))]) (rest := [.int r_500]) (wr := (cxW qx cI cJ n T k M C J g)) ⟨hx, hb, hml, hown, hts⟩ hE hS [29, 30, 31, 32, 33, 34, 35, 36, 37, 38, 39, 40, 41, 42, 43, 44, 45, 46, 47] [0, 1, 2, 3, 4, 5, 6, 7, 8, 9, 10, 11, 12, 13, 14, 15, 16, 17, 18, 19, 20, 21, 22, 23, 24, 25, 26, 27, 28] cx_ndR rfl rfl cx_ndX cx_diR (c_X7_told l D qm cI cZ na Ta ka Ma Za Fa (xs (i + 1)) ) (hE.1.sub [0, 2] rfl) (cwV 1 hts gL_law_X7_told rfl rfl rfl (by decide +kernel) ⟨Nat.le_of_ble_eq_true rfl, Nat.le_of_ble_eq_true rfl⟩) 0 7 rfl rfl rfl hl.1 rfl (Nat.le_of_ble_eq_true rfl) ⟨Nat.le_of_ble_eq_true rfl, Nat.le_of_ble_eq_true rfl⟩ dL_law_509 (fun r_509 u_509 H locs hp_509 hS => ?_)
          have hS : cx_S D vwCl A s ((cxW qx cI cJ n T k M C J g) ++ (cyW qm cI cZ na Ta ka Ma Za Fa)) H locs := hS
          have hp_509 : r_509 = (if (xs (i + 1)) = 0 then nI na else if (xs (i + 1)) = 1 then nI ka else (-1 : Int32)) := hp_509
          refine lv_icmp_eq (tgt := 517) hx hb dL_law_512 (by decide) (fun _ => ?_) (fun h512 => absurd (by rw [hp_500, hp_509, hn0, hk0, hna0, hka0]) h512)
          refine lv_iinc (v := nI (i + 7)) (lv' := [(3, .int (nI (i + 7))), (0, .ref b), (1, .ref (qx 0)), (2, .ref (qm 0))]) hx hb dL_law_517 hl (k := 3) rfl (nI_add i 7) (by decide) rfl (fun ls hl => ?_)
          refine lv_goto (tgt := 18) hx hb dL_law_520 (by decide) ?_
          exact ih (i + 7) n T k M C J g na Ta ka Ma Za Fa _ _ _ (by omega) (by omega) (Or.inl hI7) hS (lv_sub hl [1, 2, 3, 0] rfl)
