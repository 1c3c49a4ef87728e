set_option maxHeartbeats 4000000 in
set_option maxRecDepth 100000 in
theorem c_J6_bitCount_0f7a4 (l : Launch) (D : va_G) (tys : List (ClassId × FieldType)) (ws : va_W) (x : Int32) : cx_Mi l D vwCl tys cx_NW yJ6_bitCount_0f7a4 wsJ6_bitCount_0f7a4 ({ frames := 0, cells := 0, slots := 0, locals := 0 } : Room) [.int x] ws (fun (r : Int32) (uw : Unit) => r = cx_bcI x) (fun _ => ws) := by
  refine cx_Mi.of (cc := cJ6_bitCount_0f7a4) (maxL := 1) cx_NW_ok (by decide) rfl (Nat.le_of_ble_eq_true rfl) ?_
  intro p e s m args below meth c Q A ls hx hb hml hown hts hE RET hS hl
  have hl : lv_has ls 1 [(0, .int x)] := hl
  have hown : s.vm.findClass RJ6 = some m.cls := hown
  refine lv_iload_n hx hb dJ6_bitCount_0f7a4_0 rfl (lv_at hl 0 rfl) ?_
  refine lv_iload_n hx hb dJ6_bitCount_0f7a4_1 rfl (lv_at hl 0 rfl) ?_
  refine lv_iconst (v := (1 : Int32)) hx hb dJ6_bitCount_0f7a4_2 (by decide) ?_
  refine lv_iushr hx hb dJ6_bitCount_0f7a4_3 rfl ?_
  refine lv_ldcw (own := RJ6) (index := 265) (v := (1431655765 : Int32)) hx hb hown (hts (.constant RJ6 265 (1431655765 : Int32)) (List.mem_of_getElem? (i := 1) rfl)) dJ6_bitCount_0f7a4_4 ?_
  refine lv_iand hx hb dJ6_bitCount_0f7a4_7 ?_
  refine lv_isub hx hb dJ6_bitCount_0f7a4_8 ?_
  refine lv_topi (fun x9 ex9 => ?_)
  refine lv_istore_n (lv' := [(0, .int x9)]) hx hb dJ6_bitCount_0f7a4_9 rfl hl (by decide) rfl (fun ls hl => ?_)
  refine lv_iload_n hx hb dJ6_bitCount_0f7a4_10 rfl (lv_at hl 0 rfl) ?_
  refine lv_ldcw (own := RJ6) (index := 266) (v := (858993459 : Int32)) hx hb hown (hts (.constant RJ6 266 (858993459 : Int32)) (List.mem_of_getElem? (i := 2) rfl)) dJ6_bitCount_0f7a4_11 ?_
  refine lv_iand hx hb dJ6_bitCount_0f7a4_14 ?_
  refine lv_iload_n hx hb dJ6_bitCount_0f7a4_15 rfl (lv_at hl 0 rfl) ?_
  refine lv_iconst (v := nI 2) hx hb dJ6_bitCount_0f7a4_16 (by decide) ?_
  refine lv_iushr hx hb dJ6_bitCount_0f7a4_17 rfl ?_
  refine lv_ldcw (own := RJ6) (index := 266) (v := (858993459 : Int32)) hx hb hown (hts (.constant RJ6 266 (858993459 : Int32)) (List.mem_of_getElem? (i := 2) rfl)) dJ6_bitCount_0f7a4_18 ?_
  refine lv_iand hx hb dJ6_bitCount_0f7a4_21 ?_
  refine lv_iadd hx hb dJ6_bitCount_0f7a4_22 ?_
  refine lv_topi (fun x23 ex23 => ?_)
  refine lv_istore_n (lv' := [(0, .int x23)]) hx hb dJ6_bitCount_0f7a4_23 rfl hl (by decide) rfl (fun ls hl => ?_)
  refine lv_iload_n hx hb dJ6_bitCount_0f7a4_24 rfl (lv_at hl 0 rfl) ?_
  refine lv_iload_n hx hb dJ6_bitCount_0f7a4_25 rfl (lv_at hl 0 rfl) ?_
  refine lv_iconst (v := nI 4) hx hb dJ6_bitCount_0f7a4_26 (by decide) ?_
  refine lv_iushr hx hb dJ6_bitCount_0f7a4_27 rfl ?_
  refine lv_iadd hx hb dJ6_bitCount_0f7a4_28 ?_
  refine lv_ldcw (own := RJ6) (index := 267) (v := (252645135 : Int32)) hx hb hown (hts (.constant RJ6 267 (252645135 : Int32)) (List.mem_of_getElem? (i := 3) rfl)) dJ6_bitCount_0f7a4_29 ?_
  refine lv_iand hx hb dJ6_bitCount_0f7a4_32 ?_
  refine lv_topi (fun x33 ex33 => ?_)
  refine lv_istore_n (lv' := [(0, .int x33)]) hx hb dJ6_bitCount_0f7a4_33 rfl hl (by decide) rfl (fun ls hl => ?_)
  refine lv_iload_n hx hb dJ6_bitCount_0f7a4_34 rfl (lv_at hl 0 rfl) ?_
  refine lv_iload_n hx hb dJ6_bitCount_0f7a4_35 rfl (lv_at hl 0 rfl) ?_
  refine lv_bipush (v := nI 8) hx hb dJ6_bitCount_0f7a4_36 (by decide) ?_
  refine lv_iushr hx hb dJ6_bitCount_0f7a4_38 rfl ?_
  refine lv_iadd hx hb dJ6_bitCount_0f7a4_39 ?_
  refine lv_topi (fun x40 ex40 => ?_)
  refine lv_istore_n (lv' := [(0, .int x40)]) hx hb dJ6_bitCount_0f7a4_40 rfl hl (by decide) rfl (fun ls hl => ?_)
  refine lv_iload_n hx hb dJ6_bitCount_0f7a4_41 rfl (lv_at hl 0 rfl) ?_
  refine lv_iload_n hx hb dJ6_bitCount_0f7a4_42 rfl (lv_at hl 0 rfl) ?_
  refine lv_bipush (v := nI 16) hx hb dJ6_bitCount_0f7a4_43 (by decide) ?_
  refine lv_iushr hx hb dJ6_bitCount_0f7a4_45 rfl ?_
  refine lv_iadd hx hb dJ6_bitCount_0f7a4_46 ?_
  refine lv_topi (fun x47 ex47 => ?_)
  refine lv_istore_n (lv' := [(0, .int x47)]) hx hb dJ6_bitCount_0f7a4_47 rfl hl (by decide) rfl (fun ls hl => ?_)
  refine lv_iload_n hx hb dJ6_bitCount_0f7a4_48 rfl (lv_at hl 0 rfl) ?_
  refine lv_bipush (v := nI 63) hx hb dJ6_bitCount_0f7a4_49 (by decide) ?_
  refine lv_iand hx hb dJ6_bitCount_0f7a4_51 ?_
  exact RET _ () _ _ _ _ dJ6_bitCount_0f7a4_52 rfl (by (try subst ex54); (try subst ex47); (try subst ex40); (try subst ex33); (try subst ex23); (try subst ex9); rfl) hS
set_option maxHeartbeats 4000000 in
set_option maxRecDepth 100000 in
theorem c_J13_bitCount_95d88 (l : Launch) (D : va_G) (tys : List (ClassId × FieldType)) (ws : va_W) (x : Int64) : cx_Mi l D vwCl tys cx_NW yJ13_bitCount_95d88 wsJ13_bitCount_95d88 ({ frames := 0, cells := 0, slots := 0, locals := 0 } : Room) [.long x] ws (fun (r : Int32) (uw : Unit) => cx_cnt r 127 (¬ x = 0)) (fun _ => ws) := by
  refine cx_Mi.of (cc := cJ13_bitCount_95d88) (maxL := 2) cx_NW_ok (by decide) rfl (Nat.le_of_ble_eq_true rfl) ?_
  intro p e s m args below meth c Q A ls hx hb hml hown hts hE RET hS hl
  have hl : lv_has ls 2 [(0, .long x)] := hl
  have hown : s.vm.findClass RJ13 = some m.cls := hown
  refine lv_lload_n hx hb dJ13_bitCount_95d88_0 rfl (lv_at hl 0 rfl) ?_
  refine lv_lload_n hx hb dJ13_bitCount_95d88_1 rfl (lv_at hl 0 rfl) ?_
  refine lv_iconst (v := (1 : Int32)) hx hb dJ13_bitCount_95d88_2 (by decide) ?_
  refine lv_lushr hx hb dJ13_bitCount_95d88_3 rfl ?_
  refine lv_ldc2 (own := RJ13) (index := 314) (v := (6148914691236517205 : Int64)) hx hb hown (hts (.constantLong RJ13 314 (6148914691236517205 : Int64)) (List.mem_of_getElem? (i := 1) rfl)) dJ13_bitCount_95d88_4 ?_
  refine lv_land hx hb dJ13_bitCount_95d88_7 ?_
  refine lv_lsub hx hb dJ13_bitCount_95d88_8 ?_
  refine lv_topl (fun x9 ex9 => ?_)
  refine lv_lstore_n (lv' := [(0, .long x9)]) hx hb dJ13_bitCount_95d88_9 rfl hl (by decide) rfl (fun ls hl => ?_)
  refine lv_lload_n hx hb dJ13_bitCount_95d88_10 rfl (lv_at hl 0 rfl) ?_
  refine lv_ldc2 (own := RJ13) (index := 316) (v := (3689348814741910323 : Int64)) hx hb hown (hts (.constantLong RJ13 316 (3689348814741910323 : Int64)) (List.mem_of_getElem? (i := 2) rfl)) dJ13_bitCount_95d88_11 ?_
  refine lv_land hx hb dJ13_bitCount_95d88_14 ?_
  refine lv_lload_n hx hb dJ13_bitCount_95d88_15 rfl (lv_at hl 0 rfl) ?_
  refine lv_iconst (v := nI 2) hx hb dJ13_bitCount_95d88_16 (by decide) ?_
  refine lv_lushr hx hb dJ13_bitCount_95d88_17 rfl ?_
  refine lv_ldc2 (own := RJ13) (index := 316) (v := (3689348814741910323 : Int64)) hx hb hown (hts (.constantLong RJ13 316 (3689348814741910323 : Int64)) (List.mem_of_getElem? (i := 2) rfl)) dJ13_bitCount_95d88_18 ?_
  refine lv_land hx hb dJ13_bitCount_95d88_21 ?_
  refine lv_ladd hx hb dJ13_bitCount_95d88_22 ?_
  refine lv_topl (fun x23 ex23 => ?_)
  refine lv_lstore_n (lv' := [(0, .long x23)]) hx hb dJ13_bitCount_95d88_23 rfl hl (by decide) rfl (fun ls hl => ?_)
  refine lv_lload_n hx hb dJ13_bitCount_95d88_24 rfl (lv_at hl 0 rfl) ?_
  refine lv_lload_n hx hb dJ13_bitCount_95d88_25 rfl (lv_at hl 0 rfl) ?_
  refine lv_iconst (v := nI 4) hx hb dJ13_bitCount_95d88_26 (by decide) ?_
  refine lv_lushr hx hb dJ13_bitCount_95d88_27 rfl ?_
  refine lv_ladd hx hb dJ13_bitCount_95d88_28 ?_
  refine lv_ldc2 (own := RJ13) (index := 318) (v := (1085102592571150095 : Int64)) hx hb hown (hts (.constantLong RJ13 318 (1085102592571150095 : Int64)) (List.mem_of_getElem? (i := 3) rfl)) dJ13_bitCount_95d88_29 ?_
  refine lv_land hx hb dJ13_bitCount_95d88_32 ?_
  refine lv_topl (fun x33 ex33 => ?_)
  refine lv_lstore_n (lv' := [(0, .long x33)]) hx hb dJ13_bitCount_95d88_33 rfl hl (by decide) rfl (fun ls hl => ?_)
  refine lv_lload_n hx hb dJ13_bitCount_95d88_34 rfl (lv_at hl 0 rfl) ?_
  refine lv_lload_n hx hb dJ13_bitCount_95d88_35 rfl (lv_at hl 0 rfl) ?_
  refine lv_bipush (v := nI 8) hx hb dJ13_bitCount_95d88_36 (by decide) ?_
  refine lv_lushr hx hb dJ13_bitCount_95d88_38 rfl ?_
  refine lv_ladd hx hb dJ13_bitCount_95d88_39 ?_
  refine lv_topl (fun x40 ex40 => ?_)
  refine lv_lstore_n (lv' := [(0, .long x40)]) hx hb dJ13_bitCount_95d88_40 rfl hl (by decide) rfl (fun ls hl => ?_)
  refine lv_lload_n hx hb dJ13_bitCount_95d88_41 rfl (lv_at hl 0 rfl) ?_
  refine lv_lload_n hx hb dJ13_bitCount_95d88_42 rfl (lv_at hl 0 rfl) ?_
  refine lv_bipush (v := nI 16) hx hb dJ13_bitCount_95d88_43 (by decide) ?_
  refine lv_lushr hx hb dJ13_bitCount_95d88_45 rfl ?_
  refine lv_ladd hx hb dJ13_bitCount_95d88_46 ?_
  refine lv_topl (fun x47 ex47 => ?_)
  refine lv_lstore_n (lv' := [(0, .long x47)]) hx hb dJ13_bitCount_95d88_47 rfl hl (by decide) rfl (fun ls hl => ?_)
  refine lv_lload_n hx hb dJ13_bitCount_95d88_48 rfl (lv_at hl 0 rfl) ?_
  refine lv_lload_n hx hb dJ13_bitCount_95d88_49 rfl (lv_at hl 0 rfl) ?_
  refine lv_bipush (v := nI 32) hx hb dJ13_bitCount_95d88_50 (by decide) ?_
  refine lv_lushr hx hb dJ13_bitCount_95d88_52 rfl ?_
  refine lv_ladd hx hb dJ13_bitCount_95d88_53 ?_
  refine lv_topl (fun x54 ex54 => ?_)
  refine lv_lstore_n (lv' := [(0, .long x54)]) hx hb dJ13_bitCount_95d88_54 rfl hl (by decide) rfl (fun ls hl => ?_)
  refine lv_lload_n hx hb dJ13_bitCount_95d88_55 rfl (lv_at hl 0 rfl) ?_
  refine lv_l2i hx hb dJ13_bitCount_95d88_56 rfl ?_
  refine lv_bipush (v := nI 127) hx hb dJ13_bitCount_95d88_57 (by decide) ?_
  refine lv_iand hx hb dJ13_bitCount_95d88_59 ?_
  exact RET _ () _ _ _ _ dJ13_bitCount_95d88_60 rfl (cx_bcL ex9 ex23 ex33 ex40 ex47 ex54) hS
set_option maxHeartbeats 4000000 in
set_option maxRecDepth 100000 in
theorem c_J7_fill_d0a16 (l : Launch) (D : va_G) (q : Nat → Nat) (cI cJ : ClassId) (n : Nat) (T : Nat → Nat → Int32) (k : Nat) (M : Nat → Nat → Int32) (d : Nat) (C : Nat → Nat → Int32) (J : Nat → Nat → Int32) (g : Nat → Int64) (x : Int64) : cx_Mv l D vwCl [(cI, .int), (cJ, .long)] cx_NW yJ7_fill_d0a16 wsJ7_fill_d0a16 ({ frames := 0, cells := 0, slots := 0, locals := 0 } : Room) [.ref (q 27), .long x] (cxW q cI cJ n T k M d C J g) (fun (uw : (Nat → Int64)) => ∀ j, j < 36 → uw j = x) (fun uw => (cxW q cI cJ n T k M d C J uw)) := by
  refine cx_Mv.of (cc := cJ7_fill_d0a16) (maxL := 5) cx_NW_ok (by decide) rfl (Nat.le_of_ble_eq_true rfl) ?_
  intro p e s m args below meth c Q A ls hx hb hml hown hts hE RET hS hl
  have hl : lv_has ls 5 [(0, .ref (q 27)), (1, .long x)] := hl
  have hown : s.vm.findClass RJ7 = some m.cls := hown
  refine lv_iconst (v := (0 : Int32)) hx hb dJ7_fill_d0a16_0 (by decide) ?_
  refine cx_topr (z := nI 0) (by decide) ?_
  refine lv_istore_n (lv' := [(3, .int (nI 0)), (0, .ref (q 27)), (1, .long x)]) hx hb dJ7_fill_d0a16_1 rfl hl (by decide) rfl (fun ls hl => ?_)
  refine lv_aload_n hx hb dJ7_fill_d0a16_2 rfl (lv_at hl 1 rfl) ?_
  refine va_alen hx hb hE.1 hS.1 27 1 rfl rfl (v := nI 36) rfl dJ7_fill_d0a16_3 ?_
  refine lv_istore (lv' := [(4, .int (nI 36)), (3, .int (nI 0)), (0, .ref (q 27)), (1, .long x)]) hx hb dJ7_fill_d0a16_4 hl (by decide) rfl (fun ls hl => ?_)
  have J6 : ∀ (N : Nat) (i6 : Nat) (g_6 : Nat → Int64) (H : Heap) (locs : List Loc) (ls : Array Slot), (36 - i6 < N) → (i6 ≤ 36) → (∀ j, j < i6 → g_6 j = x) → cx_S D vwCl A s (cxW q cI cJ n T k M d C J g_6) H locs → lv_has ls 5 [(0, .ref (q 27)), (1, .long x), (3, .int (nI i6)), (4, .int (nI 36))] → W p l e ({ frames := 0, cells := 0, slots := 0, locals := 0 } : Room) s m args below meth c H locs 0 0 Q (F0 m 6 ls []) := by
    intro N6
    induction N6 with
    | zero => intro i6 g_6 H locs ls hN; exact absurd hN (by omega)
    | succ N6 ih6 =>
      intro i6 g_6 H locs ls hN6 hi6 hz hS hl
      refine lv_iload_n hx hb dJ7_fill_d0a16_6 rfl (lv_at hl 2 rfl) ?_
      refine lv_iload hx hb dJ7_fill_d0a16_7 (lv_at hl 3 rfl) ?_
      refine lv_icmp_ge (tgt := 22) hx hb dJ7_fill_d0a16_9 (by decide) (fun h9 => ?_) (fun h9 => ?_)
      · skip
        have g9 : 36 ≤ i6 := (nI_leI (a := 36) (b := i6) (by omega) (by omega)).mp h9
        exact RET (g_6) _ _ _ _ dJ7_fill_d0a16_22 (fun j hj => hz j (by omega)) hS
      · skip
        have g9 : ¬ (36 ≤ i6) := fun z => h9 ((nI_leI (a := 36) (b := i6) (by omega) (by omega)).mpr z)
        refine lv_aload_n hx hb dJ7_fill_d0a16_12 rfl (lv_at hl 0 rfl) ?_
        refine lv_iload_n hx hb dJ7_fill_d0a16_13 rfl (lv_at hl 2 rfl) ?_
        refine lv_lload_n hx hb dJ7_fill_d0a16_14 rfl (lv_at hl 1 rfl) ?_
        refine cx_last (f := g_6) (n := 36) (cA := cJ) (ws' := (cxW q cI cJ n T k M d C J (vp_updL g_6 i6 x))) hx hb hE hS 27 1 rfl rfl (by omega) (by decide) rfl dJ7_fill_d0a16_15 (fun H locs hS => ?_)
        refine lv_iinc (v := nI (i6 + 1)) (lv' := [(3, .int (nI (i6 + 1))), (0, .ref (q 27)), (1, .long x), (4, .int (nI 36))]) hx hb dJ7_fill_d0a16_16 hl (k := 2) rfl (cx_inc _) (by decide) rfl (fun ls hl => ?_)
        refine lv_goto (tgt := 6) hx hb dJ7_fill_d0a16_19 (by decide) ?_
        exact ih6 (i6 + 1) (vp_updL g_6 i6 x) _ _ _ (by omega) (by omega) (by first | exact cx_all0 | exact cx_fillS hz) hS (lv_sub hl [1, 2, 0, 3] rfl)
  exact J6 (36 - 0 + 1) 0 g _ _ _ (Nat.lt_succ_self _) (by omega) (by first | exact cx_all0 | exact cx_fillS hz) hS (lv_sub hl [2, 3, 1, 0] rfl)
set_option maxHeartbeats 4000000 in
set_option maxRecDepth 100000 in
theorem c_X4_missing (l : Launch) (D : va_G) (q : Nat → Nat) (cI cJ : ClassId) (n : Nat) (T : Nat → Nat → Int32) (k : Nat) (M : Nat → Nat → Int32) (d : Nat) (C : Nat → Nat → Int32) (J : Nat → Nat → Int32) (g : Nat → Int64) (t : Nat) (hn : n ≤ 20) (ht : t < n) (hB4 : cx_B4 n T) : cx_Mi l D vwCl [(cI, .int), (cJ, .long)] cx_NW yX4_missing wsX4_missing ({ frames := 2, cells := 0, slots := 0, locals := 40 } : Room) [.ref (q 5), .int (nI t)] (cxW q cI cJ n T k M d C J g) (fun (r : Int32) (uw : Unit) => (¬ r = 0 ↔ cx_ms n T t)) (fun _ => (cxW q cI cJ n T k M d C J g)) := by
  refine cx_Mi.of (cc := cX4_missing) (maxL := 2) cx_NW_ok (by decide) rfl (Nat.le_of_ble_eq_true rfl) ?_
  intro p e s m args below meth c Q A ls hx hb hml hown hts hE RET hS hl
  have hl : lv_has ls 2 [(0, .ref (q 5)), (1, .int (nI t))] := hl
  have hown : s.vm.findClass RX4 = some m.cls := hown
  have hinX4 : ∀ w ∈ u_ws RX4 TX4 1, w ∈ wsX4_missing := cx_mem [17] (by decide +kernel)
  have hinX5 : ∀ w ∈ u_ws RX5 TX5 12, w ∈ wsX4_missing := cx_mem [18, 19, 20, 21, 22, 23, 24, 25, 26, 27, 28, 29] (by decide +kernel)
  refine lv_aload_n hx hb dX4_missing_0 rfl (lv_at hl 0 rfl) ?_
  refine cx_get (own := RX4) (index := 9) (C := RX4) (T := TX4) (N := 1) (k := 0) (ci := 4) (v := .ref (q 1)) hx hb hts hown hE hS hinX4 5 rfl rfl (by decide) (List.mem_of_getElem? (i := 1) rfl) rfl dX4_missing_1 ?_
  refine lv_iload_n hx hb dX4_missing_4 rfl (lv_at hl 1 rfl) ?_
  refine cx_cVi (As := [.int (nI t)]) (rest := []) ⟨hx, hb, hml, hown, hts⟩ hE hS (c_X5_next l D q cI cJ n T k M d C J g t (by first | assumption | omega | rfl)) (cwV 1 hts gX4_missing_X5_next rfl rfl rfl (by decide +kernel) ⟨Nat.le_of_ble_eq_true rfl, Nat.le_of_ble_eq_true rfl⟩) 1 5 rfl rfl rfl hl.1 rfl (Nat.le_of_ble_eq_true rfl) ⟨Nat.zero_le _, Nat.zero_le _⟩ dX4_missing_5 (fun r_5 u_5 H locs hp_5 hS => ?_)
  have hp_5 : r_5 = ((((T 4)) t) ||| (((T 5)) t)) := hp_5
  subst hp_5
  refine lv_aload_n hx hb dX4_missing_8 rfl (lv_at hl 0 rfl) ?_
  refine cx_get (own := RX4) (index := 9) (C := RX4) (T := TX4) (N := 1) (k := 0) (ci := 4) (v := .ref (q 1)) hx hb hts hown hE hS hinX4 5 rfl rfl (by decide) (List.mem_of_getElem? (i := 1) rfl) rfl dX4_missing_9 ?_
  refine cx_getN (own := RX4) (index := 21) (C := RX5) (T := TX5) (N := 12) (k := 8) (ci := 5) (host := "ClassRules") (v := .ref (q 15)) hx hb hts hown hE hS hinX5 1 rfl rfl (by decide) (List.mem_of_getElem? (i := 12) rfl) rfl dX4_missing_12 ?_
  refine lv_iload_n hx hb dX4_missing_15 rfl (lv_at hl 1 rfl) ?_
  refine cx_iald (f := (T 8)) (n := 20) (cA := cI) hx hb hE hS 15 0 rfl rfl (by omega) (by decide) dX4_missing_16 ?_
  refine lv_ior hx hb dX4_missing_17 ?_
  refine lv_aload_n hx hb dX4_missing_18 rfl (lv_at hl 0 rfl) ?_
  refine cx_get (own := RX4) (index := 9) (C := RX4) (T := TX4) (N := 1) (k := 0) (ci := 4) (v := .ref (q 1)) hx hb hts hown hE hS hinX4 5 rfl rfl (by decide) (List.mem_of_getElem? (i := 1) rfl) rfl dX4_missing_19 ?_
  refine cx_cVi (As := []) (rest := [.int ((((((T 4)) t) ||| (((T 5)) t))) ||| ((T 8) t))]) ⟨hx, hb, hml, hown, hts⟩ hE hS (c_X5_everyone l D q cI cJ n T k M d C J g  ) (cwV 0 hts gX4_missing_X5_everyone rfl rfl rfl (by decide +kernel) ⟨Nat.le_of_ble_eq_true rfl, Nat.le_of_ble_eq_true rfl⟩) 1 5 rfl rfl rfl hl.1 rfl (Nat.le_of_ble_eq_true rfl) ⟨Nat.zero_le _, Nat.zero_le _⟩ dX4_missing_22 (fun r_22 u_22 H locs hp_22 hS => ?_)
  have hp_22 : r_22 = (((1 : Int32) <<< (nI n &&& 31)) - (1 : Int32)) := hp_22
  subst hp_22
  refine lv_iconst (v := (-1 : Int32)) hx hb dX4_missing_25 (by decide) ?_
  refine lv_ixor hx hb dX4_missing_26 ?_
  refine lv_iand hx hb dX4_missing_27 ?_
  exact RET _ () _ _ _ _ dX4_missing_28 rfl (cx_tr1 hn ht hB4) hS
set_option maxHeartbeats 4000000 in
set_option maxRecDepth 100000 in
theorem c_X4_ring (l : Launch) (D : va_G) (q : Nat → Nat) (cI cJ : ClassId) (n : Nat) (T : Nat → Nat → Int32) (k : Nat) (M : Nat → Nat → Int32) (d : Nat) (C : Nat → Nat → Int32) (J : Nat → Nat → Int32) (g : Nat → Int64) (t : Nat) (hn : n ≤ 20) (ht : t < n) (hB4 : cx_B4 n T) : cx_Mi l D vwCl [(cI, .int), (cJ, .long)] cx_NW yX4_ring wsX4_ring ({ frames := 1, cells := 0, slots := 0, locals := 20 } : Room) [.ref (q 5), .int (nI t)] (cxW q cI cJ n T k M d C J g) (fun (r : Int32) (uw : Unit) => (¬ r = 0 ↔ cx_Ac T n t t)) (fun _ => (cxW q cI cJ n T k M d C J g)) := by
  refine cx_Mi.of (cc := cX4_ring) (maxL := 2) cx_NW_ok (by decide) rfl (Nat.le_of_ble_eq_true rfl) ?_
  intro p e s m args below meth c Q A ls hx hb hml hown hts hE RET hS hl
  have hl : lv_has ls 2 [(0, .ref (q 5)), (1, .int (nI t))] := hl
  have hown : s.vm.findClass RX4 = some m.cls := hown
  have hinX4 : ∀ w ∈ u_ws RX4 TX4 1, w ∈ wsX4_ring := cx_mem [5] (by decide +kernel)
  have hinX5 : ∀ w ∈ u_ws RX5 TX5 12, w ∈ wsX4_ring := cx_mem [6, 7, 8, 9, 10, 11, 12, 13, 14, 15, 16, 17] (by decide +kernel)
  refine lv_aload_n hx hb dX4_ring_0 rfl (lv_at hl 0 rfl) ?_
  refine cx_get (own := RX4) (index := 9) (C := RX4) (T := TX4) (N := 1) (k := 0) (ci := 4) (v := .ref (q 1)) hx hb hts hown hE hS hinX4 5 rfl rfl (by decide) (List.mem_of_getElem? (i := 1) rfl) rfl dX4_ring_1 ?_
  refine cx_getN (own := RX4) (index := 29) (C := RX5) (T := TX5) (N := 12) (k := 10) (ci := 5) (host := "ClassRules") (v := .ref (q 17)) hx hb hts hown hE hS hinX5 1 rfl rfl (by decide) (List.mem_of_getElem? (i := 14) rfl) rfl dX4_ring_4 ?_
  refine lv_iload_n hx hb dX4_ring_7 rfl (lv_at hl 1 rfl) ?_
  refine cx_iald (f := (T 10)) (n := 20) (cA := cI) hx hb hE hS 17 0 rfl rfl (by omega) (by decide) dX4_ring_8 ?_
  refine lv_iload_n hx hb dX4_ring_9 rfl (lv_at hl 1 rfl) ?_
  refine cx_cNi (As := [.int (nI t)]) (rest := [.int ((T 10) t)]) ⟨hx, hb, hml, hown, hts⟩ hE hS (c_X6_bit l D [(cI, .int), (cJ, .long)] (cxW q cI cJ n T k M d C J g) (nI t) ) ⟨va_cnB (own := RX4) (index := 32) (host := "ClassRules") 1 hts gX4_ring_X6_bit_n32 rfl rfl rfl (hE.2.1 _ (List.mem_of_getElem? (i := 36) rfl)) (hts (.initialized RX6) (List.mem_of_getElem? (i := 3) rfl)) (by decide +kernel) ⟨Nat.le_of_ble_eq_true rfl, Nat.le_of_ble_eq_true rfl⟩, hts (.static yX6_bit) (List.mem_of_getElem? (i := 2) rfl), trivial⟩ rfl hl.1 rfl (Nat.le_of_ble_eq_true rfl) ⟨Nat.zero_le _, Nat.zero_le _⟩ dX4_ring_10 (fun r_10 u_10 H locs hp_10 hS => ?_)
  have hp_10 : r_10 = ((1 : Int32) <<< ((nI t) &&& 31)) := hp_10
  subst hp_10
  refine lv_iand hx hb dX4_ring_13 ?_
  exact RET _ () _ _ _ _ dX4_ring_14 rfl (cx_tr2 hn ht) hS
set_option maxHeartbeats 4000000 in
set_option maxRecDepth 100000 in
theorem c_X4_wrongKind (l : Launch) (D : va_G) (q : Nat → Nat) (cI cJ : ClassId) (n : Nat) (T : Nat → Nat → Int32) (k : Nat) (M : Nat → Nat → Int32) (d : Nat) (C : Nat → Nat → Int32) (J : Nat → Nat → Int32) (g : Nat → Int64) (t : Nat) (hn : n ≤ 20) (ht : t < n) (hB4 : cx_B4 n T) : cx_Mi l D vwCl [(cI, .int), (cJ, .long)] cx_NW yX4_wrongKind wsX4_wrongKind ({ frames := 2, cells := 0, slots := 0, locals := 43 } : Room) [.ref (q 5), .int (nI t)] (cxW q cI cJ n T k M d C J g) (fun (r : Int32) (uw : Unit) => (¬ r = 0 ↔ cx_wk n T t)) (fun _ => (cxW q cI cJ n T k M d C J g)) := by
  refine cx_Mi.of (cc := cX4_wrongKind) (maxL := 3) cx_NW_ok (by decide) rfl (Nat.le_of_ble_eq_true rfl) ?_
  intro p e s m args below meth c Q A ls hx hb hml hown hts hE RET hS hl
  have hl : lv_has ls 3 [(0, .ref (q 5)), (1, .int (nI t))] := hl
  have hown : s.vm.findClass RX4 = some m.cls := hown
  have hinX4 : ∀ w ∈ u_ws RX4 TX4 1, w ∈ wsX4_wrongKind := cx_mem [12] (by decide +kernel)
  have hinX5 : ∀ w ∈ u_ws RX5 TX5 12, w ∈ wsX4_wrongKind := cx_mem [13, 14, 15, 16, 17, 18, 19, 20, 21, 22, 23, 24] (by decide +kernel)
  refine lv_aload_n hx hb dX4_wrongKind_0 rfl (lv_at hl 0 rfl) ?_
  refine cx_get (own := RX4) (index := 9) (C := RX4) (T := TX4) (N := 1) (k := 0) (ci := 4) (v := .ref (q 1)) hx hb hts hown hE hS hinX4 5 rfl rfl (by decide) (List.mem_of_getElem? (i := 1) rfl) rfl dX4_wrongKind_1 ?_
  refine cx_getN (own := RX4) (index := 35) (C := RX5) (T := TX5) (N := 12) (k := 4) (ci := 5) (host := "ClassRules") (v := .ref (q 11)) hx hb hts hown hE hS hinX5 1 rfl rfl (by decide) (List.mem_of_getElem? (i := 8) rfl) rfl dX4_wrongKind_4 ?_
  refine lv_iload_n hx hb dX4_wrongKind_7 rfl (lv_at hl 1 rfl) ?_
  refine cx_iald (f := (T 4)) (n := 20) (cA := cI) hx hb hE hS 11 0 rfl rfl (by omega) (by decide) dX4_wrongKind_8 ?_
  refine lv_istore_n (lv' := [(2, .int ((T 4) t)), (0, .ref (q 5)), (1, .int (nI t))]) hx hb dX4_wrongKind_9 rfl hl (by decide) rfl (fun ls hl => ?_)
  refine lv_aload_n hx hb dX4_wrongKind_10 rfl (lv_at hl 1 rfl) ?_
  refine cx_get (own := RX4) (index := 9) (C := RX4) (T := TX4) (N := 1) (k := 0) (ci := 4) (v := .ref (q 1)) hx hb hts hown hE hS hinX4 5 rfl rfl (by decide) (List.mem_of_getElem? (i := 1) rfl) rfl dX4_wrongKind_11 ?_
  refine cx_getN (own := RX4) (index := 38) (C := RX5) (T := TX5) (N := 12) (k := 0) (ci := 5) (host := "ClassRules") (v := .ref (q 7)) hx hb hts hown hE hS hinX5 1 rfl rfl (by decide) (List.mem_of_getElem? (i := 1) rfl) rfl dX4_wrongKind_14 ?_
  refine lv_iload_n hx hb dX4_wrongKind_17 rfl (lv_at hl 2 rfl) ?_
  refine cx_iald (f := (T 0)) (n := 20) (cA := cI) hx hb hE hS 7 0 rfl rfl (by omega) (by decide) dX4_wrongKind_18 ?_
  have J35 : ∀ (v35_l2 : Int32) (H : Heap) (locs : List Loc) (ls : Array Slot), ((T 0 t = 0 ∧ ∃ c : Int32, (∀ u, u < 32 → (bt c u = true ↔ u < n ∧ T 0 u = 0)) ∧ v35_l2 = (T 4 t) &&& (c ^^^ (-1 : Int32))) ∨ (¬ T 0 t = 0 ∧ v35_l2 = T 4 t)) → cx_S D vwCl A s (cxW q cI cJ n T k M d C J g) H locs → lv_has ls 3 [(0, .ref (q 5)), (1, .int (nI t)), (2, .int v35_l2)] → W p l e ({ frames := 2, cells := 0, slots := 0, locals := 43 } : Room) s m args below meth c H locs 0 0 Q (F0 m 35 ls []) := by
    intro v35_l2 H locs ls hj hS hl
    refine lv_iload_n hx hb dX4_wrongKind_35 rfl (lv_at hl 2 rfl) ?_
    refine lv_aload_n hx hb dX4_wrongKind_36 rfl (lv_at hl 0 rfl) ?_
    refine cx_get (own := RX4) (index := 9) (C := RX4) (T := TX4) (N := 1) (k := 0) (ci := 4) (v := .ref (q 1)) hx hb hts hown hE hS hinX4 5 rfl rfl (by decide) (List.mem_of_getElem? (i := 1) rfl) rfl dX4_wrongKind_37 ?_
    refine cx_getN (own := RX4) (index := 44) (C := RX5) (T := TX5) (N := 12) (k := 5) (ci := 5) (host := "ClassRules") (v := .ref (q 12)) hx hb hts hown hE hS hinX5 1 rfl rfl (by decide) (List.mem_of_getElem? (i := 9) rfl) rfl dX4_wrongKind_40 ?_
    refine lv_iload_n hx hb dX4_wrongKind_43 rfl (lv_at hl 1 rfl) ?_
    refine cx_iald (f := (T 5)) (n := 20) (cA := cI) hx hb hE hS 12 0 rfl rfl (by omega) (by decide) dX4_wrongKind_44 ?_
    refine lv_aload_n hx hb dX4_wrongKind_45 rfl (lv_at hl 0 rfl) ?_
    refine cx_get (own := RX4) (index := 9) (C := RX4) (T := TX4) (N := 1) (k := 0) (ci := 4) (v := .ref (q 1)) hx hb hts hown hE hS hinX4 5 rfl rfl (by decide) (List.mem_of_getElem? (i := 1) rfl) rfl dX4_wrongKind_46 ?_
    refine lv_iconst (v := (1 : Int32)) hx hb dX4_wrongKind_49 (by decide) ?_
    refine cx_cVi (As := [.int (1 : Int32)]) (rest := [.int ((T 5) t), .int v35_l2]) ⟨hx, hb, hml, hown, hts⟩ hE hS (c_X5_ofKind l D q cI cJ n T k M d C J g (1 : Int32) (by first | assumption | omega | rfl)) (cwV 1 hts gX4_wrongKind_X5_ofKind rfl rfl rfl (by decide +kernel) ⟨Nat.le_of_ble_eq_true rfl, Nat.le_of_ble_eq_true rfl⟩) 1 5 rfl rfl rfl hl.1 rfl (Nat.le_of_ble_eq_true rfl) ⟨Nat.zero_le _, Nat.zero_le _⟩ dX4_wrongKind_50 (fun r_50 u_50 H locs hp_50 hS => ?_)
    have hp_50 : ∀ u, u < 32 → (bt r_50 u = true ↔ u < n ∧ (T 0) u = (1 : Int32)) := hp_50
    refine lv_iconst (v := (-1 : Int32)) hx hb dX4_wrongKind_53 (by decide) ?_
    refine lv_ixor hx hb dX4_wrongKind_54 ?_
    refine lv_iand hx hb dX4_wrongKind_55 ?_
    refine lv_ior hx hb dX4_wrongKind_56 ?_
    exact RET _ () _ _ _ _ dX4_wrongKind_57 rfl (by rcases hj with ⟨a, c, b, e⟩ | ⟨a, e⟩; exact cx_tr3 (c := c) hn ht hB4 hp_50 (Or.inl ⟨a, b, e⟩); exact cx_tr3 (c := 0) hn ht hB4 hp_50 (Or.inr ⟨a, e⟩)) hS
  refine lv_if_ne (tgt := 35) hx hb dX4_wrongKind_19 (by decide) (fun h19 => ?_) (fun h19 => ?_)
  · skip
    exact J35 ((T 4) t) _ _ _ (by first | exact Or.inl ⟨h19, _, hp_28, rfl⟩ | exact Or.inr ⟨h19, rfl⟩) hS (lv_sub hl [1, 2, 0] rfl)
  · skip
    refine lv_iload_n hx hb dX4_wrongKind_22 rfl (lv_at hl 0 rfl) ?_
    refine lv_aload_n hx hb dX4_wrongKind_23 rfl (lv_at hl 1 rfl) ?_
    refine cx_get (own := RX4) (index := 9) (C := RX4) (T := TX4) (N := 1) (k := 0) (ci := 4) (v := .ref (q 1)) hx hb hts hown hE hS hinX4 5 rfl rfl (by decide) (List.mem_of_getElem? (i := 1) rfl) rfl dX4_wrongKind_24 ?_
    refine lv_iconst (v := (0 : Int32)) hx hb dX4_wrongKind_27 (by decide) ?_
    refine cx_cVi (As := [.int (0 : Int32)]) (rest := [.int ((T 4) t)]) ⟨hx, hb, hml, hown, hts⟩ hE hS (c_X5_ofKind l D q cI cJ n T k M d C J g (0 : Int32) (by first | assumption | omega | rfl)) (cwV 1 hts gX4_wrongKind_X5_ofKind rfl rfl rfl (by decide +kernel) ⟨Nat.le_of_ble_eq_true rfl, Nat.le_of_ble_eq_true rfl⟩) 1 5 rfl rfl rfl hl.1 rfl (Nat.le_of_ble_eq_true rfl) ⟨Nat.zero_le _, Nat.zero_le _⟩ dX4_wrongKind_28 (fun r_28 u_28 H locs hp_28 hS => ?_)
    have hp_28 : ∀ u, u < 32 → (bt r_28 u = true ↔ u < n ∧ (T 0) u = (0 : Int32)) := hp_28
    refine lv_iconst (v := (-1 : Int32)) hx hb dX4_wrongKind_31 (by decide) ?_
    refine lv_ixor hx hb dX4_wrongKind_32 ?_
    refine lv_iand hx hb dX4_wrongKind_33 ?_
    refine lv_istore_n (lv' := [(2, .int (((T 4) t) &&& (r_28 ^^^ (-1 : Int32)))), (0, .ref (q 5)), (1, .int (nI t))]) hx hb dX4_wrongKind_34 rfl hl (by decide) rfl (fun ls hl => ?_)
    exact J35 (((T 4) t) &&& (r_28 ^^^ (-1 : Int32))) _ _ _ (by first | exact Or.inl ⟨h19, _, hp_28, rfl⟩ | exact Or.inr ⟨h19, rfl⟩) hS (lv_sub hl [1, 2, 0] rfl)
set_option maxHeartbeats 4000000 in
set_option maxRecDepth 100000 in
theorem c_X4_finalParent (l : Launch) (D : va_G) (q : Nat → Nat) (cI cJ : ClassId) (n : Nat) (T : Nat → Nat → Int32) (k : Nat) (M : Nat → Nat → Int32) (d : Nat) (C : Nat → Nat → Int32) (J : Nat → Nat → Int32) (g : Nat → Int64) (t : Nat) (hn : n ≤ 20) (ht : t < n) (hB4 : cx_B4 n T) : cx_Mi l D vwCl [(cI, .int), (cJ, .long)] cx_NW yX4_finalParent wsX4_finalParent ({ frames := 2, cells := 0, slots := 0, locals := 45 } : Room) [.ref (q 5), .int (nI t)] (cxW q cI cJ n T k M d C J g) (fun (r : Int32) (uw : Unit) => (¬ r = 0 ↔ cx_F4 n (T 1) (T 3) t)) (fun _ => (cxW q cI cJ n T k M d C J g)) := by
  refine cx_Mi.of (cc := cX4_finalParent) (maxL := 2) cx_NW_ok (by decide) rfl (Nat.le_of_ble_eq_true rfl) ?_
  intro p e s m args below meth c Q A ls hx hb hml hown hts hE RET hS hl
  have hl : lv_has ls 2 [(0, .ref (q 5)), (1, .int (nI t))] := hl
  have hown : s.vm.findClass RX4 = some m.cls := hown
  have hinX4 : ∀ w ∈ u_ws RX4 TX4 1, w ∈ wsX4_finalParent := cx_mem [16] (by decide +kernel)
  have hinX5 : ∀ w ∈ u_ws RX5 TX5 12, w ∈ wsX4_finalParent := cx_mem [17, 18, 19, 20, 21, 22, 23, 24, 25, 26, 27, 28] (by decide +kernel)
  refine lv_aload_n hx hb dX4_finalParent_0 rfl (lv_at hl 0 rfl) ?_
  refine cx_get (own := RX4) (index := 9) (C := RX4) (T := TX4) (N := 1) (k := 0) (ci := 4) (v := .ref (q 1)) hx hb hts hown hE hS hinX4 5 rfl rfl (by decide) (List.mem_of_getElem? (i := 1) rfl) rfl dX4_finalParent_1 ?_
  refine cx_getN (own := RX4) (index := 35) (C := RX5) (T := TX5) (N := 12) (k := 4) (ci := 5) (host := "ClassRules") (v := .ref (q 11)) hx hb hts hown hE hS hinX5 1 rfl rfl (by decide) (List.mem_of_getElem? (i := 8) rfl) rfl dX4_finalParent_4 ?_
  refine lv_iload_n hx hb dX4_finalParent_7 rfl (lv_at hl 1 rfl) ?_
  refine cx_iald (f := (T 4)) (n := 20) (cA := cI) hx hb hE hS 11 0 rfl rfl (by omega) (by decide) dX4_finalParent_8 ?_
  refine lv_aload_n hx hb dX4_finalParent_9 rfl (lv_at hl 0 rfl) ?_
  refine cx_get (own := RX4) (index := 9) (C := RX4) (T := TX4) (N := 1) (k := 0) (ci := 4) (v := .ref (q 1)) hx hb hts hown hE hS hinX4 5 rfl rfl (by decide) (List.mem_of_getElem? (i := 1) rfl) rfl dX4_finalParent_10 ?_
  refine lv_iconst (v := nI 2) hx hb dX4_finalParent_13 (by decide) ?_
  refine cx_cVi (As := [.int (nI 2)]) (rest := [.int ((T 4) t)]) ⟨hx, hb, hml, hown, hts⟩ hE hS (c_X5_withMark l D q cI cJ n T k M d C J g (nI 2) (by first | assumption | omega | rfl)) (cwV 1 hts gX4_finalParent_X5_withMark rfl rfl rfl (by decide +kernel) ⟨Nat.le_of_ble_eq_true rfl, Nat.le_of_ble_eq_true rfl⟩) 1 5 rfl rfl rfl hl.1 rfl (Nat.le_of_ble_eq_true rfl) ⟨Nat.zero_le _, Nat.zero_le _⟩ dX4_finalParent_14 (fun r_14 u_14 H locs hp_14 hS => ?_)
  have hp_14 : ∀ u, u < 32 → (bt r_14 u = true ↔ u < n ∧ cx_mk ((T 1)) u (nI 2)) := hp_14
  refine lv_iand hx hb dX4_finalParent_17 ?_
  exact RET _ () _ _ _ _ dX4_finalParent_18 rfl (cx_tr4 ht hn hB4 hp_14) hS
set_option maxHeartbeats 4000000 in
set_option maxRecDepth 100000 in
theorem c_X4_wrongMarks (l : Launch) (D : va_G) (q : Nat → Nat) (cI cJ : ClassId) (n : Nat) (T : Nat → Nat → Int32) (k : Nat) (M : Nat → Nat → Int32) (d : Nat) (C : Nat → Nat → Int32) (J : Nat → Nat → Int32) (g : Nat → Int64) (t : Nat) (hn : n ≤ 20) (ht : t < n) (hR1 : cx_R (T 1) 16) : cx_Mi l D vwCl [(cI, .int), (cJ, .long)] cx_NW yX4_wrongMarks wsX4_wrongMarks ({ frames := 1, cells := 0, slots := 0, locals := 20 } : Room) [.ref (q 5), .int (nI t)] (cxW q cI cJ n T k M d C J g) (fun (r : Int32) (uw : Unit) => (¬ r = 0 ↔ (cx_f5 (T 0 t) (T 1 t)))) (fun _ => (cxW q cI cJ n T k M d C J g)) := by
  refine cx_Mi.of (cc := cX4_wrongMarks) (maxL := 8) cx_NW_ok (by decide) rfl (Nat.le_of_ble_eq_true rfl) ?_
  intro p e s m args below meth c Q A ls hx hb hml hown hts hE RET hS hl
  have hl : lv_has ls 8 [(0, .ref (q 5)), (1, .int (nI t))] := hl
  have hown : s.vm.findClass RX4 = some m.cls := hown
  have hinX4 : ∀ w ∈ u_ws RX4 TX4 1, w ∈ wsX4_wrongMarks := cx_mem [12] (by decide +kernel)
  have hinX5 : ∀ w ∈ u_ws RX5 TX5 12, w ∈ wsX4_wrongMarks := cx_mem [13, 14, 15, 16, 17, 18, 19, 20, 21, 22, 23, 24] (by decide +kernel)
  refine lv_aload_n hx hb dX4_wrongMarks_0 rfl (lv_at hl 0 rfl) ?_
  refine cx_get (own := RX4) (index := 9) (C := RX4) (T := TX4) (N := 1) (k := 0) (ci := 4) (v := .ref (q 1)) hx hb hts hown hE hS hinX4 5 rfl rfl (by decide) (List.mem_of_getElem? (i := 1) rfl) rfl dX4_wrongMarks_1 ?_
  refine cx_getN (own := RX4) (index := 50) (C := RX5) (T := TX5) (N := 12) (k := 1) (ci := 5) (host := "ClassRules") (v := .ref (q 8)) hx hb hts hown hE hS hinX5 1 rfl rfl (by decide) (List.mem_of_getElem? (i := 6) rfl) rfl dX4_wrongMarks_4 ?_
  refine lv_iload_n hx hb dX4_wrongMarks_7 rfl (lv_at hl 1 rfl) ?_
  refine cx_iald (f := (T 1)) (n := 20) (cA := cI) hx hb hE hS 8 0 rfl rfl (by omega) (by decide) dX4_wrongMarks_8 ?_
  refine lv_istore_n (lv' := [(2, .int ((T 1) t)), (0, .ref (q 5)), (1, .int (nI t))]) hx hb dX4_wrongMarks_9 rfl hl (by decide) rfl (fun ls hl => ?_)
  refine lv_aload_n hx hb dX4_wrongMarks_10 rfl (lv_at hl 1 rfl) ?_
  refine cx_get (own := RX4) (index := 9) (C := RX4) (T := TX4) (N := 1) (k := 0) (ci := 4) (v := .ref (q 1)) hx hb hts hown hE hS hinX4 5 rfl rfl (by decide) (List.mem_of_getElem? (i := 1) rfl) rfl dX4_wrongMarks_11 ?_
  refine cx_getN (own := RX4) (index := 38) (C := RX5) (T := TX5) (N := 12) (k := 0) (ci := 5) (host := "ClassRules") (v := .ref (q 7)) hx hb hts hown hE hS hinX5 1 rfl rfl (by decide) (List.mem_of_getElem? (i := 1) rfl) rfl dX4_wrongMarks_14 ?_
  refine lv_iload_n hx hb dX4_wrongMarks_17 rfl (lv_at hl 2 rfl) ?_
  refine cx_iald (f := (T 0)) (n := 20) (cA := cI) hx hb hE hS 7 0 rfl rfl (by omega) (by decide) dX4_wrongMarks_18 ?_
  refine lv_istore_n (lv' := [(3, .int ((T 0) t)), (2, .int ((T 1) t)), (0, .ref (q 5)), (1, .int (nI t))]) hx hb dX4_wrongMarks_19 rfl hl (by decide) rfl (fun ls hl => ?_)
  refine lv_iload_n hx hb dX4_wrongMarks_20 rfl (lv_at hl 1 rfl) ?_
  refine lv_bipush (v := nI 14) hx hb dX4_wrongMarks_21 (by decide) ?_
  refine lv_iand hx hb dX4_wrongMarks_23 ?_
  refine cx_cSi (As := [.int (((T 1) t) &&& (nI 14))]) (rest := []) ⟨hx, hb, hml, hown, hts⟩ hE hS (c_J6_bitCount_0f7a4 l D [(cI, .int), (cJ, .long)] (cxW q cI cJ n T k M d C J g) (((T 1) t) &&& (nI 14)) ) (va_cwS 1 hts gX4_wrongMarks_J6_bitCount_0f7a4 rfl rfl rfl (by decide +kernel) ⟨Nat.le_of_ble_eq_true rfl, Nat.le_of_ble_eq_true rfl⟩) rfl hl.1 rfl (Nat.le_of_ble_eq_true rfl) ⟨Nat.zero_le _, Nat.zero_le _⟩ dX4_wrongMarks_24 (fun r_24 u_24 H locs hp_24 hS => ?_)
  have hp_24 : r_24 = cx_bcI (((T 1) t) &&& (nI 14)) := hp_24
  subst hp_24
  refine lv_iconst (v := (1 : Int32)) hx hb dX4_wrongMarks_27 (by decide) ?_
  have J36 : ∀ (v36_s0 : Int32) (H : Heap) (locs : List Loc) (ls : Array Slot), ((v36_s0 = 0 ∨ v36_s0 = 1) ∧ (¬ v36_s0 = 0 ↔ ((¬ (T 1 t &&& nI 2) = 0 ∧ ¬ (T 1 t &&& nI 4) = 0) ∨ (¬ (T 1 t &&& nI 2) = 0 ∧ ¬ (T 1 t &&& nI 8) = 0) ∨ (¬ (T 1 t &&& nI 4) = 0 ∧ ¬ (T 1 t &&& nI 8) = 0)))) → cx_S D vwCl A s (cxW q cI cJ n T k M d C J g) H locs → lv_has ls 8 [(0, .ref (q 5)), (1, .int (nI t)), (2, .int ((T 1) t)), (3, .int ((T 0) t))] → W p l e ({ frames := 1, cells := 0, slots := 0, locals := 20 } : Room) s m args below meth c H locs 0 0 Q (F0 m 36 ls [.int v36_s0]) := by
    intro v36_s0 H locs ls b36 hS hl
    refine lv_istore (lv' := [(4, .int v36_s0), (0, .ref (q 5)), (1, .int (nI t)), (2, .int ((T 1) t)), (3, .int ((T 0) t))]) hx hb dX4_wrongMarks_36 hl (by decide) rfl (fun ls hl => ?_)
    refine lv_iload_n hx hb dX4_wrongMarks_38 rfl (lv_at hl 4 rfl) ?_
    refine lv_iconst (v := (1 : Int32)) hx hb dX4_wrongMarks_39 (by decide) ?_
    have J54 : ∀ (v54_s0 : Int32) (H : Heap) (locs : List Loc) (ls : Array Slot), ((v54_s0 = 0 ∨ v54_s0 = 1) ∧ (¬ v54_s0 = 0 ↔ (T 0 t = 1 ∨ ¬ (T 1 t &&& 1) = 0))) → cx_S D vwCl A s (cxW q cI cJ n T k M d C J g) H locs → lv_has ls 8 [(0, .ref (q 5)), (1, .int (nI t)), (2, .int ((T 1) t)), (3, .int ((T 0) t)), (4, .int v36_s0)] → W p l e ({ frames := 1, cells := 0, slots := 0, locals := 20 } : Room) s m args below meth c H locs 0 0 Q (F0 m 54 ls [.int v54_s0]) := by
      intro v54_s0 H locs ls b54 hS hl
      refine lv_istore (lv' := [(5, .int v54_s0), (0, .ref (q 5)), (1, .int (nI t)), (2, .int ((T 1) t)), (3, .int ((T 0) t)), (4, .int v36_s0)]) hx hb dX4_wrongMarks_54 hl (by decide) rfl (fun ls hl => ?_)
      refine lv_iload_n hx hb dX4_wrongMarks_56 rfl (lv_at hl 4 rfl) ?_
      have J70 : ∀ (v70_s0 : Int32) (H : Heap) (locs : List Loc) (ls : Array Slot), ((v70_s0 = 0 ∨ v70_s0 = 1) ∧ (¬ v70_s0 = 0 ↔ (¬ T 0 t = 0 ∧ ¬ T 0 t = 1))) → cx_S D vwCl A s (cxW q cI cJ n T k M d C J g) H locs → lv_has ls 8 [(0, .ref (q 5)), (1, .int (nI t)), (2, .int ((T 1) t)), (3, .int ((T 0) t)), (4, .int v36_s0), (5, .int v54_s0)] → W p l e ({ frames := 1, cells := 0, slots := 0, locals := 20 } : Room) s m args below meth c H locs 0 0 Q (F0 m 70 ls [.int v70_s0]) := by
        intro v70_s0 H locs ls b70 hS hl
        refine lv_istore (lv' := [(6, .int v70_s0), (0, .ref (q 5)), (1, .int (nI t)), (2, .int ((T 1) t)), (3, .int ((T 0) t)), (4, .int v36_s0), (5, .int v54_s0)]) hx hb dX4_wrongMarks_70 hl (by decide) rfl (fun ls hl => ?_)
        refine lv_iload hx hb dX4_wrongMarks_72 (lv_at hl 5 rfl) ?_
        have J102 : ∀ (v102_s0 : Int32) (H : Heap) (locs : List Loc) (ls : Array Slot), ((v102_s0 = 0 ∨ v102_s0 = 1) ∧ (¬ v102_s0 = 0 ↔ (cx_f5 (T 0 t) (T 1 t)))) → cx_S D vwCl A s (cxW q cI cJ n T k M d C J g) H locs → lv_has ls 8 [(0, .ref (q 5)), (1, .int (nI t)), (2, .int ((T 1) t)), (3, .int ((T 0) t)), (4, .int v36_s0), (5, .int v54_s0), (6, .int v70_s0)] → W p l e ({ frames := 1, cells := 0, slots := 0, locals := 20 } : Room) s m args below meth c H locs 0 0 Q (F0 m 102 ls [.int v102_s0]) := by
          intro v102_s0 H locs ls b102 hS hl
          refine lv_istore (lv' := [(7, .int v102_s0), (0, .ref (q 5)), (1, .int (nI t)), (2, .int ((T 1) t)), (3, .int ((T 0) t)), (4, .int v36_s0), (5, .int v54_s0), (6, .int v70_s0)]) hx hb dX4_wrongMarks_102 hl (by decide) rfl (fun ls hl => ?_)
          refine lv_iload hx hb dX4_wrongMarks_104 (lv_at hl 0 rfl) ?_
          have J117 : ∀ (v117_s0 : Int32) (H : Heap) (locs : List Loc) (ls : Array Slot), (((cx_f5 (T 0 t) (T 1 t)) ∧ v117_s0 = (1 : Int32) <<< (nI t &&& 31)) ∨ (¬ (cx_f5 (T 0 t) (T 1 t)) ∧ v117_s0 = 0)) → cx_S D vwCl A s (cxW q cI cJ n T k M d C J g) H locs → lv_has ls 8 [(0, .ref (q 5)), (1, .int (nI t)), (2, .int ((T 1) t)), (3, .int ((T 0) t)), (4, .int v36_s0), (5, .int v54_s0), (6, .int v70_s0), (7, .int v102_s0)] → W p l e ({ frames := 1, cells := 0, slots := 0, locals := 20 } : Room) s m args below meth c H locs 0 0 Q (F0 m 117 ls [.int v117_s0]) := by
            intro v117_s0 H locs ls hv hS hl
            exact RET _ () _ _ _ _ dX4_wrongMarks_117 rfl (cx_bitv (by omega) hv) hS
          refine lv_if_eq (tgt := 116) hx hb dX4_wrongMarks_106 (by decide) (fun h106 => ?_) (fun h106 => ?_)
          · skip
            have g106 : ¬ ((cx_f5 (T 0 t) (T 1 t))) := fun z => b102.2.mpr z h106
            refine lv_iconst (v := (0 : Int32)) hx hb dX4_wrongMarks_116 (by decide) ?_
            exact J117 (0 : Int32) _ _ _ (by first | exact Or.inl ⟨g106, rfl⟩ | exact Or.inr ⟨g106, rfl⟩) hS (lv_sub hl [1, 2, 3, 4, 5, 6, 7, 0] rfl)
          · skip
            have g106 : (cx_f5 (T 0 t) (T 1 t)) := b102.2.mp h106
            refine lv_iload_n hx hb dX4_wrongMarks_109 rfl (lv_at hl 2 rfl) ?_
            refine cx_cNi (As := [.int (nI t)]) (rest := []) ⟨hx, hb, hml, hown, hts⟩ hE hS (c_X6_bit l D [(cI, .int), (cJ, .long)] (cxW q cI cJ n T k M d C J g) (nI t) ) ⟨va_cnB (own := RX4) (index := 32) (host := "ClassRules") 1 hts gX4_wrongMarks_X6_bit_n32 rfl rfl rfl (hE.2.1 _ (List.mem_of_getElem? (i := 36) rfl)) (hts (.initialized RX6) (List.mem_of_getElem? (i := 10) rfl)) (by decide +kernel) ⟨Nat.le_of_ble_eq_true rfl, Nat.le_of_ble_eq_true rfl⟩, hts (.static yX6_bit) (List.mem_of_getElem? (i := 9) rfl), trivial⟩ rfl hl.1 rfl (Nat.le_of_ble_eq_true rfl) ⟨Nat.zero_le _, Nat.zero_le _⟩ dX4_wrongMarks_110 (fun r_110 u_110 H locs hp_110 hS => ?_)
            have hp_110 : r_110 = ((1 : Int32) <<< ((nI t) &&& 31)) := hp_110
            subst hp_110
            refine lv_goto (tgt := 117) hx hb dX4_wrongMarks_113 (by decide) ?_
            exact J117 (((1 : Int32) <<< ((nI t) &&& 31))) _ _ _ (by first | exact Or.inl ⟨g106, rfl⟩ | exact Or.inr ⟨g106, rfl⟩) hS (lv_sub hl [1, 2, 3, 4, 5, 6, 7, 0] rfl)
        have J97 : ∀ (H : Heap) (locs : List Loc) (ls : Array Slot), ((cx_f5 (T 0 t) (T 1 t))) → cx_S D vwCl A s (cxW q cI cJ n T k M d C J g) H locs → lv_has ls 8 [(0, .ref (q 5)), (1, .int (nI t)), (2, .int ((T 1) t)), (3, .int ((T 0) t)), (4, .int v36_s0), (5, .int v54_s0), (6, .int v70_s0)] → W p l e ({ frames := 1, cells := 0, slots := 0, locals := 20 } : Room) s m args below meth c H locs 0 0 Q (F0 m 97 ls []) := by
          intro  H locs ls f97 hS hl
          refine lv_iconst (v := (1 : Int32)) hx hb dX4_wrongMarks_97 (by decide) ?_
          refine lv_goto (tgt := 102) hx hb dX4_wrongMarks_98 (by decide) ?_
          exact J102 (1 : Int32) _ _ _ (cx_e1 (by (try clear RET); (try clear hS); (try clear hl); (try clear hE); (try clear hts); (try clear hb); (try clear hx); (try clear hml); (try clear hown); (try clear hinX4); (try clear hinX5); (try clear J36); (try clear J54); (try clear J70); (try clear J102); (try clear J97); have y10 : ¬ (1 : Int32) = 0 := (by decide); first | assumption | (have y28 := cx_bc14 (hR1 t); (try unfold cx_f5); grind))) hS (lv_sub hl [0, 1, 2, 3, 4, 5, 6] rfl)
        refine lv_if_ne (tgt := 97) hx hb dX4_wrongMarks_74 (by decide) (fun h74 => ?_) (fun h74 => ?_)
        · skip
          have g74 : ((¬ (T 1 t &&& nI 2) = 0 ∧ ¬ (T 1 t &&& nI 4) = 0) ∨ (¬ (T 1 t &&& nI 2) = 0 ∧ ¬ (T 1 t &&& nI 8) = 0) ∨ (¬ (T 1 t &&& nI 4) = 0 ∧ ¬ (T 1 t &&& nI 8) = 0)) := b36.2.mp h74
          exact J97  _ _ _ (by (try clear RET); (try clear hS); (try clear hl); (try clear hE); (try clear hts); (try clear hb); (try clear hx); (try clear hml); (try clear hown); (try clear hinX4); (try clear hinX5); (try clear J36); (try clear J54); (try clear J70); (try clear J102); (try clear J97); have y10 : ¬ (1 : Int32) = 0 := (by decide); first | assumption | (have y28 := cx_bc14 (hR1 t); (try unfold cx_f5); grind)) hS (lv_sub hl [1, 2, 3, 4, 5, 6, 0] rfl)
        · skip
          have g74 : ¬ (((¬ (T 1 t &&& nI 2) = 0 ∧ ¬ (T 1 t &&& nI 4) = 0) ∨ (¬ (T 1 t &&& nI 2) = 0 ∧ ¬ (T 1 t &&& nI 8) = 0) ∨ (¬ (T 1 t &&& nI 4) = 0 ∧ ¬ (T 1 t &&& nI 8) = 0))) := fun z => b36.2.mpr z h74
          refine lv_iload hx hb dX4_wrongMarks_77 (lv_at hl 6 rfl) ?_
          have J88 : ∀ (H : Heap) (locs : List Loc) (ls : Array Slot), (¬ ((T 0 t = 1 ∨ ¬ (T 1 t &&& 1) = 0) ∧ ¬ (T 1 t &&& nI 2) = 0)) → cx_S D vwCl A s (cxW q cI cJ n T k M d C J g) H locs → lv_has ls 8 [(0, .ref (q 5)), (1, .int (nI t)), (2, .int ((T 1) t)), (3, .int ((T 0) t)), (4, .int v36_s0), (5, .int v54_s0), (6, .int v70_s0)] → W p l e ({ frames := 1, cells := 0, slots := 0, locals := 20 } : Room) s m args below meth c H locs 0 0 Q (F0 m 88 ls []) := by
            intro  H locs ls h88 hS hl
            refine lv_iload hx hb dX4_wrongMarks_88 (lv_at hl 6 rfl) ?_
            have J101 : ∀ (H : Heap) (locs : List Loc) (ls : Array Slot), (¬ ((cx_f5 (T 0 t) (T 1 t)))) → cx_S D vwCl A s (cxW q cI cJ n T k M d C J g) H locs → lv_has ls 8 [(0, .ref (q 5)), (1, .int (nI t)), (2, .int ((T 1) t)), (3, .int ((T 0) t)), (4, .int v36_s0), (5, .int v54_s0), (6, .int v70_s0)] → W p l e ({ frames := 1, cells := 0, slots := 0, locals := 20 } : Room) s m args below meth c H locs 0 0 Q (F0 m 101 ls []) := by
              intro  H locs ls f101 hS hl
              refine lv_iconst (v := (0 : Int32)) hx hb dX4_wrongMarks_101 (by decide) ?_
              exact J102 (0 : Int32) _ _ _ (cx_e0 (by (try clear RET); (try clear hS); (try clear hl); (try clear hE); (try clear hts); (try clear hb); (try clear hx); (try clear hml); (try clear hown); (try clear hinX4); (try clear hinX5); (try clear J36); (try clear J54); (try clear J70); (try clear J102); (try clear J97); (try clear J88); (try clear J101); have y10 : ¬ (1 : Int32) = 0 := (by decide); first | assumption | (have y28 := cx_bc14 (hR1 t); (try unfold cx_f5); grind))) hS (lv_sub hl [0, 1, 2, 3, 4, 5, 6] rfl)
            refine lv_if_eq (tgt := 101) hx hb dX4_wrongMarks_90 (by decide) (fun h90 => ?_) (fun h90 => ?_)
            · skip
              have g90 : ¬ ((¬ T 0 t = 0 ∧ ¬ T 0 t = 1)) := fun z => b70.2.mpr z h90
              exact J101  _ _ _ (by (try clear RET); (try clear hS); (try clear hl); (try clear hE); (try clear hts); (try clear hb); (try clear hx); (try clear hml); (try clear hown); (try clear hinX4); (try clear hinX5); (try clear J36); (try clear J54); (try clear J70); (try clear J102); (try clear J97); (try clear J88); (try clear J101); have y10 : ¬ (1 : Int32) = 0 := (by decide); first | assumption | (have y28 := cx_bc14 (hR1 t); (try unfold cx_f5); grind)) hS (lv_sub hl [0, 1, 2, 3, 4, 5, 6] rfl)
            · skip
              have g90 : (¬ T 0 t = 0 ∧ ¬ T 0 t = 1) := b70.2.mp h90
              refine lv_iload_n hx hb dX4_wrongMarks_93 rfl (lv_at hl 2 rfl) ?_
              refine lv_if_eq (tgt := 101) hx hb dX4_wrongMarks_94 (by decide) (fun h94 => ?_) (fun h94 => ?_)
              · skip
                exact J101  _ _ _ (by (try clear RET); (try clear hS); (try clear hl); (try clear hE); (try clear hts); (try clear hb); (try clear hx); (try clear hml); (try clear hown); (try clear hinX4); (try clear hinX5); (try clear J36); (try clear J54); (try clear J70); (try clear J102); (try clear J97); (try clear J88); (try clear J101); have y10 : ¬ (1 : Int32) = 0 := (by decide); first | assumption | (have y28 := cx_bc14 (hR1 t); (try unfold cx_f5); grind)) hS (lv_sub hl [0, 1, 2, 3, 4, 5, 6] rfl)
              · skip
                exact J97  _ _ _ (by (try clear RET); (try clear hS); (try clear hl); (try clear hE); (try clear hts); (try clear hb); (try clear hx); (try clear hml); (try clear hown); (try clear hinX4); (try clear hinX5); (try clear J36); (try clear J54); (try clear J70); (try clear J102); (try clear J97); (try clear J88); (try clear J101); have y10 : ¬ (1 : Int32) = 0 := (by decide); first | assumption | (have y28 := cx_bc14 (hR1 t); (try unfold cx_f5); grind)) hS (lv_sub hl [0, 1, 2, 3, 4, 5, 6] rfl)
          refine lv_if_eq (tgt := 88) hx hb dX4_wrongMarks_79 (by decide) (fun h79 => ?_) (fun h79 => ?_)
          · skip
            have g79 : ¬ ((T 0 t = 1 ∨ ¬ (T 1 t &&& 1) = 0)) := fun z => b54.2.mpr z h79
            exact J88  _ _ _ (by (try clear RET); (try clear hS); (try clear hl); (try clear hE); (try clear hts); (try clear hb); (try clear hx); (try clear hml); (try clear hown); (try clear hinX4); (try clear hinX5); (try clear J36); (try clear J54); (try clear J70); (try clear J102); (try clear J97); (try clear J88); have y10 : ¬ (1 : Int32) = 0 := (by decide); first | assumption | (have y28 := cx_bc14 (hR1 t); (try unfold cx_f5); grind)) hS (lv_sub hl [1, 2, 3, 4, 5, 6, 0] rfl)
          · skip
            have g79 : (T 0 t = 1 ∨ ¬ (T 1 t &&& 1) = 0) := b54.2.mp h79
            refine lv_iload_n hx hb dX4_wrongMarks_82 rfl (lv_at hl 3 rfl) ?_
            refine lv_iconst (v := nI 2) hx hb dX4_wrongMarks_83 (by decide) ?_
            refine lv_iand hx hb dX4_wrongMarks_84 ?_
            refine lv_if_ne (tgt := 97) hx hb dX4_wrongMarks_85 (by decide) (fun h85 => ?_) (fun h85 => ?_)
            · skip
              exact J97  _ _ _ (by (try clear RET); (try clear hS); (try clear hl); (try clear hE); (try clear hts); (try clear hb); (try clear hx); (try clear hml); (try clear hown); (try clear hinX4); (try clear hinX5); (try clear J36); (try clear J54); (try clear J70); (try clear J102); (try clear J97); (try clear J88); have y10 : ¬ (1 : Int32) = 0 := (by decide); first | assumption | (have y28 := cx_bc14 (hR1 t); (try unfold cx_f5); grind)) hS (lv_sub hl [1, 2, 3, 4, 5, 6, 0] rfl)
            · skip
              exact J88  _ _ _ (by (try clear RET); (try clear hS); (try clear hl); (try clear hE); (try clear hts); (try clear hb); (try clear hx); (try clear hml); (try clear hown); (try clear hinX4); (try clear hinX5); (try clear J36); (try clear J54); (try clear J70); (try clear J102); (try clear J97); (try clear J88); have y10 : ¬ (1 : Int32) = 0 := (by decide); first | assumption | (have y28 := cx_bc14 (hR1 t); (try unfold cx_f5); grind)) hS (lv_sub hl [1, 2, 3, 4, 5, 6, 0] rfl)
      have J69 : ∀ (H : Heap) (locs : List Loc) (ls : Array Slot), (¬ ((¬ T 0 t = 0 ∧ ¬ T 0 t = 1))) → cx_S D vwCl A s (cxW q cI cJ n T k M d C J g) H locs → lv_has ls 8 [(0, .ref (q 5)), (1, .int (nI t)), (2, .int ((T 1) t)), (3, .int ((T 0) t)), (4, .int v36_s0), (5, .int v54_s0)] → W p l e ({ frames := 1, cells := 0, slots := 0, locals := 20 } : Room) s m args below meth c H locs 0 0 Q (F0 m 69 ls []) := by
        intro  H locs ls f69 hS hl
        refine lv_iconst (v := (0 : Int32)) hx hb dX4_wrongMarks_69 (by decide) ?_
        exact J70 (0 : Int32) _ _ _ (cx_e0 (by (try clear RET); (try clear hS); (try clear hl); (try clear hE); (try clear hts); (try clear hb); (try clear hx); (try clear hml); (try clear hown); (try clear hinX4); (try clear hinX5); (try clear J36); (try clear J54); (try clear J70); (try clear J69); have y10 : ¬ (1 : Int32) = 0 := (by decide); first | assumption | (have y28 := cx_bc14 (hR1 t); (try unfold cx_f5); grind))) hS (lv_sub hl [0, 1, 2, 3, 4, 5] rfl)
      refine lv_if_eq (tgt := 69) hx hb dX4_wrongMarks_57 (by decide) (fun h57 => ?_) (fun h57 => ?_)
      · skip
        exact J69  _ _ _ (by (try clear RET); (try clear hS); (try clear hl); (try clear hE); (try clear hts); (try clear hb); (try clear hx); (try clear hml); (try clear hown); (try clear hinX4); (try clear hinX5); (try clear J36); (try clear J54); (try clear J70); (try clear J69); have y10 : ¬ (1 : Int32) = 0 := (by decide); first | assumption | (have y28 := cx_bc14 (hR1 t); (try unfold cx_f5); grind)) hS (lv_sub hl [1, 2, 3, 4, 5, 0] rfl)
      · skip
        refine lv_iload_n hx hb dX4_wrongMarks_60 rfl (lv_at hl 4 rfl) ?_
        refine lv_iconst (v := (1 : Int32)) hx hb dX4_wrongMarks_61 (by decide) ?_
        refine lv_icmp_eq (tgt := 69) hx hb dX4_wrongMarks_62 (by decide) (fun h62 => ?_) (fun h62 => ?_)
        · skip
          exact J69  _ _ _ (by (try clear RET); (try clear hS); (try clear hl); (try clear hE); (try clear hts); (try clear hb); (try clear hx); (try clear hml); (try clear hown); (try clear hinX4); (try clear hinX5); (try clear J36); (try clear J54); (try clear J70); (try clear J69); have y10 : ¬ (1 : Int32) = 0 := (by decide); first | assumption | (have y28 := cx_bc14 (hR1 t); (try unfold cx_f5); grind)) hS (lv_sub hl [1, 2, 3, 4, 5, 0] rfl)
        · skip
          refine lv_iconst (v := (1 : Int32)) hx hb dX4_wrongMarks_65 (by decide) ?_
          refine lv_goto (tgt := 70) hx hb dX4_wrongMarks_66 (by decide) ?_
          exact J70 (1 : Int32) _ _ _ (cx_e1 (by (try clear RET); (try clear hS); (try clear hl); (try clear hE); (try clear hts); (try clear hb); (try clear hx); (try clear hml); (try clear hown); (try clear hinX4); (try clear hinX5); (try clear J36); (try clear J54); (try clear J70); (try clear J69); have y10 : ¬ (1 : Int32) = 0 := (by decide); first | assumption | (have y28 := cx_bc14 (hR1 t); (try unfold cx_f5); grind))) hS (lv_sub hl [1, 2, 3, 4, 5, 0] rfl)
    have J49 : ∀ (H : Heap) (locs : List Loc) (ls : Array Slot), ((T 0 t = 1 ∨ ¬ (T 1 t &&& 1) = 0)) → cx_S D vwCl A s (cxW q cI cJ n T k M d C J g) H locs → lv_has ls 8 [(0, .ref (q 5)), (1, .int (nI t)), (2, .int ((T 1) t)), (3, .int ((T 0) t)), (4, .int v36_s0)] → W p l e ({ frames := 1, cells := 0, slots := 0, locals := 20 } : Room) s m args below meth c H locs 0 0 Q (F0 m 49 ls []) := by
      intro  H locs ls f49 hS hl
      refine lv_iconst (v := (1 : Int32)) hx hb dX4_wrongMarks_49 (by decide) ?_
      refine lv_goto (tgt := 54) hx hb dX4_wrongMarks_50 (by decide) ?_
      exact J54 (1 : Int32) _ _ _ (cx_e1 (by (try clear RET); (try clear hS); (try clear hl); (try clear hE); (try clear hts); (try clear hb); (try clear hx); (try clear hml); (try clear hown); (try clear hinX4); (try clear hinX5); (try clear J36); (try clear J54); (try clear J49); have y10 : ¬ (1 : Int32) = 0 := (by decide); first | assumption | (have y28 := cx_bc14 (hR1 t); (try unfold cx_f5); grind))) hS (lv_sub hl [0, 1, 2, 3, 4] rfl)
    refine lv_icmp_eq (tgt := 49) hx hb dX4_wrongMarks_40 (by decide) (fun h40 => ?_) (fun h40 => ?_)
    · skip
      exact J49  _ _ _ (by (try clear RET); (try clear hS); (try clear hl); (try clear hE); (try clear hts); (try clear hb); (try clear hx); (try clear hml); (try clear hown); (try clear hinX4); (try clear hinX5); (try clear J36); (try clear J54); (try clear J49); have y10 : ¬ (1 : Int32) = 0 := (by decide); first | assumption | (have y28 := cx_bc14 (hR1 t); (try unfold cx_f5); grind)) hS (lv_sub hl [1, 2, 3, 4, 0] rfl)
    · skip
      refine lv_iload_n hx hb dX4_wrongMarks_43 rfl (lv_at hl 3 rfl) ?_
      refine lv_iconst (v := (1 : Int32)) hx hb dX4_wrongMarks_44 (by decide) ?_
      refine lv_iand hx hb dX4_wrongMarks_45 ?_
      refine lv_if_eq (tgt := 53) hx hb dX4_wrongMarks_46 (by decide) (fun h46 => ?_) (fun h46 => ?_)
      · skip
        refine lv_iconst (v := (0 : Int32)) hx hb dX4_wrongMarks_53 (by decide) ?_
        exact J54 (0 : Int32) _ _ _ (cx_e0 (by (try clear RET); (try clear hS); (try clear hl); (try clear hE); (try clear hts); (try clear hb); (try clear hx); (try clear hml); (try clear hown); (try clear hinX4); (try clear hinX5); (try clear J36); (try clear J54); (try clear J49); have y10 : ¬ (1 : Int32) = 0 := (by decide); first | assumption | (have y28 := cx_bc14 (hR1 t); (try unfold cx_f5); grind))) hS (lv_sub hl [1, 2, 3, 4, 0] rfl)
      · skip
        exact J49  _ _ _ (by (try clear RET); (try clear hS); (try clear hl); (try clear hE); (try clear hts); (try clear hb); (try clear hx); (try clear hml); (try clear hown); (try clear hinX4); (try clear hinX5); (try clear J36); (try clear J54); (try clear J49); have y10 : ¬ (1 : Int32) = 0 := (by decide); first | assumption | (have y28 := cx_bc14 (hR1 t); (try unfold cx_f5); grind)) hS (lv_sub hl [1, 2, 3, 4, 0] rfl)
  refine lv_icmp_le (tgt := 35) hx hb dX4_wrongMarks_28 (by decide) (fun h28 => ?_) (fun h28 => ?_)
  · skip
    refine lv_iconst (v := (0 : Int32)) hx hb dX4_wrongMarks_35 (by decide) ?_
    exact J36 (0 : Int32) _ _ _ (cx_e0 (by (try clear RET); (try clear hS); (try clear hl); (try clear hE); (try clear hts); (try clear hb); (try clear hx); (try clear hml); (try clear hown); (try clear hinX4); (try clear hinX5); (try clear J36); have y10 : ¬ (1 : Int32) = 0 := (by decide); first | assumption | (have y28 := cx_bc14 (hR1 t); (try unfold cx_f5); grind))) hS (lv_sub hl [2, 3, 1, 0] rfl)
  · skip
    refine lv_iconst (v := (1 : Int32)) hx hb dX4_wrongMarks_31 (by decide) ?_
    refine lv_goto (tgt := 36) hx hb dX4_wrongMarks_32 (by decide) ?_
    exact J36 (1 : Int32) _ _ _ (cx_e1 (by (try clear RET); (try clear hS); (try clear hl); (try clear hE); (try clear hts); (try clear hb); (try clear hx); (try clear hml); (try clear hown); (try clear hinX4); (try clear hinX5); (try clear J36); have y10 : ¬ (1 : Int32) = 0 := (by decide); first | assumption | (have y28 := cx_bc14 (hR1 t); (try unfold cx_f5); grind))) hS (lv_sub hl [2, 3, 1, 0] rfl)
set_option maxHeartbeats 4000000 in
set_option maxRecDepth 100000 in
theorem c_X4_wrongUnderSealed (l : Launch) (D : va_G) (q : Nat → Nat) (cI cJ : ClassId) (n : Nat) (T : Nat → Nat → Int32) (k : Nat) (M : Nat → Nat → Int32) (d : Nat) (C : Nat → Nat → Int32) (J : Nat → Nat → Int32) (g : Nat → Int64) (t : Nat) (hn : n ≤ 20) (ht : t < n) (hB4 : cx_B4 n T) (hR1 : cx_R (T 1) 16) : cx_Mi l D vwCl [(cI, .int), (cJ, .long)] cx_NW yX4_wrongUnderSealed wsX4_wrongUnderSealed ({ frames := 2, cells := 0, slots := 0, locals := 45 } : Room) [.ref (q 5), .int (nI t)] (cxW q cI cJ n T k M d C J g) (fun (r : Int32) (uw : Unit) => (¬ r = 0 ↔ cx_F6a n (T 0) (T 1) (T 3) (cx_Uc T) (cx_Vc T) t ∨ cx_F6b n (T 1) (T 3) (cx_Uc T) t)) (fun _ => (cxW q cI cJ n T k M d C J g)) := by
  refine cx_Mi.of (cc := cX4_wrongUnderSealed) (maxL := 7) cx_NW_ok (by decide) rfl (Nat.le_of_ble_eq_true rfl) ?_
  intro p e s m args below meth c Q A ls hx hb hml hown hts hE RET hS hl
  have hl : lv_has ls 7 [(0, .ref (q 5)), (1, .int (nI t))] := hl
  have hown : s.vm.findClass RX4 = some m.cls := hown
  have hinX4 : ∀ w ∈ u_ws RX4 TX4 1, w ∈ wsX4_wrongUnderSealed := cx_mem [25] (by decide +kernel)
  have hinX5 : ∀ w ∈ u_ws RX5 TX5 12, w ∈ wsX4_wrongUnderSealed := cx_mem [26, 27, 28, 29, 30, 31, 32, 33, 34, 35, 36, 37] (by decide +kernel)
  refine lv_aload_n hx hb dX4_wrongUnderSealed_0 rfl (lv_at hl 0 rfl) ?_
  refine cx_get (own := RX4) (index := 9) (C := RX4) (T := TX4) (N := 1) (k := 0) (ci := 4) (v := .ref (q 1)) hx hb hts hown hE hS hinX4 5 rfl rfl (by decide) (List.mem_of_getElem? (i := 1) rfl) rfl dX4_wrongUnderSealed_1 ?_
  refine lv_iload_n hx hb dX4_wrongUnderSealed_4 rfl (lv_at hl 1 rfl) ?_
  refine cx_cVi (As := [.int (nI t)]) (rest := []) ⟨hx, hb, hml, hown, hts⟩ hE hS (c_X5_next l D q cI cJ n T k M d C J g t (by first | assumption | omega | rfl)) (cwV 1 hts gX4_wrongUnderSealed_X5_next rfl rfl rfl (by decide +kernel) ⟨Nat.le_of_ble_eq_true rfl, Nat.le_of_ble_eq_true rfl⟩) 1 5 rfl rfl rfl hl.1 rfl (Nat.le_of_ble_eq_true rfl) ⟨Nat.zero_le _, Nat.zero_le _⟩ dX4_wrongUnderSealed_5 (fun r_5 u_5 H locs hp_5 hS => ?_)
  have hp_5 : r_5 = ((((T 4)) t) ||| (((T 5)) t)) := hp_5
  subst hp_5
  refine lv_aload_n hx hb dX4_wrongUnderSealed_8 rfl (lv_at hl 0 rfl) ?_
  refine cx_get (own := RX4) (index := 9) (C := RX4) (T := TX4) (N := 1) (k := 0) (ci := 4) (v := .ref (q 1)) hx hb hts hown hE hS hinX4 5 rfl rfl (by decide) (List.mem_of_getElem? (i := 1) rfl) rfl dX4_wrongUnderSealed_9 ?_
  refine lv_iconst (v := nI 4) hx hb dX4_wrongUnderSealed_12 (by decide) ?_
  refine cx_cVi (As := [.int (nI 4)]) (rest := [.int (((((T 4)) t) ||| (((T 5)) t)))]) ⟨hx, hb, hml, hown, hts⟩ hE hS (c_X5_withMark l D q cI cJ n T k M d C J g (nI 4) (by first | assumption | omega | rfl)) (cwV 1 hts gX4_wrongUnderSealed_X5_withMark rfl rfl rfl (by decide +kernel) ⟨Nat.le_of_ble_eq_true rfl, Nat.le_of_ble_eq_true rfl⟩) 1 5 rfl rfl rfl hl.1 rfl (Nat.le_of_ble_eq_true rfl) ⟨Nat.zero_le _, Nat.zero_le _⟩ dX4_wrongUnderSealed_13 (fun r_13 u_13 H locs hp_13 hS => ?_)
  have hp_13 : ∀ u, u < 32 → (bt r_13 u = true ↔ u < n ∧ cx_mk ((T 1)) u (nI 4)) := hp_13
  refine lv_iand hx hb dX4_wrongUnderSealed_16 ?_
  refine lv_istore_n (lv' := [(2, .int ((((((T 4)) t) ||| (((T 5)) t))) &&& r_13)), (0, .ref (q 5)), (1, .int (nI t))]) hx hb dX4_wrongUnderSealed_17 rfl hl (by decide) rfl (fun ls hl => ?_)
  have hs17 := cx_tr6s hn ht hB4 hp_13
  refine lv_iload_n hx hb dX4_wrongUnderSealed_18 rfl (lv_at hl 0 rfl) ?_
  refine lv_if_ne (tgt := 44) hx hb dX4_wrongUnderSealed_19 (by decide) (fun h19 => ?_) (fun h19 => ?_)
  · skip
    refine lv_aload_n hx hb dX4_wrongUnderSealed_44 rfl (lv_at hl 1 rfl) ?_
    refine cx_get (own := RX4) (index := 9) (C := RX4) (T := TX4) (N := 1) (k := 0) (ci := 4) (v := .ref (q 1)) hx hb hts hown hE hS hinX4 5 rfl rfl (by decide) (List.mem_of_getElem? (i := 1) rfl) rfl dX4_wrongUnderSealed_45 ?_
    refine cx_getN (own := RX4) (index := 38) (C := RX5) (T := TX5) (N := 12) (k := 0) (ci := 5) (host := "ClassRules") (v := .ref (q 7)) hx hb hts hown hE hS hinX5 1 rfl rfl (by decide) (List.mem_of_getElem? (i := 1) rfl) rfl dX4_wrongUnderSealed_48 ?_
    refine lv_iload_n hx hb dX4_wrongUnderSealed_51 rfl (lv_at hl 2 rfl) ?_
    refine cx_iald (f := (T 0)) (n := 20) (cA := cI) hx hb hE hS 7 0 rfl rfl (by omega) (by decide) dX4_wrongUnderSealed_52 ?_
    refine lv_istore_n (lv' := [(3, .int ((T 0) t)), (2, .int ((((((T 4)) t) ||| (((T 5)) t))) &&& r_13)), (0, .ref (q 5)), (1, .int (nI t))]) hx hb dX4_wrongUnderSealed_53 rfl hl (by decide) rfl (fun ls hl => ?_)
    refine lv_iload_n hx hb dX4_wrongUnderSealed_54 rfl (lv_at hl 0 rfl) ?_
    have J81 : ∀ (v81_s0 : Int32) (H : Heap) (locs : List Loc) (ls : Array Slot), ((v81_s0 = 0 ∨ v81_s0 = 1) ∧ (¬ v81_s0 = 0 ↔ (cx_pl (T 0 t) (T 1 t)))) → cx_S D vwCl A s (cxW q cI cJ n T k M d C J g) H locs → lv_has ls 7 [(0, .ref (q 5)), (1, .int (nI t)), (2, .int ((((((T 4)) t) ||| (((T 5)) t))) &&& r_13)), (3, .int ((T 0) t))] → W p l e ({ frames := 2, cells := 0, slots := 0, locals := 45 } : Room) s m args below meth c H locs 0 0 Q (F0 m 81 ls [.int v81_s0]) := by
      intro v81_s0 H locs ls b81 hS hl
      refine lv_istore (lv' := [(4, .int v81_s0), (0, .ref (q 5)), (1, .int (nI t)), (2, .int ((((((T 4)) t) ||| (((T 5)) t))) &&& r_13)), (3, .int ((T 0) t))]) hx hb dX4_wrongUnderSealed_81 hl (by decide) rfl (fun ls hl => ?_)
      refine lv_iconst (v := (0 : Int32)) hx hb dX4_wrongUnderSealed_83 (by decide) ?_
      refine cx_topr (z := nI 0) (by decide) ?_
      refine lv_istore (lv' := [(5, .int (nI 0)), (4, .int v81_s0), (0, .ref (q 5)), (1, .int (nI t)), (2, .int ((((((T 4)) t) ||| (((T 5)) t))) &&& r_13)), (3, .int ((T 0) t))]) hx hb dX4_wrongUnderSealed_84 hl (by decide) rfl (fun ls hl => ?_)
      refine lv_iconst (v := (0 : Int32)) hx hb dX4_wrongUnderSealed_86 (by decide) ?_
      refine cx_topr (z := nI 0) (by decide) ?_
      refine lv_istore (lv' := [(6, .int (nI 0)), (5, .int (nI 0)), (4, .int v81_s0), (0, .ref (q 5)), (1, .int (nI t)), (2, .int ((((((T 4)) t) ||| (((T 5)) t))) &&& r_13)), (3, .int ((T 0) t))]) hx hb dX4_wrongUnderSealed_87 hl (by decide) rfl (fun ls hl => ?_)
      have J89 : ∀ (N : Nat) (v89_l5 : Int32) (i89 : Nat) (H : Heap) (locs : List Loc) (ls : Array Slot), (n - i89 < N) → (i89 ≤ n) → (¬ v89_l5 = 0 ↔ False ∨ ∃ u, u < i89 ∧ (cx_nx (T 3) (cx_Uc T) t u ∧ cx_mk (T 1) u (nI 4) ∧ ((cx_pl (T 0 t) (T 1 t)) ∨ ¬ cx_Vc T u t))) → cx_S D vwCl A s (cxW q cI cJ n T k M d C J g) H locs → lv_has ls 7 [(0, .ref (q 5)), (1, .int (nI t)), (2, .int ((((((T 4)) t) ||| (((T 5)) t))) &&& r_13)), (3, .int ((T 0) t)), (4, .int v81_s0), (5, .int v89_l5), (6, .int (nI i89))] → W p l e ({ frames := 2, cells := 0, slots := 0, locals := 45 } : Room) s m args below meth c H locs 0 0 Q (F0 m 89 ls []) := by
        intro N89
        induction N89 with
        | zero => intro v89_l5 i89 H locs ls hN; exact absurd hN (by omega)
        | succ N89 ih89 =>
          intro v89_l5 i89 H locs ls hN89 hi89 hw hS hl
          refine lv_iload hx hb dX4_wrongUnderSealed_89 (lv_at hl 6 rfl) ?_
          refine lv_aload_n hx hb dX4_wrongUnderSealed_91 rfl (lv_at hl 0 rfl) ?_
          refine cx_get (own := RX4) (index := 9) (C := RX4) (T := TX4) (N := 1) (k := 0) (ci := 4) (v := .ref (q 1)) hx hb hts hown hE hS hinX4 5 rfl rfl (by decide) (List.mem_of_getElem? (i := 1) rfl) rfl dX4_wrongUnderSealed_92 ?_
          refine cx_getN (own := RX4) (index := 62) (C := RX5) (T := TX5) (N := 12) (k := 11) (ci := 5) (host := "ClassRules") (v := .int (nI n)) hx hb hts hown hE hS hinX5 1 rfl rfl (by decide) (List.mem_of_getElem? (i := 18) rfl) rfl dX4_wrongUnderSealed_95 ?_
          refine lv_icmp_ge (tgt := 148) hx hb dX4_wrongUnderSealed_98 (by decide) (fun h98 => ?_) (fun h98 => ?_)
          · skip
            have g98 : n ≤ i89 := (nI_leI (a := n) (b := i89) (by omega) (by omega)).mp h98
            refine lv_iload hx hb dX4_wrongUnderSealed_148 (lv_at hl 5 rfl) ?_
            exact RET _ () _ _ _ _ dX4_wrongUnderSealed_150 rfl (cx_tr6b (by omega) (by omega) hs17 h19 hw) hS
          · skip
            have g98 : ¬ (n ≤ i89) := fun z => h98 ((nI_leI (a := n) (b := i89) (by omega) (by omega)).mpr z)
            refine lv_iload_n hx hb dX4_wrongUnderSealed_101 rfl (lv_at hl 2 rfl) ?_
            refine lv_iload hx hb dX4_wrongUnderSealed_102 (lv_at hl 6 rfl) ?_
            refine cx_cNi (As := [.int ((((((T 4)) t) ||| (((T 5)) t))) &&& r_13), .int (nI i89)]) (rest := []) ⟨hx, hb, hml, hown, hts⟩ hE hS (c_X6_holds_at_b l D [(cI, .int), (cJ, .long)] (cxW q cI cJ n T k M d C J g) ((((((T 4)) t) ||| (((T 5)) t))) &&& r_13) i89 (by first | assumption | omega | rfl)) ⟨va_cnB (own := RX4) (index := 66) (host := "ClassRules") 2 hts gX4_wrongUnderSealed_X6_holds_n66 rfl rfl rfl (hE.2.1 _ (List.mem_of_getElem? (i := 37) rfl)) (hts (.initialized RX6) (List.mem_of_getElem? (i := 20) rfl)) (by decide +kernel) ⟨Nat.le_of_ble_eq_true rfl, Nat.le_of_ble_eq_true rfl⟩, hts (.static yX6_holds) (List.mem_of_getElem? (i := 23) rfl), trivial⟩ rfl hl.1 rfl (Nat.le_of_ble_eq_true rfl) ⟨Nat.zero_le _, Nat.zero_le _⟩ dX4_wrongUnderSealed_104 (fun r_104 u_104 H locs hp_104 hS => ?_)
            have hp_104 : r_104 = cx_b (bt ((((((T 4)) t) ||| (((T 5)) t))) &&& r_13) i89 = true) := hp_104
            subst hp_104
            have J142 : ∀ (v142_l5 : Int32) (H : Heap) (locs : List Loc) (ls : Array Slot), (¬ v142_l5 = 0 ↔ False ∨ ∃ u, u < (i89 + 1) ∧ (cx_nx (T 3) (cx_Uc T) t u ∧ cx_mk (T 1) u (nI 4) ∧ ((cx_pl (T 0 t) (T 1 t)) ∨ ¬ cx_Vc T u t))) → cx_S D vwCl A s (cxW q cI cJ n T k M d C J g) H locs → lv_has ls 7 [(0, .ref (q 5)), (1, .int (nI t)), (2, .int ((((((T 4)) t) ||| (((T 5)) t))) &&& r_13)), (3, .int ((T 0) t)), (4, .int v81_s0), (5, .int v142_l5), (6, .int (nI i89))] → W p l e ({ frames := 2, cells := 0, slots := 0, locals := 45 } : Room) s m args below meth c H locs 0 0 Q (F0 m 142 ls []) := by
              intro v142_l5 H locs ls hw2 hS hl
              refine lv_iinc (v := nI (i89 + 1)) (lv' := [(6, .int (nI (i89 + 1))), (0, .ref (q 5)), (1, .int (nI t)), (2, .int ((((((T 4)) t) ||| (((T 5)) t))) &&& r_13)), (3, .int ((T 0) t)), (4, .int v81_s0), (5, .int v142_l5)]) hx hb dX4_wrongUnderSealed_142 hl (k := 6) rfl (cx_inc _) (by decide) rfl (fun ls hl => ?_)
              refine lv_goto (tgt := 89) hx hb dX4_wrongUnderSealed_145 (by decide) ?_
              exact ih89 v142_l5 (i89 + 1) _ _ _ (by (try clear hw2); (try clear hw); omega) (by (try clear hw2); (try clear hw); omega) (by first | exact hw2 | exact cx_w0 cx_wf0) hS (lv_sub hl [1, 2, 3, 4, 5, 6, 0] rfl)
            refine lv_if_eq (tgt := 142) hx hb dX4_wrongUnderSealed_107 (by decide) (fun h107 => ?_) (fun h107 => ?_)
            · skip
              have g107 := cx_b0 h107
              exact J142 v89_l5 _ _ _ (by first | exact cx_wN (Q := fun u => cx_nx (T 3) (cx_Uc T) t u ∧ cx_mk (T 1) u (nI 4) ∧ ((cx_pl (T 0 t) (T 1 t)) ∨ ¬ cx_Vc T u t)) hw (fun z => g107 ((hs17 _ (by omega)).mpr ⟨by omega, z.1, z.2.1⟩)) | exact cx_wN (Q := fun u => cx_nx (T 3) (cx_Uc T) t u ∧ cx_mk (T 1) u (nI 4) ∧ ((cx_pl (T 0 t) (T 1 t)) ∨ ¬ cx_Vc T u t)) hw (fun z => z.2.2.elim g112 (fun y => y ⟨by omega, g129⟩)) | exact cx_wS (P := True) (Q := fun u => cx_nx (T 3) (cx_Uc T) t u ∧ cx_mk (T 1) u (nI 4) ∧ ((cx_pl (T 0 t) (T 1 t)) ∨ ¬ cx_Vc T u t)) (by omega) hw ⟨((hs17 _ (by omega)).mp g107).2.1, ((hs17 _ (by omega)).mp g107).2.2, h132⟩) hS (lv_sub hl [0, 1, 2, 3, 4, 5, 6] rfl)
            · skip
              have g107 := cx_b1 h107
              refine lv_iload hx hb dX4_wrongUnderSealed_110 (lv_at hl 4 rfl) ?_
              have J132 : ∀ (H : Heap) (locs : List Loc) (ls : Array Slot), ((cx_pl (T 0 t) (T 1 t)) ∨ ¬ cx_Vc T i89 t) → cx_S D vwCl A s (cxW q cI cJ n T k M d C J g) H locs → lv_has ls 7 [(0, .ref (q 5)), (1, .int (nI t)), (2, .int ((((((T 4)) t) ||| (((T 5)) t))) &&& r_13)), (3, .int ((T 0) t)), (4, .int v81_s0), (5, .int v89_l5), (6, .int (nI i89))] → W p l e ({ frames := 2, cells := 0, slots := 0, locals := 45 } : Room) s m args below meth c H locs 0 0 Q (F0 m 132 ls []) := by
                intro  H locs ls h132 hS hl
                refine lv_iload hx hb dX4_wrongUnderSealed_132 (lv_at hl 5 rfl) ?_
                refine lv_iload hx hb dX4_wrongUnderSealed_134 (lv_at hl 6 rfl) ?_
                refine cx_cNi (As := [.int (nI i89)]) (rest := [.int v89_l5]) ⟨hx, hb, hml, hown, hts⟩ hE hS (c_X6_bit l D [(cI, .int), (cJ, .long)] (cxW q cI cJ n T k M d C J g) (nI i89) ) ⟨va_cnB (own := RX4) (index := 32) (host := "ClassRules") 1 hts gX4_wrongUnderSealed_X6_bit_n32 rfl rfl rfl (hE.2.1 _ (List.mem_of_getElem? (i := 36) rfl)) (hts (.initialized RX6) (List.mem_of_getElem? (i := 20) rfl)) (by decide +kernel) ⟨Nat.le_of_ble_eq_true rfl, Nat.le_of_ble_eq_true rfl⟩, hts (.static yX6_bit) (List.mem_of_getElem? (i := 19) rfl), trivial⟩ rfl hl.1 rfl (Nat.le_of_ble_eq_true rfl) ⟨Nat.zero_le _, Nat.zero_le _⟩ dX4_wrongUnderSealed_136 (fun r_136 u_136 H locs hp_136 hS => ?_)
                have hp_136 : r_136 = ((1 : Int32) <<< ((nI i89) &&& 31)) := hp_136
                subst hp_136
                refine lv_ior hx hb dX4_wrongUnderSealed_139 ?_
                refine lv_istore (lv' := [(5, .int (v89_l5 ||| (((1 : Int32) <<< ((nI i89) &&& 31))))), (0, .ref (q 5)), (1, .int (nI t)), (2, .int ((((((T 4)) t) ||| (((T 5)) t))) &&& r_13)), (3, .int ((T 0) t)), (4, .int v81_s0), (6, .int (nI i89))]) hx hb dX4_wrongUnderSealed_140 hl (by decide) rfl (fun ls hl => ?_)
                exact J142 (v89_l5 ||| (((1 : Int32) <<< ((nI i89) &&& 31)))) _ _ _ (by first | exact cx_wN (Q := fun u => cx_nx (T 3) (cx_Uc T) t u ∧ cx_mk (T 1) u (nI 4) ∧ ((cx_pl (T 0 t) (T 1 t)) ∨ ¬ cx_Vc T u t)) hw (fun z => g107 ((hs17 _ (by omega)).mpr ⟨by omega, z.1, z.2.1⟩)) | exact cx_wN (Q := fun u => cx_nx (T 3) (cx_Uc T) t u ∧ cx_mk (T 1) u (nI 4) ∧ ((cx_pl (T 0 t) (T 1 t)) ∨ ¬ cx_Vc T u t)) hw (fun z => z.2.2.elim g112 (fun y => y ⟨by omega, g129⟩)) | exact cx_wS (P := True) (Q := fun u => cx_nx (T 3) (cx_Uc T) t u ∧ cx_mk (T 1) u (nI 4) ∧ ((cx_pl (T 0 t) (T 1 t)) ∨ ¬ cx_Vc T u t)) (by omega) hw ⟨((hs17 _ (by omega)).mp g107).2.1, ((hs17 _ (by omega)).mp g107).2.2, h132⟩) hS (lv_sub hl [1, 2, 3, 4, 5, 0, 6] rfl)
              refine lv_if_ne (tgt := 132) hx hb dX4_wrongUnderSealed_112 (by decide) (fun h112 => ?_) (fun h112 => ?_)
              · skip
                have g112 : (cx_pl (T 0 t) (T 1 t)) := b81.2.mp h112
                exact J132  _ _ _ (by first | exact Or.inl g112 | exact Or.inr (fun z => g129 z.2)) hS (lv_sub hl [0, 1, 2, 3, 4, 5, 6] rfl)
              · skip
                have g112 : ¬ ((cx_pl (T 0 t) (T 1 t))) := fun z => b81.2.mpr z h112
                refine lv_aload_n hx hb dX4_wrongUnderSealed_115 rfl (lv_at hl 0 rfl) ?_
                refine cx_get (own := RX4) (index := 9) (C := RX4) (T := TX4) (N := 1) (k := 0) (ci := 4) (v := .ref (q 1)) hx hb hts hown hE hS hinX4 5 rfl rfl (by decide) (List.mem_of_getElem? (i := 1) rfl) rfl dX4_wrongUnderSealed_116 ?_
                refine cx_getN (own := RX4) (index := 21) (C := RX5) (T := TX5) (N := 12) (k := 8) (ci := 5) (host := "ClassRules") (v := .ref (q 15)) hx hb hts hown hE hS hinX5 1 rfl rfl (by decide) (List.mem_of_getElem? (i := 12) rfl) rfl dX4_wrongUnderSealed_119 ?_
                refine lv_iload hx hb dX4_wrongUnderSealed_122 (lv_at hl 6 rfl) ?_
                refine cx_iald (f := (T 8)) (n := 20) (cA := cI) hx hb hE hS 15 0 rfl rfl (by omega) (by decide) dX4_wrongUnderSealed_124 ?_
                refine lv_iload_n hx hb dX4_wrongUnderSealed_125 rfl (lv_at hl 1 rfl) ?_
                refine cx_cNi (As := [.int ((T 8) i89), .int (nI t)]) (rest := []) ⟨hx, hb, hml, hown, hts⟩ hE hS (c_X6_holds_at_b l D [(cI, .int), (cJ, .long)] (cxW q cI cJ n T k M d C J g) ((T 8) i89) t (by first | assumption | omega | rfl)) ⟨va_cnB (own := RX4) (index := 66) (host := "ClassRules") 2 hts gX4_wrongUnderSealed_X6_holds_n66 rfl rfl rfl (hE.2.1 _ (List.mem_of_getElem? (i := 37) rfl)) (hts (.initialized RX6) (List.mem_of_getElem? (i := 20) rfl)) (by decide +kernel) ⟨Nat.le_of_ble_eq_true rfl, Nat.le_of_ble_eq_true rfl⟩, hts (.static yX6_holds) (List.mem_of_getElem? (i := 23) rfl), trivial⟩ rfl hl.1 rfl (Nat.le_of_ble_eq_true rfl) ⟨Nat.zero_le _, Nat.zero_le _⟩ dX4_wrongUnderSealed_126 (fun r_126 u_126 H locs hp_126 hS => ?_)
                have hp_126 : r_126 = cx_b (bt ((T 8) i89) t = true) := hp_126
                subst hp_126
                refine lv_if_ne (tgt := 142) hx hb dX4_wrongUnderSealed_129 (by decide) (fun h129 => ?_) (fun h129 => ?_)
                · skip
                  have g129 := cx_b1 h129
                  exact J142 v89_l5 _ _ _ (by first | exact cx_wN (Q := fun u => cx_nx (T 3) (cx_Uc T) t u ∧ cx_mk (T 1) u (nI 4) ∧ ((cx_pl (T 0 t) (T 1 t)) ∨ ¬ cx_Vc T u t)) hw (fun z => g107 ((hs17 _ (by omega)).mpr ⟨by omega, z.1, z.2.1⟩)) | exact cx_wN (Q := fun u => cx_nx (T 3) (cx_Uc T) t u ∧ cx_mk (T 1) u (nI 4) ∧ ((cx_pl (T 0 t) (T 1 t)) ∨ ¬ cx_Vc T u t)) hw (fun z => z.2.2.elim g112 (fun y => y ⟨by omega, g129⟩)) | exact cx_wS (P := True) (Q := fun u => cx_nx (T 3) (cx_Uc T) t u ∧ cx_mk (T 1) u (nI 4) ∧ ((cx_pl (T 0 t) (T 1 t)) ∨ ¬ cx_Vc T u t)) (by omega) hw ⟨((hs17 _ (by omega)).mp g107).2.1, ((hs17 _ (by omega)).mp g107).2.2, h132⟩) hS (lv_sub hl [0, 1, 2, 3, 4, 5, 6] rfl)
                · skip
                  have g129 := cx_b0 h129
                  exact J132  _ _ _ (by first | exact Or.inl g112 | exact Or.inr (fun z => g129 z.2)) hS (lv_sub hl [0, 1, 2, 3, 4, 5, 6] rfl)
      exact J89 (n - 0 + 1) (nI 0) 0 _ _ _ (Nat.lt_succ_self _) (by (try clear hw); omega) (by first | exact hw2 | exact cx_w0 cx_wf0) hS (lv_sub hl [3, 4, 5, 6, 2, 1, 0] rfl)
    have J80 : ∀ (H : Heap) (locs : List Loc) (ls : Array Slot), (¬ ((cx_pl (T 0 t) (T 1 t)))) → cx_S D vwCl A s (cxW q cI cJ n T k M d C J g) H locs → lv_has ls 7 [(0, .ref (q 5)), (1, .int (nI t)), (2, .int ((((((T 4)) t) ||| (((T 5)) t))) &&& r_13)), (3, .int ((T 0) t))] → W p l e ({ frames := 2, cells := 0, slots := 0, locals := 45 } : Room) s m args below meth c H locs 0 0 Q (F0 m 80 ls []) := by
      intro  H locs ls f80 hS hl
      refine lv_iconst (v := (0 : Int32)) hx hb dX4_wrongUnderSealed_80 (by decide) ?_
      exact J81 (0 : Int32) _ _ _ (cx_e0 (by (try clear RET); (try clear hS); (try clear hl); (try clear hE); (try clear hts); (try clear hb); (try clear hx); (try clear hml); (try clear hown); (try clear hinX4); (try clear hinX5); (try clear J81); (try clear J80); have y10 : ¬ (1 : Int32) = 0 := (by decide); first | assumption | (have y14 := cx_m14 (hR1 t); (try unfold cx_pl); grind))) hS (lv_sub hl [0, 1, 2, 3] rfl)
    have J63 : ∀ (H : Heap) (locs : List Loc) (ls : Array Slot), (T 0 t = 0 ∨ T 0 t = 1) → cx_S D vwCl A s (cxW q cI cJ n T k M d C J g) H locs → lv_has ls 7 [(0, .ref (q 5)), (1, .int (nI t)), (2, .int ((((((T 4)) t) ||| (((T 5)) t))) &&& r_13)), (3, .int ((T 0) t))] → W p l e ({ frames := 2, cells := 0, slots := 0, locals := 45 } : Room) s m args below meth c H locs 0 0 Q (F0 m 63 ls []) := by
      intro  H locs ls h63 hS hl
      refine lv_aload_n hx hb dX4_wrongUnderSealed_63 rfl (lv_at hl 0 rfl) ?_
      refine cx_get (own := RX4) (index := 9) (C := RX4) (T := TX4) (N := 1) (k := 0) (ci := 4) (v := .ref (q 1)) hx hb hts hown hE hS hinX4 5 rfl rfl (by decide) (List.mem_of_getElem? (i := 1) rfl) rfl dX4_wrongUnderSealed_64 ?_
      refine lv_iload_n hx hb dX4_wrongUnderSealed_67 rfl (lv_at hl 1 rfl) ?_
      refine lv_bipush (v := nI 14) hx hb dX4_wrongUnderSealed_68 (by decide) ?_
      refine cx_cVi (As := [.int (nI t), .int (nI 14)]) (rest := []) ⟨hx, hb, hml, hown, hts⟩ hE hS (c_X5_marked l D q cI cJ n T k M d C J g t (nI 14) (by first | assumption | omega | rfl)) (cwV 2 hts gX4_wrongUnderSealed_X5_marked rfl rfl rfl (by decide +kernel) ⟨Nat.le_of_ble_eq_true rfl, Nat.le_of_ble_eq_true rfl⟩) 1 5 rfl rfl rfl hl.1 rfl (Nat.le_of_ble_eq_true rfl) ⟨Nat.zero_le _, Nat.zero_le _⟩ dX4_wrongUnderSealed_70 (fun r_70 u_70 H locs hp_70 hS => ?_)
      have hp_70 : (r_70 = 0 ∨ r_70 = 1) ∧ (¬ r_70 = 0 ↔ cx_mk ((T 1)) t (nI 14)) := hp_70
      refine lv_if_ne (tgt := 80) hx hb dX4_wrongUnderSealed_73 (by decide) (fun h73 => ?_) (fun h73 => ?_)
      · skip
        have g73 : cx_mk ((T 1)) t (nI 14) := hp_70.2.mp h73
        exact J80  _ _ _ (by (try clear RET); (try clear hS); (try clear hl); (try clear hE); (try clear hts); (try clear hb); (try clear hx); (try clear hml); (try clear hown); (try clear hinX4); (try clear hinX5); (try clear J81); (try clear J80); (try clear J63); have y10 : ¬ (1 : Int32) = 0 := (by decide); first | assumption | (have y14 := cx_m14 (hR1 t); (try unfold cx_pl); grind)) hS (lv_sub hl [0, 1, 2, 3] rfl)
      · skip
        have g73 : ¬ (cx_mk ((T 1)) t (nI 14)) := fun z => hp_70.2.mpr z h73
        refine lv_iconst (v := (1 : Int32)) hx hb dX4_wrongUnderSealed_76 (by decide) ?_
        refine lv_goto (tgt := 81) hx hb dX4_wrongUnderSealed_77 (by decide) ?_
        exact J81 (1 : Int32) _ _ _ (cx_e1 (by (try clear RET); (try clear hS); (try clear hl); (try clear hE); (try clear hts); (try clear hb); (try clear hx); (try clear hml); (try clear hown); (try clear hinX4); (try clear hinX5); (try clear J81); (try clear J80); (try clear J63); have y10 : ¬ (1 : Int32) = 0 := (by decide); first | assumption | (have y14 := cx_m14 (hR1 t); (try unfold cx_pl); grind))) hS (lv_sub hl [0, 1, 2, 3] rfl)
    refine lv_if_eq (tgt := 63) hx hb dX4_wrongUnderSealed_55 (by decide) (fun h55 => ?_) (fun h55 => ?_)
    · skip
      exact J63  _ _ _ (by first | exact Or.inl h55 | exact Or.inr h60) hS (lv_sub hl [2, 3, 1, 0] rfl)
    · skip
      refine lv_iload_n hx hb dX4_wrongUnderSealed_58 rfl (lv_at hl 0 rfl) ?_
      refine lv_iconst (v := (1 : Int32)) hx hb dX4_wrongUnderSealed_59 (by decide) ?_
      refine lv_icmp_ne (tgt := 80) hx hb dX4_wrongUnderSealed_60 (by decide) (fun h60 => ?_) (fun h60 => ?_)
      · skip
        exact J80  _ _ _ (by (try clear RET); (try clear hS); (try clear hl); (try clear hE); (try clear hts); (try clear hb); (try clear hx); (try clear hml); (try clear hown); (try clear hinX4); (try clear hinX5); (try clear J81); (try clear J80); (try clear J63); have y10 : ¬ (1 : Int32) = 0 := (by decide); first | assumption | (have y14 := cx_m14 (hR1 t); (try unfold cx_pl); grind)) hS (lv_sub hl [2, 3, 1, 0] rfl)
      · skip
        exact J63  _ _ _ (by first | exact Or.inl h55 | exact Or.inr h60) hS (lv_sub hl [2, 3, 1, 0] rfl)
  · skip
    refine lv_aload_n hx hb dX4_wrongUnderSealed_22 rfl (lv_at hl 1 rfl) ?_
    refine cx_get (own := RX4) (index := 9) (C := RX4) (T := TX4) (N := 1) (k := 0) (ci := 4) (v := .ref (q 1)) hx hb hts hown hE hS hinX4 5 rfl rfl (by decide) (List.mem_of_getElem? (i := 1) rfl) rfl dX4_wrongUnderSealed_23 ?_
    refine lv_iload_n hx hb dX4_wrongUnderSealed_26 rfl (lv_at hl 2 rfl) ?_
    refine lv_bipush (v := nI 8) hx hb dX4_wrongUnderSealed_27 (by decide) ?_
    refine cx_cVi (As := [.int (nI t), .int (nI 8)]) (rest := []) ⟨hx, hb, hml, hown, hts⟩ hE hS (c_X5_marked l D q cI cJ n T k M d C J g t (nI 8) (by first | assumption | omega | rfl)) (cwV 2 hts gX4_wrongUnderSealed_X5_marked rfl rfl rfl (by decide +kernel) ⟨Nat.le_of_ble_eq_true rfl, Nat.le_of_ble_eq_true rfl⟩) 1 5 rfl rfl rfl hl.1 rfl (Nat.le_of_ble_eq_true rfl) ⟨Nat.zero_le _, Nat.zero_le _⟩ dX4_wrongUnderSealed_29 (fun r_29 u_29 H locs hp_29 hS => ?_)
    have hp_29 : (r_29 = 0 ∨ r_29 = 1) ∧ (¬ r_29 = 0 ↔ cx_mk ((T 1)) t (nI 8)) := hp_29
    have J43 : ∀ (v43_s0 : Int32) (H : Heap) (locs : List Loc) (ls : Array Slot), ((cx_mk (T 1) t (nI 8) ∧ v43_s0 = (1 : Int32) <<< (nI t &&& 31)) ∨ (¬ cx_mk (T 1) t (nI 8) ∧ v43_s0 = 0)) → cx_S D vwCl A s (cxW q cI cJ n T k M d C J g) H locs → lv_has ls 7 [(0, .ref (q 5)), (1, .int (nI t)), (2, .int ((((((T 4)) t) ||| (((T 5)) t))) &&& r_13))] → W p l e ({ frames := 2, cells := 0, slots := 0, locals := 45 } : Room) s m args below meth c H locs 0 0 Q (F0 m 43 ls [.int v43_s0]) := by
      intro v43_s0 H locs ls hv hS hl
      exact RET _ () _ _ _ _ dX4_wrongUnderSealed_43 rfl (cx_tr6a hn ht hs17 h19 hv) hS
    refine lv_if_eq (tgt := 42) hx hb dX4_wrongUnderSealed_32 (by decide) (fun h32 => ?_) (fun h32 => ?_)
    · skip
      have g32 : ¬ (cx_mk ((T 1)) t (nI 8)) := fun z => hp_29.2.mpr z h32
      refine lv_iconst (v := (0 : Int32)) hx hb dX4_wrongUnderSealed_42 (by decide) ?_
      exact J43 (0 : Int32) _ _ _ (by first | exact Or.inl ⟨g32, rfl⟩ | exact Or.inr ⟨g32, rfl⟩) hS (lv_sub hl [1, 2, 0] rfl)
    · skip
      have g32 : cx_mk ((T 1)) t (nI 8) := hp_29.2.mp h32
      refine lv_iload_n hx hb dX4_wrongUnderSealed_35 rfl (lv_at hl 2 rfl) ?_
      refine cx_cNi (As := [.int (nI t)]) (rest := []) ⟨hx, hb, hml, hown, hts⟩ hE hS (c_X6_bit l D [(cI, .int), (cJ, .long)] (cxW q cI cJ n T k M d C J g) (nI t) ) ⟨va_cnB (own := RX4) (index := 32) (host := "ClassRules") 1 hts gX4_wrongUnderSealed_X6_bit_n32 rfl rfl rfl (hE.2.1 _ (List.mem_of_getElem? (i := 36) rfl)) (hts (.initialized RX6) (List.mem_of_getElem? (i := 20) rfl)) (by decide +kernel) ⟨Nat.le_of_ble_eq_true rfl, Nat.le_of_ble_eq_true rfl⟩, hts (.static yX6_bit) (List.mem_of_getElem? (i := 19) rfl), trivial⟩ rfl hl.1 rfl (Nat.le_of_ble_eq_true rfl) ⟨Nat.zero_le _, Nat.zero_le _⟩ dX4_wrongUnderSealed_36 (fun r_36 u_36 H locs hp_36 hS => ?_)
      have hp_36 : r_36 = ((1 : Int32) <<< ((nI t) &&& 31)) := hp_36
      subst hp_36
      refine lv_goto (tgt := 43) hx hb dX4_wrongUnderSealed_39 (by decide) ?_
      exact J43 (((1 : Int32) <<< ((nI t) &&& 31))) _ _ _ (by first | exact Or.inl ⟨g32, rfl⟩ | exact Or.inr ⟨g32, rfl⟩) hS (lv_sub hl [1, 2, 0] rfl)
set_option maxHeartbeats 4000000 in
set_option maxRecDepth 100000 in
theorem c_X4_wrongPermits (l : Launch) (D : va_G) (q : Nat → Nat) (cI cJ : ClassId) (n : Nat) (T : Nat → Nat → Int32) (k : Nat) (M : Nat → Nat → Int32) (d : Nat) (C : Nat → Nat → Int32) (J : Nat → Nat → Int32) (g : Nat → Int64) (t : Nat) (hn : n ≤ 20) (ht : t < n) (hB4 : cx_B4 n T) : cx_Mi l D vwCl [(cI, .int), (cJ, .long)] cx_NW yX4_wrongPermits wsX4_wrongPermits ({ frames := 2, cells := 0, slots := 0, locals := 40 } : Room) [.ref (q 5), .int (nI t)] (cxW q cI cJ n T k M d C J g) (fun (r : Int32) (uw : Unit) => (¬ r = 0 ↔ cx_F7a n (T 1) (cx_Vc T) t ∨ cx_F7b n (T 3) (cx_Uc T) (cx_Vc T) t)) (fun _ => (cxW q cI cJ n T k M d C J g)) := by
  refine cx_Mi.of (cc := cX4_wrongPermits) (maxL := 5) cx_NW_ok (by decide) rfl (Nat.le_of_ble_eq_true rfl) ?_
  intro p e s m args below meth c Q A ls hx hb hml hown hts hE RET hS hl
  have hl : lv_has ls 5 [(0, .ref (q 5)), (1, .int (nI t))] := hl
  have hown : s.vm.findClass RX4 = some m.cls := hown
  have hinX4 : ∀ w ∈ u_ws RX4 TX4 1, w ∈ wsX4_wrongPermits := cx_mem [24] (by decide +kernel)
  have hinX5 : ∀ w ∈ u_ws RX5 TX5 12, w ∈ wsX4_wrongPermits := cx_mem [25, 26, 27, 28, 29, 30, 31, 32, 33, 34, 35, 36] (by decide +kernel)
  refine lv_aload_n hx hb dX4_wrongPermits_0 rfl (lv_at hl 0 rfl) ?_
  refine cx_get (own := RX4) (index := 9) (C := RX4) (T := TX4) (N := 1) (k := 0) (ci := 4) (v := .ref (q 1)) hx hb hts hown hE hS hinX4 5 rfl rfl (by decide) (List.mem_of_getElem? (i := 1) rfl) rfl dX4_wrongPermits_1 ?_
  refine cx_getN (own := RX4) (index := 21) (C := RX5) (T := TX5) (N := 12) (k := 8) (ci := 5) (host := "ClassRules") (v := .ref (q 15)) hx hb hts hown hE hS hinX5 1 rfl rfl (by decide) (List.mem_of_getElem? (i := 12) rfl) rfl dX4_wrongPermits_4 ?_
  refine lv_iload_n hx hb dX4_wrongPermits_7 rfl (lv_at hl 1 rfl) ?_
  refine cx_iald (f := (T 8)) (n := 20) (cA := cI) hx hb hE hS 15 0 rfl rfl (by omega) (by decide) dX4_wrongPermits_8 ?_
  refine lv_aload_n hx hb dX4_wrongPermits_9 rfl (lv_at hl 0 rfl) ?_
  refine cx_get (own := RX4) (index := 9) (C := RX4) (T := TX4) (N := 1) (k := 0) (ci := 4) (v := .ref (q 1)) hx hb hts hown hE hS hinX4 5 rfl rfl (by decide) (List.mem_of_getElem? (i := 1) rfl) rfl dX4_wrongPermits_10 ?_
  refine cx_cVi (As := []) (rest := [.int ((T 8) t)]) ⟨hx, hb, hml, hown, hts⟩ hE hS (c_X5_everyone l D q cI cJ n T k M d C J g  ) (cwV 0 hts gX4_wrongPermits_X5_everyone rfl rfl rfl (by decide +kernel) ⟨Nat.le_of_ble_eq_true rfl, Nat.le_of_ble_eq_true rfl⟩) 1 5 rfl rfl rfl hl.1 rfl (Nat.le_of_ble_eq_true rfl) ⟨Nat.zero_le _, Nat.zero_le _⟩ dX4_wrongPermits_13 (fun r_13 u_13 H locs hp_13 hS => ?_)
  have hp_13 : r_13 = (((1 : Int32) <<< (nI n &&& 31)) - (1 : Int32)) := hp_13
  subst hp_13
  refine lv_iand hx hb dX4_wrongPermits_16 ?_
  refine lv_topi (fun x17 ex17 => ?_)
  refine lv_istore_n (lv' := [(2, .int x17), (0, .ref (q 5)), (1, .int (nI t))]) hx hb dX4_wrongPermits_17 rfl hl (by decide) rfl (fun ls hl => ?_)
  have hs17 : ∀ u, u < 32 → (bt x17 u = true ↔ u < n ∧ cx_Vc T t u) := by rw [ex17]; exact cx_tr7s hn ht
  have hp17 := cx_tr7p hn hs17
  refine lv_iload_n hx hb dX4_wrongPermits_18 rfl (lv_at hl 0 rfl) ?_
  have J27 : ∀ (v27_s0 : Int32) (H : Heap) (locs : List Loc) (ls : Array Slot), ((v27_s0 = 0 ∨ v27_s0 = 1) ∧ (¬ v27_s0 = 0 ↔ (∃ u, u < n ∧ cx_Vc T t u))) → cx_S D vwCl A s (cxW q cI cJ n T k M d C J g) H locs → lv_has ls 5 [(0, .ref (q 5)), (1, .int (nI t)), (2, .int x17)] → W p l e ({ frames := 2, cells := 0, slots := 0, locals := 40 } : Room) s m args below meth c H locs 0 0 Q (F0 m 27 ls [.int v27_s0]) := by
    intro v27_s0 H locs ls b27 hS hl
    refine lv_aload_n hx hb dX4_wrongPermits_27 rfl (lv_at hl 0 rfl) ?_
    refine cx_get (own := RX4) (index := 9) (C := RX4) (T := TX4) (N := 1) (k := 0) (ci := 4) (v := .ref (q 1)) hx hb hts hown hE hS hinX4 5 rfl rfl (by decide) (List.mem_of_getElem? (i := 1) rfl) rfl dX4_wrongPermits_28 ?_
    refine lv_iload_n hx hb dX4_wrongPermits_31 rfl (lv_at hl 1 rfl) ?_
    refine lv_iconst (v := nI 4) hx hb dX4_wrongPermits_32 (by decide) ?_
    refine cx_cVi (As := [.int (nI t), .int (nI 4)]) (rest := [.int v27_s0]) ⟨hx, hb, hml, hown, hts⟩ hE hS (c_X5_marked l D q cI cJ n T k M d C J g t (nI 4) (by first | assumption | omega | rfl)) (cwV 2 hts gX4_wrongPermits_X5_marked rfl rfl rfl (by decide +kernel) ⟨Nat.le_of_ble_eq_true rfl, Nat.le_of_ble_eq_true rfl⟩) 1 5 rfl rfl rfl hl.1 rfl (Nat.le_of_ble_eq_true rfl) ⟨Nat.zero_le _, Nat.zero_le _⟩ dX4_wrongPermits_33 (fun r_33 u_33 H locs hp_33 hS => ?_)
    have hp_33 : (r_33 = 0 ∨ r_33 = 1) ∧ (¬ r_33 = 0 ↔ cx_mk ((T 1)) t (nI 4)) := hp_33
    have J47 : ∀ (v47_s0 : Int32) (H : Heap) (locs : List Loc) (ls : Array Slot), ((cx_F7a n (T 1) (cx_Vc T) t ∧ v47_s0 = (1 : Int32) <<< (nI t &&& 31)) ∨ (¬ cx_F7a n (T 1) (cx_Vc T) t ∧ v47_s0 = 0)) → cx_S D vwCl A s (cxW q cI cJ n T k M d C J g) H locs → lv_has ls 5 [(0, .ref (q 5)), (1, .int (nI t)), (2, .int x17)] → W p l e ({ frames := 2, cells := 0, slots := 0, locals := 40 } : Room) s m args below meth c H locs 0 0 Q (F0 m 47 ls [.int v47_s0]) := by
      intro v47_s0 H locs ls h47 hS hl
      refine lv_istore_n (lv' := [(3, .int v47_s0), (0, .ref (q 5)), (1, .int (nI t)), (2, .int x17)]) hx hb dX4_wrongPermits_47 rfl hl (by decide) rfl (fun ls hl => ?_)
      refine lv_iconst (v := (0 : Int32)) hx hb dX4_wrongPermits_48 (by decide) ?_
      refine cx_topr (z := nI 0) (by decide) ?_
      refine lv_istore (lv' := [(4, .int (nI 0)), (3, .int v47_s0), (0, .ref (q 5)), (1, .int (nI t)), (2, .int x17)]) hx hb dX4_wrongPermits_49 hl (by decide) rfl (fun ls hl => ?_)
      have J51 : ∀ (N : Nat) (v51_l3 : Int32) (i51 : Nat) (H : Heap) (locs : List Loc) (ls : Array Slot), (n - i51 < N) → (i51 ≤ n) → (¬ v51_l3 = 0 ↔ cx_F7a n (T 1) (cx_Vc T) t ∨ ∃ u, u < i51 ∧ (cx_Vc T t u ∧ ¬ cx_nx (T 3) (cx_Uc T) u t)) → cx_S D vwCl A s (cxW q cI cJ n T k M d C J g) H locs → lv_has ls 5 [(0, .ref (q 5)), (1, .int (nI t)), (2, .int x17), (3, .int v51_l3), (4, .int (nI i51))] → W p l e ({ frames := 2, cells := 0, slots := 0, locals := 40 } : Room) s m args below meth c H locs 0 0 Q (F0 m 51 ls []) := by
        intro N51
        induction N51 with
        | zero => intro v51_l3 i51 H locs ls hN; exact absurd hN (by omega)
        | succ N51 ih51 =>
          intro v51_l3 i51 H locs ls hN51 hi51 hw hS hl
          refine lv_iload hx hb dX4_wrongPermits_51 (lv_at hl 4 rfl) ?_
          refine lv_aload_n hx hb dX4_wrongPermits_53 rfl (lv_at hl 0 rfl) ?_
          refine cx_get (own := RX4) (index := 9) (C := RX4) (T := TX4) (N := 1) (k := 0) (ci := 4) (v := .ref (q 1)) hx hb hts hown hE hS hinX4 5 rfl rfl (by decide) (List.mem_of_getElem? (i := 1) rfl) rfl dX4_wrongPermits_54 ?_
          refine cx_getN (own := RX4) (index := 62) (C := RX5) (T := TX5) (N := 12) (k := 11) (ci := 5) (host := "ClassRules") (v := .int (nI n)) hx hb hts hown hE hS hinX5 1 rfl rfl (by decide) (List.mem_of_getElem? (i := 18) rfl) rfl dX4_wrongPermits_57 ?_
          refine lv_icmp_ge (tgt := 102) hx hb dX4_wrongPermits_60 (by decide) (fun h60 => ?_) (fun h60 => ?_)
          · skip
            have g60 : n ≤ i51 := (nI_leI (a := n) (b := i51) (by omega) (by omega)).mp h60
            refine lv_iload_n hx hb dX4_wrongPermits_102 rfl (lv_at hl 3 rfl) ?_
            exact RET _ () _ _ _ _ dX4_wrongPermits_103 rfl (cx_goE hw (by omega) (by omega)) hS
          · skip
            have g60 : ¬ (n ≤ i51) := fun z => h60 ((nI_leI (a := n) (b := i51) (by omega) (by omega)).mpr z)
            refine lv_iload_n hx hb dX4_wrongPermits_63 rfl (lv_at hl 2 rfl) ?_
            refine lv_iload hx hb dX4_wrongPermits_64 (lv_at hl 4 rfl) ?_
            refine cx_cNi (As := [.int x17, .int (nI i51)]) (rest := []) ⟨hx, hb, hml, hown, hts⟩ hE hS (c_X6_holds_at_b l D [(cI, .int), (cJ, .long)] (cxW q cI cJ n T k M d C J g) x17 i51 (by first | assumption | omega | rfl)) ⟨va_cnB (own := RX4) (index := 66) (host := "ClassRules") 2 hts gX4_wrongPermits_X6_holds_n66 rfl rfl rfl (hE.2.1 _ (List.mem_of_getElem? (i := 37) rfl)) (hts (.initialized RX6) (List.mem_of_getElem? (i := 9) rfl)) (by decide +kernel) ⟨Nat.le_of_ble_eq_true rfl, Nat.le_of_ble_eq_true rfl⟩, hts (.static yX6_holds) (List.mem_of_getElem? (i := 16) rfl), trivial⟩ rfl hl.1 rfl (Nat.le_of_ble_eq_true rfl) ⟨Nat.zero_le _, Nat.zero_le _⟩ dX4_wrongPermits_66 (fun r_66 u_66 H locs hp_66 hS => ?_)
            have hp_66 : r_66 = cx_b (bt x17 i51 = true) := hp_66
            subst hp_66
            have J96 : ∀ (v96_l3 : Int32) (H : Heap) (locs : List Loc) (ls : Array Slot), (¬ v96_l3 = 0 ↔ cx_F7a n (T 1) (cx_Vc T) t ∨ ∃ u, u < (i51 + 1) ∧ (cx_Vc T t u ∧ ¬ cx_nx (T 3) (cx_Uc T) u t)) → cx_S D vwCl A s (cxW q cI cJ n T k M d C J g) H locs → lv_has ls 5 [(0, .ref (q 5)), (1, .int (nI t)), (2, .int x17), (3, .int v96_l3), (4, .int (nI i51))] → W p l e ({ frames := 2, cells := 0, slots := 0, locals := 40 } : Room) s m args below meth c H locs 0 0 Q (F0 m 96 ls []) := by
              intro v96_l3 H locs ls hw2 hS hl
              refine lv_iinc (v := nI (i51 + 1)) (lv' := [(4, .int (nI (i51 + 1))), (0, .ref (q 5)), (1, .int (nI t)), (2, .int x17), (3, .int v96_l3)]) hx hb dX4_wrongPermits_96 hl (k := 4) rfl (cx_inc _) (by decide) rfl (fun ls hl => ?_)
              refine lv_goto (tgt := 51) hx hb dX4_wrongPermits_99 (by decide) ?_
              exact ih51 v96_l3 (i51 + 1) _ _ _ (by (try clear hw2); (try clear hw); (try clear b27); omega) (by (try clear hw2); (try clear hw); (try clear b27); omega) (by first | exact hw2 | exact cx_w0 (cx_bitv (by omega) h47)) hS (lv_sub hl [1, 2, 3, 4, 0] rfl)
            refine lv_if_eq (tgt := 96) hx hb dX4_wrongPermits_69 (by decide) (fun h69 => ?_) (fun h69 => ?_)
            · skip
              have g69 := cx_b0 h69
              exact J96 v51_l3 _ _ _ (by first | exact cx_wN (Q := fun u => cx_Vc T t u ∧ ¬ cx_nx (T 3) (cx_Uc T) u t) hw (fun z => g69 ((hs17 _ (by omega)).mpr ⟨by omega, z.1⟩)) | exact cx_wN (Q := fun u => cx_Vc T t u ∧ ¬ cx_nx (T 3) (cx_Uc T) u t) hw (fun z => z.2 ((cx_nxb hn (by omega) hB4 (by omega)).mp g85)) | exact cx_wS (P := True) (Q := fun u => cx_Vc T t u ∧ ¬ cx_nx (T 3) (cx_Uc T) u t) (by omega) hw ⟨((hs17 _ (by omega)).mp g69).2, fun z => g85 ((cx_nxb hn (by omega) hB4 (by omega)).mpr z)⟩) hS (lv_sub hl [0, 1, 2, 3, 4] rfl)
            · skip
              have g69 := cx_b1 h69
              refine lv_aload_n hx hb dX4_wrongPermits_72 rfl (lv_at hl 0 rfl) ?_
              refine cx_get (own := RX4) (index := 9) (C := RX4) (T := TX4) (N := 1) (k := 0) (ci := 4) (v := .ref (q 1)) hx hb hts hown hE hS hinX4 5 rfl rfl (by decide) (List.mem_of_getElem? (i := 1) rfl) rfl dX4_wrongPermits_73 ?_
              refine lv_iload hx hb dX4_wrongPermits_76 (lv_at hl 4 rfl) ?_
              refine cx_cVi (As := [.int (nI i51)]) (rest := []) ⟨hx, hb, hml, hown, hts⟩ hE hS (c_X5_next l D q cI cJ n T k M d C J g i51 (by first | assumption | omega | rfl)) (cwV 1 hts gX4_wrongPermits_X5_next rfl rfl rfl (by decide +kernel) ⟨Nat.le_of_ble_eq_true rfl, Nat.le_of_ble_eq_true rfl⟩) 1 5 rfl rfl rfl hl.1 rfl (Nat.le_of_ble_eq_true rfl) ⟨Nat.zero_le _, Nat.zero_le _⟩ dX4_wrongPermits_78 (fun r_78 u_78 H locs hp_78 hS => ?_)
              have hp_78 : r_78 = ((((T 4)) i51) ||| (((T 5)) i51)) := hp_78
              subst hp_78
              refine lv_iload_n hx hb dX4_wrongPermits_81 rfl (lv_at hl 1 rfl) ?_
              refine cx_cNi (As := [.int (((((T 4)) i51) ||| (((T 5)) i51))), .int (nI t)]) (rest := []) ⟨hx, hb, hml, hown, hts⟩ hE hS (c_X6_holds_at_b l D [(cI, .int), (cJ, .long)] (cxW q cI cJ n T k M d C J g) (((((T 4)) i51) ||| (((T 5)) i51))) t (by first | assumption | omega | rfl)) ⟨va_cnB (own := RX4) (index := 66) (host := "ClassRules") 2 hts gX4_wrongPermits_X6_holds_n66 rfl rfl rfl (hE.2.1 _ (List.mem_of_getElem? (i := 37) rfl)) (hts (.initialized RX6) (List.mem_of_getElem? (i := 9) rfl)) (by decide +kernel) ⟨Nat.le_of_ble_eq_true rfl, Nat.le_of_ble_eq_true rfl⟩, hts (.static yX6_holds) (List.mem_of_getElem? (i := 16) rfl), trivial⟩ rfl hl.1 rfl (Nat.le_of_ble_eq_true rfl) ⟨Nat.zero_le _, Nat.zero_le _⟩ dX4_wrongPermits_82 (fun r_82 u_82 H locs hp_82 hS => ?_)
              have hp_82 : r_82 = cx_b (bt (((((T 4)) i51) ||| (((T 5)) i51))) t = true) := hp_82
              subst hp_82
              refine lv_if_ne (tgt := 96) hx hb dX4_wrongPermits_85 (by decide) (fun h85 => ?_) (fun h85 => ?_)
              · skip
                have g85 := cx_b1 h85
                exact J96 v51_l3 _ _ _ (by first | exact cx_wN (Q := fun u => cx_Vc T t u ∧ ¬ cx_nx (T 3) (cx_Uc T) u t) hw (fun z => g69 ((hs17 _ (by omega)).mpr ⟨by omega, z.1⟩)) | exact cx_wN (Q := fun u => cx_Vc T t u ∧ ¬ cx_nx (T 3) (cx_Uc T) u t) hw (fun z => z.2 ((cx_nxb hn (by omega) hB4 (by omega)).mp g85)) | exact cx_wS (P := True) (Q := fun u => cx_Vc T t u ∧ ¬ cx_nx (T 3) (cx_Uc T) u t) (by omega) hw ⟨((hs17 _ (by omega)).mp g69).2, fun z => g85 ((cx_nxb hn (by omega) hB4 (by omega)).mpr z)⟩) hS (lv_sub hl [0, 1, 2, 3, 4] rfl)
              · skip
                have g85 := cx_b0 h85
                refine lv_iload_n hx hb dX4_wrongPermits_88 rfl (lv_at hl 3 rfl) ?_
                refine lv_iload hx hb dX4_wrongPermits_89 (lv_at hl 4 rfl) ?_
                refine cx_cNi (As := [.int (nI i51)]) (rest := [.int v51_l3]) ⟨hx, hb, hml, hown, hts⟩ hE hS (c_X6_bit l D [(cI, .int), (cJ, .long)] (cxW q cI cJ n T k M d C J g) (nI i51) ) ⟨va_cnB (own := RX4) (index := 32) (host := "ClassRules") 1 hts gX4_wrongPermits_X6_bit_n32 rfl rfl rfl (hE.2.1 _ (List.mem_of_getElem? (i := 36) rfl)) (hts (.initialized RX6) (List.mem_of_getElem? (i := 9) rfl)) (by decide +kernel) ⟨Nat.le_of_ble_eq_true rfl, Nat.le_of_ble_eq_true rfl⟩, hts (.static yX6_bit) (List.mem_of_getElem? (i := 8) rfl), trivial⟩ rfl hl.1 rfl (Nat.le_of_ble_eq_true rfl) ⟨Nat.zero_le _, Nat.zero_le _⟩ dX4_wrongPermits_91 (fun r_91 u_91 H locs hp_91 hS => ?_)
                have hp_91 : r_91 = ((1 : Int32) <<< ((nI i51) &&& 31)) := hp_91
                subst hp_91
                refine lv_ior hx hb dX4_wrongPermits_94 ?_
                refine lv_istore_n (lv' := [(3, .int (v51_l3 ||| (((1 : Int32) <<< ((nI i51) &&& 31))))), (0, .ref (q 5)), (1, .int (nI t)), (2, .int x17), (4, .int (nI i51))]) hx hb dX4_wrongPermits_95 rfl hl (by decide) rfl (fun ls hl => ?_)
                exact J96 (v51_l3 ||| (((1 : Int32) <<< ((nI i51) &&& 31)))) _ _ _ (by first | exact cx_wN (Q := fun u => cx_Vc T t u ∧ ¬ cx_nx (T 3) (cx_Uc T) u t) hw (fun z => g69 ((hs17 _ (by omega)).mpr ⟨by omega, z.1⟩)) | exact cx_wN (Q := fun u => cx_Vc T t u ∧ ¬ cx_nx (T 3) (cx_Uc T) u t) hw (fun z => z.2 ((cx_nxb hn (by omega) hB4 (by omega)).mp g85)) | exact cx_wS (P := True) (Q := fun u => cx_Vc T t u ∧ ¬ cx_nx (T 3) (cx_Uc T) u t) (by omega) hw ⟨((hs17 _ (by omega)).mp g69).2, fun z => g85 ((cx_nxb hn (by omega) hB4 (by omega)).mpr z)⟩) hS (lv_sub hl [1, 2, 3, 0, 4] rfl)
      exact J51 (n - 0 + 1) v47_s0 0 _ _ _ (Nat.lt_succ_self _) (by (try clear hw); (try clear b27); omega) (by first | exact hw2 | exact cx_w0 (cx_bitv (by omega) h47)) hS (lv_sub hl [2, 3, 4, 1, 0] rfl)
    refine lv_icmp_ne (tgt := 43) hx hb dX4_wrongPermits_36 (by decide) (fun h36 => ?_) (fun h36 => ?_)
    · skip
      refine lv_iload_n hx hb dX4_wrongPermits_43 rfl (lv_at hl 1 rfl) ?_
      refine cx_cNi (As := [.int (nI t)]) (rest := []) ⟨hx, hb, hml, hown, hts⟩ hE hS (c_X6_bit l D [(cI, .int), (cJ, .long)] (cxW q cI cJ n T k M d C J g) (nI t) ) ⟨va_cnB (own := RX4) (index := 32) (host := "ClassRules") 1 hts gX4_wrongPermits_X6_bit_n32 rfl rfl rfl (hE.2.1 _ (List.mem_of_getElem? (i := 36) rfl)) (hts (.initialized RX6) (List.mem_of_getElem? (i := 9) rfl)) (by decide +kernel) ⟨Nat.le_of_ble_eq_true rfl, Nat.le_of_ble_eq_true rfl⟩, hts (.static yX6_bit) (List.mem_of_getElem? (i := 8) rfl), trivial⟩ rfl hl.1 rfl (Nat.le_of_ble_eq_true rfl) ⟨Nat.zero_le _, Nat.zero_le _⟩ dX4_wrongPermits_44 (fun r_44 u_44 H locs hp_44 hS => ?_)
      have hp_44 : r_44 = ((1 : Int32) <<< ((nI t) &&& 31)) := hp_44
      subst hp_44
      exact J47 (((1 : Int32) <<< ((nI t) &&& 31))) _ _ _ (by first | exact Or.inl ⟨fun z => h36 ((cx_eqE b27 hp_33).mpr z), rfl⟩ | exact Or.inr ⟨fun z => z ((cx_eqE b27 hp_33).mp h36), rfl⟩) hS (lv_sub hl [0, 1, 2] rfl)
    · skip
      refine lv_iconst (v := (0 : Int32)) hx hb dX4_wrongPermits_39 (by decide) ?_
      refine lv_goto (tgt := 47) hx hb dX4_wrongPermits_40 (by decide) ?_
      exact J47 (0 : Int32) _ _ _ (by first | exact Or.inl ⟨fun z => h36 ((cx_eqE b27 hp_33).mpr z), rfl⟩ | exact Or.inr ⟨fun z => z ((cx_eqE b27 hp_33).mp h36), rfl⟩) hS (lv_sub hl [0, 1, 2] rfl)
  refine lv_if_eq (tgt := 26) hx hb dX4_wrongPermits_19 (by decide) (fun h19 => ?_) (fun h19 => ?_)
  · skip
    refine lv_iconst (v := (0 : Int32)) hx hb dX4_wrongPermits_26 (by decide) ?_
    exact J27 (0 : Int32) _ _ _ (cx_e0 (by (try clear RET); (try clear hS); (try clear hl); (try clear hE); (try clear hts); (try clear hb); (try clear hx); (try clear hml); (try clear hown); (try clear hinX4); (try clear hinX5); (try clear J27); have y10 : ¬ (1 : Int32) = 0 := (by decide); first | assumption | (grind))) hS (lv_sub hl [1, 2, 0] rfl)
  · skip
    refine lv_iconst (v := (1 : Int32)) hx hb dX4_wrongPermits_22 (by decide) ?_
    refine lv_goto (tgt := 27) hx hb dX4_wrongPermits_23 (by decide) ?_
    exact J27 (1 : Int32) _ _ _ (cx_e1 (by (try clear RET); (try clear hS); (try clear hl); (try clear hE); (try clear hts); (try clear hb); (try clear hx); (try clear hml); (try clear hown); (try clear hinX4); (try clear hinX5); (try clear J27); have y10 : ¬ (1 : Int32) = 0 := (by decide); first | assumption | (grind))) hS (lv_sub hl [1, 2, 0] rfl)
set_option maxHeartbeats 4000000 in
set_option maxRecDepth 100000 in
theorem c_X4_twice (l : Launch) (D : va_G) (q : Nat → Nat) (cI cJ : ClassId) (n : Nat) (T : Nat → Nat → Int32) (k : Nat) (M : Nat → Nat → Int32) (d : Nat) (C : Nat → Nat → Int32) (J : Nat → Nat → Int32) (g : Nat → Int64) (t : Nat) (hn : n ≤ 20) (ht : t < n) : cx_Mi l D vwCl [(cI, .int), (cJ, .long)] cx_NW yX4_twice wsX4_twice ({ frames := 2, cells := 0, slots := 0, locals := 40 } : Room) [.ref (q 5), .int (nI t)] (cxW q cI cJ n T k M d C J g) (fun (r : Int32) (uw : Unit) => (¬ r = 0 ↔ cx_F8 n (cx_Wc T) t)) (fun _ => (cxW q cI cJ n T k M d C J g)) := by
  refine cx_Mi.of (cc := cX4_twice) (maxL := 2) cx_NW_ok (by decide) rfl (Nat.le_of_ble_eq_true rfl) ?_
  intro p e s m args below meth c Q A ls hx hb hml hown hts hE RET hS hl
  have hl : lv_has ls 2 [(0, .ref (q 5)), (1, .int (nI t))] := hl
  have hown : s.vm.findClass RX4 = some m.cls := hown
  have hinX4 : ∀ w ∈ u_ws RX4 TX4 1, w ∈ wsX4_twice := cx_mem [11] (by decide +kernel)
  have hinX5 : ∀ w ∈ u_ws RX5 TX5 12, w ∈ wsX4_twice := cx_mem [12, 13, 14, 15, 16, 17, 18, 19, 20, 21, 22, 23] (by decide +kernel)
  refine lv_aload_n hx hb dX4_twice_0 rfl (lv_at hl 0 rfl) ?_
  refine cx_get (own := RX4) (index := 9) (C := RX4) (T := TX4) (N := 1) (k := 0) (ci := 4) (v := .ref (q 1)) hx hb hts hown hE hS hinX4 5 rfl rfl (by decide) (List.mem_of_getElem? (i := 1) rfl) rfl dX4_twice_1 ?_
  refine cx_getN (own := RX4) (index := 69) (C := RX5) (T := TX5) (N := 12) (k := 6) (ci := 5) (host := "ClassRules") (v := .ref (q 13)) hx hb hts hown hE hS hinX5 1 rfl rfl (by decide) (List.mem_of_getElem? (i := 10) rfl) rfl dX4_twice_4 ?_
  refine lv_iload_n hx hb dX4_twice_7 rfl (lv_at hl 1 rfl) ?_
  refine cx_iald (f := (T 6)) (n := 20) (cA := cI) hx hb hE hS 13 0 rfl rfl (by omega) (by decide) dX4_twice_8 ?_
  refine lv_aload_n hx hb dX4_twice_9 rfl (lv_at hl 0 rfl) ?_
  refine cx_get (own := RX4) (index := 9) (C := RX4) (T := TX4) (N := 1) (k := 0) (ci := 4) (v := .ref (q 1)) hx hb hts hown hE hS hinX4 5 rfl rfl (by decide) (List.mem_of_getElem? (i := 1) rfl) rfl dX4_twice_10 ?_
  refine cx_cVi (As := []) (rest := [.int ((T 6) t)]) ⟨hx, hb, hml, hown, hts⟩ hE hS (c_X5_everyone l D q cI cJ n T k M d C J g  ) (cwV 0 hts gX4_twice_X5_everyone rfl rfl rfl (by decide +kernel) ⟨Nat.le_of_ble_eq_true rfl, Nat.le_of_ble_eq_true rfl⟩) 1 5 rfl rfl rfl hl.1 rfl (Nat.le_of_ble_eq_true rfl) ⟨Nat.zero_le _, Nat.zero_le _⟩ dX4_twice_13 (fun r_13 u_13 H locs hp_13 hS => ?_)
  have hp_13 : r_13 = (((1 : Int32) <<< (nI n &&& 31)) - (1 : Int32)) := hp_13
  subst hp_13
  refine lv_iand hx hb dX4_twice_16 ?_
  exact RET _ () _ _ _ _ dX4_twice_17 rfl (cx_tr8 hn ht) hS
set_option maxHeartbeats 4000000 in
set_option maxRecDepth 100000 in
theorem c_X4_shaky (l : Launch) (D : va_G) (q : Nat → Nat) (cI cJ : ClassId) (n : Nat) (T : Nat → Nat → Int32) (k : Nat) (M : Nat → Nat → Int32) (d : Nat) (C : Nat → Nat → Int32) (J : Nat → Nat → Int32) (g : Nat → Int64) (t : Nat) (hn : n ≤ 20) (ht : t < n) (hB4 : cx_B4 n T) : cx_Mi l D vwCl [(cI, .int), (cJ, .long)] cx_NW yX4_shaky wsX4_shaky ({ frames := 3, cells := 0, slots := 0, locals := 65 } : Room) [.ref (q 5), .int (nI t)] (cxW q cI cJ n T k M d C J g) (fun (r : Int32) (uw : Unit) => (r = 0 ∨ r = 1) ∧ (¬ r = 0 ↔ cx_SK n (T 0) (T 3) (cx_Uc T) (cx_Vc T) (cx_Ac T n) t)) (fun _ => (cxW q cI cJ n T k M d C J g)) := by
  refine cx_Mi.of (cc := cX4_shaky) (maxL := 3) cx_NW_ok (by decide) rfl (Nat.le_of_ble_eq_true rfl) ?_
  intro p e s m args below meth c Q A ls hx hb hml hown hts hE RET hS hl
  have hl : lv_has ls 3 [(0, .ref (q 5)), (1, .int (nI t))] := hl
  have hown : s.vm.findClass RX4 = some m.cls := hown
  have hinX4 : ∀ w ∈ u_ws RX4 TX4 1, w ∈ wsX4_shaky := cx_mem [40] (by decide +kernel)
  have hinX5 : ∀ w ∈ u_ws RX5 TX5 12, w ∈ wsX4_shaky := cx_mem [41, 42, 43, 44, 45, 46, 47, 48, 49, 50, 51, 52] (by decide +kernel)
  refine lv_iconst (v := (0 : Int32)) hx hb dX4_shaky_0 (by decide) ?_
  refine cx_topr (z := nI 0) (by decide) ?_
  refine lv_istore_n (lv' := [(2, .int (nI 0)), (0, .ref (q 5)), (1, .int (nI t))]) hx hb dX4_shaky_1 rfl hl (by decide) rfl (fun ls hl => ?_)
  have J2 : ∀ (N : Nat) (i2 : Nat) (H : Heap) (locs : List Loc) (ls : Array Slot), (n - i2 < N) → (i2 ≤ n) → (∀ j, j < i2 → ¬ (cx_is (cx_Ac T n) t j ∧ cx_FF n (T 0) (T 3) (cx_Uc T) (cx_Vc T) (cx_Ac T n) j)) → cx_S D vwCl A s (cxW q cI cJ n T k M d C J g) H locs → lv_has ls 3 [(0, .ref (q 5)), (1, .int (nI t)), (2, .int (nI i2))] → W p l e ({ frames := 3, cells := 0, slots := 0, locals := 65 } : Room) s m args below meth c H locs 0 0 Q (F0 m 2 ls []) := by
    intro N2
    induction N2 with
    | zero => intro i2 H locs ls hN; exact absurd hN (by omega)
    | succ N2 ih2 =>
      intro i2 H locs ls hN2 hi2 hf hS hl
      refine lv_iload_n hx hb dX4_shaky_2 rfl (lv_at hl 2 rfl) ?_
      refine lv_aload_n hx hb dX4_shaky_3 rfl (lv_at hl 0 rfl) ?_
      refine cx_get (own := RX4) (index := 9) (C := RX4) (T := TX4) (N := 1) (k := 0) (ci := 4) (v := .ref (q 1)) hx hb hts hown hE hS hinX4 5 rfl rfl (by decide) (List.mem_of_getElem? (i := 1) rfl) rfl dX4_shaky_4 ?_
      refine cx_getN (own := RX4) (index := 62) (C := RX5) (T := TX5) (N := 12) (k := 11) (ci := 5) (host := "ClassRules") (v := .int (nI n)) hx hb hts hown hE hS hinX5 1 rfl rfl (by decide) (List.mem_of_getElem? (i := 18) rfl) rfl dX4_shaky_7 ?_
      refine lv_icmp_ge (tgt := 53) hx hb dX4_shaky_10 (by decide) (fun h10 => ?_) (fun h10 => ?_)
      · skip
        have g10 : n ≤ i2 := (nI_leI (a := n) (b := i2) (by omega) (by omega)).mp h10
        refine lv_iconst (v := (0 : Int32)) hx hb dX4_shaky_53 (by decide) ?_
        exact RET _ () _ _ _ _ dX4_shaky_54 rfl (cx_e0 (fun ⟨j, hj, z⟩ => hf j (by omega) z)) hS
      · skip
        have g10 : ¬ (n ≤ i2) := fun z => h10 ((nI_leI (a := n) (b := i2) (by omega) (by omega)).mpr z)
        refine lv_aload_n hx hb dX4_shaky_13 rfl (lv_at hl 0 rfl) ?_
        refine cx_get (own := RX4) (index := 9) (C := RX4) (T := TX4) (N := 1) (k := 0) (ci := 4) (v := .ref (q 1)) hx hb hts hown hE hS hinX4 5 rfl rfl (by decide) (List.mem_of_getElem? (i := 1) rfl) rfl dX4_shaky_14 ?_
        refine lv_iload_n hx hb dX4_shaky_17 rfl (lv_at hl 1 rfl) ?_
        refine lv_iload_n hx hb dX4_shaky_18 rfl (lv_at hl 2 rfl) ?_
        refine cx_cVi (As := [.int (nI t), .int (nI i2)]) (rest := []) ⟨hx, hb, hml, hown, hts⟩ hE hS (c_X5_stands_at_b l D q cI cJ n T k M d C J g t i2 (by first | assumption | omega | rfl) (by first | assumption | omega | rfl)) (cwV 2 hts gX4_shaky_X5_stands rfl rfl rfl (by decide +kernel) ⟨Nat.le_of_ble_eq_true rfl, Nat.le_of_ble_eq_true rfl⟩) 1 5 rfl rfl rfl hl.1 rfl (Nat.le_of_ble_eq_true rfl) ⟨Nat.zero_le _, Nat.zero_le _⟩ dX4_shaky_19 (fun r_19 u_19 H locs hp_19 hS => ?_)
        have hp_19 : (r_19 = 0 ∨ r_19 = 1) ∧ (¬ r_19 = 0 ↔ t = i2 ∨ bt ((T 10) t) i2 = true) := hp_19
        have J47 : ∀ (H : Heap) (locs : List Loc) (ls : Array Slot), (¬ (cx_is (cx_Ac T n) t i2 ∧ cx_FF n (T 0) (T 3) (cx_Uc T) (cx_Vc T) (cx_Ac T n) i2)) → cx_S D vwCl A s (cxW q cI cJ n T k M d C J g) H locs → lv_has ls 3 [(0, .ref (q 5)), (1, .int (nI t)), (2, .int (nI i2))] → W p l e ({ frames := 3, cells := 0, slots := 0, locals := 65 } : Room) s m args below meth c H locs 0 0 Q (F0 m 47 ls []) := by
          intro  H locs ls h47 hS hl
          refine lv_iinc (v := nI (i2 + 1)) (lv' := [(2, .int (nI (i2 + 1))), (0, .ref (q 5)), (1, .int (nI t))]) hx hb dX4_shaky_47 hl (k := 2) rfl (cx_inc _) (by decide) rfl (fun ls hl => ?_)
          refine lv_goto (tgt := 2) hx hb dX4_shaky_50 (by decide) ?_
          exact ih2 (i2 + 1) _ _ _ (by omega) (by omega) (by first | exact cx_all0 | exact cx_allS (P := fun j => cx_is (cx_Ac T n) t j ∧ cx_FF n (T 0) (T 3) (cx_Uc T) (cx_Vc T) (cx_Ac T n) j) hf h47) hS (lv_sub hl [1, 2, 0] rfl)
        refine lv_if_eq (tgt := 47) hx hb dX4_shaky_22 (by decide) (fun h22 => ?_) (fun h22 => ?_)
        · skip
          have g22 : ¬ (t = i2 ∨ bt ((T 10) t) i2 = true) := fun z => hp_19.2.mpr z h22
          exact J47  _ _ _ (by first | exact fun z => g22 (z.1.imp id (fun y => y.2.2)) | exact fun z => y42 z.2) hS (lv_sub hl [0, 1, 2] rfl)
        · skip
          have g22 : t = i2 ∨ bt ((T 10) t) i2 = true := hp_19.2.mp h22
          refine lv_aload_n hx hb dX4_shaky_25 rfl (lv_at hl 0 rfl) ?_
          refine lv_iload_n hx hb dX4_shaky_26 rfl (lv_at hl 2 rfl) ?_
          refine cx_cVi (As := [.int (nI i2)]) (rest := []) ⟨hx, hb, hml, hown, hts⟩ hE hS (c_X4_missing l D q cI cJ n T k M d C J g i2 (by first | assumption | omega | rfl) (by first | assumption | omega | rfl) (by first | assumption | omega | rfl)) (cwV 1 hts gX4_shaky_X4_missing rfl rfl rfl (by decide +kernel) ⟨Nat.le_of_ble_eq_true rfl, Nat.le_of_ble_eq_true rfl⟩) 5 4 rfl rfl rfl hl.1 rfl (Nat.le_of_ble_eq_true rfl) ⟨Nat.zero_le _, Nat.zero_le _⟩ dX4_shaky_27 (fun r_27 u_27 H locs hp_27 hS => ?_)
          have hp_27 : (¬ r_27 = 0 ↔ cx_ms n T i2) := hp_27
          refine lv_aload_n hx hb dX4_shaky_30 rfl (lv_at hl 0 rfl) ?_
          refine lv_iload_n hx hb dX4_shaky_31 rfl (lv_at hl 2 rfl) ?_
          refine cx_cVi (As := [.int (nI i2)]) (rest := [.int r_27]) ⟨hx, hb, hml, hown, hts⟩ hE hS (c_X4_ring l D q cI cJ n T k M d C J g i2 (by first | assumption | omega | rfl) (by first | assumption | omega | rfl) (by first | assumption | omega | rfl)) (cwV 1 hts gX4_shaky_X4_ring rfl rfl rfl (by decide +kernel) ⟨Nat.le_of_ble_eq_true rfl, Nat.le_of_ble_eq_true rfl⟩) 5 4 rfl rfl rfl hl.1 rfl (Nat.le_of_ble_eq_true rfl) ⟨Nat.zero_le _, Nat.zero_le _⟩ dX4_shaky_32 (fun r_32 u_32 H locs hp_32 hS => ?_)
          have hp_32 : (¬ r_32 = 0 ↔ cx_Ac T n i2 i2) := hp_32
          refine lv_ior hx hb dX4_shaky_35 ?_
          refine lv_aload_n hx hb dX4_shaky_36 rfl (lv_at hl 0 rfl) ?_
          refine lv_iload_n hx hb dX4_shaky_37 rfl (lv_at hl 2 rfl) ?_
          refine cx_cVi (As := [.int (nI i2)]) (rest := [.int (r_27 ||| r_32)]) ⟨hx, hb, hml, hown, hts⟩ hE hS (c_X4_wrongKind l D q cI cJ n T k M d C J g i2 (by first | assumption | omega | rfl) (by first | assumption | omega | rfl) (by first | assumption | omega | rfl)) (cwV 1 hts gX4_shaky_X4_wrongKind rfl rfl rfl (by decide +kernel) ⟨Nat.le_of_ble_eq_true rfl, Nat.le_of_ble_eq_true rfl⟩) 5 4 rfl rfl rfl hl.1 rfl (Nat.le_of_ble_eq_true rfl) ⟨Nat.zero_le _, Nat.zero_le _⟩ dX4_shaky_38 (fun r_38 u_38 H locs hp_38 hS => ?_)
          have hp_38 : (¬ r_38 = 0 ↔ cx_wk n T i2) := hp_38
          refine lv_ior hx hb dX4_shaky_41 ?_
          refine lv_if_eq (tgt := 47) hx hb dX4_shaky_42 (by decide) (fun h42 => ?_) (fun h42 => ?_)
          · skip
            have y42 := cx_ff0 (by omega) hn hp_27 hp_32 hp_38 h42
            exact J47  _ _ _ (by first | exact fun z => g22 (z.1.imp id (fun y => y.2.2)) | exact fun z => y42 z.2) hS (lv_sub hl [0, 1, 2] rfl)
          · skip
            have y42 := cx_ff1 (by omega) hn hp_27 hp_32 hp_38 h42
            refine lv_iconst (v := (1 : Int32)) hx hb dX4_shaky_45 (by decide) ?_
            exact RET _ () _ _ _ _ dX4_shaky_46 rfl (cx_e1 ⟨i2, by omega, g22.imp id (fun y => ⟨ht, by omega, y⟩), y42⟩) hS
  exact J2 (n - 0 + 1) 0 _ _ _ (Nat.lt_succ_self _) (by omega) (by first | exact cx_all0 | exact cx_allS (P := fun j => cx_is (cx_Ac T n) t j ∧ cx_FF n (T 0) (T 3) (cx_Uc T) (cx_Vc T) (cx_Ac T n) j) hf h47) hS (lv_sub hl [1, 2, 0] rfl)
set_option maxHeartbeats 4000000 in
set_option maxRecDepth 100000 in
theorem c_X2_doubled (l : Launch) (D : va_G) (q : Nat → Nat) (cI cJ : ClassId) (n : Nat) (T : Nat → Nat → Int32) (k : Nat) (M : Nat → Nat → Int32) (d : Nat) (C : Nat → Nat → Int32) (J : Nat → Nat → Int32) (g : Nat → Int64) (mm : Nat) (hm : mm < 80) : cx_Mi l D vwCl [(cI, .int), (cJ, .long)] cx_NW yX2_doubled wsX2_doubled ({ frames := 2, cells := 0, slots := 0, locals := 45 } : Room) [.ref (q 6), .int (nI mm)] (cxW q cI cJ n T k M d C J g) (fun (r : Int32) (uw : Unit) => (r = 0 ∨ r = 1) ∧ (¬ r = 0 ↔ cx_dbl M mm)) (fun _ => (cxW q cI cJ n T k M d C J g)) := by
  refine cx_Mi.of (cc := cX2_doubled) (maxL := 3) cx_NW_ok (by decide) rfl (Nat.le_of_ble_eq_true rfl) ?_
  intro p e s m args below meth c Q A ls hx hb hml hown hts hE RET hS hl
  have hl : lv_has ls 3 [(0, .ref (q 6)), (1, .int (nI mm))] := hl
  have hown : s.vm.findClass RX2 = some m.cls := hown
  have hinX2 : ∀ w ∈ u_ws RX2 TX2 2, w ∈ wsX2_doubled := cx_mem [13, 14] (by decide +kernel)
  have hinX3 : ∀ w ∈ u_ws RX3 TX3 8, w ∈ wsX2_doubled := cx_mem [15, 16, 17, 18, 19, 20, 21, 22] (by decide +kernel)
  refine lv_iconst (v := (0 : Int32)) hx hb dX2_doubled_0 (by decide) ?_
  refine cx_topr (z := nI 0) (by decide) ?_
  refine lv_istore_n (lv' := [(2, .int (nI 0)), (0, .ref (q 6)), (1, .int (nI mm))]) hx hb dX2_doubled_1 rfl hl (by decide) rfl (fun ls hl => ?_)
  have J2 : ∀ (N : Nat) (i2 : Nat) (H : Heap) (locs : List Loc) (ls : Array Slot), (mm - i2 < N) → (i2 ≤ mm) → (∀ j, j < i2 → ¬ (M 0 j = M 0 mm ∧ cx_lk M j mm)) → cx_S D vwCl A s (cxW q cI cJ n T k M d C J g) H locs → lv_has ls 3 [(0, .ref (q 6)), (1, .int (nI mm)), (2, .int (nI i2))] → W p l e ({ frames := 2, cells := 0, slots := 0, locals := 45 } : Room) s m args below meth c H locs 0 0 Q (F0 m 2 ls []) := by
    intro N2
    induction N2 with
    | zero => intro i2 H locs ls hN; exact absurd hN (by omega)
    | succ N2 ih2 =>
      intro i2 H locs ls hN2 hi2 hf hS hl
      refine lv_iload_n hx hb dX2_doubled_2 rfl (lv_at hl 2 rfl) ?_
      refine lv_iload_n hx hb dX2_doubled_3 rfl (lv_at hl 1 rfl) ?_
      refine lv_icmp_ge (tgt := 48) hx hb dX2_doubled_4 (by decide) (fun h4 => ?_) (fun h4 => ?_)
      · skip
        have g4 : mm ≤ i2 := (nI_leI (a := mm) (b := i2) (by omega) (by omega)).mp h4
        refine lv_iconst (v := (0 : Int32)) hx hb dX2_doubled_48 (by decide) ?_
        exact RET _ () _ _ _ _ dX2_doubled_49 rfl (cx_e0 (fun ⟨j, hj, z⟩ => hf j (by omega) z)) hS
      · skip
        have g4 : ¬ (mm ≤ i2) := fun z => h4 ((nI_leI (a := mm) (b := i2) (by omega) (by omega)).mpr z)
        refine lv_aload_n hx hb dX2_doubled_7 rfl (lv_at hl 0 rfl) ?_
        refine cx_get (own := RX2) (index := 15) (C := RX2) (T := TX2) (N := 2) (k := 1) (ci := 2) (v := .ref (q 2)) hx hb hts hown hE hS hinX2 6 rfl rfl (by decide) (List.mem_of_getElem? (i := 1) rfl) rfl dX2_doubled_8 ?_
        refine cx_getN (own := RX2) (index := 19) (C := RX3) (T := TX3) (N := 8) (k := 1) (ci := 3) (host := "ClassRules") (v := .ref (q 18)) hx hb hts hown hE hS hinX3 2 rfl rfl (by decide) (List.mem_of_getElem? (i := 19) rfl) rfl dX2_doubled_11 ?_
        refine lv_iload_n hx hb dX2_doubled_14 rfl (lv_at hl 2 rfl) ?_
        refine cx_iald (f := (M 0)) (n := 80) (cA := cI) hx hb hE hS 18 0 rfl rfl (by omega) (by decide) dX2_doubled_15 ?_
        refine lv_aload_n hx hb dX2_doubled_16 rfl (lv_at hl 0 rfl) ?_
        refine cx_get (own := RX2) (index := 15) (C := RX2) (T := TX2) (N := 2) (k := 1) (ci := 2) (v := .ref (q 2)) hx hb hts hown hE hS hinX2 6 rfl rfl (by decide) (List.mem_of_getElem? (i := 1) rfl) rfl dX2_doubled_17 ?_
        refine cx_getN (own := RX2) (index := 19) (C := RX3) (T := TX3) (N := 8) (k := 1) (ci := 3) (host := "ClassRules") (v := .ref (q 18)) hx hb hts hown hE hS hinX3 2 rfl rfl (by decide) (List.mem_of_getElem? (i := 19) rfl) rfl dX2_doubled_20 ?_
        refine lv_iload_n hx hb dX2_doubled_23 rfl (lv_at hl 1 rfl) ?_
        refine cx_iald (f := (M 0)) (n := 80) (cA := cI) hx hb hE hS 18 0 rfl rfl (by omega) (by decide) dX2_doubled_24 ?_
        have J42 : ∀ (H : Heap) (locs : List Loc) (ls : Array Slot), (¬ (M 0 i2 = M 0 mm ∧ cx_lk M i2 mm)) → cx_S D vwCl A s (cxW q cI cJ n T k M d C J g) H locs → lv_has ls 3 [(0, .ref (q 6)), (1, .int (nI mm)), (2, .int (nI i2))] → W p l e ({ frames := 2, cells := 0, slots := 0, locals := 45 } : Room) s m args below meth c H locs 0 0 Q (F0 m 42 ls []) := by
          intro  H locs ls h42 hS hl
          refine lv_iinc (v := nI (i2 + 1)) (lv' := [(2, .int (nI (i2 + 1))), (0, .ref (q 6)), (1, .int (nI mm))]) hx hb dX2_doubled_42 hl (k := 2) rfl (cx_inc _) (by decide) rfl (fun ls hl => ?_)
          refine lv_goto (tgt := 2) hx hb dX2_doubled_45 (by decide) ?_
          exact ih2 (i2 + 1) _ _ _ (by omega) (by omega) (by first | exact cx_all0 | exact cx_allS (P := fun j => M 0 j = M 0 mm ∧ cx_lk M j mm) hf h42) hS (lv_sub hl [1, 2, 0] rfl)
        refine lv_icmp_ne (tgt := 42) hx hb dX2_doubled_25 (by decide) (fun h25 => ?_) (fun h25 => ?_)
        · skip
          exact J42  _ _ _ (by first | exact fun z => h25 z.1 | exact fun z => g37 z.2) hS (lv_sub hl [0, 1, 2] rfl)
        · skip
          refine lv_aload_n hx hb dX2_doubled_28 rfl (lv_at hl 0 rfl) ?_
          refine cx_get (own := RX2) (index := 15) (C := RX2) (T := TX2) (N := 2) (k := 1) (ci := 2) (v := .ref (q 2)) hx hb hts hown hE hS hinX2 6 rfl rfl (by decide) (List.mem_of_getElem? (i := 1) rfl) rfl dX2_doubled_29 ?_
          refine lv_iload_n hx hb dX2_doubled_32 rfl (lv_at hl 2 rfl) ?_
          refine lv_iload_n hx hb dX2_doubled_33 rfl (lv_at hl 1 rfl) ?_
          refine cx_cVi (As := [.int (nI i2), .int (nI mm)]) (rest := []) ⟨hx, hb, hml, hown, hts⟩ hE hS (c_X3_alike l D q cI cJ n T k M d C J g i2 mm (by first | assumption | omega | rfl) (by first | assumption | omega | rfl)) (cwV 2 hts gX2_doubled_X3_alike rfl rfl rfl (by decide +kernel) ⟨Nat.le_of_ble_eq_true rfl, Nat.le_of_ble_eq_true rfl⟩) 2 3 rfl rfl rfl hl.1 rfl (Nat.le_of_ble_eq_true rfl) ⟨Nat.zero_le _, Nat.zero_le _⟩ dX2_doubled_34 (fun r_34 u_34 H locs hp_34 hS => ?_)
          have hp_34 : (r_34 = 0 ∨ r_34 = 1) ∧ (¬ r_34 = 0 ↔ cx_lk M i2 mm) := hp_34
          refine lv_if_eq (tgt := 42) hx hb dX2_doubled_37 (by decide) (fun h37 => ?_) (fun h37 => ?_)
          · skip
            have g37 : ¬ (cx_lk M i2 mm) := fun z => hp_34.2.mpr z h37
            exact J42  _ _ _ (by first | exact fun z => h25 z.1 | exact fun z => g37 z.2) hS (lv_sub hl [0, 1, 2] rfl)
          · skip
            have g37 : cx_lk M i2 mm := hp_34.2.mp h37
            refine lv_iconst (v := (1 : Int32)) hx hb dX2_doubled_40 (by decide) ?_
            exact RET _ () _ _ _ _ dX2_doubled_41 rfl (cx_e1 ⟨i2, by omega, h25, g37⟩) hS
  exact J2 (mm - 0 + 1) 0 _ _ _ (Nat.lt_succ_self _) (by omega) (by first | exact cx_all0 | exact cx_allS (P := fun j => M 0 j = M 0 mm ∧ cx_lk M j mm) hf h42) hS (lv_sub hl [1, 2, 0] rfl)
set_option maxHeartbeats 4000000 in
set_option maxRecDepth 100000 in
theorem c_X2_wrongInFace (l : Launch) (D : va_G) (q : Nat → Nat) (cI cJ : ClassId) (n : Nat) (T : Nat → Nat → Int32) (k : Nat) (M : Nat → Nat → Int32) (d : Nat) (C : Nat → Nat → Int32) (J : Nat → Nat → Int32) (g : Nat → Int64) (mm : Nat) (hm : mm < 80) (hR3 : cx_R (M 3) 16) : cx_Mi l D vwCl [(cI, .int), (cJ, .long)] cx_NW yX2_wrongInFace wsX2_wrongInFace ({ frames := 1, cells := 0, slots := 0, locals := 22 } : Room) [.ref (q 6), .int (nI mm)] (cxW q cI cJ n T k M d C J g) (fun (r : Int32) (uw : Unit) => (r = 0 ∨ r = 1) ∧ (¬ r = 0 ↔ cx_wmF M mm)) (fun _ => (cxW q cI cJ n T k M d C J g)) := by
  refine cx_Mi.of (cc := cX2_wrongInFace) (maxL := 4) cx_NW_ok (by decide) rfl (Nat.le_of_ble_eq_true rfl) ?_
  intro p e s m args below meth c Q A ls hx hb hml hown hts hE RET hS hl
  have hl : lv_has ls 4 [(0, .ref (q 6)), (1, .int (nI mm))] := hl
  have hown : s.vm.findClass RX2 = some m.cls := hown
  have hinX2 : ∀ w ∈ u_ws RX2 TX2 2, w ∈ wsX2_wrongInFace := cx_mem [15, 16] (by decide +kernel)
  have hinX3 : ∀ w ∈ u_ws RX3 TX3 8, w ∈ wsX2_wrongInFace := cx_mem [17, 18, 19, 20, 21, 22, 23, 24] (by decide +kernel)
  refine lv_aload_n hx hb dX2_wrongInFace_0 rfl (lv_at hl 0 rfl) ?_
  refine cx_get (own := RX2) (index := 15) (C := RX2) (T := TX2) (N := 2) (k := 1) (ci := 2) (v := .ref (q 2)) hx hb hts hown hE hS hinX2 6 rfl rfl (by decide) (List.mem_of_getElem? (i := 1) rfl) rfl dX2_wrongInFace_1 ?_
  refine cx_getN (own := RX2) (index := 39) (C := RX3) (T := TX3) (N := 8) (k := 5) (ci := 3) (host := "ClassRules") (v := .ref (q 22)) hx hb hts hown hE hS hinX3 2 rfl rfl (by decide) (List.mem_of_getElem? (i := 25) rfl) rfl dX2_wrongInFace_4 ?_
  refine lv_iload_n hx hb dX2_wrongInFace_7 rfl (lv_at hl 1 rfl) ?_
  refine cx_iald (f := (M 4)) (n := 80) (cA := cI) hx hb hE hS 22 0 rfl rfl (by omega) (by decide) dX2_wrongInFace_8 ?_
  refine lv_istore_n (lv' := [(2, .int ((M 4) mm)), (0, .ref (q 6)), (1, .int (nI mm))]) hx hb dX2_wrongInFace_9 rfl hl (by decide) rfl (fun ls hl => ?_)
  refine lv_aload_n hx hb dX2_wrongInFace_10 rfl (lv_at hl 1 rfl) ?_
  refine cx_get (own := RX2) (index := 15) (C := RX2) (T := TX2) (N := 2) (k := 1) (ci := 2) (v := .ref (q 2)) hx hb hts hown hE hS hinX2 6 rfl rfl (by decide) (List.mem_of_getElem? (i := 1) rfl) rfl dX2_wrongInFace_11 ?_
  refine lv_iload_n hx hb dX2_wrongInFace_14 rfl (lv_at hl 2 rfl) ?_
  refine lv_iconst (v := nI 2) hx hb dX2_wrongInFace_15 (by decide) ?_
  refine cx_cVi (As := [.int (nI mm), .int (nI 2)]) (rest := []) ⟨hx, hb, hml, hown, hts⟩ hE hS (c_X3_marked l D q cI cJ n T k M d C J g mm (nI 2) (by first | assumption | omega | rfl)) (cwV 2 hts gX2_wrongInFace_X3_marked rfl rfl rfl (by decide +kernel) ⟨Nat.le_of_ble_eq_true rfl, Nat.le_of_ble_eq_true rfl⟩) 2 3 rfl rfl rfl hl.1 rfl (Nat.le_of_ble_eq_true rfl) ⟨Nat.zero_le _, Nat.zero_le _⟩ dX2_wrongInFace_16 (fun r_16 u_16 H locs hp_16 hS => ?_)
  have hp_16 : (r_16 = 0 ∨ r_16 = 1) ∧ (¬ r_16 = 0 ↔ cx_mk ((M 3)) mm (nI 2)) := hp_16
  have J32 : ∀ (H : Heap) (locs : List Loc) (ls : Array Slot), (cx_wmF M mm) → cx_S D vwCl A s (cxW q cI cJ n T k M d C J g) H locs → lv_has ls 4 [(0, .ref (q 6)), (1, .int (nI mm)), (2, .int ((M 4) mm))] → W p l e ({ frames := 1, cells := 0, slots := 0, locals := 22 } : Room) s m args below meth c H locs 0 0 Q (F0 m 32 ls []) := by
    intro  H locs ls f32 hS hl
    refine lv_iconst (v := (1 : Int32)) hx hb dX2_wrongInFace_32 (by decide) ?_
    exact RET _ () _ _ _ _ dX2_wrongInFace_33 rfl (cx_e1 (by (try clear RET); (try clear hS); (try clear hl); (try clear hE); (try clear hts); (try clear hb); (try clear hx); (try clear hml); (try clear hown); (try clear hinX2); (try clear hinX3); (try clear J32); have y10 : ¬ (1 : Int32) = 0 := (by decide); first | assumption | ((try have y62 := cx_bc13 (hR3 mm) h60); unfold cx_wmF; grind))) hS
  refine lv_if_ne (tgt := 32) hx hb dX2_wrongInFace_19 (by decide) (fun h19 => ?_) (fun h19 => ?_)
  · skip
    have g19 : cx_mk ((M 3)) mm (nI 2) := hp_16.2.mp h19
    exact J32  _ _ _ (by (try clear RET); (try clear hS); (try clear hl); (try clear hE); (try clear hts); (try clear hb); (try clear hx); (try clear hml); (try clear hown); (try clear hinX2); (try clear hinX3); (try clear J32); have y10 : ¬ (1 : Int32) = 0 := (by decide); first | assumption | ((try have y62 := cx_bc13 (hR3 mm) h60); unfold cx_wmF; grind)) hS (lv_sub hl [1, 2, 0] rfl)
  · skip
    have g19 : ¬ (cx_mk ((M 3)) mm (nI 2)) := fun z => hp_16.2.mpr z h19
    refine lv_iload_n hx hb dX2_wrongInFace_22 rfl (lv_at hl 0 rfl) ?_
    refine lv_iconst (v := (1 : Int32)) hx hb dX2_wrongInFace_23 (by decide) ?_
    refine lv_icmp_eq (tgt := 32) hx hb dX2_wrongInFace_24 (by decide) (fun h24 => ?_) (fun h24 => ?_)
    · skip
      exact J32  _ _ _ (by (try clear RET); (try clear hS); (try clear hl); (try clear hE); (try clear hts); (try clear hb); (try clear hx); (try clear hml); (try clear hown); (try clear hinX2); (try clear hinX3); (try clear J32); have y10 : ¬ (1 : Int32) = 0 := (by decide); first | assumption | ((try have y62 := cx_bc13 (hR3 mm) h60); unfold cx_wmF; grind)) hS (lv_sub hl [1, 2, 0] rfl)
    · skip
      refine lv_iload_n hx hb dX2_wrongInFace_27 rfl (lv_at hl 0 rfl) ?_
      refine lv_iconst (v := nI 2) hx hb dX2_wrongInFace_28 (by decide) ?_
      refine lv_icmp_ne (tgt := 34) hx hb dX2_wrongInFace_29 (by decide) (fun h29 => ?_) (fun h29 => ?_)
      · skip
        refine lv_aload_n hx hb dX2_wrongInFace_34 rfl (lv_at hl 1 rfl) ?_
        refine cx_get (own := RX2) (index := 15) (C := RX2) (T := TX2) (N := 2) (k := 1) (ci := 2) (v := .ref (q 2)) hx hb hts hown hE hS hinX2 6 rfl rfl (by decide) (List.mem_of_getElem? (i := 1) rfl) rfl dX2_wrongInFace_35 ?_
        refine cx_getN (own := RX2) (index := 45) (C := RX3) (T := TX3) (N := 8) (k := 4) (ci := 3) (host := "ClassRules") (v := .ref (q 21)) hx hb hts hown hE hS hinX3 2 rfl rfl (by decide) (List.mem_of_getElem? (i := 24) rfl) rfl dX2_wrongInFace_38 ?_
        refine lv_iload_n hx hb dX2_wrongInFace_41 rfl (lv_at hl 2 rfl) ?_
        refine cx_iald (f := (M 3)) (n := 80) (cA := cI) hx hb hE hS 21 0 rfl rfl (by omega) (by decide) dX2_wrongInFace_42 ?_
        refine lv_bipush (v := nI 13) hx hb dX2_wrongInFace_43 (by decide) ?_
        refine lv_iand hx hb dX2_wrongInFace_45 ?_
        refine cx_cSi (As := [.int (((M 3) mm) &&& (nI 13))]) (rest := []) ⟨hx, hb, hml, hown, hts⟩ hE hS (c_J6_bitCount_0f7a4 l D [(cI, .int), (cJ, .long)] (cxW q cI cJ n T k M d C J g) (((M 3) mm) &&& (nI 13)) ) (va_cwS 1 hts gX2_wrongInFace_J6_bitCount_0f7a4 rfl rfl rfl (by decide +kernel) ⟨Nat.le_of_ble_eq_true rfl, Nat.le_of_ble_eq_true rfl⟩) rfl hl.1 rfl (Nat.le_of_ble_eq_true rfl) ⟨Nat.zero_le _, Nat.zero_le _⟩ dX2_wrongInFace_46 (fun r_46 u_46 H locs hp_46 hS => ?_)
        have hp_46 : r_46 = cx_bcI (((M 3) mm) &&& (nI 13)) := hp_46
        subst hp_46
        refine lv_istore_n (lv' := [(3, .int (cx_bcI (((M 3) mm) &&& (nI 13)))), (2, .int ((M 4) mm)), (0, .ref (q 6)), (1, .int (nI mm))]) hx hb dX2_wrongInFace_49 rfl hl (by decide) rfl (fun ls hl => ?_)
        refine lv_iload_n hx hb dX2_wrongInFace_50 rfl (lv_at hl 0 rfl) ?_
        refine lv_iload_n hx hb dX2_wrongInFace_51 rfl (lv_at hl 1 rfl) ?_
        have J60 : ∀ (v60_s0 : Int32) (H : Heap) (locs : List Loc) (ls : Array Slot), ((M 4 mm = 0 ∧ v60_s0 = 1) ∨ (¬ M 4 mm = 0 ∧ v60_s0 = 0)) → cx_S D vwCl A s (cxW q cI cJ n T k M d C J g) H locs → lv_has ls 4 [(0, .ref (q 6)), (1, .int (nI mm)), (2, .int ((M 4) mm)), (3, .int (cx_bcI (((M 3) mm) &&& (nI 13))))] → W p l e ({ frames := 1, cells := 0, slots := 0, locals := 22 } : Room) s m args below meth c H locs 0 0 Q (F0 m 60 ls [.int v60_s0, .int (cx_bcI (((M 3) mm) &&& (nI 13)))]) := by
          intro v60_s0 H locs ls h60 hS hl
          refine lv_iadd hx hb dX2_wrongInFace_60 ?_
          refine lv_iconst (v := (1 : Int32)) hx hb dX2_wrongInFace_61 (by decide) ?_
          have J70 : ∀ (v70_s0 : Int32) (H : Heap) (locs : List Loc) (ls : Array Slot), ((v70_s0 = 0 ∨ v70_s0 = 1) ∧ (¬ v70_s0 = 0 ↔ cx_wmF M mm)) → cx_S D vwCl A s (cxW q cI cJ n T k M d C J g) H locs → lv_has ls 4 [(0, .ref (q 6)), (1, .int (nI mm)), (2, .int ((M 4) mm)), (3, .int (cx_bcI (((M 3) mm) &&& (nI 13))))] → W p l e ({ frames := 1, cells := 0, slots := 0, locals := 22 } : Room) s m args below meth c H locs 0 0 Q (F0 m 70 ls [.int v70_s0]) := by
            intro v70_s0 H locs ls b70 hS hl
            exact RET _ () _ _ _ _ dX2_wrongInFace_70 (cx_nb b70.1) (by first | exact b70 | (try clear RET); (try clear hS); (try clear hl); (try clear hE); (try clear hts); (try clear hb); (try clear hx); (try clear hml); (try clear hown); (try clear hinX2); (try clear hinX3); (try clear J32); (try clear J60); (try clear J70); have y10 : ¬ (1 : Int32) = 0 := (by decide); first | assumption | ((try have y62 := cx_bc13 (hR3 mm) h60); unfold cx_wmF; grind)) hS
          refine lv_icmp_eq (tgt := 69) hx hb dX2_wrongInFace_62 (by decide) (fun h62 => ?_) (fun h62 => ?_)
          · skip
            refine lv_iconst (v := (0 : Int32)) hx hb dX2_wrongInFace_69 (by decide) ?_
            exact J70 (0 : Int32) _ _ _ (cx_e0 (by (try clear RET); (try clear hS); (try clear hl); (try clear hE); (try clear hts); (try clear hb); (try clear hx); (try clear hml); (try clear hown); (try clear hinX2); (try clear hinX3); (try clear J32); (try clear J60); (try clear J70); have y10 : ¬ (1 : Int32) = 0 := (by decide); first | assumption | ((try have y62 := cx_bc13 (hR3 mm) h60); unfold cx_wmF; grind))) hS (lv_sub hl [0, 1, 2, 3] rfl)
          · skip
            refine lv_iconst (v := (1 : Int32)) hx hb dX2_wrongInFace_65 (by decide) ?_
            refine lv_goto (tgt := 70) hx hb dX2_wrongInFace_66 (by decide) ?_
            exact J70 (1 : Int32) _ _ _ (cx_e1 (by (try clear RET); (try clear hS); (try clear hl); (try clear hE); (try clear hts); (try clear hb); (try clear hx); (try clear hml); (try clear hown); (try clear hinX2); (try clear hinX3); (try clear J32); (try clear J60); (try clear J70); have y10 : ¬ (1 : Int32) = 0 := (by decide); first | assumption | ((try have y62 := cx_bc13 (hR3 mm) h60); unfold cx_wmF; grind))) hS (lv_sub hl [0, 1, 2, 3] rfl)
        refine lv_if_ne (tgt := 59) hx hb dX2_wrongInFace_52 (by decide) (fun h52 => ?_) (fun h52 => ?_)
        · skip
          refine lv_iconst (v := (0 : Int32)) hx hb dX2_wrongInFace_59 (by decide) ?_
          exact J60 (0 : Int32) _ _ _ (by first | exact Or.inl ⟨h52, rfl⟩ | exact Or.inr ⟨h52, rfl⟩) hS (lv_sub hl [2, 3, 1, 0] rfl)
        · skip
          refine lv_iconst (v := (1 : Int32)) hx hb dX2_wrongInFace_55 (by decide) ?_
          refine lv_goto (tgt := 60) hx hb dX2_wrongInFace_56 (by decide) ?_
          exact J60 (1 : Int32) _ _ _ (by first | exact Or.inl ⟨h52, rfl⟩ | exact Or.inr ⟨h52, rfl⟩) hS (lv_sub hl [2, 3, 1, 0] rfl)
      · skip
        exact J32  _ _ _ (by (try clear RET); (try clear hS); (try clear hl); (try clear hE); (try clear hts); (try clear hb); (try clear hx); (try clear hml); (try clear hown); (try clear hinX2); (try clear hinX3); (try clear J32); have y10 : ¬ (1 : Int32) = 0 := (by decide); first | assumption | ((try have y62 := cx_bc13 (hR3 mm) h60); unfold cx_wmF; grind)) hS (lv_sub hl [1, 2, 0] rfl)
set_option maxHeartbeats 4000000 in
set_option maxRecDepth 100000 in
theorem c_X2_wrongElsewhere (l : Launch) (D : va_G) (q : Nat → Nat) (cI cJ : ClassId) (n : Nat) (T : Nat → Nat → Int32) (k : Nat) (M : Nat → Nat → Int32) (d : Nat) (C : Nat → Nat → Int32) (J : Nat → Nat → Int32) (g : Nat → Int64) (mm : Nat) (hm : mm < 80) (hO : cx_R (M 0) 20) (hR3 : cx_R (M 3) 16) : cx_Mi l D vwCl [(cI, .int), (cJ, .long)] cx_NW yX2_wrongElsewhere wsX2_wrongElsewhere ({ frames := 1, cells := 0, slots := 0, locals := 22 } : Room) [.ref (q 6), .int (nI mm)] (cxW q cI cJ n T k M d C J g) (fun (r : Int32) (uw : Unit) => (r = 0 ∨ r = 1) ∧ (¬ r = 0 ↔ cx_wmC (T 0) (T 1) M mm)) (fun _ => (cxW q cI cJ n T k M d C J g)) := by
  refine cx_Mi.of (cc := cX2_wrongElsewhere) (maxL := 3) cx_NW_ok (by decide) rfl (Nat.le_of_ble_eq_true rfl) ?_
  intro p e s m args below meth c Q A ls hx hb hml hown hts hE RET hS hl
  have hl : lv_has ls 3 [(0, .ref (q 6)), (1, .int (nI mm))] := hl
  have hown : s.vm.findClass RX2 = some m.cls := hown
  have hinX2 : ∀ w ∈ u_ws RX2 TX2 2, w ∈ wsX2_wrongElsewhere := cx_mem [15, 16] (by decide +kernel)
  have hinX3 : ∀ w ∈ u_ws RX3 TX3 8, w ∈ wsX2_wrongElsewhere := cx_mem [17, 18, 19, 20, 21, 22, 23, 24] (by decide +kernel)
  have hinX5 : ∀ w ∈ u_ws RX5 TX5 12, w ∈ wsX2_wrongElsewhere := cx_mem [25, 26, 27, 28, 29, 30, 31, 32, 33, 34, 35, 36] (by decide +kernel)
  refine lv_aload_n hx hb dX2_wrongElsewhere_0 rfl (lv_at hl 0 rfl) ?_
  refine cx_get (own := RX2) (index := 15) (C := RX2) (T := TX2) (N := 2) (k := 1) (ci := 2) (v := .ref (q 2)) hx hb hts hown hE hS hinX2 6 rfl rfl (by decide) (List.mem_of_getElem? (i := 1) rfl) rfl dX2_wrongElsewhere_1 ?_
  refine lv_iload_n hx hb dX2_wrongElsewhere_4 rfl (lv_at hl 1 rfl) ?_
  refine lv_iconst (v := (1 : Int32)) hx hb dX2_wrongElsewhere_5 (by decide) ?_
  refine cx_cVi (As := [.int (nI mm), .int (1 : Int32)]) (rest := []) ⟨hx, hb, hml, hown, hts⟩ hE hS (c_X3_marked l D q cI cJ n T k M d C J g mm (1 : Int32) (by first | assumption | omega | rfl)) (cwV 2 hts gX2_wrongElsewhere_X3_marked rfl rfl rfl (by decide +kernel) ⟨Nat.le_of_ble_eq_true rfl, Nat.le_of_ble_eq_true rfl⟩) 2 3 rfl rfl rfl hl.1 rfl (Nat.le_of_ble_eq_true rfl) ⟨Nat.zero_le _, Nat.zero_le _⟩ dX2_wrongElsewhere_6 (fun r_6 u_6 H locs hp_6 hS => ?_)
  have hp_6 : (r_6 = 0 ∨ r_6 = 1) ∧ (¬ r_6 = 0 ↔ cx_mk ((M 3)) mm (1 : Int32)) := hp_6
  refine lv_if_ne (tgt := 23) hx hb dX2_wrongElsewhere_9 (by decide) (fun h9 => ?_) (fun h9 => ?_)
  · skip
    have g9 : cx_mk ((M 3)) mm (1 : Int32) := hp_6.2.mp h9
    refine lv_aload_n hx hb dX2_wrongElsewhere_23 rfl (lv_at hl 0 rfl) ?_
    refine cx_get (own := RX2) (index := 15) (C := RX2) (T := TX2) (N := 2) (k := 1) (ci := 2) (v := .ref (q 2)) hx hb hts hown hE hS hinX2 6 rfl rfl (by decide) (List.mem_of_getElem? (i := 1) rfl) rfl dX2_wrongElsewhere_24 ?_
    refine cx_getN (own := RX2) (index := 19) (C := RX3) (T := TX3) (N := 8) (k := 1) (ci := 3) (host := "ClassRules") (v := .ref (q 18)) hx hb hts hown hE hS hinX3 2 rfl rfl (by decide) (List.mem_of_getElem? (i := 19) rfl) rfl dX2_wrongElsewhere_27 ?_
    refine lv_iload_n hx hb dX2_wrongElsewhere_30 rfl (lv_at hl 1 rfl) ?_
    refine cx_iald (f := (M 0)) (n := 80) (cA := cI) hx hb hE hS 18 0 rfl rfl (by omega) (by decide) dX2_wrongElsewhere_31 ?_
    have ho31 := (hO mm).2
    refine cx_topr (z := nI (((M 0) mm).toNatClampNeg)) (hO mm).1 ?_
    refine lv_istore_n (lv' := [(2, .int (nI (((M 0) mm).toNatClampNeg))), (0, .ref (q 6)), (1, .int (nI mm))]) hx hb dX2_wrongElsewhere_32 rfl hl (by decide) rfl (fun ls hl => ?_)
    refine lv_aload_n hx hb dX2_wrongElsewhere_33 rfl (lv_at hl 1 rfl) ?_
    refine cx_get (own := RX2) (index := 15) (C := RX2) (T := TX2) (N := 2) (k := 1) (ci := 2) (v := .ref (q 2)) hx hb hts hown hE hS hinX2 6 rfl rfl (by decide) (List.mem_of_getElem? (i := 1) rfl) rfl dX2_wrongElsewhere_34 ?_
    refine lv_iload_n hx hb dX2_wrongElsewhere_37 rfl (lv_at hl 2 rfl) ?_
    refine lv_bipush (v := nI 14) hx hb dX2_wrongElsewhere_38 (by decide) ?_
    refine cx_cVi (As := [.int (nI mm), .int (nI 14)]) (rest := []) ⟨hx, hb, hml, hown, hts⟩ hE hS (c_X3_marked l D q cI cJ n T k M d C J g mm (nI 14) (by first | assumption | omega | rfl)) (cwV 2 hts gX2_wrongElsewhere_X3_marked rfl rfl rfl (by decide +kernel) ⟨Nat.le_of_ble_eq_true rfl, Nat.le_of_ble_eq_true rfl⟩) 2 3 rfl rfl rfl hl.1 rfl (Nat.le_of_ble_eq_true rfl) ⟨Nat.zero_le _, Nat.zero_le _⟩ dX2_wrongElsewhere_40 (fun r_40 u_40 H locs hp_40 hS => ?_)
    have hp_40 : (r_40 = 0 ∨ r_40 = 1) ∧ (¬ r_40 = 0 ↔ cx_mk ((M 3)) mm (nI 14)) := hp_40
    have J87 : ∀ (v87_s0 : Int32) (H : Heap) (locs : List Loc) (ls : Array Slot), ((v87_s0 = 0 ∨ v87_s0 = 1) ∧ (¬ v87_s0 = 0 ↔ cx_wmC (T 0) (T 1) M mm)) → cx_S D vwCl A s (cxW q cI cJ n T k M d C J g) H locs → lv_has ls 3 [(0, .ref (q 6)), (1, .int (nI mm)), (2, .int (nI (((M 0) mm).toNatClampNeg)))] → W p l e ({ frames := 1, cells := 0, slots := 0, locals := 22 } : Room) s m args below meth c H locs 0 0 Q (F0 m 87 ls [.int v87_s0]) := by
      intro v87_s0 H locs ls b87 hS hl
      exact RET _ () _ _ _ _ dX2_wrongElsewhere_87 (cx_nb b87.1) (by first | exact b87 | (try clear RET); (try clear hS); (try clear hl); (try clear hE); (try clear hts); (try clear hb); (try clear hx); (try clear hml); (try clear hown); (try clear hinX2); (try clear hinX3); (try clear hinX5); (try clear J87); have y10 : ¬ (1 : Int32) = 0 := (by decide); first | assumption | (have y14 := cx_m14 (hR3 mm); unfold cx_wmC; grind)) hS
    have J82 : ∀ (H : Heap) (locs : List Loc) (ls : Array Slot), (cx_wmC (T 0) (T 1) M mm) → cx_S D vwCl A s (cxW q cI cJ n T k M d C J g) H locs → lv_has ls 3 [(0, .ref (q 6)), (1, .int (nI mm)), (2, .int (nI (((M 0) mm).toNatClampNeg)))] → W p l e ({ frames := 1, cells := 0, slots := 0, locals := 22 } : Room) s m args below meth c H locs 0 0 Q (F0 m 82 ls []) := by
      intro  H locs ls f82 hS hl
      refine lv_iconst (v := (1 : Int32)) hx hb dX2_wrongElsewhere_82 (by decide) ?_
      refine lv_goto (tgt := 87) hx hb dX2_wrongElsewhere_83 (by decide) ?_
      exact J87 (1 : Int32) _ _ _ (cx_e1 (by (try clear RET); (try clear hS); (try clear hl); (try clear hE); (try clear hts); (try clear hb); (try clear hx); (try clear hml); (try clear hown); (try clear hinX2); (try clear hinX3); (try clear hinX5); (try clear J87); (try clear J82); have y10 : ¬ (1 : Int32) = 0 := (by decide); first | assumption | (have y14 := cx_m14 (hR3 mm); unfold cx_wmC; grind))) hS (lv_sub hl [0, 1, 2] rfl)
    refine lv_if_ne (tgt := 82) hx hb dX2_wrongElsewhere_43 (by decide) (fun h43 => ?_) (fun h43 => ?_)
    · skip
      have g43 : cx_mk ((M 3)) mm (nI 14) := hp_40.2.mp h43
      exact J82  _ _ _ (by (try clear RET); (try clear hS); (try clear hl); (try clear hE); (try clear hts); (try clear hb); (try clear hx); (try clear hml); (try clear hown); (try clear hinX2); (try clear hinX3); (try clear hinX5); (try clear J87); (try clear J82); have y10 : ¬ (1 : Int32) = 0 := (by decide); first | assumption | (have y14 := cx_m14 (hR3 mm); unfold cx_wmC; grind)) hS (lv_sub hl [1, 2, 0] rfl)
    · skip
      have g43 : ¬ (cx_mk ((M 3)) mm (nI 14)) := fun z => hp_40.2.mpr z h43
      refine lv_aload_n hx hb dX2_wrongElsewhere_46 rfl (lv_at hl 1 rfl) ?_
      refine cx_get (own := RX2) (index := 15) (C := RX2) (T := TX2) (N := 2) (k := 1) (ci := 2) (v := .ref (q 2)) hx hb hts hown hE hS hinX2 6 rfl rfl (by decide) (List.mem_of_getElem? (i := 1) rfl) rfl dX2_wrongElsewhere_47 ?_
      refine cx_getN (own := RX2) (index := 39) (C := RX3) (T := TX3) (N := 8) (k := 5) (ci := 3) (host := "ClassRules") (v := .ref (q 22)) hx hb hts hown hE hS hinX3 2 rfl rfl (by decide) (List.mem_of_getElem? (i := 25) rfl) rfl dX2_wrongElsewhere_50 ?_
      refine lv_iload_n hx hb dX2_wrongElsewhere_53 rfl (lv_at hl 2 rfl) ?_
      refine cx_iald (f := (M 4)) (n := 80) (cA := cI) hx hb hE hS 22 0 rfl rfl (by omega) (by decide) dX2_wrongElsewhere_54 ?_
      refine lv_if_eq (tgt := 82) hx hb dX2_wrongElsewhere_55 (by decide) (fun h55 => ?_) (fun h55 => ?_)
      · skip
        exact J82  _ _ _ (by (try clear RET); (try clear hS); (try clear hl); (try clear hE); (try clear hts); (try clear hb); (try clear hx); (try clear hml); (try clear hown); (try clear hinX2); (try clear hinX3); (try clear hinX5); (try clear J87); (try clear J82); have y10 : ¬ (1 : Int32) = 0 := (by decide); first | assumption | (have y14 := cx_m14 (hR3 mm); unfold cx_wmC; grind)) hS (lv_sub hl [1, 2, 0] rfl)
      · skip
        refine lv_aload_n hx hb dX2_wrongElsewhere_58 rfl (lv_at hl 1 rfl) ?_
        refine cx_get (own := RX2) (index := 9) (C := RX2) (T := TX2) (N := 2) (k := 0) (ci := 2) (v := .ref (q 1)) hx hb hts hown hE hS hinX2 6 rfl rfl (by decide) (List.mem_of_getElem? (i := 2) rfl) rfl dX2_wrongElsewhere_59 ?_
        refine cx_getN (own := RX2) (index := 54) (C := RX5) (T := TX5) (N := 12) (k := 0) (ci := 5) (host := "ClassRules") (v := .ref (q 7)) hx hb hts hown hE hS hinX5 1 rfl rfl (by decide) (List.mem_of_getElem? (i := 2) rfl) rfl dX2_wrongElsewhere_62 ?_
        refine lv_iload_n hx hb dX2_wrongElsewhere_65 rfl (lv_at hl 0 rfl) ?_
        refine cx_iald (f := (T 0)) (n := 20) (cA := cI) hx hb hE hS 7 0 rfl rfl (by omega) (by decide) dX2_wrongElsewhere_66 ?_
        refine lv_if_ne (tgt := 82) hx hb dX2_wrongElsewhere_67 (by decide) (fun h67 => ?_) (fun h67 => ?_)
        · skip
          exact J82  _ _ _ (by (try clear RET); (try clear hS); (try clear hl); (try clear hE); (try clear hts); (try clear hb); (try clear hx); (try clear hml); (try clear hown); (try clear hinX2); (try clear hinX3); (try clear hinX5); (try clear J87); (try clear J82); have y10 : ¬ (1 : Int32) = 0 := (by decide); first | assumption | (have y14 := cx_m14 (hR3 mm); unfold cx_wmC; grind)) hS (lv_sub hl [1, 2, 0] rfl)
        · skip
          refine lv_aload_n hx hb dX2_wrongElsewhere_70 rfl (lv_at hl 1 rfl) ?_
          refine cx_get (own := RX2) (index := 9) (C := RX2) (T := TX2) (N := 2) (k := 0) (ci := 2) (v := .ref (q 1)) hx hb hts hown hE hS hinX2 6 rfl rfl (by decide) (List.mem_of_getElem? (i := 2) rfl) rfl dX2_wrongElsewhere_71 ?_
          refine lv_iload_n hx hb dX2_wrongElsewhere_74 rfl (lv_at hl 0 rfl) ?_
          refine lv_iconst (v := (1 : Int32)) hx hb dX2_wrongElsewhere_75 (by decide) ?_
          refine cx_cVi (As := [.int (nI (((M 0) mm).toNatClampNeg)), .int (1 : Int32)]) (rest := []) ⟨hx, hb, hml, hown, hts⟩ hE hS (c_X5_marked l D q cI cJ n T k M d C J g (((M 0) mm).toNatClampNeg) (1 : Int32) (by first | assumption | omega | rfl)) (cwV 2 hts gX2_wrongElsewhere_X5_marked rfl rfl rfl (by decide +kernel) ⟨Nat.le_of_ble_eq_true rfl, Nat.le_of_ble_eq_true rfl⟩) 1 5 rfl rfl rfl hl.1 rfl (Nat.le_of_ble_eq_true rfl) ⟨Nat.zero_le _, Nat.zero_le _⟩ dX2_wrongElsewhere_76 (fun r_76 u_76 H locs hp_76 hS => ?_)
          have hp_76 : (r_76 = 0 ∨ r_76 = 1) ∧ (¬ r_76 = 0 ↔ cx_mk ((T 1)) (((M 0) mm).toNatClampNeg) (1 : Int32)) := hp_76
          refine lv_if_ne (tgt := 86) hx hb dX2_wrongElsewhere_79 (by decide) (fun h79 => ?_) (fun h79 => ?_)
          · skip
            have g79 : cx_mk ((T 1)) (((M 0) mm).toNatClampNeg) (1 : Int32) := hp_76.2.mp h79
            refine lv_iconst (v := (0 : Int32)) hx hb dX2_wrongElsewhere_86 (by decide) ?_
            exact J87 (0 : Int32) _ _ _ (cx_e0 (by (try clear RET); (try clear hS); (try clear hl); (try clear hE); (try clear hts); (try clear hb); (try clear hx); (try clear hml); (try clear hown); (try clear hinX2); (try clear hinX3); (try clear hinX5); (try clear J87); (try clear J82); have y10 : ¬ (1 : Int32) = 0 := (by decide); first | assumption | (have y14 := cx_m14 (hR3 mm); unfold cx_wmC; grind))) hS (lv_sub hl [1, 2, 0] rfl)
          · skip
            have g79 : ¬ (cx_mk ((T 1)) (((M 0) mm).toNatClampNeg) (1 : Int32)) := fun z => hp_76.2.mpr z h79
            exact J82  _ _ _ (by (try clear RET); (try clear hS); (try clear hl); (try clear hE); (try clear hts); (try clear hb); (try clear hx); (try clear hml); (try clear hown); (try clear hinX2); (try clear hinX3); (try clear hinX5); (try clear J87); (try clear J82); have y10 : ¬ (1 : Int32) = 0 := (by decide); first | assumption | (have y14 := cx_m14 (hR3 mm); unfold cx_wmC; grind)) hS (lv_sub hl [1, 2, 0] rfl)
  · skip
    have g9 : ¬ (cx_mk ((M 3)) mm (1 : Int32)) := fun z => hp_6.2.mpr z h9
    refine lv_aload_n hx hb dX2_wrongElsewhere_12 rfl (lv_at hl 0 rfl) ?_
    refine cx_get (own := RX2) (index := 15) (C := RX2) (T := TX2) (N := 2) (k := 1) (ci := 2) (v := .ref (q 2)) hx hb hts hown hE hS hinX2 6 rfl rfl (by decide) (List.mem_of_getElem? (i := 1) rfl) rfl dX2_wrongElsewhere_13 ?_
    refine lv_iload_n hx hb dX2_wrongElsewhere_16 rfl (lv_at hl 1 rfl) ?_
    refine lv_bipush (v := nI 8) hx hb dX2_wrongElsewhere_17 (by decide) ?_
    refine cx_cVi (As := [.int (nI mm), .int (nI 8)]) (rest := []) ⟨hx, hb, hml, hown, hts⟩ hE hS (c_X3_marked l D q cI cJ n T k M d C J g mm (nI 8) (by first | assumption | omega | rfl)) (cwV 2 hts gX2_wrongElsewhere_X3_marked rfl rfl rfl (by decide +kernel) ⟨Nat.le_of_ble_eq_true rfl, Nat.le_of_ble_eq_true rfl⟩) 2 3 rfl rfl rfl hl.1 rfl (Nat.le_of_ble_eq_true rfl) ⟨Nat.zero_le _, Nat.zero_le _⟩ dX2_wrongElsewhere_19 (fun r_19 u_19 H locs hp_19 hS => ?_)
    have hp_19 : (r_19 = 0 ∨ r_19 = 1) ∧ (¬ r_19 = 0 ↔ cx_mk ((M 3)) mm (nI 8)) := hp_19
    exact RET _ () _ _ _ _ dX2_wrongElsewhere_22 (cx_nb hp_19.1) (by first | exact hp_19 | (try clear RET); (try clear hS); (try clear hl); (try clear hE); (try clear hts); (try clear hb); (try clear hx); (try clear hml); (try clear hown); (try clear hinX2); (try clear hinX3); (try clear hinX5); have y10 : ¬ (1 : Int32) = 0 := (by decide); first | assumption | (have y14 := cx_m14 (hR3 mm); unfold cx_wmC; grind)) hS
set_option maxHeartbeats 4000000 in
set_option maxRecDepth 100000 in
theorem c_X2_wrongMarks (l : Launch) (D : va_G) (q : Nat → Nat) (cI cJ : ClassId) (n : Nat) (T : Nat → Nat → Int32) (k : Nat) (M : Nat → Nat → Int32) (d : Nat) (C : Nat → Nat → Int32) (J : Nat → Nat → Int32) (g : Nat → Int64) (mm : Nat) (hm : mm < 80) (hO : cx_R (M 0) 20) (hR3 : cx_R (M 3) 16) : cx_Mi l D vwCl [(cI, .int), (cJ, .long)] cx_NW yX2_wrongMarks wsX2_wrongMarks ({ frames := 2, cells := 0, slots := 0, locals := 45 } : Room) [.ref (q 6), .int (nI mm)] (cxW q cI cJ n T k M d C J g) (fun (r : Int32) (uw : Unit) => (r = 0 ∨ r = 1) ∧ (¬ r = 0 ↔ cx_wm (T 0) (T 1) M mm)) (fun _ => (cxW q cI cJ n T k M d C J g)) := by
  refine cx_Mi.of (cc := cX2_wrongMarks) (maxL := 2) cx_NW_ok (by decide) rfl (Nat.le_of_ble_eq_true rfl) ?_
  intro p e s m args below meth c Q A ls hx hb hml hown hts hE RET hS hl
  have hl : lv_has ls 2 [(0, .ref (q 6)), (1, .int (nI mm))] := hl
  have hown : s.vm.findClass RX2 = some m.cls := hown
  have hinX2 : ∀ w ∈ u_ws RX2 TX2 2, w ∈ wsX2_wrongMarks := cx_mem [37, 38] (by decide +kernel)
  refine lv_aload_n hx hb dX2_wrongMarks_0 rfl (lv_at hl 0 rfl) ?_
  refine cx_get (own := RX2) (index := 15) (C := RX2) (T := TX2) (N := 2) (k := 1) (ci := 2) (v := .ref (q 2)) hx hb hts hown hE hS hinX2 6 rfl rfl (by decide) (List.mem_of_getElem? (i := 1) rfl) rfl dX2_wrongMarks_1 ?_
  refine lv_iload_n hx hb dX2_wrongMarks_4 rfl (lv_at hl 1 rfl) ?_
  refine cx_cVi (As := [.int (nI mm)]) (rest := []) ⟨hx, hb, hml, hown, hts⟩ hE hS (c_X3_ofFace l D q cI cJ n T k M d C J g mm (by first | assumption | omega | rfl) (by first | assumption | omega | rfl)) (cwV 1 hts gX2_wrongMarks_X3_ofFace rfl rfl rfl (by decide +kernel) ⟨Nat.le_of_ble_eq_true rfl, Nat.le_of_ble_eq_true rfl⟩) 2 3 rfl rfl rfl hl.1 rfl (Nat.le_of_ble_eq_true rfl) ⟨Nat.zero_le _, Nat.zero_le _⟩ dX2_wrongMarks_5 (fun r_5 u_5 H locs hp_5 hS => ?_)
  have hp_5 : (r_5 = 0 ∨ r_5 = 1) ∧ (¬ r_5 = 0 ↔ cx_fc ((T 0)) M mm) := hp_5
  have J24 : ∀ (v24_s0 : Int32) (H : Heap) (locs : List Loc) (ls : Array Slot), ((v24_s0 = 0 ∨ v24_s0 = 1) ∧ (¬ v24_s0 = 0 ↔ cx_wm (T 0) (T 1) M mm)) → cx_S D vwCl A s (cxW q cI cJ n T k M d C J g) H locs → lv_has ls 2 [(0, .ref (q 6)), (1, .int (nI mm))] → W p l e ({ frames := 2, cells := 0, slots := 0, locals := 45 } : Room) s m args below meth c H locs 0 0 Q (F0 m 24 ls [.int v24_s0]) := by
    intro v24_s0 H locs ls b24 hS hl
    exact RET _ () _ _ _ _ dX2_wrongMarks_24 (cx_nb b24.1) (by first | exact b24 | (try clear RET); (try clear hS); (try clear hl); (try clear hE); (try clear hts); (try clear hb); (try clear hx); (try clear hml); (try clear hown); (try clear hinX2); (try clear J24); have y10 : ¬ (1 : Int32) = 0 := (by decide); first | assumption | (unfold cx_wm; grind)) hS
  refine lv_if_eq (tgt := 19) hx hb dX2_wrongMarks_8 (by decide) (fun h8 => ?_) (fun h8 => ?_)
  · skip
    have g8 : ¬ (cx_fc ((T 0)) M mm) := fun z => hp_5.2.mpr z h8
    refine lv_aload_n hx hb dX2_wrongMarks_19 rfl (lv_at hl 0 rfl) ?_
    refine lv_iload_n hx hb dX2_wrongMarks_20 rfl (lv_at hl 1 rfl) ?_
    refine cx_cVi (As := [.int (nI mm)]) (rest := []) ⟨hx, hb, hml, hown, hts⟩ hE hS (c_X2_wrongElsewhere l D q cI cJ n T k M d C J g mm (by first | assumption | omega | rfl) (by first | assumption | omega | rfl) (by first | assumption | omega | rfl)) (cwV 1 hts gX2_wrongMarks_X2_wrongElsewhere rfl rfl rfl (by decide +kernel) ⟨Nat.le_of_ble_eq_true rfl, Nat.le_of_ble_eq_true rfl⟩) 6 2 rfl rfl rfl hl.1 rfl (Nat.le_of_ble_eq_true rfl) ⟨Nat.zero_le _, Nat.zero_le _⟩ dX2_wrongMarks_21 (fun r_21 u_21 H locs hp_21 hS => ?_)
    have hp_21 : (r_21 = 0 ∨ r_21 = 1) ∧ (¬ r_21 = 0 ↔ cx_wmC ((T 0)) ((T 1)) M mm) := hp_21
    exact J24 r_21 _ _ _ (by first | exact hp_21 | (try clear RET); (try clear hS); (try clear hl); (try clear hE); (try clear hts); (try clear hb); (try clear hx); (try clear hml); (try clear hown); (try clear hinX2); (try clear J24); have y10 : ¬ (1 : Int32) = 0 := (by decide); first | assumption | (unfold cx_wm; grind)) hS (lv_sub hl [0, 1] rfl)
  · skip
    have g8 : cx_fc ((T 0)) M mm := hp_5.2.mp h8
    refine lv_aload_n hx hb dX2_wrongMarks_11 rfl (lv_at hl 0 rfl) ?_
    refine lv_iload_n hx hb dX2_wrongMarks_12 rfl (lv_at hl 1 rfl) ?_
    refine cx_cVi (As := [.int (nI mm)]) (rest := []) ⟨hx, hb, hml, hown, hts⟩ hE hS (c_X2_wrongInFace l D q cI cJ n T k M d C J g mm (by first | assumption | omega | rfl) (by first | assumption | omega | rfl)) (cwV 1 hts gX2_wrongMarks_X2_wrongInFace rfl rfl rfl (by decide +kernel) ⟨Nat.le_of_ble_eq_true rfl, Nat.le_of_ble_eq_true rfl⟩) 6 2 rfl rfl rfl hl.1 rfl (Nat.le_of_ble_eq_true rfl) ⟨Nat.zero_le _, Nat.zero_le _⟩ dX2_wrongMarks_13 (fun r_13 u_13 H locs hp_13 hS => ?_)
    have hp_13 : (r_13 = 0 ∨ r_13 = 1) ∧ (¬ r_13 = 0 ↔ cx_wmF M mm) := hp_13
    refine lv_goto (tgt := 24) hx hb dX2_wrongMarks_16 (by decide) ?_
    exact J24 r_13 _ _ _ (by first | exact hp_13 | (try clear RET); (try clear hS); (try clear hl); (try clear hE); (try clear hts); (try clear hb); (try clear hx); (try clear hml); (try clear hown); (try clear hinX2); (try clear J24); have y10 : ¬ (1 : Int32) = 0 := (by decide); first | assumption | (unfold cx_wm; grind)) hS (lv_sub hl [0, 1] rfl)
set_option maxHeartbeats 4000000 in
set_option maxRecDepth 100000 in
theorem c_X2_resultFits (l : Launch) (D : va_G) (q : Nat → Nat) (cI cJ : ClassId) (n : Nat) (T : Nat → Nat → Int32) (k : Nat) (M : Nat → Nat → Int32) (d : Nat) (C : Nat → Nat → Int32) (J : Nat → Nat → Int32) (g : Nat → Int64) (rs : Int32) (ih : Int32) (hn : n ≤ 20) : cx_Mi l D vwCl [(cI, .int), (cJ, .long)] cx_NW yX2_resultFits wsX2_resultFits ({ frames := 1, cells := 0, slots := 0, locals := 22 } : Room) [.ref (q 6), .int rs, .int ih] (cxW q cI cJ n T k M d C J g) (fun (r : Int32) (uw : Unit) => (r = 0 ∨ r = 1) ∧ (¬ r = 0 ↔ cx_ft n (cx_Ac T n) rs ih)) (fun _ => (cxW q cI cJ n T k M d C J g)) := by
  refine cx_Mi.of (cc := cX2_resultFits) (maxL := 5) cx_NW_ok (by decide) rfl (Nat.le_of_ble_eq_true rfl) ?_
  intro p e s m args below meth c Q A ls hx hb hml hown hts hE RET hS hl
  have hl : lv_has ls 5 [(0, .ref (q 6)), (1, .int rs), (2, .int ih)] := hl
  have hown : s.vm.findClass RX2 = some m.cls := hown
  have hinX2 : ∀ w ∈ u_ws RX2 TX2 2, w ∈ wsX2_resultFits := cx_mem [13, 14] (by decide +kernel)
  refine lv_iload_n hx hb dX2_resultFits_0 rfl (lv_at hl 1 rfl) ?_
  refine lv_iload_n hx hb dX2_resultFits_1 rfl (lv_at hl 2 rfl) ?_
  refine lv_icmp_ne (tgt := 7) hx hb dX2_resultFits_2 (by decide) (fun h2 => ?_) (fun h2 => ?_)
  · skip
    refine lv_iload_n hx hb dX2_resultFits_7 rfl (lv_at hl 1 rfl) ?_
    refine lv_bipush (v := nI 10) hx hb dX2_resultFits_8 (by decide) ?_
    refine lv_isub hx hb dX2_resultFits_10 ?_
    refine lv_istore_n (lv' := [(3, .int (rs - (nI 10))), (0, .ref (q 6)), (1, .int rs), (2, .int ih)]) hx hb dX2_resultFits_11 rfl hl (by decide) rfl (fun ls hl => ?_)
    refine lv_iload_n hx hb dX2_resultFits_12 rfl (lv_at hl 3 rfl) ?_
    refine lv_bipush (v := nI 10) hx hb dX2_resultFits_13 (by decide) ?_
    refine lv_isub hx hb dX2_resultFits_15 ?_
    refine lv_istore (lv' := [(4, .int (ih - (nI 10))), (3, .int (rs - (nI 10))), (0, .ref (q 6)), (1, .int rs), (2, .int ih)]) hx hb dX2_resultFits_16 hl (by decide) rfl (fun ls hl => ?_)
    refine lv_aload_n hx hb dX2_resultFits_18 rfl (lv_at hl 2 rfl) ?_
    refine cx_get (own := RX2) (index := 9) (C := RX2) (T := TX2) (N := 2) (k := 0) (ci := 2) (v := .ref (q 1)) hx hb hts hown hE hS hinX2 6 rfl rfl (by decide) (List.mem_of_getElem? (i := 1) rfl) rfl dX2_resultFits_19 ?_
    refine lv_iload_n hx hb dX2_resultFits_22 rfl (lv_at hl 1 rfl) ?_
    refine cx_cVi (As := [.int (rs - (nI 10))]) (rest := []) ⟨hx, hb, hml, hown, hts⟩ hE hS (c_X5_there l D q cI cJ n T k M d C J g (rs - (nI 10)) ) (cwV 1 hts gX2_resultFits_X5_there rfl rfl rfl (by decide +kernel) ⟨Nat.le_of_ble_eq_true rfl, Nat.le_of_ble_eq_true rfl⟩) 1 5 rfl rfl rfl hl.1 rfl (Nat.le_of_ble_eq_true rfl) ⟨Nat.zero_le _, Nat.zero_le _⟩ dX2_resultFits_23 (fun r_23 u_23 H locs hp_23 hS => ?_)
    have hp_23 : r_23 = cx_b (0 ≤ (rs - (nI 10)) ∧ (rs - (nI 10)) < nI n) := hp_23
    subst hp_23
    have J59 : ∀ (v59_s0 : Int32) (H : Heap) (locs : List Loc) (ls : Array Slot), ((v59_s0 = 0 ∨ v59_s0 = 1) ∧ (¬ v59_s0 = 0 ↔ cx_ft n (cx_Ac T n) rs ih)) → cx_S D vwCl A s (cxW q cI cJ n T k M d C J g) H locs → lv_has ls 5 [(0, .ref (q 6)), (1, .int rs), (2, .int ih), (3, .int (rs - (nI 10))), (4, .int (ih - (nI 10)))] → W p l e ({ frames := 1, cells := 0, slots := 0, locals := 22 } : Room) s m args below meth c H locs 0 0 Q (F0 m 59 ls [.int v59_s0]) := by
      intro v59_s0 H locs ls b59 hS hl
      exact RET _ () _ _ _ _ dX2_resultFits_59 (cx_nb b59.1) (by first | exact b59 | (try clear RET); (try clear hS); (try clear hl); (try clear hE); (try clear hts); (try clear hb); (try clear hx); (try clear hml); (try clear hown); (try clear hinX2); (try clear J59); have y10 : ¬ (1 : Int32) = 0 := (by decide); first | assumption | (unfold cx_ft; grind)) hS
    have J58 : ∀ (H : Heap) (locs : List Loc) (ls : Array Slot), (¬ (cx_ft n (cx_Ac T n) rs ih)) → cx_S D vwCl A s (cxW q cI cJ n T k M d C J g) H locs → lv_has ls 5 [(0, .ref (q 6)), (1, .int rs), (2, .int ih), (3, .int (rs - (nI 10))), (4, .int (ih - (nI 10)))] → W p l e ({ frames := 1, cells := 0, slots := 0, locals := 22 } : Room) s m args below meth c H locs 0 0 Q (F0 m 58 ls []) := by
      intro  H locs ls f58 hS hl
      refine lv_iconst (v := (0 : Int32)) hx hb dX2_resultFits_58 (by decide) ?_
      exact J59 (0 : Int32) _ _ _ (cx_e0 (by (try clear RET); (try clear hS); (try clear hl); (try clear hE); (try clear hts); (try clear hb); (try clear hx); (try clear hml); (try clear hown); (try clear hinX2); (try clear J59); (try clear J58); have y10 : ¬ (1 : Int32) = 0 := (by decide); first | assumption | (unfold cx_ft; grind))) hS (lv_sub hl [0, 1, 2, 3, 4] rfl)
    refine lv_if_eq (tgt := 58) hx hb dX2_resultFits_26 (by decide) (fun h26 => ?_) (fun h26 => ?_)
    · skip
      have g26 := cx_b0 h26
      exact J58  _ _ _ (by (try clear RET); (try clear hS); (try clear hl); (try clear hE); (try clear hts); (try clear hb); (try clear hx); (try clear hml); (try clear hown); (try clear hinX2); (try clear J59); (try clear J58); have y10 : ¬ (1 : Int32) = 0 := (by decide); first | assumption | (unfold cx_ft; grind)) hS (lv_sub hl [2, 3, 4, 1, 0] rfl)
    · skip
      have g26 := cx_b1 h26
      have q26 := (cx_ixT (by omega) g26).2
      refine lv_aload_n hx hb dX2_resultFits_29 rfl (lv_at hl 2 rfl) ?_
      refine cx_get (own := RX2) (index := 9) (C := RX2) (T := TX2) (N := 2) (k := 0) (ci := 2) (v := .ref (q 1)) hx hb hts hown hE hS hinX2 6 rfl rfl (by decide) (List.mem_of_getElem? (i := 1) rfl) rfl dX2_resultFits_30 ?_
      refine lv_iload hx hb dX2_resultFits_33 (lv_at hl 0 rfl) ?_
      refine cx_cVi (As := [.int (ih - (nI 10))]) (rest := []) ⟨hx, hb, hml, hown, hts⟩ hE hS (c_X5_there l D q cI cJ n T k M d C J g (ih - (nI 10)) ) (cwV 1 hts gX2_resultFits_X5_there rfl rfl rfl (by decide +kernel) ⟨Nat.le_of_ble_eq_true rfl, Nat.le_of_ble_eq_true rfl⟩) 1 5 rfl rfl rfl hl.1 rfl (Nat.le_of_ble_eq_true rfl) ⟨Nat.zero_le _, Nat.zero_le _⟩ dX2_resultFits_35 (fun r_35 u_35 H locs hp_35 hS => ?_)
      have hp_35 : r_35 = cx_b (0 ≤ (ih - (nI 10)) ∧ (ih - (nI 10)) < nI n) := hp_35
      subst hp_35
      refine lv_if_eq (tgt := 58) hx hb dX2_resultFits_38 (by decide) (fun h38 => ?_) (fun h38 => ?_)
      · skip
        have g38 := cx_b0 h38
        exact J58  _ _ _ (by (try clear RET); (try clear hS); (try clear hl); (try clear hE); (try clear hts); (try clear hb); (try clear hx); (try clear hml); (try clear hown); (try clear hinX2); (try clear J59); (try clear J58); have y10 : ¬ (1 : Int32) = 0 := (by decide); first | assumption | (unfold cx_ft; grind)) hS (lv_sub hl [2, 3, 4, 1, 0] rfl)
      · skip
        have g38 := cx_b1 h38
        have q38 := (cx_ixT (by omega) g38).2
        refine lv_aload_n hx hb dX2_resultFits_41 rfl (lv_at hl 2 rfl) ?_
        refine cx_get (own := RX2) (index := 9) (C := RX2) (T := TX2) (N := 2) (k := 0) (ci := 2) (v := .ref (q 1)) hx hb hts hown hE hS hinX2 6 rfl rfl (by decide) (List.mem_of_getElem? (i := 1) rfl) rfl dX2_resultFits_42 ?_
        refine lv_iload_n hx hb dX2_resultFits_45 rfl (lv_at hl 1 rfl) ?_
        refine cx_topr (z := nI ((rs - nI 10).toNatClampNeg)) (cx_ixT (by omega) g26).1 ?_
        refine lv_iload hx hb dX2_resultFits_46 (lv_at hl 0 rfl) ?_
        refine cx_topr (z := nI ((ih - nI 10).toNatClampNeg)) (cx_ixT (by omega) g38).1 ?_
        refine cx_cVi (As := [.int (nI ((rs - nI 10).toNatClampNeg)), .int (nI ((ih - nI 10).toNatClampNeg))]) (rest := []) ⟨hx, hb, hml, hown, hts⟩ hE hS (c_X5_stands_at_b l D q cI cJ n T k M d C J g ((rs - nI 10).toNatClampNeg) ((ih - nI 10).toNatClampNeg) (by have := (cx_ixT (by omega) g26).2; omega) (by have := (cx_ixT (by omega) g38).2; omega)) (cwV 2 hts gX2_resultFits_X5_stands rfl rfl rfl (by decide +kernel) ⟨Nat.le_of_ble_eq_true rfl, Nat.le_of_ble_eq_true rfl⟩) 1 5 rfl rfl rfl hl.1 rfl (Nat.le_of_ble_eq_true rfl) ⟨Nat.zero_le _, Nat.zero_le _⟩ dX2_resultFits_48 (fun r_48 u_48 H locs hp_48 hS => ?_)
        have hp_48 : (r_48 = 0 ∨ r_48 = 1) ∧ (¬ r_48 = 0 ↔ ((rs - nI 10).toNatClampNeg) = ((ih - nI 10).toNatClampNeg) ∨ bt ((T 10) ((rs - nI 10).toNatClampNeg)) ((ih - nI 10).toNatClampNeg) = true) := hp_48
        refine lv_if_eq (tgt := 58) hx hb dX2_resultFits_51 (by decide) (fun h51 => ?_) (fun h51 => ?_)
        · skip
          have g51 : ¬ (((rs - nI 10).toNatClampNeg) = ((ih - nI 10).toNatClampNeg) ∨ bt ((T 10) ((rs - nI 10).toNatClampNeg)) ((ih - nI 10).toNatClampNeg) = true) := fun z => hp_48.2.mpr z h51
          exact J58  _ _ _ (by (try clear RET); (try clear hS); (try clear hl); (try clear hE); (try clear hts); (try clear hb); (try clear hx); (try clear hml); (try clear hown); (try clear hinX2); (try clear J59); (try clear J58); have y10 : ¬ (1 : Int32) = 0 := (by decide); first | assumption | (unfold cx_ft; grind)) hS (lv_sub hl [2, 3, 4, 1, 0] rfl)
        · skip
          have g51 : ((rs - nI 10).toNatClampNeg) = ((ih - nI 10).toNatClampNeg) ∨ bt ((T 10) ((rs - nI 10).toNatClampNeg)) ((ih - nI 10).toNatClampNeg) = true := hp_48.2.mp h51
          refine lv_iconst (v := (1 : Int32)) hx hb dX2_resultFits_54 (by decide) ?_
          refine lv_goto (tgt := 59) hx hb dX2_resultFits_55 (by decide) ?_
          exact J59 (1 : Int32) _ _ _ (cx_e1 (by (try clear RET); (try clear hS); (try clear hl); (try clear hE); (try clear hts); (try clear hb); (try clear hx); (try clear hml); (try clear hown); (try clear hinX2); (try clear J59); (try clear J58); have y10 : ¬ (1 : Int32) = 0 := (by decide); first | assumption | (unfold cx_ft; grind))) hS (lv_sub hl [2, 3, 4, 1, 0] rfl)
  · skip
    refine lv_iconst (v := (1 : Int32)) hx hb dX2_resultFits_5 (by decide) ?_
    exact RET _ () _ _ _ _ dX2_resultFits_6 rfl (cx_e1 (Or.inl h2)) hS
set_option maxHeartbeats 4000000 in
set_option maxRecDepth 100000 in
theorem c_X1_putTypes (l : Launch) (D : va_G) (q : Nat → Nat) (cI cJ : ClassId) (n : Nat) (T : Nat → Nat → Int32) (k : Nat) (M : Nat → Nat → Int32) (d : Nat) (C : Nat → Nat → Int32) (J : Nat → Nat → Int32) (g : Nat → Int64) (kd : Nat) (st : Int32) (hkd : kd < 18) : cx_Mv l D vwCl [(cI, .int), (cJ, .long)] cx_NW yX1_putTypes wsX1_putTypes ({ frames := 0, cells := 0, slots := 0, locals := 0 } : Room) [.ref (q 4), .int (nI kd), .int st] (cxW q cI cJ n T k M d C J g) (fun (uw : (Nat → Int64)) => cx_pt g uw kd st) (fun uw => (cxW q cI cJ n T k M d C J uw)) := by
  refine cx_Mv.of (cc := cX1_putTypes) (maxL := 3) cx_NW_ok (by decide) rfl (Nat.le_of_ble_eq_true rfl) ?_
  intro p e s m args below meth c Q A ls hx hb hml hown hts hE RET hS hl
  have hl : lv_has ls 3 [(0, .ref (q 4)), (1, .int (nI kd)), (2, .int st)] := hl
  have hown : s.vm.findClass RX1 = some m.cls := hown
  have hinX1 : ∀ w ∈ u_ws RX1 TX1 9, w ∈ wsX1_putTypes := cx_mem [2, 3, 4, 5, 6, 7, 8, 9, 10] (by decide +kernel)
  refine lv_aload_n hx hb dX1_putTypes_0 rfl (lv_at hl 0 rfl) ?_
  refine cx_get (own := RX1) (index := 11) (C := RX1) (T := TX1) (N := 9) (k := 5) (ci := 1) (v := .ref (q 27)) hx hb hts hown hE hS hinX1 4 rfl rfl (by decide) (List.mem_of_getElem? (i := 1) rfl) rfl dX1_putTypes_1 ?_
  refine lv_iload_n hx hb dX1_putTypes_4 rfl (lv_at hl 1 rfl) ?_
  refine lv_iconst (v := nI 2) hx hb dX1_putTypes_5 (by decide) ?_
  refine lv_imul hx hb dX1_putTypes_6 ?_
  refine cx_topr (z := nI (kd * 2)) (pk_mul _ _) ?_
  refine lv_iload_n hx hb dX1_putTypes_7 rfl (lv_at hl 2 rfl) ?_
  refine lv_i2l hx hb dX1_putTypes_8 rfl ?_
  refine cx_last (f := g) (n := 36) (cA := cJ) (ws' := (cxW q cI cJ n T k M d C J (vp_updL g (kd * 2) ((st).toInt64)))) hx hb hE hS 27 1 rfl rfl (by omega) (by decide) rfl dX1_putTypes_9 (fun H locs hS => ?_)
  exact RET (vp_updL g (kd * 2) ((st).toInt64)) _ _ _ _ dX1_putTypes_10 (cx_ptI hkd) hS
set_option maxHeartbeats 4000000 in
set_option maxRecDepth 100000 in
theorem c_X1_putIf (l : Launch) (D : va_G) (q : Nat → Nat) (cI cJ : ClassId) (n : Nat) (T : Nat → Nat → Int32) (k : Nat) (M : Nat → Nat → Int32) (d : Nat) (C : Nat → Nat → Int32) (J : Nat → Nat → Int32) (g : Nat → Int64) (wr : Int32) (kd : Nat) (nb : Int32) (hkd : kd < 18) (hnb : wr = 0 ∨ cx_ix nb 80) : cx_Mv l D vwCl [(cI, .int), (cJ, .long)] cx_NW yX1_putIf wsX1_putIf ({ frames := 0, cells := 0, slots := 0, locals := 0 } : Room) [.ref (q 4), .int wr, .int (nI kd), .int nb] (cxW q cI cJ n T k M d C J g) (fun (uw : (Nat → Int64)) => cx_G uw ↔ cx_G g ∨ ¬ wr = 0) (fun uw => (cxW q cI cJ n T k M d C J uw)) := by
  refine cx_Mv.of (cc := cX1_putIf) (maxL := 4) cx_NW_ok (by decide) rfl (Nat.le_of_ble_eq_true rfl) ?_
  intro p e s m args below meth c Q A ls hx hb hml hown hts hE RET hS hl
  have hl : lv_has ls 4 [(0, .ref (q 4)), (1, .int wr), (2, .int (nI kd)), (3, .int nb)] := hl
  have hown : s.vm.findClass RX1 = some m.cls := hown
  have hinX1 : ∀ w ∈ u_ws RX1 TX1 9, w ∈ wsX1_putIf := cx_mem [2, 3, 4, 5, 6, 7, 8, 9, 10] (by decide +kernel)
  refine lv_iload_n hx hb dX1_putIf_0 rfl (lv_at hl 1 rfl) ?_
  have J26 : ∀ (g_26 : Nat → Int64) (H : Heap) (locs : List Loc) (ls : Array Slot), (cx_G g_26 ↔ cx_G g ∨ ¬ wr = 0) → cx_S D vwCl A s (cxW q cI cJ n T k M d C J g_26) H locs → lv_has ls 4 [(0, .ref (q 4)), (1, .int wr), (2, .int (nI kd)), (3, .int nb)] → W p l e ({ frames := 0, cells := 0, slots := 0, locals := 0 } : Room) s m args below meth c H locs 0 0 Q (F0 m 26 ls []) := by
    intro g_26 H locs ls hq hS hl
    exact RET (g_26) _ _ _ _ dX1_putIf_26 hq hS
  refine lv_if_eq (tgt := 26) hx hb dX1_putIf_1 (by decide) (fun h1 => ?_) (fun h1 => ?_)
  · skip
    exact J26 g _ _ _ (by first | exact cx_pf0 h1 | exact cx_pf1 h1 (by omega) hnb2) hS (lv_sub hl [0, 1, 2, 3] rfl)
  · skip
    have hnb2 := (hnb.resolve_left h1).2
    refine lv_aload_n hx hb dX1_putIf_4 rfl (lv_at hl 0 rfl) ?_
    refine cx_get (own := RX1) (index := 11) (C := RX1) (T := TX1) (N := 9) (k := 5) (ci := 1) (v := .ref (q 27)) hx hb hts hown hE hS hinX1 4 rfl rfl (by decide) (List.mem_of_getElem? (i := 1) rfl) rfl dX1_putIf_5 ?_
    refine lv_iload_n hx hb dX1_putIf_8 rfl (lv_at hl 2 rfl) ?_
    refine lv_iconst (v := nI 2) hx hb dX1_putIf_9 (by decide) ?_
    refine lv_imul hx hb dX1_putIf_10 ?_
    refine cx_topr (z := nI (kd * 2)) (pk_mul _ _) ?_
    refine lv_iload_n hx hb dX1_putIf_11 rfl (lv_at hl 3 rfl) ?_
    refine cx_topr (z := nI (nb.toNatClampNeg)) (hnb.resolve_left h1).1 ?_
    refine lv_bipush (v := nI 64) hx hb dX1_putIf_12 (by decide) ?_
    refine lv_idiv hx hb dX1_putIf_14 (by decide) ?_
    refine cx_topr (z := nI (nb.toNatClampNeg / 64)) (pk_div (by omega) (by decide) (by decide)) ?_
    refine lv_iadd hx hb dX1_putIf_15 ?_
    refine cx_topr (z := nI (kd * 2 + nb.toNatClampNeg / 64)) (nI_add _ _) ?_
    refine lv_dup2_11 hx hb dX1_putIf_16 rfl rfl ?_
    refine cx_lald (f := g) (n := 36) (cA := cJ) hx hb hE hS 27 1 rfl rfl (by omega) (by decide) dX1_putIf_17 ?_
    refine lv_lconst (v := (1 : Int64)) hx hb dX1_putIf_18 (by decide) ?_
    refine lv_iload_n hx hb dX1_putIf_19 rfl (lv_at hl 3 rfl) ?_
    refine cx_topr (z := nI (nb.toNatClampNeg)) (hnb.resolve_left h1).1 ?_
    refine lv_bipush (v := nI 64) hx hb dX1_putIf_20 (by decide) ?_
    refine lv_irem hx hb dX1_putIf_22 (by decide) ?_
    refine lv_lshl hx hb dX1_putIf_23 rfl ?_
    refine lv_lor hx hb dX1_putIf_24 ?_
    refine cx_last (f := g) (n := 36) (cA := cJ) (ws' := (cxW q cI cJ n T k M d C J (vp_updL g (kd * 2 + nb.toNatClampNeg / 64) ((g (kd * 2 + nb.toNatClampNeg / 64)) ||| ((1 : Int64) <<< ((((nI (nb.toNatClampNeg)) - (nI (nb.toNatClampNeg)) / (nI 64) * (nI 64))).toInt64 &&& 63)))))) hx hb hE hS 27 1 rfl rfl (by omega) (by decide) rfl dX1_putIf_25 (fun H locs hS => ?_)
    exact J26 (vp_updL g (kd * 2 + nb.toNatClampNeg / 64) ((g (kd * 2 + nb.toNatClampNeg / 64)) ||| ((1 : Int64) <<< ((((nI (nb.toNatClampNeg)) - (nI (nb.toNatClampNeg)) / (nI 64) * (nI 64))).toInt64 &&& 63)))) _ _ _ (by first | exact cx_pf0 h1 | exact cx_pf1 h1 (by omega) hnb2) hS (lv_sub hl [0, 1, 2, 3] rfl)
set_option maxHeartbeats 4000000 in
set_option maxRecDepth 100000 in
theorem c_X1_isFound (l : Launch) (D : va_G) (q : Nat → Nat) (cI cJ : ClassId) (n : Nat) (T : Nat → Nat → Int32) (k : Nat) (M : Nat → Nat → Int32) (d : Nat) (C : Nat → Nat → Int32) (J : Nat → Nat → Int32) (g : Nat → Int64) (kd : Nat) (nb : Nat) (hkd : kd < 18) (hnb : nb < 80) : cx_Mi l D vwCl [(cI, .int), (cJ, .long)] cx_NW yX1_isFound wsX1_isFound ({ frames := 0, cells := 0, slots := 0, locals := 0 } : Room) [.ref (q 4), .int (nI kd), .int (nI nb)] (cxW q cI cJ n T k M d C J g) (fun (r : Int32) (uw : Unit) => r = 0 ∨ r = 1) (fun _ => (cxW q cI cJ n T k M d C J g)) := by
  refine cx_Mi.of (cc := cX1_isFound) (maxL := 3) cx_NW_ok (by decide) rfl (Nat.le_of_ble_eq_true rfl) ?_
  intro p e s m args below meth c Q A ls hx hb hml hown hts hE RET hS hl
  have hl : lv_has ls 3 [(0, .ref (q 4)), (1, .int (nI kd)), (2, .int (nI nb))] := hl
  have hown : s.vm.findClass RX1 = some m.cls := hown
  have hinX1 : ∀ w ∈ u_ws RX1 TX1 9, w ∈ wsX1_isFound := cx_mem [2, 3, 4, 5, 6, 7, 8, 9, 10] (by decide +kernel)
  refine lv_aload_n hx hb dX1_isFound_0 rfl (lv_at hl 0 rfl) ?_
  refine cx_get (own := RX1) (index := 11) (C := RX1) (T := TX1) (N := 9) (k := 5) (ci := 1) (v := .ref (q 27)) hx hb hts hown hE hS hinX1 4 rfl rfl (by decide) (List.mem_of_getElem? (i := 1) rfl) rfl dX1_isFound_1 ?_
  refine lv_iload_n hx hb dX1_isFound_4 rfl (lv_at hl 1 rfl) ?_
  refine lv_iconst (v := nI 2) hx hb dX1_isFound_5 (by decide) ?_
  refine lv_imul hx hb dX1_isFound_6 ?_
  refine cx_topr (z := nI (kd * 2)) (pk_mul _ _) ?_
  refine lv_iload_n hx hb dX1_isFound_7 rfl (lv_at hl 2 rfl) ?_
  refine lv_bipush (v := nI 64) hx hb dX1_isFound_8 (by decide) ?_
  refine lv_idiv hx hb dX1_isFound_10 (by decide) ?_
  refine cx_topr (z := nI (nb / 64)) (pk_div (by omega) (by decide) (by decide)) ?_
  refine lv_iadd hx hb dX1_isFound_11 ?_
  refine cx_topr (z := nI (kd * 2 + nb / 64)) (nI_add _ _) ?_
  refine cx_lald (f := g) (n := 36) (cA := cJ) hx hb hE hS 27 1 rfl rfl (by omega) (by decide) dX1_isFound_12 ?_
  refine lv_iload_n hx hb dX1_isFound_13 rfl (lv_at hl 2 rfl) ?_
  refine lv_bipush (v := nI 64) hx hb dX1_isFound_14 (by decide) ?_
  refine lv_irem hx hb dX1_isFound_16 (by decide) ?_
  refine lv_lshr hx hb dX1_isFound_17 rfl ?_
  refine lv_lconst (v := (1 : Int64)) hx hb dX1_isFound_18 (by decide) ?_
  refine lv_land hx hb dX1_isFound_19 ?_
  refine lv_lconst (v := (0 : Int64)) hx hb dX1_isFound_20 (by decide) ?_
  refine cx_lcmp hx hb dX1_isFound_21 (fun x21 => ?_)
  have J30 : ∀ (v30_s0 : Int32) (H : Heap) (locs : List Loc) (ls : Array Slot), (v30_s0 = 0 ∨ v30_s0 = 1) → cx_S D vwCl A s (cxW q cI cJ n T k M d C J g) H locs → lv_has ls 3 [(0, .ref (q 4)), (1, .int (nI kd)), (2, .int (nI nb))] → W p l e ({ frames := 0, cells := 0, slots := 0, locals := 0 } : Room) s m args below meth c H locs 0 0 Q (F0 m 30 ls [.int v30_s0]) := by
    intro v30_s0 H locs ls hb30 hS hl
    exact RET _ () _ _ _ _ dX1_isFound_30 (cx_nb (by first | assumption | exact cx_bb)) (by first | exact Or.inl rfl | exact Or.inr rfl | assumption | exact cx_bb) hS
  refine lv_if_eq (tgt := 29) hx hb dX1_isFound_22 (by decide) (fun h22 => ?_) (fun h22 => ?_)
  · skip
    refine lv_iconst (v := (0 : Int32)) hx hb dX1_isFound_29 (by decide) ?_
    exact J30 (0 : Int32) _ _ _ (by first | exact Or.inl rfl | exact Or.inr rfl | assumption | exact cx_bb) hS (lv_sub hl [0, 1, 2] rfl)
  · skip
    refine lv_iconst (v := (1 : Int32)) hx hb dX1_isFound_25 (by decide) ?_
    refine lv_goto (tgt := 30) hx hb dX1_isFound_26 (by decide) ?_
    exact J30 (1 : Int32) _ _ _ (by first | exact Or.inl rfl | exact Or.inr rfl | assumption | exact cx_bb) hS (lv_sub hl [0, 1, 2] rfl)
set_option maxHeartbeats 4000000 in
set_option maxRecDepth 100000 in
theorem c_X1_countFound (l : Launch) (D : va_G) (q : Nat → Nat) (cI cJ : ClassId) (n : Nat) (T : Nat → Nat → Int32) (k : Nat) (M : Nat → Nat → Int32) (d : Nat) (C : Nat → Nat → Int32) (J : Nat → Nat → Int32) (g : Nat → Int64) : cx_Mi l D vwCl [(cI, .int), (cJ, .long)] cx_NW yX1_countFound wsX1_countFound ({ frames := 1, cells := 0, slots := 0, locals := 21 } : Room) [.ref (q 4)] (cxW q cI cJ n T k M d C J g) (fun (r : Int32) (uw : Unit) => ¬ r ≤ 0 ↔ cx_G g) (fun _ => (cxW q cI cJ n T k M d C J g)) := by
  refine cx_Mi.of (cc := cX1_countFound) (maxL := 3) cx_NW_ok (by decide) rfl (Nat.le_of_ble_eq_true rfl) ?_
  intro p e s m args below meth c Q A ls hx hb hml hown hts hE RET hS hl
  have hl : lv_has ls 3 [(0, .ref (q 4))] := hl
  have hown : s.vm.findClass RX1 = some m.cls := hown
  have hinX1 : ∀ w ∈ u_ws RX1 TX1 9, w ∈ wsX1_countFound := cx_mem [9, 10, 11, 12, 13, 14, 15, 16, 17] (by decide +kernel)
  refine lv_iconst (v := (0 : Int32)) hx hb dX1_countFound_0 (by decide) ?_
  refine cx_topr (z := nI 0) (by decide) ?_
  refine lv_istore_n (lv' := [(1, .int (nI 0)), (0, .ref (q 4))]) hx hb dX1_countFound_1 rfl hl (by decide) rfl (fun ls hl => ?_)
  refine lv_iconst (v := (0 : Int32)) hx hb dX1_countFound_2 (by decide) ?_
  refine cx_topr (z := nI 0) (by decide) ?_
  refine lv_istore_n (lv' := [(2, .int (nI 0)), (1, .int (nI 0)), (0, .ref (q 4))]) hx hb dX1_countFound_3 rfl hl (by decide) rfl (fun ls hl => ?_)
  have J4 : ∀ (N : Nat) (v4_l1 : Int32) (i4 : Nat) (H : Heap) (locs : List Loc) (ls : Array Slot), (36 - i4 < N) → (i4 ≤ 36) → (cx_cnt v4_l1 (127 * i4) (∃ j, j < i4 ∧ ¬ g j = 0)) → cx_S D vwCl A s (cxW q cI cJ n T k M d C J g) H locs → lv_has ls 3 [(0, .ref (q 4)), (1, .int v4_l1), (2, .int (nI i4))] → W p l e ({ frames := 1, cells := 0, slots := 0, locals := 21 } : Room) s m args below meth c H locs 0 0 Q (F0 m 4 ls []) := by
    intro N4
    induction N4 with
    | zero => intro v4_l1 i4 H locs ls hN; exact absurd hN (by omega)
    | succ N4 ih4 =>
      intro v4_l1 i4 H locs ls hN4 hi4 hs hS hl
      refine lv_iload_n hx hb dX1_countFound_4 rfl (lv_at hl 2 rfl) ?_
      refine lv_aload_n hx hb dX1_countFound_5 rfl (lv_at hl 0 rfl) ?_
      refine cx_get (own := RX1) (index := 11) (C := RX1) (T := TX1) (N := 9) (k := 5) (ci := 1) (v := .ref (q 27)) hx hb hts hown hE hS hinX1 4 rfl rfl (by decide) (List.mem_of_getElem? (i := 1) rfl) rfl dX1_countFound_6 ?_
      refine va_alen hx hb hE.1 hS.1 27 1 rfl rfl (v := nI 36) rfl dX1_countFound_9 ?_
      refine lv_icmp_ge (tgt := 31) hx hb dX1_countFound_10 (by decide) (fun h10 => ?_) (fun h10 => ?_)
      · skip
        have g10 : 36 ≤ i4 := (nI_leI (a := 36) (b := i4) (by omega) (by omega)).mp h10
        refine lv_iload_n hx hb dX1_countFound_31 rfl (lv_at hl 1 rfl) ?_
        exact RET _ () _ _ _ _ dX1_countFound_32 rfl (cx_cfE hs (by omega) (by omega)) hS
      · skip
        have g10 : ¬ (36 ≤ i4) := fun z => h10 ((nI_leI (a := 36) (b := i4) (by omega) (by omega)).mpr z)
        refine lv_iload_n hx hb dX1_countFound_13 rfl (lv_at hl 1 rfl) ?_
        refine lv_aload_n hx hb dX1_countFound_14 rfl (lv_at hl 0 rfl) ?_
        refine cx_get (own := RX1) (index := 11) (C := RX1) (T := TX1) (N := 9) (k := 5) (ci := 1) (v := .ref (q 27)) hx hb hts hown hE hS hinX1 4 rfl rfl (by decide) (List.mem_of_getElem? (i := 1) rfl) rfl dX1_countFound_15 ?_
        refine lv_iload_n hx hb dX1_countFound_18 rfl (lv_at hl 2 rfl) ?_
        refine cx_lald (f := g) (n := 36) (cA := cJ) hx hb hE hS 27 1 rfl rfl (by omega) (by decide) dX1_countFound_19 ?_
        refine cx_cSi (As := [.long (g i4)]) (rest := [.int v4_l1]) ⟨hx, hb, hml, hown, hts⟩ hE hS (c_J13_bitCount_95d88 l D [(cI, .int), (cJ, .long)] (cxW q cI cJ n T k M d C J g) (g i4) ) (va_cwS 1 hts gX1_countFound_J13_bitCount_95d88 rfl rfl rfl (by decide +kernel) ⟨Nat.le_of_ble_eq_true rfl, Nat.le_of_ble_eq_true rfl⟩) rfl hl.1 rfl (Nat.le_of_ble_eq_true rfl) ⟨Nat.zero_le _, Nat.zero_le _⟩ dX1_countFound_20 (fun r_20 u_20 H locs hp_20 hS => ?_)
        have hp_20 : cx_cnt r_20 127 (¬ (g i4) = 0) := hp_20
        refine lv_iadd hx hb dX1_countFound_23 ?_
        refine lv_istore_n (lv' := [(1, .int (v4_l1 + r_20)), (0, .ref (q 4)), (2, .int (nI i4))]) hx hb dX1_countFound_24 rfl hl (by decide) rfl (fun ls hl => ?_)
        refine lv_iinc (v := nI (i4 + 1)) (lv' := [(2, .int (nI (i4 + 1))), (1, .int (v4_l1 + r_20)), (0, .ref (q 4))]) hx hb dX1_countFound_25 hl (k := 2) rfl (cx_inc _) (by decide) rfl (fun ls hl => ?_)
        refine lv_goto (tgt := 4) hx hb dX1_countFound_28 (by decide) ?_
        exact ih4 (v4_l1 + r_20) (i4 + 1) _ _ _ (by (try clear hs); omega) (by (try clear hs); omega) (by first | exact cx_cf0 | exact cx_cfS hs hp_20) hS (lv_sub hl [2, 1, 0] rfl)
  exact J4 (36 - 0 + 1) (nI 0) 0 _ _ _ (Nat.lt_succ_self _) (by (try clear hs); omega) (by first | exact cx_cf0 | exact cx_cfS hs hp_20) hS (lv_sub hl [2, 1, 0] rfl)
set_option maxHeartbeats 4000000 in
set_option maxRecDepth 100000 in
theorem c_X1_findTypeFaults (l : Launch) (D : va_G) (q : Nat → Nat) (cI cJ : ClassId) (n : Nat) (T : Nat → Nat → Int32) (k : Nat) (M : Nat → Nat → Int32) (d : Nat) (C : Nat → Nat → Int32) (J : Nat → Nat → Int32) (g : Nat → Int64) (t : Nat) (hn : n ≤ 20) (ht : t < n) (hB4 : cx_B4 n T) (hR1 : cx_R (T 1) 16) (hg0 : ∀ j, j < 36 → g j = 0) : cx_Mv l D vwCl [(cI, .int), (cJ, .long)] cx_NW yX1_findTypeFaults wsX1_findTypeFaults ({ frames := 3, cells := 0, slots := 0, locals := 71 } : Room) [.ref (q 4), .int (nI t)] (cxW q cI cJ n T k M d C J g) (fun (uw : (Nat → Int64)) => cx_G uw ↔ cx_FF n (T 0) (T 3) (cx_Uc T) (cx_Vc T) (cx_Ac T n) t ∨ cx_TF n (T 0) (T 1) (T 3) (cx_Uc T) (cx_Wc T) (cx_Vc T) t) (fun uw => (cxW q cI cJ n T k M d C J uw)) := by
  refine cx_Mv.of (cc := cX1_findTypeFaults) (maxL := 2) cx_NW_ok (by decide) rfl (Nat.le_of_ble_eq_true rfl) ?_
  intro p e s m args below meth c Q A ls hx hb hml hown hts hE RET hS hl
  have hl : lv_has ls 2 [(0, .ref (q 4)), (1, .int (nI t))] := hl
  have hown : s.vm.findClass RX1 = some m.cls := hown
  have hinX1 : ∀ w ∈ u_ws RX1 TX1 9, w ∈ wsX1_findTypeFaults := cx_mem [81, 82, 83, 84, 85, 86, 87, 88, 89] (by decide +kernel)
  refine lv_aload_n hx hb dX1_findTypeFaults_0 rfl (lv_at hl 0 rfl) ?_
  refine lv_iconst (v := (1 : Int32)) hx hb dX1_findTypeFaults_1 (by decide) ?_
  refine lv_aload_n hx hb dX1_findTypeFaults_2 rfl (lv_at hl 0 rfl) ?_
  refine cx_get (own := RX1) (index := 43) (C := RX1) (T := TX1) (N := 9) (k := 3) (ci := 1) (v := .ref (q 5)) hx hb hts hown hE hS hinX1 4 rfl rfl (by decide) (List.mem_of_getElem? (i := 1) rfl) rfl dX1_findTypeFaults_3 ?_
  refine lv_iload_n hx hb dX1_findTypeFaults_6 rfl (lv_at hl 1 rfl) ?_
  refine cx_cVi (As := [.int (nI t)]) (rest := [.int (1 : Int32), .ref (q 4)]) ⟨hx, hb, hml, hown, hts⟩ hE hS (c_X4_missing l D q cI cJ n T k M d C J g t (by first | assumption | omega | rfl) (by first | assumption | omega | rfl) (by first | assumption | omega | rfl)) (cwV 1 hts gX1_findTypeFaults_X4_missing rfl rfl rfl (by decide +kernel) ⟨Nat.le_of_ble_eq_true rfl, Nat.le_of_ble_eq_true rfl⟩) 5 4 rfl rfl rfl hl.1 rfl (Nat.le_of_ble_eq_true rfl) ⟨Nat.zero_le _, Nat.zero_le _⟩ dX1_findTypeFaults_7 (fun r_7 u_7 H locs hp_7 hS => ?_)
  have hp_7 : (¬ r_7 = 0 ↔ cx_ms n T t) := hp_7
  refine cx_cVv (As := [.int (1 : Int32), .int r_7]) (rest := []) ⟨hx, hb, hml, hown, hts⟩ hE hS (c_X1_putTypes l D q cI cJ n T k M d C J g 1 r_7 (by first | assumption | omega | rfl)) (cwV 2 hts gX1_findTypeFaults_X1_putTypes rfl rfl rfl (by decide +kernel) ⟨Nat.le_of_ble_eq_true rfl, Nat.le_of_ble_eq_true rfl⟩) 4 1 rfl rfl rfl hl.1 rfl (Nat.le_of_ble_eq_true rfl) ⟨Nat.zero_le _, Nat.zero_le _⟩ dX1_findTypeFaults_10 (fun u_10 H locs hp_10 hS => ?_)
  obtain ⟨ga_10, rfl⟩ : ∃ z, z = u_10 := ⟨_, rfl⟩
  have hS : cx_S D vwCl A s (cxW q cI cJ n T k M d C J ga_10) H locs := hS
  have hp_10 : cx_pt g ga_10 1 r_7 := hp_10
  refine lv_aload_n hx hb dX1_findTypeFaults_13 rfl (lv_at hl 0 rfl) ?_
  refine lv_iconst (v := nI 2) hx hb dX1_findTypeFaults_14 (by decide) ?_
  refine lv_aload_n hx hb dX1_findTypeFaults_15 rfl (lv_at hl 0 rfl) ?_
  refine cx_get (own := RX1) (index := 43) (C := RX1) (T := TX1) (N := 9) (k := 3) (ci := 1) (v := .ref (q 5)) hx hb hts hown hE hS hinX1 4 rfl rfl (by decide) (List.mem_of_getElem? (i := 1) rfl) rfl dX1_findTypeFaults_16 ?_
  refine lv_iload_n hx hb dX1_findTypeFaults_19 rfl (lv_at hl 1 rfl) ?_
  refine cx_cVi (As := [.int (nI t)]) (rest := [.int (nI 2), .ref (q 4)]) ⟨hx, hb, hml, hown, hts⟩ hE hS (c_X4_ring l D q cI cJ n T k M d C J ga_10 t (by first | assumption | omega | rfl) (by first | assumption | omega | rfl) (by first | assumption | omega | rfl)) (cwV 1 hts gX1_findTypeFaults_X4_ring rfl rfl rfl (by decide +kernel) ⟨Nat.le_of_ble_eq_true rfl, Nat.le_of_ble_eq_true rfl⟩) 5 4 rfl rfl rfl hl.1 rfl (Nat.le_of_ble_eq_true rfl) ⟨Nat.zero_le _, Nat.zero_le _⟩ dX1_findTypeFaults_20 (fun r_20 u_20 H locs hp_20 hS => ?_)
  have hp_20 : (¬ r_20 = 0 ↔ cx_Ac T n t t) := hp_20
  refine cx_cVv (As := [.int (nI 2), .int r_20]) (rest := []) ⟨hx, hb, hml, hown, hts⟩ hE hS (c_X1_putTypes l D q cI cJ n T k M d C J ga_10 2 r_20 (by first | assumption | omega | rfl)) (cwV 2 hts gX1_findTypeFaults_X1_putTypes rfl rfl rfl (by decide +kernel) ⟨Nat.le_of_ble_eq_true rfl, Nat.le_of_ble_eq_true rfl⟩) 4 1 rfl rfl rfl hl.1 rfl (Nat.le_of_ble_eq_true rfl) ⟨Nat.zero_le _, Nat.zero_le _⟩ dX1_findTypeFaults_23 (fun u_23 H locs hp_23 hS => ?_)
  obtain ⟨ga_23, rfl⟩ : ∃ z, z = u_23 := ⟨_, rfl⟩
  have hS : cx_S D vwCl A s (cxW q cI cJ n T k M d C J ga_23) H locs := hS
  have hp_23 : cx_pt ga_10 ga_23 2 r_20 := hp_23
  refine lv_aload_n hx hb dX1_findTypeFaults_26 rfl (lv_at hl 0 rfl) ?_
  refine lv_iconst (v := nI 3) hx hb dX1_findTypeFaults_27 (by decide) ?_
  refine lv_aload_n hx hb dX1_findTypeFaults_28 rfl (lv_at hl 0 rfl) ?_
  refine cx_get (own := RX1) (index := 43) (C := RX1) (T := TX1) (N := 9) (k := 3) (ci := 1) (v := .ref (q 5)) hx hb hts hown hE hS hinX1 4 rfl rfl (by decide) (List.mem_of_getElem? (i := 1) rfl) rfl dX1_findTypeFaults_29 ?_
  refine lv_iload_n hx hb dX1_findTypeFaults_32 rfl (lv_at hl 1 rfl) ?_
  refine cx_cVi (As := [.int (nI t)]) (rest := [.int (nI 3), .ref (q 4)]) ⟨hx, hb, hml, hown, hts⟩ hE hS (c_X4_wrongKind l D q cI cJ n T k M d C J ga_23 t (by first | assumption | omega | rfl) (by first | assumption | omega | rfl) (by first | assumption | omega | rfl)) (cwV 1 hts gX1_findTypeFaults_X4_wrongKind rfl rfl rfl (by decide +kernel) ⟨Nat.le_of_ble_eq_true rfl, Nat.le_of_ble_eq_true rfl⟩) 5 4 rfl rfl rfl hl.1 rfl (Nat.le_of_ble_eq_true rfl) ⟨Nat.zero_le _, Nat.zero_le _⟩ dX1_findTypeFaults_33 (fun r_33 u_33 H locs hp_33 hS => ?_)
  have hp_33 : (¬ r_33 = 0 ↔ cx_wk n T t) := hp_33
  refine cx_cVv (As := [.int (nI 3), .int r_33]) (rest := []) ⟨hx, hb, hml, hown, hts⟩ hE hS (c_X1_putTypes l D q cI cJ n T k M d C J ga_23 3 r_33 (by first | assumption | omega | rfl)) (cwV 2 hts gX1_findTypeFaults_X1_putTypes rfl rfl rfl (by decide +kernel) ⟨Nat.le_of_ble_eq_true rfl, Nat.le_of_ble_eq_true rfl⟩) 4 1 rfl rfl rfl hl.1 rfl (Nat.le_of_ble_eq_true rfl) ⟨Nat.zero_le _, Nat.zero_le _⟩ dX1_findTypeFaults_36 (fun u_36 H locs hp_36 hS => ?_)
  obtain ⟨ga_36, rfl⟩ : ∃ z, z = u_36 := ⟨_, rfl⟩
  have hS : cx_S D vwCl A s (cxW q cI cJ n T k M d C J ga_36) H locs := hS
  have hp_36 : cx_pt ga_23 ga_36 3 r_33 := hp_36
  refine lv_aload_n hx hb dX1_findTypeFaults_39 rfl (lv_at hl 0 rfl) ?_
  refine lv_iconst (v := nI 4) hx hb dX1_findTypeFaults_40 (by decide) ?_
  refine lv_aload_n hx hb dX1_findTypeFaults_41 rfl (lv_at hl 0 rfl) ?_
  refine cx_get (own := RX1) (index := 43) (C := RX1) (T := TX1) (N := 9) (k := 3) (ci := 1) (v := .ref (q 5)) hx hb hts hown hE hS hinX1 4 rfl rfl (by decide) (List.mem_of_getElem? (i := 1) rfl) rfl dX1_findTypeFaults_42 ?_
  refine lv_iload_n hx hb dX1_findTypeFaults_45 rfl (lv_at hl 1 rfl) ?_
  refine cx_cVi (As := [.int (nI t)]) (rest := [.int (nI 4), .ref (q 4)]) ⟨hx, hb, hml, hown, hts⟩ hE hS (c_X4_finalParent l D q cI cJ n T k M d C J ga_36 t (by first | assumption | omega | rfl) (by first | assumption | omega | rfl) (by first | assumption | omega | rfl)) (cwV 1 hts gX1_findTypeFaults_X4_finalParent rfl rfl rfl (by decide +kernel) ⟨Nat.le_of_ble_eq_true rfl, Nat.le_of_ble_eq_true rfl⟩) 5 4 rfl rfl rfl hl.1 rfl (Nat.le_of_ble_eq_true rfl) ⟨Nat.zero_le _, Nat.zero_le _⟩ dX1_findTypeFaults_46 (fun r_46 u_46 H locs hp_46 hS => ?_)
  have hp_46 : (¬ r_46 = 0 ↔ cx_F4 n ((T 1)) ((T 3)) t) := hp_46
  refine cx_cVv (As := [.int (nI 4), .int r_46]) (rest := []) ⟨hx, hb, hml, hown, hts⟩ hE hS (c_X1_putTypes l D q cI cJ n T k M d C J ga_36 4 r_46 (by first | assumption | omega | rfl)) (cwV 2 hts gX1_findTypeFaults_X1_putTypes rfl rfl rfl (by decide +kernel) ⟨Nat.le_of_ble_eq_true rfl, Nat.le_of_ble_eq_true rfl⟩) 4 1 rfl rfl rfl hl.1 rfl (Nat.le_of_ble_eq_true rfl) ⟨Nat.zero_le _, Nat.zero_le _⟩ dX1_findTypeFaults_49 (fun u_49 H locs hp_49 hS => ?_)
  obtain ⟨ga_49, rfl⟩ : ∃ z, z = u_49 := ⟨_, rfl⟩
  have hS : cx_S D vwCl A s (cxW q cI cJ n T k M d C J ga_49) H locs := hS
  have hp_49 : cx_pt ga_36 ga_49 4 r_46 := hp_49
  refine lv_aload_n hx hb dX1_findTypeFaults_52 rfl (lv_at hl 0 rfl) ?_
  refine lv_iconst (v := nI 5) hx hb dX1_findTypeFaults_53 (by decide) ?_
  refine lv_aload_n hx hb dX1_findTypeFaults_54 rfl (lv_at hl 0 rfl) ?_
  refine cx_get (own := RX1) (index := 43) (C := RX1) (T := TX1) (N := 9) (k := 3) (ci := 1) (v := .ref (q 5)) hx hb hts hown hE hS hinX1 4 rfl rfl (by decide) (List.mem_of_getElem? (i := 1) rfl) rfl dX1_findTypeFaults_55 ?_
  refine lv_iload_n hx hb dX1_findTypeFaults_58 rfl (lv_at hl 1 rfl) ?_
  refine cx_cVi (As := [.int (nI t)]) (rest := [.int (nI 5), .ref (q 4)]) ⟨hx, hb, hml, hown, hts⟩ hE hS (c_X4_wrongMarks l D q cI cJ n T k M d C J ga_49 t (by first | assumption | omega | rfl) (by first | assumption | omega | rfl) (by first | assumption | omega | rfl)) (cwV 1 hts gX1_findTypeFaults_X4_wrongMarks rfl rfl rfl (by decide +kernel) ⟨Nat.le_of_ble_eq_true rfl, Nat.le_of_ble_eq_true rfl⟩) 5 4 rfl rfl rfl hl.1 rfl (Nat.le_of_ble_eq_true rfl) ⟨Nat.zero_le _, Nat.zero_le _⟩ dX1_findTypeFaults_59 (fun r_59 u_59 H locs hp_59 hS => ?_)
  have hp_59 : (¬ r_59 = 0 ↔ (cx_f5 ((T 0) t) ((T 1) t))) := hp_59
  refine cx_cVv (As := [.int (nI 5), .int r_59]) (rest := []) ⟨hx, hb, hml, hown, hts⟩ hE hS (c_X1_putTypes l D q cI cJ n T k M d C J ga_49 5 r_59 (by first | assumption | omega | rfl)) (cwV 2 hts gX1_findTypeFaults_X1_putTypes rfl rfl rfl (by decide +kernel) ⟨Nat.le_of_ble_eq_true rfl, Nat.le_of_ble_eq_true rfl⟩) 4 1 rfl rfl rfl hl.1 rfl (Nat.le_of_ble_eq_true rfl) ⟨Nat.zero_le _, Nat.zero_le _⟩ dX1_findTypeFaults_62 (fun u_62 H locs hp_62 hS => ?_)
  obtain ⟨ga_62, rfl⟩ : ∃ z, z = u_62 := ⟨_, rfl⟩
  have hS : cx_S D vwCl A s (cxW q cI cJ n T k M d C J ga_62) H locs := hS
  have hp_62 : cx_pt ga_49 ga_62 5 r_59 := hp_62
  refine lv_aload_n hx hb dX1_findTypeFaults_65 rfl (lv_at hl 0 rfl) ?_
  refine lv_bipush (v := nI 6) hx hb dX1_findTypeFaults_66 (by decide) ?_
  refine lv_aload_n hx hb dX1_findTypeFaults_68 rfl (lv_at hl 0 rfl) ?_
  refine cx_get (own := RX1) (index := 43) (C := RX1) (T := TX1) (N := 9) (k := 3) (ci := 1) (v := .ref (q 5)) hx hb hts hown hE hS hinX1 4 rfl rfl (by decide) (List.mem_of_getElem? (i := 1) rfl) rfl dX1_findTypeFaults_69 ?_
  refine lv_iload_n hx hb dX1_findTypeFaults_72 rfl (lv_at hl 1 rfl) ?_
  refine cx_cVi (As := [.int (nI t)]) (rest := [.int (nI 6), .ref (q 4)]) ⟨hx, hb, hml, hown, hts⟩ hE hS (c_X4_wrongUnderSealed l D q cI cJ n T k M d C J ga_62 t (by first | assumption | omega | rfl) (by first | assumption | omega | rfl) (by first | assumption | omega | rfl) (by first | assumption | omega | rfl)) (cwV 1 hts gX1_findTypeFaults_X4_wrongUnderSealed rfl rfl rfl (by decide +kernel) ⟨Nat.le_of_ble_eq_true rfl, Nat.le_of_ble_eq_true rfl⟩) 5 4 rfl rfl rfl hl.1 rfl (Nat.le_of_ble_eq_true rfl) ⟨Nat.zero_le _, Nat.zero_le _⟩ dX1_findTypeFaults_73 (fun r_73 u_73 H locs hp_73 hS => ?_)
  have hp_73 : (¬ r_73 = 0 ↔ cx_F6a n ((T 0)) ((T 1)) ((T 3)) (cx_Uc T) (cx_Vc T) t ∨ cx_F6b n ((T 1)) ((T 3)) (cx_Uc T) t) := hp_73
  refine cx_cVv (As := [.int (nI 6), .int r_73]) (rest := []) ⟨hx, hb, hml, hown, hts⟩ hE hS (c_X1_putTypes l D q cI cJ n T k M d C J ga_62 6 r_73 (by first | assumption | omega | rfl)) (cwV 2 hts gX1_findTypeFaults_X1_putTypes rfl rfl rfl (by decide +kernel) ⟨Nat.le_of_ble_eq_true rfl, Nat.le_of_ble_eq_true rfl⟩) 4 1 rfl rfl rfl hl.1 rfl (Nat.le_of_ble_eq_true rfl) ⟨Nat.zero_le _, Nat.zero_le _⟩ dX1_findTypeFaults_76 (fun u_76 H locs hp_76 hS => ?_)
  obtain ⟨ga_76, rfl⟩ : ∃ z, z = u_76 := ⟨_, rfl⟩
  have hS : cx_S D vwCl A s (cxW q cI cJ n T k M d C J ga_76) H locs := hS
  have hp_76 : cx_pt ga_62 ga_76 6 r_73 := hp_76
  refine lv_aload_n hx hb dX1_findTypeFaults_79 rfl (lv_at hl 0 rfl) ?_
  refine lv_bipush (v := nI 7) hx hb dX1_findTypeFaults_80 (by decide) ?_
  refine lv_aload_n hx hb dX1_findTypeFaults_82 rfl (lv_at hl 0 rfl) ?_
  refine cx_get (own := RX1) (index := 43) (C := RX1) (T := TX1) (N := 9) (k := 3) (ci := 1) (v := .ref (q 5)) hx hb hts hown hE hS hinX1 4 rfl rfl (by decide) (List.mem_of_getElem? (i := 1) rfl) rfl dX1_findTypeFaults_83 ?_
  refine lv_iload_n hx hb dX1_findTypeFaults_86 rfl (lv_at hl 1 rfl) ?_
  refine cx_cVi (As := [.int (nI t)]) (rest := [.int (nI 7), .ref (q 4)]) ⟨hx, hb, hml, hown, hts⟩ hE hS (c_X4_wrongPermits l D q cI cJ n T k M d C J ga_76 t (by first | assumption | omega | rfl) (by first | assumption | omega | rfl) (by first | assumption | omega | rfl)) (cwV 1 hts gX1_findTypeFaults_X4_wrongPermits rfl rfl rfl (by decide +kernel) ⟨Nat.le_of_ble_eq_true rfl, Nat.le_of_ble_eq_true rfl⟩) 5 4 rfl rfl rfl hl.1 rfl (Nat.le_of_ble_eq_true rfl) ⟨Nat.zero_le _, Nat.zero_le _⟩ dX1_findTypeFaults_87 (fun r_87 u_87 H locs hp_87 hS => ?_)
  have hp_87 : (¬ r_87 = 0 ↔ cx_F7a n ((T 1)) (cx_Vc T) t ∨ cx_F7b n ((T 3)) (cx_Uc T) (cx_Vc T) t) := hp_87
  refine cx_cVv (As := [.int (nI 7), .int r_87]) (rest := []) ⟨hx, hb, hml, hown, hts⟩ hE hS (c_X1_putTypes l D q cI cJ n T k M d C J ga_76 7 r_87 (by first | assumption | omega | rfl)) (cwV 2 hts gX1_findTypeFaults_X1_putTypes rfl rfl rfl (by decide +kernel) ⟨Nat.le_of_ble_eq_true rfl, Nat.le_of_ble_eq_true rfl⟩) 4 1 rfl rfl rfl hl.1 rfl (Nat.le_of_ble_eq_true rfl) ⟨Nat.zero_le _, Nat.zero_le _⟩ dX1_findTypeFaults_90 (fun u_90 H locs hp_90 hS => ?_)
  obtain ⟨ga_90, rfl⟩ : ∃ z, z = u_90 := ⟨_, rfl⟩
  have hS : cx_S D vwCl A s (cxW q cI cJ n T k M d C J ga_90) H locs := hS
  have hp_90 : cx_pt ga_76 ga_90 7 r_87 := hp_90
  refine lv_aload_n hx hb dX1_findTypeFaults_93 rfl (lv_at hl 0 rfl) ?_
  refine lv_bipush (v := nI 8) hx hb dX1_findTypeFaults_94 (by decide) ?_
  refine lv_aload_n hx hb dX1_findTypeFaults_96 rfl (lv_at hl 0 rfl) ?_
  refine cx_get (own := RX1) (index := 43) (C := RX1) (T := TX1) (N := 9) (k := 3) (ci := 1) (v := .ref (q 5)) hx hb hts hown hE hS hinX1 4 rfl rfl (by decide) (List.mem_of_getElem? (i := 1) rfl) rfl dX1_findTypeFaults_97 ?_
  refine lv_iload_n hx hb dX1_findTypeFaults_100 rfl (lv_at hl 1 rfl) ?_
  refine cx_cVi (As := [.int (nI t)]) (rest := [.int (nI 8), .ref (q 4)]) ⟨hx, hb, hml, hown, hts⟩ hE hS (c_X4_twice l D q cI cJ n T k M d C J ga_90 t (by first | assumption | omega | rfl) (by first | assumption | omega | rfl)) (cwV 1 hts gX1_findTypeFaults_X4_twice rfl rfl rfl (by decide +kernel) ⟨Nat.le_of_ble_eq_true rfl, Nat.le_of_ble_eq_true rfl⟩) 5 4 rfl rfl rfl hl.1 rfl (Nat.le_of_ble_eq_true rfl) ⟨Nat.zero_le _, Nat.zero_le _⟩ dX1_findTypeFaults_101 (fun r_101 u_101 H locs hp_101 hS => ?_)
  have hp_101 : (¬ r_101 = 0 ↔ cx_F8 n (cx_Wc T) t) := hp_101
  refine cx_cVv (As := [.int (nI 8), .int r_101]) (rest := []) ⟨hx, hb, hml, hown, hts⟩ hE hS (c_X1_putTypes l D q cI cJ n T k M d C J ga_90 8 r_101 (by first | assumption | omega | rfl)) (cwV 2 hts gX1_findTypeFaults_X1_putTypes rfl rfl rfl (by decide +kernel) ⟨Nat.le_of_ble_eq_true rfl, Nat.le_of_ble_eq_true rfl⟩) 4 1 rfl rfl rfl hl.1 rfl (Nat.le_of_ble_eq_true rfl) ⟨Nat.zero_le _, Nat.zero_le _⟩ dX1_findTypeFaults_104 (fun u_104 H locs hp_104 hS => ?_)
  obtain ⟨ga_104, rfl⟩ : ∃ z, z = u_104 := ⟨_, rfl⟩
  have hS : cx_S D vwCl A s (cxW q cI cJ n T k M d C J ga_104) H locs := hS
  have hp_104 : cx_pt ga_90 ga_104 8 r_101 := hp_104
  exact RET (ga_104) _ _ _ _ dX1_findTypeFaults_107 (cx_tfE ht hn hg0 hp_10 hp_23 hp_36 hp_49 hp_62 hp_76 hp_90 hp_104 hp_7 hp_20 hp_33 hp_46 hp_59 hp_73 hp_87 hp_101) hS
set_option maxHeartbeats 4000000 in
set_option maxRecDepth 100000 in
theorem c_X1_findMemberFaults (l : Launch) (D : va_G) (q : Nat → Nat) (cI cJ : ClassId) (n : Nat) (T : Nat → Nat → Int32) (k : Nat) (M : Nat → Nat → Int32) (d : Nat) (C : Nat → Nat → Int32) (J : Nat → Nat → Int32) (g : Nat → Int64) (t : Nat) (hn : n ≤ 20) (hk : k ≤ 80) (hO : cx_R (M 0) 20) (hR3 : cx_R (M 3) 16) (ht : t < n) : cx_Mv l D vwCl [(cI, .int), (cJ, .long)] cx_NW yX1_findMemberFaults wsX1_findMemberFaults ({ frames := 3, cells := 0, slots := 0, locals := 67 } : Room) [.ref (q 4), .int (nI t)] (cxW q cI cJ n T k M d C J g) (fun (uw : (Nat → Int64)) => cx_G uw ↔ cx_G g ∨ cx_MF k (T 0) (T 1) M t) (fun uw => (cxW q cI cJ n T k M d C J uw)) := by
  refine cx_Mv.of (cc := cX1_findMemberFaults) (maxL := 3) cx_NW_ok (by decide) rfl (Nat.le_of_ble_eq_true rfl) ?_
  intro p e s m args below meth c Q A ls hx hb hml hown hts hE RET hS hl
  have hl : lv_has ls 3 [(0, .ref (q 4)), (1, .int (nI t))] := hl
  have hown : s.vm.findClass RX1 = some m.cls := hown
  have hinX1 : ∀ w ∈ u_ws RX1 TX1 9, w ∈ wsX1_findMemberFaults := cx_mem [63, 64, 65, 66, 67, 68, 69, 70, 71] (by decide +kernel)
  have hinX3 : ∀ w ∈ u_ws RX3 TX3 8, w ∈ wsX1_findMemberFaults := cx_mem [72, 73, 74, 75, 76, 77, 78, 79] (by decide +kernel)
  refine lv_iconst (v := (0 : Int32)) hx hb dX1_findMemberFaults_0 (by decide) ?_
  refine cx_topr (z := nI 0) (by decide) ?_
  refine lv_istore_n (lv' := [(2, .int (nI 0)), (0, .ref (q 4)), (1, .int (nI t))]) hx hb dX1_findMemberFaults_1 rfl hl (by decide) rfl (fun ls hl => ?_)
  have J2 : ∀ (N : Nat) (i2 : Nat) (g_2 : Nat → Int64) (H : Heap) (locs : List Loc) (ls : Array Slot), (k - i2 < N) → (i2 ≤ k) → (cx_G g_2 ↔ cx_G g ∨ ∃ j, j < i2 ∧ (cx_ow M j = t ∧ (cx_dbl M j ∨ cx_wm (T 0) (T 1) M j))) → cx_S D vwCl A s (cxW q cI cJ n T k M d C J g_2) H locs → lv_has ls 3 [(0, .ref (q 4)), (1, .int (nI t)), (2, .int (nI i2))] → W p l e ({ frames := 3, cells := 0, slots := 0, locals := 67 } : Room) s m args below meth c H locs 0 0 Q (F0 m 2 ls []) := by
    intro N2
    induction N2 with
    | zero => intro i2 g_2 H locs ls hN; exact absurd hN (by omega)
    | succ N2 ih2 =>
      intro i2 g_2 H locs ls hN2 hi2 hq hS hl
      refine lv_iload_n hx hb dX1_findMemberFaults_2 rfl (lv_at hl 2 rfl) ?_
      refine lv_aload_n hx hb dX1_findMemberFaults_3 rfl (lv_at hl 0 rfl) ?_
      refine cx_get (own := RX1) (index := 30) (C := RX1) (T := TX1) (N := 9) (k := 1) (ci := 1) (v := .ref (q 2)) hx hb hts hown hE hS hinX1 4 rfl rfl (by decide) (List.mem_of_getElem? (i := 1) rfl) rfl dX1_findMemberFaults_4 ?_
      refine cx_getN (own := RX1) (index := 129) (C := RX3) (T := TX3) (N := 8) (k := 7) (ci := 3) (host := "ClassRules") (v := .int (nI k)) hx hb hts hown hE hS hinX3 2 rfl rfl (by decide) (List.mem_of_getElem? (i := 31) rfl) rfl dX1_findMemberFaults_7 ?_
      refine lv_icmp_ge (tgt := 62) hx hb dX1_findMemberFaults_10 (by decide) (fun h10 => ?_) (fun h10 => ?_)
      · skip
        have g10 : k ≤ i2 := (nI_leI (a := k) (b := i2) (by omega) (by omega)).mp h10
        exact RET (g_2) _ _ _ _ dX1_findMemberFaults_62 (cx_goE hq (by omega) (by omega)) hS
      · skip
        have g10 : ¬ (k ≤ i2) := fun z => h10 ((nI_leI (a := k) (b := i2) (by omega) (by omega)).mpr z)
        refine lv_aload_n hx hb dX1_findMemberFaults_13 rfl (lv_at hl 0 rfl) ?_
        refine cx_get (own := RX1) (index := 30) (C := RX1) (T := TX1) (N := 9) (k := 1) (ci := 1) (v := .ref (q 2)) hx hb hts hown hE hS hinX1 4 rfl rfl (by decide) (List.mem_of_getElem? (i := 1) rfl) rfl dX1_findMemberFaults_14 ?_
        refine cx_getN (own := RX1) (index := 134) (C := RX3) (T := TX3) (N := 8) (k := 1) (ci := 3) (host := "ClassRules") (v := .ref (q 18)) hx hb hts hown hE hS hinX3 2 rfl rfl (by decide) (List.mem_of_getElem? (i := 21) rfl) rfl dX1_findMemberFaults_17 ?_
        refine lv_iload_n hx hb dX1_findMemberFaults_20 rfl (lv_at hl 2 rfl) ?_
        refine cx_iald (f := (M 0)) (n := 80) (cA := cI) hx hb hE hS 18 0 rfl rfl (by omega) (by decide) dX1_findMemberFaults_21 ?_
        have ho21 := (hO i2).2
        refine cx_topr (z := nI (((M 0) i2).toNatClampNeg)) (hO i2).1 ?_
        refine lv_iload_n hx hb dX1_findMemberFaults_22 rfl (lv_at hl 1 rfl) ?_
        have J56 : ∀ (g_56 : Nat → Int64) (H : Heap) (locs : List Loc) (ls : Array Slot), (cx_G g_56 ↔ cx_G g ∨ ∃ j, j < (i2 + 1) ∧ (cx_ow M j = t ∧ (cx_dbl M j ∨ cx_wm (T 0) (T 1) M j))) → cx_S D vwCl A s (cxW q cI cJ n T k M d C J g_56) H locs → lv_has ls 3 [(0, .ref (q 4)), (1, .int (nI t)), (2, .int (nI i2))] → W p l e ({ frames := 3, cells := 0, slots := 0, locals := 67 } : Room) s m args below meth c H locs 0 0 Q (F0 m 56 ls []) := by
          intro g_56 H locs ls hq2 hS hl
          refine lv_iinc (v := nI (i2 + 1)) (lv' := [(2, .int (nI (i2 + 1))), (0, .ref (q 4)), (1, .int (nI t))]) hx hb dX1_findMemberFaults_56 hl (k := 2) rfl (cx_inc _) (by decide) rfl (fun ls hl => ?_)
          refine lv_goto (tgt := 2) hx hb dX1_findMemberFaults_59 (by decide) ?_
          exact ih2 (i2 + 1) g_56 _ _ _ (by (try clear hq2); (try clear hq); omega) (by (try clear hq2); (try clear hq); omega) (by first | exact hq2 | exact cx_go0) hS (lv_sub hl [1, 2, 0] rfl)
        refine lv_icmp_ne (tgt := 56) hx hb dX1_findMemberFaults_23 (by decide) (fun h23 => ?_) (fun h23 => ?_)
        · skip
          have g23 : ¬ ((((M 0) i2).toNatClampNeg) = t) := fun z => h23 ((nI_eq (a := ((M 0) i2).toNatClampNeg) (b := t) (by omega) (by omega)).mpr z)
          exact J56 g_2 _ _ _ (by first | exact cx_goN (Q := fun j => cx_ow M j = t ∧ (cx_dbl M j ∨ cx_wm (T 0) (T 1) M j)) hq (fun z => g23 z.1) | exact cx_goS (Q := fun j => cx_ow M j = t ∧ (cx_dbl M j ∨ cx_wm (T 0) (T 1) M j)) hq (by rw [hp_53, hp_38, hp_32.2, hp_47.2]; exact ⟨fun z => z.elim (fun y => y.imp id (fun x => ⟨g23, Or.inl x⟩)) (fun y => Or.inr ⟨g23, Or.inr y⟩), fun z => z.elim (fun y => Or.inl (Or.inl y)) (fun y => y.2.elim (fun x => Or.inl (Or.inr x)) Or.inr)⟩)) hS (lv_sub hl [0, 1, 2] rfl)
        · skip
          have g23 : (((M 0) i2).toNatClampNeg) = t := (nI_eq (a := ((M 0) i2).toNatClampNeg) (b := t) (by omega) (by omega)).mp h23
          refine lv_aload_n hx hb dX1_findMemberFaults_26 rfl (lv_at hl 0 rfl) ?_
          refine lv_aload_n hx hb dX1_findMemberFaults_27 rfl (lv_at hl 0 rfl) ?_
          refine cx_get (own := RX1) (index := 52) (C := RX1) (T := TX1) (N := 9) (k := 4) (ci := 1) (v := .ref (q 6)) hx hb hts hown hE hS hinX1 4 rfl rfl (by decide) (List.mem_of_getElem? (i := 2) rfl) rfl dX1_findMemberFaults_28 ?_
          refine lv_iload_n hx hb dX1_findMemberFaults_31 rfl (lv_at hl 2 rfl) ?_
          refine cx_cVi (As := [.int (nI i2)]) (rest := [.ref (q 4)]) ⟨hx, hb, hml, hown, hts⟩ hE hS (c_X2_doubled l D q cI cJ n T k M d C J g_2 i2 (by first | assumption | omega | rfl)) (cwV 1 hts gX1_findMemberFaults_X2_doubled rfl rfl rfl (by decide +kernel) ⟨Nat.le_of_ble_eq_true rfl, Nat.le_of_ble_eq_true rfl⟩) 6 2 rfl rfl rfl hl.1 rfl (Nat.le_of_ble_eq_true rfl) ⟨Nat.zero_le _, Nat.zero_le _⟩ dX1_findMemberFaults_32 (fun r_32 u_32 H locs hp_32 hS => ?_)
          have hp_32 : (r_32 = 0 ∨ r_32 = 1) ∧ (¬ r_32 = 0 ↔ cx_dbl M i2) := hp_32
          refine lv_bipush (v := nI 10) hx hb dX1_findMemberFaults_35 (by decide) ?_
          refine lv_iload_n hx hb dX1_findMemberFaults_37 rfl (lv_at hl 2 rfl) ?_
          refine cx_cVv (As := [.int r_32, .int (nI 10), .int (nI i2)]) (rest := []) ⟨hx, hb, hml, hown, hts⟩ hE hS (c_X1_putIf l D q cI cJ n T k M d C J g_2 r_32 10 (nI i2) (by first | assumption | omega | rfl) (Or.inr (cx_ixI (by omega) (by decide)))) (cwV 3 hts gX1_findMemberFaults_X1_putIf rfl rfl rfl (by decide +kernel) ⟨Nat.le_of_ble_eq_true rfl, Nat.le_of_ble_eq_true rfl⟩) 4 1 rfl rfl rfl hl.1 rfl (Nat.le_of_ble_eq_true rfl) ⟨Nat.zero_le _, Nat.zero_le _⟩ dX1_findMemberFaults_38 (fun u_38 H locs hp_38 hS => ?_)
          obtain ⟨ga_38, rfl⟩ : ∃ z, z = u_38 := ⟨_, rfl⟩
          have hS : cx_S D vwCl A s (cxW q cI cJ n T k M d C J ga_38) H locs := hS
          have hp_38 : cx_G ga_38 ↔ cx_G g_2 ∨ ¬ r_32 = 0 := hp_38
          refine lv_aload_n hx hb dX1_findMemberFaults_41 rfl (lv_at hl 0 rfl) ?_
          refine lv_aload_n hx hb dX1_findMemberFaults_42 rfl (lv_at hl 0 rfl) ?_
          refine cx_get (own := RX1) (index := 52) (C := RX1) (T := TX1) (N := 9) (k := 4) (ci := 1) (v := .ref (q 6)) hx hb hts hown hE hS hinX1 4 rfl rfl (by decide) (List.mem_of_getElem? (i := 2) rfl) rfl dX1_findMemberFaults_43 ?_
          refine lv_iload_n hx hb dX1_findMemberFaults_46 rfl (lv_at hl 2 rfl) ?_
          refine cx_cVi (As := [.int (nI i2)]) (rest := [.ref (q 4)]) ⟨hx, hb, hml, hown, hts⟩ hE hS (c_X2_wrongMarks l D q cI cJ n T k M d C J ga_38 i2 (by first | assumption | omega | rfl) (by first | assumption | omega | rfl) (by first | assumption | omega | rfl)) (cwV 1 hts gX1_findMemberFaults_X2_wrongMarks rfl rfl rfl (by decide +kernel) ⟨Nat.le_of_ble_eq_true rfl, Nat.le_of_ble_eq_true rfl⟩) 6 2 rfl rfl rfl hl.1 rfl (Nat.le_of_ble_eq_true rfl) ⟨Nat.zero_le _, Nat.zero_le _⟩ dX1_findMemberFaults_47 (fun r_47 u_47 H locs hp_47 hS => ?_)
          have hp_47 : (r_47 = 0 ∨ r_47 = 1) ∧ (¬ r_47 = 0 ↔ cx_wm ((T 0)) ((T 1)) M i2) := hp_47
          refine lv_bipush (v := nI 11) hx hb dX1_findMemberFaults_50 (by decide) ?_
          refine lv_iload_n hx hb dX1_findMemberFaults_52 rfl (lv_at hl 2 rfl) ?_
          refine cx_cVv (As := [.int r_47, .int (nI 11), .int (nI i2)]) (rest := []) ⟨hx, hb, hml, hown, hts⟩ hE hS (c_X1_putIf l D q cI cJ n T k M d C J ga_38 r_47 11 (nI i2) (by first | assumption | omega | rfl) (Or.inr (cx_ixI (by omega) (by decide)))) (cwV 3 hts gX1_findMemberFaults_X1_putIf rfl rfl rfl (by decide +kernel) ⟨Nat.le_of_ble_eq_true rfl, Nat.le_of_ble_eq_true rfl⟩) 4 1 rfl rfl rfl hl.1 rfl (Nat.le_of_ble_eq_true rfl) ⟨Nat.zero_le _, Nat.zero_le _⟩ dX1_findMemberFaults_53 (fun u_53 H locs hp_53 hS => ?_)
          obtain ⟨ga_53, rfl⟩ : ∃ z, z = u_53 := ⟨_, rfl⟩
          have hS : cx_S D vwCl A s (cxW q cI cJ n T k M d C J ga_53) H locs := hS
          have hp_53 : cx_G ga_53 ↔ cx_G ga_38 ∨ ¬ r_47 = 0 := hp_53
          exact J56 ga_53 _ _ _ (by first | exact cx_goN (Q := fun j => cx_ow M j = t ∧ (cx_dbl M j ∨ cx_wm (T 0) (T 1) M j)) hq (fun z => g23 z.1) | exact cx_goS (Q := fun j => cx_ow M j = t ∧ (cx_dbl M j ∨ cx_wm (T 0) (T 1) M j)) hq (by rw [hp_53, hp_38, hp_32.2, hp_47.2]; exact ⟨fun z => z.elim (fun y => y.imp id (fun x => ⟨g23, Or.inl x⟩)) (fun y => Or.inr ⟨g23, Or.inr y⟩), fun z => z.elim (fun y => Or.inl (Or.inl y)) (fun y => y.2.elim (fun x => Or.inl (Or.inr x)) Or.inr)⟩)) hS (lv_sub hl [0, 1, 2] rfl)
  exact J2 (k - 0 + 1) 0 g _ _ _ (Nat.lt_succ_self _) (by (try clear hq); omega) (by first | exact hq2 | exact cx_go0) hS (lv_sub hl [1, 2, 0] rfl)
set_option maxHeartbeats 4000000 in
set_option maxRecDepth 100000 in
theorem c_X1_findOver (l : Launch) (D : va_G) (q : Nat → Nat) (cI cJ : ClassId) (n : Nat) (T : Nat → Nat → Int32) (k : Nat) (M : Nat → Nat → Int32) (d : Nat) (C : Nat → Nat → Int32) (J : Nat → Nat → Int32) (g : Nat → Int64) (t : Nat) (mm : Nat) (hn : n ≤ 20) (hk : k ≤ 80) (hO : cx_R (M 0) 20) (hOn : ∀ j, j < k → (M 0 j).toNatClampNeg < n) (ht : t < n) (hm : mm < k) : cx_Mv l D vwCl [(cI, .int), (cJ, .long)] cx_NW yX1_findOver wsX1_findOver ({ frames := 2, cells := 0, slots := 0, locals := 46 } : Room) [.ref (q 4), .int (nI t), .int (nI mm)] (cxW q cI cJ n T k M d C J g) (fun (uw : (Nat → Int64)) => cx_G uw ↔ cx_G g ∨ cx_ov n k (T 0) (T 2) M (cx_Ac T n) t mm) (fun uw => (cxW q cI cJ n T k M d C J uw)) := by
  refine cx_Mv.of (cc := cX1_findOver) (maxL := 4) cx_NW_ok (by decide) rfl (Nat.le_of_ble_eq_true rfl) ?_
  intro p e s m args below meth c Q A ls hx hb hml hown hts hE RET hS hl
  have hl : lv_has ls 4 [(0, .ref (q 4)), (1, .int (nI t)), (2, .int (nI mm))] := hl
  have hown : s.vm.findClass RX1 = some m.cls := hown
  have hinX1 : ∀ w ∈ u_ws RX1 TX1 9, w ∈ wsX1_findOver := cx_mem [61, 62, 63, 64, 65, 66, 67, 68, 69] (by decide +kernel)
  have hinX3 : ∀ w ∈ u_ws RX3 TX3 8, w ∈ wsX1_findOver := cx_mem [70, 71, 72, 73, 74, 75, 76, 77] (by decide +kernel)
  refine lv_iconst (v := (0 : Int32)) hx hb dX1_findOver_0 (by decide) ?_
  refine cx_topr (z := nI 0) (by decide) ?_
  refine lv_istore_n (lv' := [(3, .int (nI 0)), (0, .ref (q 4)), (1, .int (nI t)), (2, .int (nI mm))]) hx hb dX1_findOver_1 rfl hl (by decide) rfl (fun ls hl => ?_)
  have J2 : ∀ (N : Nat) (i2 : Nat) (g_2 : Nat → Int64) (H : Heap) (locs : List Loc) (ls : Array Slot), (k - i2 < N) → (i2 ≤ k) → (cx_G g_2 ↔ cx_G g ∨ ∃ j, j < i2 ∧ (cx_lk M j mm ∧ cx_sh (T 0) (T 2) M (cx_Ac T n) j t ∧ cx_ov1 n M (cx_Ac T n) mm j)) → cx_S D vwCl A s (cxW q cI cJ n T k M d C J g_2) H locs → lv_has ls 4 [(0, .ref (q 4)), (1, .int (nI t)), (2, .int (nI mm)), (3, .int (nI i2))] → W p l e ({ frames := 2, cells := 0, slots := 0, locals := 46 } : Room) s m args below meth c H locs 0 0 Q (F0 m 2 ls []) := by
    intro N2
    induction N2 with
    | zero => intro i2 g_2 H locs ls hN; exact absurd hN (by omega)
    | succ N2 ih2 =>
      intro i2 g_2 H locs ls hN2 hi2 hq hS hl
      refine lv_iload_n hx hb dX1_findOver_2 rfl (lv_at hl 3 rfl) ?_
      refine lv_aload_n hx hb dX1_findOver_3 rfl (lv_at hl 0 rfl) ?_
      refine cx_get (own := RX1) (index := 30) (C := RX1) (T := TX1) (N := 9) (k := 1) (ci := 1) (v := .ref (q 2)) hx hb hts hown hE hS hinX1 4 rfl rfl (by decide) (List.mem_of_getElem? (i := 1) rfl) rfl dX1_findOver_4 ?_
      refine cx_getN (own := RX1) (index := 129) (C := RX3) (T := TX3) (N := 8) (k := 7) (ci := 3) (host := "ClassRules") (v := .int (nI k)) hx hb hts hown hE hS hinX3 2 rfl rfl (by decide) (List.mem_of_getElem? (i := 31) rfl) rfl dX1_findOver_7 ?_
      refine lv_icmp_ge (tgt := 165) hx hb dX1_findOver_10 (by decide) (fun h10 => ?_) (fun h10 => ?_)
      · skip
        have g10 : k ≤ i2 := (nI_leI (a := k) (b := i2) (by omega) (by omega)).mp h10
        exact RET (g_2) _ _ _ _ dX1_findOver_165 (cx_goE hq (by omega) (by omega)) hS
      · skip
        have g10 : ¬ (k ≤ i2) := fun z => h10 ((nI_leI (a := k) (b := i2) (by omega) (by omega)).mpr z)
        refine lv_aload_n hx hb dX1_findOver_13 rfl (lv_at hl 0 rfl) ?_
        refine cx_get (own := RX1) (index := 30) (C := RX1) (T := TX1) (N := 9) (k := 1) (ci := 1) (v := .ref (q 2)) hx hb hts hown hE hS hinX1 4 rfl rfl (by decide) (List.mem_of_getElem? (i := 1) rfl) rfl dX1_findOver_14 ?_
        refine lv_iload_n hx hb dX1_findOver_17 rfl (lv_at hl 3 rfl) ?_
        refine lv_iload_n hx hb dX1_findOver_18 rfl (lv_at hl 2 rfl) ?_
        refine cx_cVi (As := [.int (nI i2), .int (nI mm)]) (rest := []) ⟨hx, hb, hml, hown, hts⟩ hE hS (c_X3_alike l D q cI cJ n T k M d C J g_2 i2 mm (by first | assumption | omega | rfl) (by first | assumption | omega | rfl)) (cwV 2 hts gX1_findOver_X3_alike rfl rfl rfl (by decide +kernel) ⟨Nat.le_of_ble_eq_true rfl, Nat.le_of_ble_eq_true rfl⟩) 2 3 rfl rfl rfl hl.1 rfl (Nat.le_of_ble_eq_true rfl) ⟨Nat.zero_le _, Nat.zero_le _⟩ dX1_findOver_19 (fun r_19 u_19 H locs hp_19 hS => ?_)
        have hp_19 : (r_19 = 0 ∨ r_19 = 1) ∧ (¬ r_19 = 0 ↔ cx_lk M i2 mm) := hp_19
        have J159 : ∀ (g_159 : Nat → Int64) (H : Heap) (locs : List Loc) (ls : Array Slot), (cx_G g_159 ↔ cx_G g ∨ ∃ j, j < (i2 + 1) ∧ (cx_lk M j mm ∧ cx_sh (T 0) (T 2) M (cx_Ac T n) j t ∧ cx_ov1 n M (cx_Ac T n) mm j)) → cx_S D vwCl A s (cxW q cI cJ n T k M d C J g_159) H locs → lv_has ls 4 [(0, .ref (q 4)), (1, .int (nI t)), (2, .int (nI mm)), (3, .int (nI i2))] → W p l e ({ frames := 2, cells := 0, slots := 0, locals := 46 } : Room) s m args below meth c H locs 0 0 Q (F0 m 159 ls []) := by
          intro g_159 H locs ls hq2 hS hl
          refine lv_iinc (v := nI (i2 + 1)) (lv' := [(3, .int (nI (i2 + 1))), (0, .ref (q 4)), (1, .int (nI t)), (2, .int (nI mm))]) hx hb dX1_findOver_159 hl (k := 3) rfl (cx_inc _) (by decide) rfl (fun ls hl => ?_)
          refine lv_goto (tgt := 2) hx hb dX1_findOver_162 (by decide) ?_
          exact ih2 (i2 + 1) g_159 _ _ _ (by (try clear hq2); (try clear hq); omega) (by (try clear hq2); (try clear hq); omega) (by first | exact hq2 | exact cx_go0) hS (lv_sub hl [1, 2, 3, 0] rfl)
        refine lv_if_eq (tgt := 159) hx hb dX1_findOver_22 (by decide) (fun h22 => ?_) (fun h22 => ?_)
        · skip
          have g22 : ¬ (cx_lk M i2 mm) := fun z => hp_19.2.mpr z h22
          exact J159 g_2 _ _ _ (by first | exact cx_goN (Q := fun j => cx_lk M j mm ∧ cx_sh (T 0) (T 2) M (cx_Ac T n) j t ∧ cx_ov1 n M (cx_Ac T n) mm j) hq (fun z => g22 z.1) | exact cx_goN (Q := fun j => cx_lk M j mm ∧ cx_sh (T 0) (T 2) M (cx_Ac T n) j t ∧ cx_ov1 n M (cx_Ac T n) mm j) hq (fun z => g34 z.2.1) | exact cx_goS (Q := fun j => cx_lk M j mm ∧ cx_sh (T 0) (T 2) M (cx_Ac T n) j t ∧ cx_ov1 n M (cx_Ac T n) mm j) hq (cx_ovS g22 g34 hp_50 hp_83 hp_116 hp_156 hp_44.2 b80.2 b113.2 b153.2)) hS (lv_sub hl [0, 1, 2, 3] rfl)
        · skip
          have g22 : cx_lk M i2 mm := hp_19.2.mp h22
          refine lv_aload_n hx hb dX1_findOver_25 rfl (lv_at hl 0 rfl) ?_
          refine cx_get (own := RX1) (index := 30) (C := RX1) (T := TX1) (N := 9) (k := 1) (ci := 1) (v := .ref (q 2)) hx hb hts hown hE hS hinX1 4 rfl rfl (by decide) (List.mem_of_getElem? (i := 1) rfl) rfl dX1_findOver_26 ?_
          refine lv_iload_n hx hb dX1_findOver_29 rfl (lv_at hl 3 rfl) ?_
          refine lv_iload_n hx hb dX1_findOver_30 rfl (lv_at hl 1 rfl) ?_
          refine cx_cVi (As := [.int (nI i2), .int (nI t)]) (rest := []) ⟨hx, hb, hml, hown, hts⟩ hE hS (c_X3_shared l D q cI cJ n T k M d C J g_2 i2 t (by first | assumption | omega | rfl) (by first | assumption | omega | rfl) (by first | assumption | omega | rfl) (by first | assumption | omega | rfl) (by first | assumption | omega | rfl) (by first | assumption | omega | rfl)) (cwV 2 hts gX1_findOver_X3_shared rfl rfl rfl (by decide +kernel) ⟨Nat.le_of_ble_eq_true rfl, Nat.le_of_ble_eq_true rfl⟩) 2 3 rfl rfl rfl hl.1 rfl (Nat.le_of_ble_eq_true rfl) ⟨Nat.zero_le _, Nat.zero_le _⟩ dX1_findOver_31 (fun r_31 u_31 H locs hp_31 hS => ?_)
          have hp_31 : (r_31 = 0 ∨ r_31 = 1) ∧ (¬ r_31 = 0 ↔ cx_sh ((T 0)) ((T 2)) M (cx_Ac T n) i2 t) := hp_31
          refine lv_if_eq (tgt := 159) hx hb dX1_findOver_34 (by decide) (fun h34 => ?_) (fun h34 => ?_)
          · skip
            have g34 : ¬ (cx_sh ((T 0)) ((T 2)) M (cx_Ac T n) i2 t) := fun z => hp_31.2.mpr z h34
            exact J159 g_2 _ _ _ (by first | exact cx_goN (Q := fun j => cx_lk M j mm ∧ cx_sh (T 0) (T 2) M (cx_Ac T n) j t ∧ cx_ov1 n M (cx_Ac T n) mm j) hq (fun z => g22 z.1) | exact cx_goN (Q := fun j => cx_lk M j mm ∧ cx_sh (T 0) (T 2) M (cx_Ac T n) j t ∧ cx_ov1 n M (cx_Ac T n) mm j) hq (fun z => g34 z.2.1) | exact cx_goS (Q := fun j => cx_lk M j mm ∧ cx_sh (T 0) (T 2) M (cx_Ac T n) j t ∧ cx_ov1 n M (cx_Ac T n) mm j) hq (cx_ovS g22 g34 hp_50 hp_83 hp_116 hp_156 hp_44.2 b80.2 b113.2 b153.2)) hS (lv_sub hl [0, 1, 2, 3] rfl)
          · skip
            have g34 : cx_sh ((T 0)) ((T 2)) M (cx_Ac T n) i2 t := hp_31.2.mp h34
            refine lv_aload_n hx hb dX1_findOver_37 rfl (lv_at hl 0 rfl) ?_
            refine lv_aload_n hx hb dX1_findOver_38 rfl (lv_at hl 0 rfl) ?_
            refine cx_get (own := RX1) (index := 30) (C := RX1) (T := TX1) (N := 9) (k := 1) (ci := 1) (v := .ref (q 2)) hx hb hts hown hE hS hinX1 4 rfl rfl (by decide) (List.mem_of_getElem? (i := 1) rfl) rfl dX1_findOver_39 ?_
            refine lv_iload_n hx hb dX1_findOver_42 rfl (lv_at hl 3 rfl) ?_
            refine lv_iconst (v := nI 2) hx hb dX1_findOver_43 (by decide) ?_
            refine cx_cVi (As := [.int (nI i2), .int (nI 2)]) (rest := [.ref (q 4)]) ⟨hx, hb, hml, hown, hts⟩ hE hS (c_X3_marked l D q cI cJ n T k M d C J g_2 i2 (nI 2) (by first | assumption | omega | rfl)) (cwV 2 hts gX1_findOver_X3_marked rfl rfl rfl (by decide +kernel) ⟨Nat.le_of_ble_eq_true rfl, Nat.le_of_ble_eq_true rfl⟩) 2 3 rfl rfl rfl hl.1 rfl (Nat.le_of_ble_eq_true rfl) ⟨Nat.zero_le _, Nat.zero_le _⟩ dX1_findOver_44 (fun r_44 u_44 H locs hp_44 hS => ?_)
            have hp_44 : (r_44 = 0 ∨ r_44 = 1) ∧ (¬ r_44 = 0 ↔ cx_mk ((M 3)) i2 (nI 2)) := hp_44
            refine lv_bipush (v := nI 12) hx hb dX1_findOver_47 (by decide) ?_
            refine lv_iload_n hx hb dX1_findOver_49 rfl (lv_at hl 2 rfl) ?_
            refine cx_cVv (As := [.int r_44, .int (nI 12), .int (nI mm)]) (rest := []) ⟨hx, hb, hml, hown, hts⟩ hE hS (c_X1_putIf l D q cI cJ n T k M d C J g_2 r_44 12 (nI mm) (by first | assumption | omega | rfl) (Or.inr (cx_ixI (by omega) (by decide)))) (cwV 3 hts gX1_findOver_X1_putIf rfl rfl rfl (by decide +kernel) ⟨Nat.le_of_ble_eq_true rfl, Nat.le_of_ble_eq_true rfl⟩) 4 1 rfl rfl rfl hl.1 rfl (Nat.le_of_ble_eq_true rfl) ⟨Nat.zero_le _, Nat.zero_le _⟩ dX1_findOver_50 (fun u_50 H locs hp_50 hS => ?_)
            obtain ⟨ga_50, rfl⟩ : ∃ z, z = u_50 := ⟨_, rfl⟩
            have hS : cx_S D vwCl A s (cxW q cI cJ n T k M d C J ga_50) H locs := hS
            have hp_50 : cx_G ga_50 ↔ cx_G g_2 ∨ ¬ r_44 = 0 := hp_50
            refine lv_aload_n hx hb dX1_findOver_53 rfl (lv_at hl 0 rfl) ?_
            refine lv_aload_n hx hb dX1_findOver_54 rfl (lv_at hl 0 rfl) ?_
            refine cx_get (own := RX1) (index := 30) (C := RX1) (T := TX1) (N := 9) (k := 1) (ci := 1) (v := .ref (q 2)) hx hb hts hown hE hS hinX1 4 rfl rfl (by decide) (List.mem_of_getElem? (i := 1) rfl) rfl dX1_findOver_55 ?_
            refine lv_iload_n hx hb dX1_findOver_58 rfl (lv_at hl 3 rfl) ?_
            refine lv_iconst (v := nI 4) hx hb dX1_findOver_59 (by decide) ?_
            refine cx_cVi (As := [.int (nI i2), .int (nI 4)]) (rest := [.ref (q 4)]) ⟨hx, hb, hml, hown, hts⟩ hE hS (c_X3_marked l D q cI cJ n T k M d C J ga_50 i2 (nI 4) (by first | assumption | omega | rfl)) (cwV 2 hts gX1_findOver_X3_marked rfl rfl rfl (by decide +kernel) ⟨Nat.le_of_ble_eq_true rfl, Nat.le_of_ble_eq_true rfl⟩) 2 3 rfl rfl rfl hl.1 rfl (Nat.le_of_ble_eq_true rfl) ⟨Nat.zero_le _, Nat.zero_le _⟩ dX1_findOver_60 (fun r_60 u_60 H locs hp_60 hS => ?_)
            have hp_60 : (r_60 = 0 ∨ r_60 = 1) ∧ (¬ r_60 = 0 ↔ cx_mk ((M 3)) i2 (nI 4)) := hp_60
            refine lv_aload_n hx hb dX1_findOver_63 rfl (lv_at hl 0 rfl) ?_
            refine cx_get (own := RX1) (index := 30) (C := RX1) (T := TX1) (N := 9) (k := 1) (ci := 1) (v := .ref (q 2)) hx hb hts hown hE hS hinX1 4 rfl rfl (by decide) (List.mem_of_getElem? (i := 1) rfl) rfl dX1_findOver_64 ?_
            refine lv_iload_n hx hb dX1_findOver_67 rfl (lv_at hl 2 rfl) ?_
            refine lv_iconst (v := nI 4) hx hb dX1_findOver_68 (by decide) ?_
            refine cx_cVi (As := [.int (nI mm), .int (nI 4)]) (rest := [.int r_60, .ref (q 4)]) ⟨hx, hb, hml, hown, hts⟩ hE hS (c_X3_marked l D q cI cJ n T k M d C J ga_50 mm (nI 4) (by first | assumption | omega | rfl)) (cwV 2 hts gX1_findOver_X3_marked rfl rfl rfl (by decide +kernel) ⟨Nat.le_of_ble_eq_true rfl, Nat.le_of_ble_eq_true rfl⟩) 2 3 rfl rfl rfl hl.1 rfl (Nat.le_of_ble_eq_true rfl) ⟨Nat.zero_le _, Nat.zero_le _⟩ dX1_findOver_69 (fun r_69 u_69 H locs hp_69 hS => ?_)
            have hp_69 : (r_69 = 0 ∨ r_69 = 1) ∧ (¬ r_69 = 0 ↔ cx_mk ((M 3)) mm (nI 4)) := hp_69
            have J80 : ∀ (v80_s0 : Int32) (H : Heap) (locs : List Loc) (ls : Array Slot), ((v80_s0 = 0 ∨ v80_s0 = 1) ∧ (¬ v80_s0 = 0 ↔ ¬ (cx_mk (M 3) i2 (nI 4) ↔ cx_mk (M 3) mm (nI 4)))) → cx_S D vwCl A s (cxW q cI cJ n T k M d C J ga_50) H locs → lv_has ls 4 [(0, .ref (q 4)), (1, .int (nI t)), (2, .int (nI mm)), (3, .int (nI i2))] → W p l e ({ frames := 2, cells := 0, slots := 0, locals := 46 } : Room) s m args below meth c H locs 0 0 Q (F0 m 80 ls [.int v80_s0, .ref (q 4)]) := by
              intro v80_s0 H locs ls b80 hS hl
              refine lv_bipush (v := nI 13) hx hb dX1_findOver_80 (by decide) ?_
              refine lv_iload_n hx hb dX1_findOver_82 rfl (lv_at hl 2 rfl) ?_
              refine cx_cVv (As := [.int v80_s0, .int (nI 13), .int (nI mm)]) (rest := []) ⟨hx, hb, hml, hown, hts⟩ hE hS (c_X1_putIf l D q cI cJ n T k M d C J ga_50 v80_s0 13 (nI mm) (by first | assumption | omega | rfl) (Or.inr (cx_ixI (by omega) (by decide)))) (cwV 3 hts gX1_findOver_X1_putIf rfl rfl rfl (by decide +kernel) ⟨Nat.le_of_ble_eq_true rfl, Nat.le_of_ble_eq_true rfl⟩) 4 1 rfl rfl rfl hl.1 rfl (Nat.le_of_ble_eq_true rfl) ⟨Nat.zero_le _, Nat.zero_le _⟩ dX1_findOver_83 (fun u_83 H locs hp_83 hS => ?_)
              obtain ⟨ga_83, rfl⟩ : ∃ z, z = u_83 := ⟨_, rfl⟩
              have hS : cx_S D vwCl A s (cxW q cI cJ n T k M d C J ga_83) H locs := hS
              have hp_83 : cx_G ga_83 ↔ cx_G ga_50 ∨ ¬ v80_s0 = 0 := hp_83
              refine lv_aload_n hx hb dX1_findOver_86 rfl (lv_at hl 0 rfl) ?_
              refine lv_aload_n hx hb dX1_findOver_87 rfl (lv_at hl 0 rfl) ?_
              refine cx_get (own := RX1) (index := 30) (C := RX1) (T := TX1) (N := 9) (k := 1) (ci := 1) (v := .ref (q 2)) hx hb hts hown hE hS hinX1 4 rfl rfl (by decide) (List.mem_of_getElem? (i := 1) rfl) rfl dX1_findOver_88 ?_
              refine cx_getN (own := RX1) (index := 146) (C := RX3) (T := TX3) (N := 8) (k := 5) (ci := 3) (host := "ClassRules") (v := .ref (q 22)) hx hb hts hown hE hS hinX3 2 rfl rfl (by decide) (List.mem_of_getElem? (i := 27) rfl) rfl dX1_findOver_91 ?_
              refine lv_iload_n hx hb dX1_findOver_94 rfl (lv_at hl 3 rfl) ?_
              refine cx_iald (f := (M 4)) (n := 80) (cA := cI) hx hb hE hS 22 0 rfl rfl (by omega) (by decide) dX1_findOver_95 ?_
              refine lv_aload_n hx hb dX1_findOver_96 rfl (lv_at hl 0 rfl) ?_
              refine cx_get (own := RX1) (index := 30) (C := RX1) (T := TX1) (N := 9) (k := 1) (ci := 1) (v := .ref (q 2)) hx hb hts hown hE hS hinX1 4 rfl rfl (by decide) (List.mem_of_getElem? (i := 1) rfl) rfl dX1_findOver_97 ?_
              refine cx_getN (own := RX1) (index := 146) (C := RX3) (T := TX3) (N := 8) (k := 5) (ci := 3) (host := "ClassRules") (v := .ref (q 22)) hx hb hts hown hE hS hinX3 2 rfl rfl (by decide) (List.mem_of_getElem? (i := 27) rfl) rfl dX1_findOver_100 ?_
              refine lv_iload_n hx hb dX1_findOver_103 rfl (lv_at hl 2 rfl) ?_
              refine cx_iald (f := (M 4)) (n := 80) (cA := cI) hx hb hE hS 22 0 rfl rfl (by omega) (by decide) dX1_findOver_104 ?_
              have J113 : ∀ (v113_s0 : Int32) (H : Heap) (locs : List Loc) (ls : Array Slot), ((v113_s0 = 0 ∨ v113_s0 = 1) ∧ (¬ v113_s0 = 0 ↔ M 4 mm < M 4 i2)) → cx_S D vwCl A s (cxW q cI cJ n T k M d C J ga_83) H locs → lv_has ls 4 [(0, .ref (q 4)), (1, .int (nI t)), (2, .int (nI mm)), (3, .int (nI i2))] → W p l e ({ frames := 2, cells := 0, slots := 0, locals := 46 } : Room) s m args below meth c H locs 0 0 Q (F0 m 113 ls [.int v113_s0, .ref (q 4)]) := by
                intro v113_s0 H locs ls b113 hS hl
                refine lv_bipush (v := nI 14) hx hb dX1_findOver_113 (by decide) ?_
                refine lv_iload_n hx hb dX1_findOver_115 rfl (lv_at hl 2 rfl) ?_
                refine cx_cVv (As := [.int v113_s0, .int (nI 14), .int (nI mm)]) (rest := []) ⟨hx, hb, hml, hown, hts⟩ hE hS (c_X1_putIf l D q cI cJ n T k M d C J ga_83 v113_s0 14 (nI mm) (by first | assumption | omega | rfl) (Or.inr (cx_ixI (by omega) (by decide)))) (cwV 3 hts gX1_findOver_X1_putIf rfl rfl rfl (by decide +kernel) ⟨Nat.le_of_ble_eq_true rfl, Nat.le_of_ble_eq_true rfl⟩) 4 1 rfl rfl rfl hl.1 rfl (Nat.le_of_ble_eq_true rfl) ⟨Nat.zero_le _, Nat.zero_le _⟩ dX1_findOver_116 (fun u_116 H locs hp_116 hS => ?_)
                obtain ⟨ga_116, rfl⟩ : ∃ z, z = u_116 := ⟨_, rfl⟩
                have hS : cx_S D vwCl A s (cxW q cI cJ n T k M d C J ga_116) H locs := hS
                have hp_116 : cx_G ga_116 ↔ cx_G ga_83 ∨ ¬ v113_s0 = 0 := hp_116
                refine lv_aload_n hx hb dX1_findOver_119 rfl (lv_at hl 0 rfl) ?_
                refine lv_aload_n hx hb dX1_findOver_120 rfl (lv_at hl 0 rfl) ?_
                refine cx_get (own := RX1) (index := 52) (C := RX1) (T := TX1) (N := 9) (k := 4) (ci := 1) (v := .ref (q 6)) hx hb hts hown hE hS hinX1 4 rfl rfl (by decide) (List.mem_of_getElem? (i := 2) rfl) rfl dX1_findOver_121 ?_
                refine lv_aload_n hx hb dX1_findOver_124 rfl (lv_at hl 0 rfl) ?_
                refine cx_get (own := RX1) (index := 30) (C := RX1) (T := TX1) (N := 9) (k := 1) (ci := 1) (v := .ref (q 2)) hx hb hts hown hE hS hinX1 4 rfl rfl (by decide) (List.mem_of_getElem? (i := 1) rfl) rfl dX1_findOver_125 ?_
                refine cx_getN (own := RX1) (index := 161) (C := RX3) (T := TX3) (N := 8) (k := 6) (ci := 3) (host := "ClassRules") (v := .ref (q 23)) hx hb hts hown hE hS hinX3 2 rfl rfl (by decide) (List.mem_of_getElem? (i := 28) rfl) rfl dX1_findOver_128 ?_
                refine lv_iload_n hx hb dX1_findOver_131 rfl (lv_at hl 2 rfl) ?_
                refine cx_iald (f := (M 5)) (n := 80) (cA := cI) hx hb hE hS 23 0 rfl rfl (by omega) (by decide) dX1_findOver_132 ?_
                refine lv_aload_n hx hb dX1_findOver_133 rfl (lv_at hl 0 rfl) ?_
                refine cx_get (own := RX1) (index := 30) (C := RX1) (T := TX1) (N := 9) (k := 1) (ci := 1) (v := .ref (q 2)) hx hb hts hown hE hS hinX1 4 rfl rfl (by decide) (List.mem_of_getElem? (i := 1) rfl) rfl dX1_findOver_134 ?_
                refine cx_getN (own := RX1) (index := 161) (C := RX3) (T := TX3) (N := 8) (k := 6) (ci := 3) (host := "ClassRules") (v := .ref (q 23)) hx hb hts hown hE hS hinX3 2 rfl rfl (by decide) (List.mem_of_getElem? (i := 28) rfl) rfl dX1_findOver_137 ?_
                refine lv_iload_n hx hb dX1_findOver_140 rfl (lv_at hl 3 rfl) ?_
                refine cx_iald (f := (M 5)) (n := 80) (cA := cI) hx hb hE hS 23 0 rfl rfl (by omega) (by decide) dX1_findOver_141 ?_
                refine cx_cVi (As := [.int ((M 5) mm), .int ((M 5) i2)]) (rest := [.ref (q 4)]) ⟨hx, hb, hml, hown, hts⟩ hE hS (c_X2_resultFits l D q cI cJ n T k M d C J ga_116 ((M 5) mm) ((M 5) i2) (by first | assumption | omega | rfl)) (cwV 2 hts gX1_findOver_X2_resultFits rfl rfl rfl (by decide +kernel) ⟨Nat.le_of_ble_eq_true rfl, Nat.le_of_ble_eq_true rfl⟩) 6 2 rfl rfl rfl hl.1 rfl (Nat.le_of_ble_eq_true rfl) ⟨Nat.zero_le _, Nat.zero_le _⟩ dX1_findOver_142 (fun r_142 u_142 H locs hp_142 hS => ?_)
                have hp_142 : (r_142 = 0 ∨ r_142 = 1) ∧ (¬ r_142 = 0 ↔ cx_ft n (cx_Ac T n) ((M 5) mm) ((M 5) i2)) := hp_142
                have J153 : ∀ (v153_s0 : Int32) (H : Heap) (locs : List Loc) (ls : Array Slot), ((v153_s0 = 0 ∨ v153_s0 = 1) ∧ (¬ v153_s0 = 0 ↔ ¬ cx_ft n (cx_Ac T n) (M 5 mm) (M 5 i2))) → cx_S D vwCl A s (cxW q cI cJ n T k M d C J ga_116) H locs → lv_has ls 4 [(0, .ref (q 4)), (1, .int (nI t)), (2, .int (nI mm)), (3, .int (nI i2))] → W p l e ({ frames := 2, cells := 0, slots := 0, locals := 46 } : Room) s m args below meth c H locs 0 0 Q (F0 m 153 ls [.int v153_s0, .ref (q 4)]) := by
                  intro v153_s0 H locs ls b153 hS hl
                  refine lv_bipush (v := nI 15) hx hb dX1_findOver_153 (by decide) ?_
                  refine lv_iload_n hx hb dX1_findOver_155 rfl (lv_at hl 2 rfl) ?_
                  refine cx_cVv (As := [.int v153_s0, .int (nI 15), .int (nI mm)]) (rest := []) ⟨hx, hb, hml, hown, hts⟩ hE hS (c_X1_putIf l D q cI cJ n T k M d C J ga_116 v153_s0 15 (nI mm) (by first | assumption | omega | rfl) (Or.inr (cx_ixI (by omega) (by decide)))) (cwV 3 hts gX1_findOver_X1_putIf rfl rfl rfl (by decide +kernel) ⟨Nat.le_of_ble_eq_true rfl, Nat.le_of_ble_eq_true rfl⟩) 4 1 rfl rfl rfl hl.1 rfl (Nat.le_of_ble_eq_true rfl) ⟨Nat.zero_le _, Nat.zero_le _⟩ dX1_findOver_156 (fun u_156 H locs hp_156 hS => ?_)
                  obtain ⟨ga_156, rfl⟩ : ∃ z, z = u_156 := ⟨_, rfl⟩
                  have hS : cx_S D vwCl A s (cxW q cI cJ n T k M d C J ga_156) H locs := hS
                  have hp_156 : cx_G ga_156 ↔ cx_G ga_116 ∨ ¬ v153_s0 = 0 := hp_156
                  exact J159 ga_156 _ _ _ (by first | exact cx_goN (Q := fun j => cx_lk M j mm ∧ cx_sh (T 0) (T 2) M (cx_Ac T n) j t ∧ cx_ov1 n M (cx_Ac T n) mm j) hq (fun z => g22 z.1) | exact cx_goN (Q := fun j => cx_lk M j mm ∧ cx_sh (T 0) (T 2) M (cx_Ac T n) j t ∧ cx_ov1 n M (cx_Ac T n) mm j) hq (fun z => g34 z.2.1) | exact cx_goS (Q := fun j => cx_lk M j mm ∧ cx_sh (T 0) (T 2) M (cx_Ac T n) j t ∧ cx_ov1 n M (cx_Ac T n) mm j) hq (cx_ovS g22 g34 hp_50 hp_83 hp_116 hp_156 hp_44.2 b80.2 b113.2 b153.2)) hS (lv_sub hl [0, 1, 2, 3] rfl)
                refine lv_if_ne (tgt := 152) hx hb dX1_findOver_145 (by decide) (fun h145 => ?_) (fun h145 => ?_)
                · skip
                  have g145 : cx_ft n (cx_Ac T n) ((M 5) mm) ((M 5) i2) := hp_142.2.mp h145
                  refine lv_iconst (v := (0 : Int32)) hx hb dX1_findOver_152 (by decide) ?_
                  exact J153 (0 : Int32) _ _ _ (cx_e0 (by (try clear RET); (try clear hS); (try clear hl); (try clear hE); (try clear hts); (try clear hb); (try clear hx); (try clear hml); (try clear hown); (try clear hinX1); (try clear hinX3); (try clear J2); (try clear ih2); (try clear hN2); (try clear J159); (try clear J80); (try clear J113); (try clear J153); have y10 : ¬ (1 : Int32) = 0 := (by decide); first | assumption | (grind [Int32.not_le]))) hS (lv_sub hl [0, 1, 2, 3] rfl)
                · skip
                  have g145 : ¬ (cx_ft n (cx_Ac T n) ((M 5) mm) ((M 5) i2)) := fun z => hp_142.2.mpr z h145
                  refine lv_iconst (v := (1 : Int32)) hx hb dX1_findOver_148 (by decide) ?_
                  refine lv_goto (tgt := 153) hx hb dX1_findOver_149 (by decide) ?_
                  exact J153 (1 : Int32) _ _ _ (cx_e1 (by (try clear RET); (try clear hS); (try clear hl); (try clear hE); (try clear hts); (try clear hb); (try clear hx); (try clear hml); (try clear hown); (try clear hinX1); (try clear hinX3); (try clear J2); (try clear ih2); (try clear hN2); (try clear J159); (try clear J80); (try clear J113); (try clear J153); have y10 : ¬ (1 : Int32) = 0 := (by decide); first | assumption | (grind [Int32.not_le]))) hS (lv_sub hl [0, 1, 2, 3] rfl)
              refine lv_icmp_le (tgt := 112) hx hb dX1_findOver_105 (by decide) (fun h105 => ?_) (fun h105 => ?_)
              · skip
                refine lv_iconst (v := (0 : Int32)) hx hb dX1_findOver_112 (by decide) ?_
                exact J113 (0 : Int32) _ _ _ (cx_e0 (by (try clear RET); (try clear hS); (try clear hl); (try clear hE); (try clear hts); (try clear hb); (try clear hx); (try clear hml); (try clear hown); (try clear hinX1); (try clear hinX3); (try clear J2); (try clear ih2); (try clear hN2); (try clear J159); (try clear J80); (try clear J113); have y10 : ¬ (1 : Int32) = 0 := (by decide); first | assumption | (grind [Int32.not_le]))) hS (lv_sub hl [0, 1, 2, 3] rfl)
              · skip
                refine lv_iconst (v := (1 : Int32)) hx hb dX1_findOver_108 (by decide) ?_
                refine lv_goto (tgt := 113) hx hb dX1_findOver_109 (by decide) ?_
                exact J113 (1 : Int32) _ _ _ (cx_e1 (by (try clear RET); (try clear hS); (try clear hl); (try clear hE); (try clear hts); (try clear hb); (try clear hx); (try clear hml); (try clear hown); (try clear hinX1); (try clear hinX3); (try clear J2); (try clear ih2); (try clear hN2); (try clear J159); (try clear J80); (try clear J113); have y10 : ¬ (1 : Int32) = 0 := (by decide); first | assumption | (grind [Int32.not_le]))) hS (lv_sub hl [0, 1, 2, 3] rfl)
            refine lv_icmp_eq (tgt := 79) hx hb dX1_findOver_72 (by decide) (fun h72 => ?_) (fun h72 => ?_)
            · skip
              refine lv_iconst (v := (0 : Int32)) hx hb dX1_findOver_79 (by decide) ?_
              exact J80 (0 : Int32) _ _ _ (cx_e0 (by (try clear RET); (try clear hS); (try clear hl); (try clear hE); (try clear hts); (try clear hb); (try clear hx); (try clear hml); (try clear hown); (try clear hinX1); (try clear hinX3); (try clear J2); (try clear ih2); (try clear hN2); (try clear J159); (try clear J80); have y10 : ¬ (1 : Int32) = 0 := (by decide); first | assumption | (grind [Int32.not_le]))) hS (lv_sub hl [0, 1, 2, 3] rfl)
            · skip
              refine lv_iconst (v := (1 : Int32)) hx hb dX1_findOver_75 (by decide) ?_
              refine lv_goto (tgt := 80) hx hb dX1_findOver_76 (by decide) ?_
              exact J80 (1 : Int32) _ _ _ (cx_e1 (by (try clear RET); (try clear hS); (try clear hl); (try clear hE); (try clear hts); (try clear hb); (try clear hx); (try clear hml); (try clear hown); (try clear hinX1); (try clear hinX3); (try clear J2); (try clear ih2); (try clear hN2); (try clear J159); (try clear J80); have y10 : ¬ (1 : Int32) = 0 := (by decide); first | assumption | (grind [Int32.not_le]))) hS (lv_sub hl [0, 1, 2, 3] rfl)
  exact J2 (k - 0 + 1) 0 g _ _ _ (Nat.lt_succ_self _) (by (try clear hq); omega) (by first | exact hq2 | exact cx_go0) hS (lv_sub hl [1, 2, 3, 0] rfl)
set_option maxHeartbeats 4000000 in
set_option maxRecDepth 100000 in
theorem c_X1_findInheritedFaults (l : Launch) (D : va_G) (q : Nat → Nat) (cI cJ : ClassId) (n : Nat) (T : Nat → Nat → Int32) (k : Nat) (M : Nat → Nat → Int32) (d : Nat) (C : Nat → Nat → Int32) (J : Nat → Nat → Int32) (g : Nat → Int64) (t : Nat) (hn : n ≤ 20) (hk : k ≤ 80) (hO : cx_R (M 0) 20) (hOn : ∀ j, j < k → (M 0 j).toNatClampNeg < n) (ht : t < n) : cx_Mv l D vwCl [(cI, .int), (cJ, .long)] cx_NW yX1_findInheritedFaults wsX1_findInheritedFaults ({ frames := 3, cells := 0, slots := 0, locals := 69 } : Room) [.ref (q 4), .int (nI t)] (cxW q cI cJ n T k M d C J g) (fun (uw : (Nat → Int64)) => cx_G uw ↔ cx_G g ∨ cx_OV n k (T 0) (T 2) M (cx_Ac T n) t) (fun uw => (cxW q cI cJ n T k M d C J uw)) := by
  refine cx_Mv.of (cc := cX1_findInheritedFaults) (maxL := 3) cx_NW_ok (by decide) rfl (Nat.le_of_ble_eq_true rfl) ?_
  intro p e s m args below meth c Q A ls hx hb hml hown hts hE RET hS hl
  have hl : lv_has ls 3 [(0, .ref (q 4)), (1, .int (nI t))] := hl
  have hown : s.vm.findClass RX1 = some m.cls := hown
  have hinX1 : ∀ w ∈ u_ws RX1 TX1 9, w ∈ wsX1_findInheritedFaults := cx_mem [65, 66, 67, 68, 69, 70, 71, 72, 73] (by decide +kernel)
  have hinX3 : ∀ w ∈ u_ws RX3 TX3 8, w ∈ wsX1_findInheritedFaults := cx_mem [74, 75, 76, 77, 78, 79, 80, 81] (by decide +kernel)
  refine lv_iconst (v := (0 : Int32)) hx hb dX1_findInheritedFaults_0 (by decide) ?_
  refine cx_topr (z := nI 0) (by decide) ?_
  refine lv_istore_n (lv' := [(2, .int (nI 0)), (0, .ref (q 4)), (1, .int (nI t))]) hx hb dX1_findInheritedFaults_1 rfl hl (by decide) rfl (fun ls hl => ?_)
  have J2 : ∀ (N : Nat) (i2 : Nat) (g_2 : Nat → Int64) (H : Heap) (locs : List Loc) (ls : Array Slot), (k - i2 < N) → (i2 ≤ k) → (cx_G g_2 ↔ cx_G g ∨ ∃ j, j < i2 ∧ (cx_ow M j = t ∧ ¬ M 4 j = 0 ∧ cx_ov n k (T 0) (T 2) M (cx_Ac T n) t j)) → cx_S D vwCl A s (cxW q cI cJ n T k M d C J g_2) H locs → lv_has ls 3 [(0, .ref (q 4)), (1, .int (nI t)), (2, .int (nI i2))] → W p l e ({ frames := 3, cells := 0, slots := 0, locals := 69 } : Room) s m args below meth c H locs 0 0 Q (F0 m 2 ls []) := by
    intro N2
    induction N2 with
    | zero => intro i2 g_2 H locs ls hN; exact absurd hN (by omega)
    | succ N2 ih2 =>
      intro i2 g_2 H locs ls hN2 hi2 hq hS hl
      refine lv_iload_n hx hb dX1_findInheritedFaults_2 rfl (lv_at hl 2 rfl) ?_
      refine lv_aload_n hx hb dX1_findInheritedFaults_3 rfl (lv_at hl 0 rfl) ?_
      refine cx_get (own := RX1) (index := 30) (C := RX1) (T := TX1) (N := 9) (k := 1) (ci := 1) (v := .ref (q 2)) hx hb hts hown hE hS hinX1 4 rfl rfl (by decide) (List.mem_of_getElem? (i := 1) rfl) rfl dX1_findInheritedFaults_4 ?_
      refine cx_getN (own := RX1) (index := 129) (C := RX3) (T := TX3) (N := 8) (k := 7) (ci := 3) (host := "ClassRules") (v := .int (nI k)) hx hb hts hown hE hS hinX3 2 rfl rfl (by decide) (List.mem_of_getElem? (i := 31) rfl) rfl dX1_findInheritedFaults_7 ?_
      refine lv_icmp_ge (tgt := 50) hx hb dX1_findInheritedFaults_10 (by decide) (fun h10 => ?_) (fun h10 => ?_)
      · skip
        have g10 : k ≤ i2 := (nI_leI (a := k) (b := i2) (by omega) (by omega)).mp h10
        exact RET (g_2) _ _ _ _ dX1_findInheritedFaults_50 (cx_goE hq (by omega) (by omega)) hS
      · skip
        have g10 : ¬ (k ≤ i2) := fun z => h10 ((nI_leI (a := k) (b := i2) (by omega) (by omega)).mpr z)
        refine lv_aload_n hx hb dX1_findInheritedFaults_13 rfl (lv_at hl 0 rfl) ?_
        refine cx_get (own := RX1) (index := 30) (C := RX1) (T := TX1) (N := 9) (k := 1) (ci := 1) (v := .ref (q 2)) hx hb hts hown hE hS hinX1 4 rfl rfl (by decide) (List.mem_of_getElem? (i := 1) rfl) rfl dX1_findInheritedFaults_14 ?_
        refine cx_getN (own := RX1) (index := 134) (C := RX3) (T := TX3) (N := 8) (k := 1) (ci := 3) (host := "ClassRules") (v := .ref (q 18)) hx hb hts hown hE hS hinX3 2 rfl rfl (by decide) (List.mem_of_getElem? (i := 21) rfl) rfl dX1_findInheritedFaults_17 ?_
        refine lv_iload_n hx hb dX1_findInheritedFaults_20 rfl (lv_at hl 2 rfl) ?_
        refine cx_iald (f := (M 0)) (n := 80) (cA := cI) hx hb hE hS 18 0 rfl rfl (by omega) (by decide) dX1_findInheritedFaults_21 ?_
        have ho21 := (hO i2).2
        refine cx_topr (z := nI (((M 0) i2).toNatClampNeg)) (hO i2).1 ?_
        refine lv_iload_n hx hb dX1_findInheritedFaults_22 rfl (lv_at hl 1 rfl) ?_
        have J44 : ∀ (g_44 : Nat → Int64) (H : Heap) (locs : List Loc) (ls : Array Slot), (cx_G g_44 ↔ cx_G g ∨ ∃ j, j < (i2 + 1) ∧ (cx_ow M j = t ∧ ¬ M 4 j = 0 ∧ cx_ov n k (T 0) (T 2) M (cx_Ac T n) t j)) → cx_S D vwCl A s (cxW q cI cJ n T k M d C J g_44) H locs → lv_has ls 3 [(0, .ref (q 4)), (1, .int (nI t)), (2, .int (nI i2))] → W p l e ({ frames := 3, cells := 0, slots := 0, locals := 69 } : Room) s m args below meth c H locs 0 0 Q (F0 m 44 ls []) := by
          intro g_44 H locs ls hq2 hS hl
          refine lv_iinc (v := nI (i2 + 1)) (lv' := [(2, .int (nI (i2 + 1))), (0, .ref (q 4)), (1, .int (nI t))]) hx hb dX1_findInheritedFaults_44 hl (k := 2) rfl (cx_inc _) (by decide) rfl (fun ls hl => ?_)
          refine lv_goto (tgt := 2) hx hb dX1_findInheritedFaults_47 (by decide) ?_
          exact ih2 (i2 + 1) g_44 _ _ _ (by (try clear hq2); (try clear hq); omega) (by (try clear hq2); (try clear hq); omega) (by first | exact hq2 | exact cx_go0) hS (lv_sub hl [1, 2, 0] rfl)
        refine lv_icmp_ne (tgt := 44) hx hb dX1_findInheritedFaults_23 (by decide) (fun h23 => ?_) (fun h23 => ?_)
        · skip
          have g23 : ¬ ((((M 0) i2).toNatClampNeg) = t) := fun z => h23 ((nI_eq (a := ((M 0) i2).toNatClampNeg) (b := t) (by omega) (by omega)).mpr z)
          exact J44 g_2 _ _ _ (by first | exact cx_goN (Q := fun j => cx_ow M j = t ∧ ¬ M 4 j = 0 ∧ cx_ov n k (T 0) (T 2) M (cx_Ac T n) t j) hq (fun z => g23 z.1) | exact cx_goN (Q := fun j => cx_ow M j = t ∧ ¬ M 4 j = 0 ∧ cx_ov n k (T 0) (T 2) M (cx_Ac T n) t j) hq (fun z => z.2.1 h35) | exact cx_goS (Q := fun j => cx_ow M j = t ∧ ¬ M 4 j = 0 ∧ cx_ov n k (T 0) (T 2) M (cx_Ac T n) t j) hq (by rw [hp_41]; exact ⟨fun z => z.imp id (fun y => ⟨g23, h35, y⟩), fun z => z.imp id (fun y => y.2.2)⟩)) hS (lv_sub hl [0, 1, 2] rfl)
        · skip
          have g23 : (((M 0) i2).toNatClampNeg) = t := (nI_eq (a := ((M 0) i2).toNatClampNeg) (b := t) (by omega) (by omega)).mp h23
          refine lv_aload_n hx hb dX1_findInheritedFaults_26 rfl (lv_at hl 0 rfl) ?_
          refine cx_get (own := RX1) (index := 30) (C := RX1) (T := TX1) (N := 9) (k := 1) (ci := 1) (v := .ref (q 2)) hx hb hts hown hE hS hinX1 4 rfl rfl (by decide) (List.mem_of_getElem? (i := 1) rfl) rfl dX1_findInheritedFaults_27 ?_
          refine cx_getN (own := RX1) (index := 146) (C := RX3) (T := TX3) (N := 8) (k := 5) (ci := 3) (host := "ClassRules") (v := .ref (q 22)) hx hb hts hown hE hS hinX3 2 rfl rfl (by decide) (List.mem_of_getElem? (i := 27) rfl) rfl dX1_findInheritedFaults_30 ?_
          refine lv_iload_n hx hb dX1_findInheritedFaults_33 rfl (lv_at hl 2 rfl) ?_
          refine cx_iald (f := (M 4)) (n := 80) (cA := cI) hx hb hE hS 22 0 rfl rfl (by omega) (by decide) dX1_findInheritedFaults_34 ?_
          refine lv_if_eq (tgt := 44) hx hb dX1_findInheritedFaults_35 (by decide) (fun h35 => ?_) (fun h35 => ?_)
          · skip
            exact J44 g_2 _ _ _ (by first | exact cx_goN (Q := fun j => cx_ow M j = t ∧ ¬ M 4 j = 0 ∧ cx_ov n k (T 0) (T 2) M (cx_Ac T n) t j) hq (fun z => g23 z.1) | exact cx_goN (Q := fun j => cx_ow M j = t ∧ ¬ M 4 j = 0 ∧ cx_ov n k (T 0) (T 2) M (cx_Ac T n) t j) hq (fun z => z.2.1 h35) | exact cx_goS (Q := fun j => cx_ow M j = t ∧ ¬ M 4 j = 0 ∧ cx_ov n k (T 0) (T 2) M (cx_Ac T n) t j) hq (by rw [hp_41]; exact ⟨fun z => z.imp id (fun y => ⟨g23, h35, y⟩), fun z => z.imp id (fun y => y.2.2)⟩)) hS (lv_sub hl [0, 1, 2] rfl)
          · skip
            refine lv_aload_n hx hb dX1_findInheritedFaults_38 rfl (lv_at hl 0 rfl) ?_
            refine lv_iload_n hx hb dX1_findInheritedFaults_39 rfl (lv_at hl 1 rfl) ?_
            refine lv_iload_n hx hb dX1_findInheritedFaults_40 rfl (lv_at hl 2 rfl) ?_
            refine cx_cVv (As := [.int (nI t), .int (nI i2)]) (rest := []) ⟨hx, hb, hml, hown, hts⟩ hE hS (c_X1_findOver l D q cI cJ n T k M d C J g_2 t i2 (by first | assumption | omega | rfl) (by first | assumption | omega | rfl) (by first | assumption | omega | rfl) (by first | assumption | omega | rfl) (by first | assumption | omega | rfl) (by first | assumption | omega | rfl)) (cwV 2 hts gX1_findInheritedFaults_X1_findOver rfl rfl rfl (by decide +kernel) ⟨Nat.le_of_ble_eq_true rfl, Nat.le_of_ble_eq_true rfl⟩) 4 1 rfl rfl rfl hl.1 rfl (Nat.le_of_ble_eq_true rfl) ⟨Nat.zero_le _, Nat.zero_le _⟩ dX1_findInheritedFaults_41 (fun u_41 H locs hp_41 hS => ?_)
            obtain ⟨ga_41, rfl⟩ : ∃ z, z = u_41 := ⟨_, rfl⟩
            have hS : cx_S D vwCl A s (cxW q cI cJ n T k M d C J ga_41) H locs := hS
            have hp_41 : cx_G ga_41 ↔ cx_G g_2 ∨ cx_ov n k ((T 0)) ((T 2)) M (cx_Ac T n) t i2 := hp_41
            exact J44 ga_41 _ _ _ (by first | exact cx_goN (Q := fun j => cx_ow M j = t ∧ ¬ M 4 j = 0 ∧ cx_ov n k (T 0) (T 2) M (cx_Ac T n) t j) hq (fun z => g23 z.1) | exact cx_goN (Q := fun j => cx_ow M j = t ∧ ¬ M 4 j = 0 ∧ cx_ov n k (T 0) (T 2) M (cx_Ac T n) t j) hq (fun z => z.2.1 h35) | exact cx_goS (Q := fun j => cx_ow M j = t ∧ ¬ M 4 j = 0 ∧ cx_ov n k (T 0) (T 2) M (cx_Ac T n) t j) hq (by rw [hp_41]; exact ⟨fun z => z.imp id (fun y => ⟨g23, h35, y⟩), fun z => z.imp id (fun y => y.2.2)⟩)) hS (lv_sub hl [0, 1, 2] rfl)
  exact J2 (k - 0 + 1) 0 g _ _ _ (Nat.lt_succ_self _) (by (try clear hq); omega) (by first | exact hq2 | exact cx_go0) hS (lv_sub hl [1, 2, 0] rfl)
set_option maxHeartbeats 4000000 in
set_option maxRecDepth 100000 in
theorem c_X1_findGivenFaults (l : Launch) (D : va_G) (q : Nat → Nat) (cI cJ : ClassId) (n : Nat) (T : Nat → Nat → Int32) (k : Nat) (M : Nat → Nat → Int32) (d : Nat) (C : Nat → Nat → Int32) (J : Nat → Nat → Int32) (g : Nat → Int64) (t : Nat) (hn : n ≤ 20) (hk : k ≤ 80) (hO : cx_R (M 0) 20) (hP : cx_P (T 3) 20) (hOn : ∀ j, j < k → (M 0 j).toNatClampNeg < n) (ht : t < n) : cx_Mv l D vwCl [(cI, .int), (cJ, .long)] cx_NW yX1_findGivenFaults wsX1_findGivenFaults ({ frames := 3, cells := 0, slots := 0, locals := 74 } : Room) [.ref (q 4), .int (nI t)] (cxW q cI cJ n T k M d C J g) (fun (uw : (Int32) × (Nat) × (Nat → Int32) × (Nat → Int64)) => cx_G uw.2.2.2 ↔ cx_G g ∨ cx_GV n k (T 0) (T 1) (T 2) (T 3) M (cx_Ac T n) t) (fun uw => (cxW q cI cJ n T k M uw.2.1 (cx_u (cx_u C 4 (fun _ => uw.1)) 0 uw.2.2.1) J uw.2.2.2)) := by
  refine cx_Mv.of (cc := cX1_findGivenFaults) (maxL := 6) cx_NW_ok (by decide) rfl (Nat.le_of_ble_eq_true rfl) ?_
  intro p e s m args below meth c Q A ls hx hb hml hown hts hE RET hS hl
  have hl : lv_has ls 6 [(0, .ref (q 4)), (1, .int (nI t))] := hl
  have hown : s.vm.findClass RX1 = some m.cls := hown
  have hinX1 : ∀ w ∈ u_ws RX1 TX1 9, w ∈ wsX1_findGivenFaults := cx_mem [100, 101, 102, 103, 104, 105, 106, 107, 108] (by decide +kernel)
  have hinX3 : ∀ w ∈ u_ws RX3 TX3 8, w ∈ wsX1_findGivenFaults := cx_mem [121, 122, 123, 124, 125, 126, 127, 128] (by decide +kernel)
  have hinX5 : ∀ w ∈ u_ws RX5 TX5 12, w ∈ wsX1_findGivenFaults := cx_mem [109, 110, 111, 112, 113, 114, 115, 116, 117, 118, 119, 120] (by decide +kernel)
  refine lv_aload_n hx hb dX1_findGivenFaults_0 rfl (lv_at hl 0 rfl) ?_
  refine cx_get (own := RX1) (index := 26) (C := RX1) (T := TX1) (N := 9) (k := 0) (ci := 1) (v := .ref (q 1)) hx hb hts hown hE hS hinX1 4 rfl rfl (by decide) (List.mem_of_getElem? (i := 1) rfl) rfl dX1_findGivenFaults_1 ?_
  refine cx_getN (own := RX1) (index := 167) (C := RX5) (T := TX5) (N := 12) (k := 0) (ci := 5) (host := "ClassRules") (v := .ref (q 7)) hx hb hts hown hE hS hinX5 1 rfl rfl (by decide) (List.mem_of_getElem? (i := 4) rfl) rfl dX1_findGivenFaults_4 ?_
  refine lv_iload_n hx hb dX1_findGivenFaults_7 rfl (lv_at hl 1 rfl) ?_
  refine cx_iald (f := (T 0)) (n := 20) (cA := cI) hx hb hE hS 7 0 rfl rfl (by omega) (by decide) dX1_findGivenFaults_8 ?_
  refine lv_iconst (v := (1 : Int32)) hx hb dX1_findGivenFaults_9 (by decide) ?_
  have J30 : ∀ (v30_s0 : Int32) (H : Heap) (locs : List Loc) (ls : Array Slot), ((v30_s0 = 0 ∨ v30_s0 = 1) ∧ (¬ v30_s0 = 0 ↔ cx_must (T 0) (T 1) t)) → cx_S D vwCl A s (cxW q cI cJ n T k M d C J g) H locs → lv_has ls 6 [(0, .ref (q 4)), (1, .int (nI t))] → W p l e ({ frames := 3, cells := 0, slots := 0, locals := 74 } : Room) s m args below meth c H locs 0 0 Q (F0 m 30 ls [.int v30_s0]) := by
    intro v30_s0 H locs ls b30 hS hl
    refine lv_istore_n (lv' := [(2, .int v30_s0), (0, .ref (q 4)), (1, .int (nI t))]) hx hb dX1_findGivenFaults_30 rfl hl (by decide) rfl (fun ls hl => ?_)
    refine lv_iconst (v := (0 : Int32)) hx hb dX1_findGivenFaults_31 (by decide) ?_
    refine cx_topr (z := nI 0) (by decide) ?_
    refine lv_istore_n (lv' := [(3, .int (nI 0)), (2, .int v30_s0), (0, .ref (q 4)), (1, .int (nI t))]) hx hb dX1_findGivenFaults_32 rfl hl (by decide) rfl (fun ls hl => ?_)
    have J33 : ∀ (N : Nat) (i33 : Nat) (d_33 : Nat) (C_0_33 : Nat → Int32) (C_4_33 : Nat → Int32) (g_33 : Nat → Int64) (H : Heap) (locs : List Loc) (ls : Array Slot), (k - i33 < N) → (i33 ≤ k) → (cx_G g_33 ↔ cx_G g ∨ ∃ j, j < i33 ∧ ((∀ i, i < j → ¬ cx_lk M i j) ∧ cx_gn n k (T 0) (T 1) (T 2) (T 3) M (cx_Ac T n) t (M 1 j) (M 2 j))) → cx_S D vwCl A s (cxW q cI cJ n T k M d_33 (cx_u (cx_u C 0 C_0_33) 4 C_4_33) J g_33) H locs → lv_has ls 6 [(0, .ref (q 4)), (1, .int (nI t)), (2, .int v30_s0), (3, .int (nI i33))] → W p l e ({ frames := 3, cells := 0, slots := 0, locals := 74 } : Room) s m args below meth c H locs 0 0 Q (F0 m 33 ls []) := by
      intro N33
      induction N33 with
      | zero => intro i33 d_33 C_0_33 C_4_33 g_33 H locs ls hN; exact absurd hN (by omega)
      | succ N33 ih33 =>
        intro i33 d_33 C_0_33 C_4_33 g_33 H locs ls hN33 hi33 hq hS hl
        refine lv_iload_n hx hb dX1_findGivenFaults_33 rfl (lv_at hl 3 rfl) ?_
        refine lv_aload_n hx hb dX1_findGivenFaults_34 rfl (lv_at hl 0 rfl) ?_
        refine cx_get (own := RX1) (index := 30) (C := RX1) (T := TX1) (N := 9) (k := 1) (ci := 1) (v := .ref (q 2)) hx hb hts hown hE hS hinX1 4 rfl rfl (by decide) (List.mem_of_getElem? (i := 2) rfl) rfl dX1_findGivenFaults_35 ?_
        refine cx_getN (own := RX1) (index := 129) (C := RX3) (T := TX3) (N := 8) (k := 7) (ci := 3) (host := "ClassRules") (v := .int (nI k)) hx hb hts hown hE hS hinX3 2 rfl rfl (by decide) (List.mem_of_getElem? (i := 31) rfl) rfl dX1_findGivenFaults_38 ?_
        refine lv_icmp_ge (tgt := 173) hx hb dX1_findGivenFaults_41 (by decide) (fun h41 => ?_) (fun h41 => ?_)
        · skip
          have g41 : k ≤ i33 := (nI_leI (a := k) (b := i33) (by omega) (by omega)).mp h41
          exact RET (C_4_33 0, d_33, C_0_33, g_33) _ _ _ _ dX1_findGivenFaults_173 (cx_gvE (cx_goE hq (by omega) (by omega))) hS
        · skip
          have g41 : ¬ (k ≤ i33) := fun z => h41 ((nI_leI (a := k) (b := i33) (by omega) (by omega)).mpr z)
          refine lv_aload_n hx hb dX1_findGivenFaults_44 rfl (lv_at hl 0 rfl) ?_
          refine cx_get (own := RX1) (index := 30) (C := RX1) (T := TX1) (N := 9) (k := 1) (ci := 1) (v := .ref (q 2)) hx hb hts hown hE hS hinX1 4 rfl rfl (by decide) (List.mem_of_getElem? (i := 2) rfl) rfl dX1_findGivenFaults_45 ?_
          refine lv_iload_n hx hb dX1_findGivenFaults_48 rfl (lv_at hl 3 rfl) ?_
          refine cx_cVi (As := [.int (nI i33)]) (rest := []) ⟨hx, hb, hml, hown, hts⟩ hE hS (c_X3_firstOfItsSort l D q cI cJ n T k M d_33 (cx_u (cx_u C 0 C_0_33) 4 C_4_33) J g_33 i33 (by first | assumption | omega | rfl)) (cwV 1 hts gX1_findGivenFaults_X3_firstOfItsSort rfl rfl rfl (by decide +kernel) ⟨Nat.le_of_ble_eq_true rfl, Nat.le_of_ble_eq_true rfl⟩) 2 3 rfl rfl rfl hl.1 rfl (Nat.le_of_ble_eq_true rfl) ⟨Nat.zero_le _, Nat.zero_le _⟩ dX1_findGivenFaults_49 (fun r_49 u_49 H locs hp_49 hS => ?_)
          have hp_49 : (r_49 = 0 ∨ r_49 = 1) ∧ (¬ r_49 = 0 ↔ ∀ j, j < i33 → ¬ cx_lk M j i33) := hp_49
          have J167 : ∀ (d_167 : Nat) (C_0_167 : Nat → Int32) (C_4_167 : Nat → Int32) (g_167 : Nat → Int64) (H : Heap) (locs : List Loc) (ls : Array Slot), (cx_G g_167 ↔ cx_G g ∨ ∃ j, j < (i33 + 1) ∧ ((∀ i, i < j → ¬ cx_lk M i j) ∧ cx_gn n k (T 0) (T 1) (T 2) (T 3) M (cx_Ac T n) t (M 1 j) (M 2 j))) → cx_S D vwCl A s (cxW q cI cJ n T k M d_167 (cx_u (cx_u C 0 C_0_167) 4 C_4_167) J g_167) H locs → lv_has ls 6 [(0, .ref (q 4)), (1, .int (nI t)), (2, .int v30_s0), (3, .int (nI i33))] → W p l e ({ frames := 3, cells := 0, slots := 0, locals := 74 } : Room) s m args below meth c H locs 0 0 Q (F0 m 167 ls []) := by
            intro d_167 C_0_167 C_4_167 g_167 H locs ls hq2 hS hl
            refine lv_iinc (v := nI (i33 + 1)) (lv' := [(3, .int (nI (i33 + 1))), (0, .ref (q 4)), (1, .int (nI t)), (2, .int v30_s0)]) hx hb dX1_findGivenFaults_167 hl (k := 3) rfl (cx_inc _) (by decide) rfl (fun ls hl => ?_)
            refine lv_goto (tgt := 33) hx hb dX1_findGivenFaults_170 (by decide) ?_
            exact ih33 (i33 + 1) d_167 C_0_167 C_4_167 g_167 _ _ _ (by (try clear hp_143); (try clear hp_111); (try clear hq2); (try clear hq); omega) (by (try clear hp_143); (try clear hp_111); (try clear hq2); (try clear hq); omega) (by first | exact hq2 | exact cx_go0) hS (lv_sub hl [1, 2, 3, 0] rfl)
          refine lv_if_eq (tgt := 167) hx hb dX1_findGivenFaults_52 (by decide) (fun h52 => ?_) (fun h52 => ?_)
          · skip
            have g52 : ¬ (∀ j, j < i33 → ¬ cx_lk M j i33) := fun z => hp_49.2.mpr z h52
            exact J167 d_33 C_0_33 C_4_33 g_33 _ _ _ (by first | exact cx_goN (Q := fun j => (∀ i, i < j → ¬ cx_lk M i j) ∧ cx_gn n k (T 0) (T 1) (T 2) (T 3) M (cx_Ac T n) t (M 1 j) (M 2 j)) hq (fun z => g52 z.1) | exact cx_goS (Q := fun j => (∀ i, i < j → ¬ cx_lk M i j) ∧ cx_gn n k (T 0) (T 1) (T 2) (T 3) M (cx_Ac T n) t (M 1 j) (M 2 j)) hq (cx_gvS g52 hp_78.1 (hp_104.2.li hk (fun m z => z.1)) hp_111.1 hp_143.1 hp_136 hp_164 b132.2 b160.2)) hS (lv_sub hl [0, 1, 2, 3] rfl)
          · skip
            have g52 : ∀ j, j < i33 → ¬ cx_lk M j i33 := hp_49.2.mp h52
            refine lv_aload_n hx hb dX1_findGivenFaults_55 rfl (lv_at hl 0 rfl) ?_
            refine cx_get (own := RX1) (index := 34) (C := RX1) (T := TX1) (N := 9) (k := 2) (ci := 1) (v := .ref (q 3)) hx hb hts hown hE hS hinX1 4 rfl rfl (by decide) (List.mem_of_getElem? (i := 3) rfl) rfl dX1_findGivenFaults_56 ?_
            refine lv_iload_n hx hb dX1_findGivenFaults_59 rfl (lv_at hl 1 rfl) ?_
            refine lv_aload_n hx hb dX1_findGivenFaults_60 rfl (lv_at hl 0 rfl) ?_
            refine cx_get (own := RX1) (index := 30) (C := RX1) (T := TX1) (N := 9) (k := 1) (ci := 1) (v := .ref (q 2)) hx hb hts hown hE hS hinX1 4 rfl rfl (by decide) (List.mem_of_getElem? (i := 2) rfl) rfl dX1_findGivenFaults_61 ?_
            refine cx_getN (own := RX1) (index := 176) (C := RX3) (T := TX3) (N := 8) (k := 2) (ci := 3) (host := "ClassRules") (v := .ref (q 19)) hx hb hts hown hE hS hinX3 2 rfl rfl (by decide) (List.mem_of_getElem? (i := 22) rfl) rfl dX1_findGivenFaults_64 ?_
            refine lv_iload_n hx hb dX1_findGivenFaults_67 rfl (lv_at hl 3 rfl) ?_
            refine cx_iald (f := (M 1)) (n := 80) (cA := cI) hx hb hE hS 19 0 rfl rfl (by omega) (by decide) dX1_findGivenFaults_68 ?_
            refine lv_aload_n hx hb dX1_findGivenFaults_69 rfl (lv_at hl 0 rfl) ?_
            refine cx_get (own := RX1) (index := 30) (C := RX1) (T := TX1) (N := 9) (k := 1) (ci := 1) (v := .ref (q 2)) hx hb hts hown hE hS hinX1 4 rfl rfl (by decide) (List.mem_of_getElem? (i := 2) rfl) rfl dX1_findGivenFaults_70 ?_
            refine cx_getN (own := RX1) (index := 179) (C := RX3) (T := TX3) (N := 8) (k := 3) (ci := 3) (host := "ClassRules") (v := .ref (q 20)) hx hb hts hown hE hS hinX3 2 rfl rfl (by decide) (List.mem_of_getElem? (i := 23) rfl) rfl dX1_findGivenFaults_73 ?_
            refine lv_iload_n hx hb dX1_findGivenFaults_76 rfl (lv_at hl 3 rfl) ?_
            refine cx_iald (f := (M 2)) (n := 80) (cA := cI) hx hb hE hS 20 0 rfl rfl (by omega) (by decide) dX1_findGivenFaults_77 ?_
            refine cx_cVv (As := [.int (nI t), .int ((M 1) i33), .int ((M 2) i33)]) (rest := []) ⟨hx, hb, hml, hown, hts⟩ hE hS (c_X0_seekClassOne l D q cI cJ n T k M d_33 (cx_u (cx_u C 0 C_0_33) 4 C_4_33) J g_33 t ((M 1) i33) ((M 2) i33) (by first | assumption | omega | rfl) (by first | assumption | omega | rfl) (by first | assumption | omega | rfl) (by first | assumption | omega | rfl) (by first | assumption | omega | rfl) (by first | assumption | omega | rfl)) (cwV 3 hts gX1_findGivenFaults_X0_seekClassOne rfl rfl rfl (by decide +kernel) ⟨Nat.le_of_ble_eq_true rfl, Nat.le_of_ble_eq_true rfl⟩) 3 0 rfl rfl rfl hl.1 rfl (Nat.le_of_ble_eq_true rfl) ⟨Nat.zero_le _, Nat.zero_le _⟩ dX1_findGivenFaults_78 (fun u_78 H locs hp_78 hS => ?_)
            obtain ⟨co_78, rfl⟩ : ∃ z, z = u_78 := ⟨_, rfl⟩
            have hS : cx_S D vwCl A s (cxW q cI cJ n T k M d_33 (cx_u (cx_u C 0 C_0_33) 4 (fun _ => co_78)) J g_33) H locs := hS
            have hp_78 : (cx_co n k ((T 0)) ((T 2)) ((T 3)) M (cx_Ac T n) t ((M 1) i33) ((M 2) i33) co_78) ∧ (co_78 = -1 ∨ cx_ix co_78 80) := hp_78
            refine lv_aload_n hx hb dX1_findGivenFaults_81 rfl (lv_at hl 0 rfl) ?_
            refine cx_get (own := RX1) (index := 34) (C := RX1) (T := TX1) (N := 9) (k := 2) (ci := 1) (v := .ref (q 3)) hx hb hts hown hE hS hinX1 4 rfl rfl (by decide) (List.mem_of_getElem? (i := 3) rfl) rfl dX1_findGivenFaults_82 ?_
            refine lv_iload_n hx hb dX1_findGivenFaults_85 rfl (lv_at hl 1 rfl) ?_
            refine lv_aload_n hx hb dX1_findGivenFaults_86 rfl (lv_at hl 0 rfl) ?_
            refine cx_get (own := RX1) (index := 30) (C := RX1) (T := TX1) (N := 9) (k := 1) (ci := 1) (v := .ref (q 2)) hx hb hts hown hE hS hinX1 4 rfl rfl (by decide) (List.mem_of_getElem? (i := 2) rfl) rfl dX1_findGivenFaults_87 ?_
            refine cx_getN (own := RX1) (index := 176) (C := RX3) (T := TX3) (N := 8) (k := 2) (ci := 3) (host := "ClassRules") (v := .ref (q 19)) hx hb hts hown hE hS hinX3 2 rfl rfl (by decide) (List.mem_of_getElem? (i := 22) rfl) rfl dX1_findGivenFaults_90 ?_
            refine lv_iload_n hx hb dX1_findGivenFaults_93 rfl (lv_at hl 3 rfl) ?_
            refine cx_iald (f := (M 1)) (n := 80) (cA := cI) hx hb hE hS 19 0 rfl rfl (by omega) (by decide) dX1_findGivenFaults_94 ?_
            refine lv_aload_n hx hb dX1_findGivenFaults_95 rfl (lv_at hl 0 rfl) ?_
            refine cx_get (own := RX1) (index := 30) (C := RX1) (T := TX1) (N := 9) (k := 1) (ci := 1) (v := .ref (q 2)) hx hb hts hown hE hS hinX1 4 rfl rfl (by decide) (List.mem_of_getElem? (i := 2) rfl) rfl dX1_findGivenFaults_96 ?_
            refine cx_getN (own := RX1) (index := 179) (C := RX3) (T := TX3) (N := 8) (k := 3) (ci := 3) (host := "ClassRules") (v := .ref (q 20)) hx hb hts hown hE hS hinX3 2 rfl rfl (by decide) (List.mem_of_getElem? (i := 23) rfl) rfl dX1_findGivenFaults_99 ?_
            refine lv_iload_n hx hb dX1_findGivenFaults_102 rfl (lv_at hl 3 rfl) ?_
            refine cx_iald (f := (M 2)) (n := 80) (cA := cI) hx hb hE hS 20 0 rfl rfl (by omega) (by decide) dX1_findGivenFaults_103 ?_
            refine cx_cVv (As := [.int (nI t), .int ((M 1) i33), .int ((M 2) i33)]) (rest := []) ⟨hx, hb, hml, hown, hts⟩ hE hS (c_X0_seekFaceOnes l D q cI cJ n T k M d_33 (cx_u (cx_u C 0 C_0_33) 4 (fun _ => co_78)) J g_33 t ((M 1) i33) ((M 2) i33) (by first | assumption | omega | rfl) (by first | assumption | omega | rfl) (by first | assumption | omega | rfl) (by first | assumption | omega | rfl) (by first | assumption | omega | rfl)) (cwV 3 hts gX1_findGivenFaults_X0_seekFaceOnes rfl rfl rfl (by decide +kernel) ⟨Nat.le_of_ble_eq_true rfl, Nat.le_of_ble_eq_true rfl⟩) 3 0 rfl rfl rfl hl.1 rfl (Nat.le_of_ble_eq_true rfl) ⟨Nat.zero_le _, Nat.zero_le _⟩ dX1_findGivenFaults_104 (fun u_104 H locs hp_104 hS => ?_)
            obtain ⟨d1_104, fo_104⟩ := u_104
            have hS : cx_S D vwCl A s (cxW q cI cJ n T k M d1_104 (cx_u (cx_u C 4 (fun _ => co_78)) 0 fo_104) J g_33) H locs := hS
            have hp_104 : d1_104 ≤ 20 ∧ cx_LS (cx_fo k ((T 0)) M (cx_Ac T n) t ((M 1) i33) ((M 2) i33)) fo_104 d1_104 k := hp_104
            refine lv_aload_n hx hb dX1_findGivenFaults_107 rfl (lv_at hl 0 rfl) ?_
            refine cx_get (own := RX1) (index := 34) (C := RX1) (T := TX1) (N := 9) (k := 2) (ci := 1) (v := .ref (q 3)) hx hb hts hown hE hS hinX1 4 rfl rfl (by decide) (List.mem_of_getElem? (i := 3) rfl) rfl dX1_findGivenFaults_108 ?_
            refine cx_cVi (As := []) (rest := []) ⟨hx, hb, hml, hown, hts⟩ hE hS (c_X0_leastToBeGiven l D q cI cJ n T k M d1_104 (cx_u (cx_u C 4 (fun _ => co_78)) 0 fo_104) J g_33  hp_104.1 ((hp_104.2.li hk (fun m z => z.1)).ix) hp_78.2) (cwV 0 hts gX1_findGivenFaults_X0_leastToBeGiven rfl rfl rfl (by decide +kernel) ⟨Nat.le_of_ble_eq_true rfl, Nat.le_of_ble_eq_true rfl⟩) 3 0 rfl rfl rfl hl.1 rfl (Nat.le_of_ble_eq_true rfl) ⟨Nat.zero_le _, Nat.zero_le _⟩ dX1_findGivenFaults_111 (fun r_111 u_111 H locs hp_111 hS => ?_)
            have hp_111 : (¬ r_111 = -1 ↔ (¬ co_78 = -1 ∧ cx_mk ((M 3)) (co_78).toNatClampNeg 1) ∨ (co_78 = -1 ∧ (¬ ∃ j, j < d1_104 ∧ cx_mk ((M 3)) ((fo_104) j).toNatClampNeg (nI 8)) ∧ ∃ j, j < d1_104 ∧ cx_mk ((M 3)) ((fo_104) j).toNatClampNeg 1)) ∧ (r_111 = -1 ∨ cx_ix r_111 80) := hp_111
            refine lv_istore (lv' := [(4, .int r_111), (0, .ref (q 4)), (1, .int (nI t)), (2, .int v30_s0), (3, .int (nI i33))]) hx hb dX1_findGivenFaults_114 hl (by decide) rfl (fun ls hl => ?_)
            refine lv_aload_n hx hb dX1_findGivenFaults_116 rfl (lv_at hl 1 rfl) ?_
            refine lv_iload_n hx hb dX1_findGivenFaults_117 rfl (lv_at hl 3 rfl) ?_
            have J132 : ∀ (v132_s0 : Int32) (H : Heap) (locs : List Loc) (ls : Array Slot), ((v132_s0 = 0 ∨ v132_s0 = 1) ∧ (¬ v132_s0 = 0 ↔ cx_must (T 0) (T 1) t ∧ ¬ r_111 = -1)) → (v132_s0 = 0 ∨ cx_ix r_111 80) → cx_S D vwCl A s (cxW q cI cJ n T k M d1_104 (cx_u (cx_u C 4 (fun _ => co_78)) 0 fo_104) J g_33) H locs → lv_has ls 6 [(0, .ref (q 4)), (1, .int (nI t)), (2, .int v30_s0), (3, .int (nI i33)), (4, .int r_111)] → W p l e ({ frames := 3, cells := 0, slots := 0, locals := 74 } : Room) s m args below meth c H locs 0 0 Q (F0 m 132 ls [.int v132_s0, .ref (q 4)]) := by
              intro v132_s0 H locs ls b132 hw1 hS hl
              refine lv_bipush (v := nI 16) hx hb dX1_findGivenFaults_132 (by decide) ?_
              refine lv_iload hx hb dX1_findGivenFaults_134 (lv_at hl 4 rfl) ?_
              refine cx_cVv (As := [.int v132_s0, .int (nI 16), .int r_111]) (rest := []) ⟨hx, hb, hml, hown, hts⟩ hE hS (c_X1_putIf l D q cI cJ n T k M d1_104 (cx_u (cx_u C 4 (fun _ => co_78)) 0 fo_104) J g_33 v132_s0 16 r_111 (by first | assumption | omega | rfl) (by first | exact hw1 | exact b132.1)) (cwV 3 hts gX1_findGivenFaults_X1_putIf rfl rfl rfl (by decide +kernel) ⟨Nat.le_of_ble_eq_true rfl, Nat.le_of_ble_eq_true rfl⟩) 4 1 rfl rfl rfl hl.1 rfl (Nat.le_of_ble_eq_true rfl) ⟨Nat.zero_le _, Nat.zero_le _⟩ dX1_findGivenFaults_136 (fun u_136 H locs hp_136 hS => ?_)
              obtain ⟨ga_136, rfl⟩ : ∃ z, z = u_136 := ⟨_, rfl⟩
              have hS : cx_S D vwCl A s (cxW q cI cJ n T k M d1_104 (cx_u (cx_u C 4 (fun _ => co_78)) 0 fo_104) J ga_136) H locs := hS
              have hp_136 : cx_G ga_136 ↔ cx_G g_33 ∨ ¬ v132_s0 = 0 := hp_136
              refine lv_aload_n hx hb dX1_findGivenFaults_139 rfl (lv_at hl 0 rfl) ?_
              refine cx_get (own := RX1) (index := 34) (C := RX1) (T := TX1) (N := 9) (k := 2) (ci := 1) (v := .ref (q 3)) hx hb hts hown hE hS hinX1 4 rfl rfl (by decide) (List.mem_of_getElem? (i := 3) rfl) rfl dX1_findGivenFaults_140 ?_
              refine cx_cVi (As := []) (rest := []) ⟨hx, hb, hml, hown, hts⟩ hE hS (c_X0_leastOfRivals l D q cI cJ n T k M d1_104 (cx_u (cx_u C 4 (fun _ => co_78)) 0 fo_104) J ga_136  hp_104.1 ((hp_104.2.li hk (fun m z => z.1)).ix) hp_78.2) (cwV 0 hts gX1_findGivenFaults_X0_leastOfRivals rfl rfl rfl (by decide +kernel) ⟨Nat.le_of_ble_eq_true rfl, Nat.le_of_ble_eq_true rfl⟩) 3 0 rfl rfl rfl hl.1 rfl (Nat.le_of_ble_eq_true rfl) ⟨Nat.zero_le _, Nat.zero_le _⟩ dX1_findGivenFaults_143 (fun r_143 u_143 H locs hp_143 hS => ?_)
              have hp_143 : (¬ r_143 = -1 ↔ co_78 = -1 ∧ 1 < d1_104 ∧ ∃ j, j < d1_104 ∧ cx_mk ((M 3)) ((fo_104) j).toNatClampNeg (nI 8)) ∧ (r_143 = -1 ∨ cx_ix r_143 80) := hp_143
              refine lv_istore (lv' := [(5, .int r_143), (0, .ref (q 4)), (1, .int (nI t)), (2, .int v30_s0), (3, .int (nI i33)), (4, .int r_111)]) hx hb dX1_findGivenFaults_146 hl (by decide) rfl (fun ls hl => ?_)
              refine lv_aload_n hx hb dX1_findGivenFaults_148 rfl (lv_at hl 1 rfl) ?_
              refine lv_iload hx hb dX1_findGivenFaults_149 (lv_at hl 0 rfl) ?_
              refine lv_iconst (v := (-1 : Int32)) hx hb dX1_findGivenFaults_151 (by decide) ?_
              have J160 : ∀ (v160_s0 : Int32) (H : Heap) (locs : List Loc) (ls : Array Slot), ((v160_s0 = 0 ∨ v160_s0 = 1) ∧ (¬ v160_s0 = 0 ↔ ¬ r_143 = -1)) → (v160_s0 = 0 ∨ cx_ix r_143 80) → cx_S D vwCl A s (cxW q cI cJ n T k M d1_104 (cx_u (cx_u C 4 (fun _ => co_78)) 0 fo_104) J ga_136) H locs → lv_has ls 6 [(0, .ref (q 4)), (1, .int (nI t)), (2, .int v30_s0), (3, .int (nI i33)), (4, .int r_111), (5, .int r_143)] → W p l e ({ frames := 3, cells := 0, slots := 0, locals := 74 } : Room) s m args below meth c H locs 0 0 Q (F0 m 160 ls [.int v160_s0, .ref (q 4)]) := by
                intro v160_s0 H locs ls b160 hw2 hS hl
                refine lv_bipush (v := nI 17) hx hb dX1_findGivenFaults_160 (by decide) ?_
                refine lv_iload hx hb dX1_findGivenFaults_162 (lv_at hl 5 rfl) ?_
                refine cx_cVv (As := [.int v160_s0, .int (nI 17), .int r_143]) (rest := []) ⟨hx, hb, hml, hown, hts⟩ hE hS (c_X1_putIf l D q cI cJ n T k M d1_104 (cx_u (cx_u C 4 (fun _ => co_78)) 0 fo_104) J ga_136 v160_s0 17 r_143 (by first | assumption | omega | rfl) hw2) (cwV 3 hts gX1_findGivenFaults_X1_putIf rfl rfl rfl (by decide +kernel) ⟨Nat.le_of_ble_eq_true rfl, Nat.le_of_ble_eq_true rfl⟩) 4 1 rfl rfl rfl hl.1 rfl (Nat.le_of_ble_eq_true rfl) ⟨Nat.zero_le _, Nat.zero_le _⟩ dX1_findGivenFaults_164 (fun u_164 H locs hp_164 hS => ?_)
                obtain ⟨ga_164, rfl⟩ : ∃ z, z = u_164 := ⟨_, rfl⟩
                have hS : cx_S D vwCl A s (cxW q cI cJ n T k M d1_104 (cx_u (cx_u C 4 (fun _ => co_78)) 0 fo_104) J ga_164) H locs := hS
                have hp_164 : cx_G ga_164 ↔ cx_G ga_136 ∨ ¬ v160_s0 = 0 := hp_164
                exact J167 d1_104 fo_104 (fun _ => co_78) ga_164 _ _ _ (by first | exact cx_goN (Q := fun j => (∀ i, i < j → ¬ cx_lk M i j) ∧ cx_gn n k (T 0) (T 1) (T 2) (T 3) M (cx_Ac T n) t (M 1 j) (M 2 j)) hq (fun z => g52 z.1) | exact cx_goS (Q := fun j => (∀ i, i < j → ¬ cx_lk M i j) ∧ cx_gn n k (T 0) (T 1) (T 2) (T 3) M (cx_Ac T n) t (M 1 j) (M 2 j)) hq (cx_gvS g52 hp_78.1 (hp_104.2.li hk (fun m z => z.1)) hp_111.1 hp_143.1 hp_136 hp_164 b132.2 b160.2)) hS (lv_sub hl [0, 1, 2, 3] rfl)
              refine lv_icmp_eq (tgt := 159) hx hb dX1_findGivenFaults_152 (by decide) (fun h152 => ?_) (fun h152 => ?_)
              · skip
                refine lv_iconst (v := (0 : Int32)) hx hb dX1_findGivenFaults_159 (by decide) ?_
                exact J160 (0 : Int32) _ _ _ (cx_e0 (by (try clear RET); (try clear hS); (try clear hl); (try clear hE); (try clear hts); (try clear hb); (try clear hx); (try clear hml); (try clear hown); (try clear hinX1); (try clear hinX3); (try clear hinX5); (try clear J30); (try clear J33); (try clear ih33); (try clear hN33); (try clear J167); (try clear J132); (try clear J160); have y10 : ¬ (1 : Int32) = 0 := (by decide); first | assumption | ((try unfold cx_must at *); grind))) (by first | exact Or.inl rfl | exact Or.inr (hp_143.2.resolve_left h152)) hS (lv_sub hl [1, 2, 3, 4, 5, 0] rfl)
              · skip
                refine lv_iconst (v := (1 : Int32)) hx hb dX1_findGivenFaults_155 (by decide) ?_
                refine lv_goto (tgt := 160) hx hb dX1_findGivenFaults_156 (by decide) ?_
                exact J160 (1 : Int32) _ _ _ (cx_e1 (by (try clear RET); (try clear hS); (try clear hl); (try clear hE); (try clear hts); (try clear hb); (try clear hx); (try clear hml); (try clear hown); (try clear hinX1); (try clear hinX3); (try clear hinX5); (try clear J30); (try clear J33); (try clear ih33); (try clear hN33); (try clear J167); (try clear J132); (try clear J160); have y10 : ¬ (1 : Int32) = 0 := (by decide); first | assumption | ((try unfold cx_must at *); grind))) (by first | exact Or.inl rfl | exact Or.inr (hp_143.2.resolve_left h152)) hS (lv_sub hl [1, 2, 3, 4, 5, 0] rfl)
            have J131 : ∀ (H : Heap) (locs : List Loc) (ls : Array Slot), (¬ (cx_must (T 0) (T 1) t ∧ ¬ r_111 = -1)) → cx_S D vwCl A s (cxW q cI cJ n T k M d1_104 (cx_u (cx_u C 4 (fun _ => co_78)) 0 fo_104) J g_33) H locs → lv_has ls 6 [(0, .ref (q 4)), (1, .int (nI t)), (2, .int v30_s0), (3, .int (nI i33)), (4, .int r_111)] → W p l e ({ frames := 3, cells := 0, slots := 0, locals := 74 } : Room) s m args below meth c H locs 0 0 Q (F0 m 131 ls [.ref (q 4)]) := by
              intro  H locs ls f131 hS hl
              refine lv_iconst (v := (0 : Int32)) hx hb dX1_findGivenFaults_131 (by decide) ?_
              exact J132 (0 : Int32) _ _ _ (cx_e0 (by (try clear RET); (try clear hS); (try clear hl); (try clear hE); (try clear hts); (try clear hb); (try clear hx); (try clear hml); (try clear hown); (try clear hinX1); (try clear hinX3); (try clear hinX5); (try clear J30); (try clear J33); (try clear ih33); (try clear hN33); (try clear J167); (try clear J132); (try clear J131); have y10 : ¬ (1 : Int32) = 0 := (by decide); first | assumption | ((try unfold cx_must at *); grind))) (by first | exact Or.inl rfl | exact Or.inr (hp_111.2.resolve_left h124)) hS (lv_sub hl [0, 1, 2, 3, 4] rfl)
            refine lv_if_eq (tgt := 131) hx hb dX1_findGivenFaults_118 (by decide) (fun h118 => ?_) (fun h118 => ?_)
            · skip
              have g118 : ¬ (cx_must (T 0) (T 1) t) := fun z => b30.2.mpr z h118
              exact J131  _ _ _ (by (try clear RET); (try clear hS); (try clear hl); (try clear hE); (try clear hts); (try clear hb); (try clear hx); (try clear hml); (try clear hown); (try clear hinX1); (try clear hinX3); (try clear hinX5); (try clear J30); (try clear J33); (try clear ih33); (try clear hN33); (try clear J167); (try clear J132); (try clear J131); have y10 : ¬ (1 : Int32) = 0 := (by decide); first | assumption | ((try unfold cx_must at *); grind)) hS (lv_sub hl [1, 2, 3, 4, 0] rfl)
            · skip
              have g118 : cx_must (T 0) (T 1) t := b30.2.mp h118
              refine lv_iload hx hb dX1_findGivenFaults_121 (lv_at hl 0 rfl) ?_
              refine lv_iconst (v := (-1 : Int32)) hx hb dX1_findGivenFaults_123 (by decide) ?_
              refine lv_icmp_eq (tgt := 131) hx hb dX1_findGivenFaults_124 (by decide) (fun h124 => ?_) (fun h124 => ?_)
              · skip
                exact J131  _ _ _ (by (try clear RET); (try clear hS); (try clear hl); (try clear hE); (try clear hts); (try clear hb); (try clear hx); (try clear hml); (try clear hown); (try clear hinX1); (try clear hinX3); (try clear hinX5); (try clear J30); (try clear J33); (try clear ih33); (try clear hN33); (try clear J167); (try clear J132); (try clear J131); have y10 : ¬ (1 : Int32) = 0 := (by decide); first | assumption | ((try unfold cx_must at *); grind)) hS (lv_sub hl [1, 2, 3, 4, 0] rfl)
              · skip
                refine lv_iconst (v := (1 : Int32)) hx hb dX1_findGivenFaults_127 (by decide) ?_
                refine lv_goto (tgt := 132) hx hb dX1_findGivenFaults_128 (by decide) ?_
                exact J132 (1 : Int32) _ _ _ (cx_e1 (by (try clear RET); (try clear hS); (try clear hl); (try clear hE); (try clear hts); (try clear hb); (try clear hx); (try clear hml); (try clear hown); (try clear hinX1); (try clear hinX3); (try clear hinX5); (try clear J30); (try clear J33); (try clear ih33); (try clear hN33); (try clear J167); (try clear J132); (try clear J131); have y10 : ¬ (1 : Int32) = 0 := (by decide); first | assumption | ((try unfold cx_must at *); grind))) (by first | exact Or.inl rfl | exact Or.inr (hp_111.2.resolve_left h124)) hS (lv_sub hl [1, 2, 3, 4, 0] rfl)
    exact J33 (k - 0 + 1) 0 d (C 0) (C 4) g _ _ _ (Nat.lt_succ_self _) (by (try clear hp_143); (try clear hp_111); (try clear hq); omega) (by first | exact hq2 | exact cx_go0) hS (lv_sub hl [2, 3, 1, 0] rfl)
  have J29 : ∀ (H : Heap) (locs : List Loc) (ls : Array Slot), (¬ (cx_must (T 0) (T 1) t)) → cx_S D vwCl A s (cxW q cI cJ n T k M d C J g) H locs → lv_has ls 6 [(0, .ref (q 4)), (1, .int (nI t))] → W p l e ({ frames := 3, cells := 0, slots := 0, locals := 74 } : Room) s m args below meth c H locs 0 0 Q (F0 m 29 ls []) := by
    intro  H locs ls f29 hS hl
    refine lv_iconst (v := (0 : Int32)) hx hb dX1_findGivenFaults_29 (by decide) ?_
    exact J30 (0 : Int32) _ _ _ (cx_e0 (by (try clear RET); (try clear hS); (try clear hl); (try clear hE); (try clear hts); (try clear hb); (try clear hx); (try clear hml); (try clear hown); (try clear hinX1); (try clear hinX3); (try clear hinX5); (try clear J30); (try clear J29); have y10 : ¬ (1 : Int32) = 0 := (by decide); first | assumption | ((try unfold cx_must at *); grind))) hS (lv_sub hl [0, 1] rfl)
  refine lv_icmp_eq (tgt := 29) hx hb dX1_findGivenFaults_10 (by decide) (fun h10 => ?_) (fun h10 => ?_)
  · skip
    exact J29  _ _ _ (by (try clear RET); (try clear hS); (try clear hl); (try clear hE); (try clear hts); (try clear hb); (try clear hx); (try clear hml); (try clear hown); (try clear hinX1); (try clear hinX3); (try clear hinX5); (try clear J30); (try clear J29); have y10 : ¬ (1 : Int32) = 0 := (by decide); first | assumption | ((try unfold cx_must at *); grind)) hS (lv_sub hl [0, 1] rfl)
  · skip
    refine lv_aload_n hx hb dX1_findGivenFaults_13 rfl (lv_at hl 0 rfl) ?_
    refine cx_get (own := RX1) (index := 26) (C := RX1) (T := TX1) (N := 9) (k := 0) (ci := 1) (v := .ref (q 1)) hx hb hts hown hE hS hinX1 4 rfl rfl (by decide) (List.mem_of_getElem? (i := 1) rfl) rfl dX1_findGivenFaults_14 ?_
    refine lv_iload_n hx hb dX1_findGivenFaults_17 rfl (lv_at hl 1 rfl) ?_
    refine lv_iconst (v := (1 : Int32)) hx hb dX1_findGivenFaults_18 (by decide) ?_
    refine cx_cVi (As := [.int (nI t), .int (1 : Int32)]) (rest := []) ⟨hx, hb, hml, hown, hts⟩ hE hS (c_X5_marked l D q cI cJ n T k M d C J g t (1 : Int32) (by first | assumption | omega | rfl)) (cwV 2 hts gX1_findGivenFaults_X5_marked rfl rfl rfl (by decide +kernel) ⟨Nat.le_of_ble_eq_true rfl, Nat.le_of_ble_eq_true rfl⟩) 1 5 rfl rfl rfl hl.1 rfl (Nat.le_of_ble_eq_true rfl) ⟨Nat.zero_le _, Nat.zero_le _⟩ dX1_findGivenFaults_19 (fun r_19 u_19 H locs hp_19 hS => ?_)
    have hp_19 : (r_19 = 0 ∨ r_19 = 1) ∧ (¬ r_19 = 0 ↔ cx_mk ((T 1)) t (1 : Int32)) := hp_19
    refine lv_if_ne (tgt := 29) hx hb dX1_findGivenFaults_22 (by decide) (fun h22 => ?_) (fun h22 => ?_)
    · skip
      have g22 : cx_mk ((T 1)) t (1 : Int32) := hp_19.2.mp h22
      exact J29  _ _ _ (by (try clear RET); (try clear hS); (try clear hl); (try clear hE); (try clear hts); (try clear hb); (try clear hx); (try clear hml); (try clear hown); (try clear hinX1); (try clear hinX3); (try clear hinX5); (try clear J30); (try clear J29); have y10 : ¬ (1 : Int32) = 0 := (by decide); first | assumption | ((try unfold cx_must at *); grind)) hS (lv_sub hl [0, 1] rfl)
    · skip
      have g22 : ¬ (cx_mk ((T 1)) t (1 : Int32)) := fun z => hp_19.2.mpr z h22
      refine lv_iconst (v := (1 : Int32)) hx hb dX1_findGivenFaults_25 (by decide) ?_
      refine lv_goto (tgt := 30) hx hb dX1_findGivenFaults_26 (by decide) ?_
      exact J30 (1 : Int32) _ _ _ (cx_e1 (by (try clear RET); (try clear hS); (try clear hl); (try clear hE); (try clear hts); (try clear hb); (try clear hx); (try clear hml); (try clear hown); (try clear hinX1); (try clear hinX3); (try clear hinX5); (try clear J30); (try clear J29); have y10 : ¬ (1 : Int32) = 0 := (by decide); first | assumption | ((try unfold cx_must at *); grind))) hS (lv_sub hl [0, 1] rfl)
set_option maxHeartbeats 4000000 in
set_option maxRecDepth 100000 in
theorem c_X1_keep (l : Launch) (D : va_G) (q : Nat → Nat) (cI cJ : ClassId) (n : Nat) (T : Nat → Nat → Int32) (k : Nat) (M : Nat → Nat → Int32) (d : Nat) (C : Nat → Nat → Int32) (J : Nat → Nat → Int32) (g : Nat → Int64) (t : Nat) (hn : n ≤ 20) (hk : k ≤ 80) (hO : cx_R (M 0) 20) (hP : cx_P (T 3) 20) (hOn : ∀ j, j < k → (M 0 j).toNatClampNeg < n) (hR1 : cx_R (T 1) 16) (hR3 : cx_R (M 3) 16) (hB4 : cx_B4 n T) (ht : t < n) (hKT : ((J 2) 0 = -1 ∨ ∃ a, a < n ∧ (J 2) 0 = nI a ∧ (cx_G g ↔ cx_AF n k (T 0) (T 1) (T 2) (T 3) M (cx_Uc T) (cx_Wc T) (cx_Vc T) (cx_Ac T n) a))) : cx_Mv l D vwCl [(cI, .int), (cJ, .long)] cx_NW yX1_keep wsX1_keep ({ frames := 4, cells := 0, slots := 0, locals := 99 } : Room) [.ref (q 4), .int (nI t)] (cxW q cI cJ n T k M d C J g) (fun (uw : (Int32) × (Nat) × (Nat → Int32) × (Nat → Nat → Int32) × (Nat → Int64)) => (uw.2.2.2.1 0 = J 0 ∧ uw.2.2.2.1 1 = J 1 ∧ (uw.2.2.2.1 2) 0 = nI t) ∧ (cx_G uw.2.2.2.2 ↔ cx_AF n k (T 0) (T 1) (T 2) (T 3) M (cx_Uc T) (cx_Wc T) (cx_Vc T) (cx_Ac T n) t)) (fun uw => (cxW q cI cJ n T k M uw.2.1 (cx_u (cx_u C 4 (fun _ => uw.1)) 0 uw.2.2.1) uw.2.2.2.1 uw.2.2.2.2)) := by
  refine cx_Mv.of (cc := cX1_keep) (maxL := 2) cx_NW_ok (by decide) rfl (Nat.le_of_ble_eq_true rfl) ?_
  intro p e s m args below meth c Q A ls hx hb hml hown hts hE RET hS hl
  have hl : lv_has ls 2 [(0, .ref (q 4)), (1, .int (nI t))] := hl
  have hown : s.vm.findClass RX1 = some m.cls := hown
  have hinX1 : ∀ w ∈ u_ws RX1 TX1 9, w ∈ wsX1_keep := cx_mem [237, 238, 239, 240, 241, 242, 243, 244, 245] (by decide +kernel)
  refine lv_aload_n hx hb dX1_keep_0 rfl (lv_at hl 0 rfl) ?_
  refine cx_get (own := RX1) (index := 23) (C := RX1) (T := TX1) (N := 9) (k := 8) (ci := 1) (v := .int ((J 2) 0)) hx hb hts hown hE hS hinX1 4 rfl rfl (by decide) (List.mem_of_getElem? (i := 1) rfl) rfl dX1_keep_1 ?_
  refine lv_iload_n hx hb dX1_keep_4 rfl (lv_at hl 1 rfl) ?_
  refine lv_icmp_ne (tgt := 9) hx hb dX1_keep_5 (by decide) (fun h5 => ?_) (fun h5 => ?_)
  · skip
    refine lv_aload_n hx hb dX1_keep_9 rfl (lv_at hl 0 rfl) ?_
    refine cx_get (own := RX1) (index := 11) (C := RX1) (T := TX1) (N := 9) (k := 5) (ci := 1) (v := .ref (q 27)) hx hb hts hown hE hS hinX1 4 rfl rfl (by decide) (List.mem_of_getElem? (i := 2) rfl) rfl dX1_keep_10 ?_
    refine lv_lconst (v := (0 : Int64)) hx hb dX1_keep_13 (by decide) ?_
    refine cx_cSv (As := [.ref (q 27), .long (0 : Int64)]) (rest := []) ⟨hx, hb, hml, hown, hts⟩ hE hS (c_J7_fill_d0a16 l D q cI cJ n T k M d C J g (0 : Int64) ) (va_cwS 2 hts gX1_keep_J7_fill_d0a16 rfl rfl rfl (by decide +kernel) ⟨Nat.le_of_ble_eq_true rfl, Nat.le_of_ble_eq_true rfl⟩) rfl hl.1 rfl (Nat.le_of_ble_eq_true rfl) ⟨Nat.zero_le _, Nat.zero_le _⟩ dX1_keep_14 (fun u_14 H locs hp_14 hS => ?_)
    obtain ⟨ga_14, rfl⟩ : ∃ z, z = u_14 := ⟨_, rfl⟩
    have hS : cx_S D vwCl A s (cxW q cI cJ n T k M d C J ga_14) H locs := hS
    have hp_14 : ∀ j, j < 36 → ga_14 j = (0 : Int64) := hp_14
    refine lv_aload_n hx hb dX1_keep_17 rfl (lv_at hl 0 rfl) ?_
    refine lv_iload_n hx hb dX1_keep_18 rfl (lv_at hl 1 rfl) ?_
    refine cx_cVv (As := [.int (nI t)]) (rest := []) ⟨hx, hb, hml, hown, hts⟩ hE hS (c_X1_findTypeFaults l D q cI cJ n T k M d C J ga_14 t (by first | assumption | omega | rfl) (by first | assumption | omega | rfl) (by first | assumption | omega | rfl) (by first | assumption | omega | rfl) (fun j hj => hp_14 j hj)) (cwV 1 hts gX1_keep_X1_findTypeFaults rfl rfl rfl (by decide +kernel) ⟨Nat.le_of_ble_eq_true rfl, Nat.le_of_ble_eq_true rfl⟩) 4 1 rfl rfl rfl hl.1 rfl (Nat.le_of_ble_eq_true rfl) ⟨Nat.zero_le _, Nat.zero_le _⟩ dX1_keep_19 (fun u_19 H locs hp_19 hS => ?_)
    obtain ⟨ga_19, rfl⟩ : ∃ z, z = u_19 := ⟨_, rfl⟩
    have hS : cx_S D vwCl A s (cxW q cI cJ n T k M d C J ga_19) H locs := hS
    have hp_19 : cx_G ga_19 ↔ cx_FF n ((T 0)) ((T 3)) (cx_Uc T) (cx_Vc T) (cx_Ac T n) t ∨ cx_TF n ((T 0)) ((T 1)) ((T 3)) (cx_Uc T) (cx_Wc T) (cx_Vc T) t := hp_19
    refine lv_aload_n hx hb dX1_keep_22 rfl (lv_at hl 0 rfl) ?_
    refine lv_iload_n hx hb dX1_keep_23 rfl (lv_at hl 1 rfl) ?_
    refine cx_cVv (As := [.int (nI t)]) (rest := []) ⟨hx, hb, hml, hown, hts⟩ hE hS (c_X1_findMemberFaults l D q cI cJ n T k M d C J ga_19 t (by first | assumption | omega | rfl) (by first | assumption | omega | rfl) (by first | assumption | omega | rfl) (by first | assumption | omega | rfl) (by first | assumption | omega | rfl)) (cwV 1 hts gX1_keep_X1_findMemberFaults rfl rfl rfl (by decide +kernel) ⟨Nat.le_of_ble_eq_true rfl, Nat.le_of_ble_eq_true rfl⟩) 4 1 rfl rfl rfl hl.1 rfl (Nat.le_of_ble_eq_true rfl) ⟨Nat.zero_le _, Nat.zero_le _⟩ dX1_keep_24 (fun u_24 H locs hp_24 hS => ?_)
    obtain ⟨ga_24, rfl⟩ : ∃ z, z = u_24 := ⟨_, rfl⟩
    have hS : cx_S D vwCl A s (cxW q cI cJ n T k M d C J ga_24) H locs := hS
    have hp_24 : cx_G ga_24 ↔ cx_G ga_19 ∨ cx_MF k ((T 0)) ((T 1)) M t := hp_24
    refine lv_aload_n hx hb dX1_keep_27 rfl (lv_at hl 0 rfl) ?_
    refine cx_get (own := RX1) (index := 43) (C := RX1) (T := TX1) (N := 9) (k := 3) (ci := 1) (v := .ref (q 5)) hx hb hts hown hE hS hinX1 4 rfl rfl (by decide) (List.mem_of_getElem? (i := 3) rfl) rfl dX1_keep_28 ?_
    refine lv_iload_n hx hb dX1_keep_31 rfl (lv_at hl 1 rfl) ?_
    refine cx_cVi (As := [.int (nI t)]) (rest := []) ⟨hx, hb, hml, hown, hts⟩ hE hS (c_X4_shaky l D q cI cJ n T k M d C J ga_24 t (by first | assumption | omega | rfl) (by first | assumption | omega | rfl) (by first | assumption | omega | rfl)) (cwV 1 hts gX1_keep_X4_shaky rfl rfl rfl (by decide +kernel) ⟨Nat.le_of_ble_eq_true rfl, Nat.le_of_ble_eq_true rfl⟩) 5 4 rfl rfl rfl hl.1 rfl (Nat.le_of_ble_eq_true rfl) ⟨Nat.zero_le _, Nat.zero_le _⟩ dX1_keep_32 (fun r_32 u_32 H locs hp_32 hS => ?_)
    have hp_32 : (r_32 = 0 ∨ r_32 = 1) ∧ (¬ r_32 = 0 ↔ cx_SK n ((T 0)) ((T 3)) (cx_Uc T) (cx_Vc T) (cx_Ac T n) t) := hp_32
    have J48 : ∀ (d_48 : Nat) (C_0_48 : Nat → Int32) (C_4_48 : Nat → Int32) (g_48 : Nat → Int64) (H : Heap) (locs : List Loc) (ls : Array Slot), (cx_G g_48 ↔ cx_AF n k (T 0) (T 1) (T 2) (T 3) M (cx_Uc T) (cx_Wc T) (cx_Vc T) (cx_Ac T n) t) → cx_S D vwCl A s (cxW q cI cJ n T k M d_48 (cx_u (cx_u C 0 C_0_48) 4 C_4_48) J g_48) H locs → lv_has ls 2 [(0, .ref (q 4)), (1, .int (nI t))] → W p l e ({ frames := 4, cells := 0, slots := 0, locals := 99 } : Room) s m args below meth c H locs 0 0 Q (F0 m 48 ls []) := by
      intro d_48 C_0_48 C_4_48 g_48 H locs ls hq hS hl
      refine lv_aload_n hx hb dX1_keep_48 rfl (lv_at hl 0 rfl) ?_
      refine lv_iload_n hx hb dX1_keep_49 rfl (lv_at hl 1 rfl) ?_
      refine cx_put (own := RX1) (index := 23) (C := RX1) (T := TX1) (N := 9) (k := 8) (ci := 1) (v := .int (nI t)) (ty := .int) (ws' := (cxW q cI cJ n T k M d_48 (cx_u (cx_u C 0 C_0_48) 4 C_4_48) (cx_u J 2 (fun _ => nI t)) g_48)) hx hb hts hown hE hS hinX1 tyX1 tyX1_ok nmX1 4 rfl rfl (by decide) (List.mem_of_getElem? (i := 1) rfl) rfl (by decide +kernel) rfl rfl (Nat.le_of_ble_eq_true rfl) rfl dX1_keep_50 (fun H locs hS => ?_)
      exact RET (C_4_48 0, d_48, C_0_48, cx_u J 2 (fun _ => nI t), g_48) _ _ _ _ dX1_keep_53 (⟨⟨rfl, rfl, rfl⟩, hq⟩) hS
    refine lv_if_ne (tgt := 48) hx hb dX1_keep_35 (by decide) (fun h35 => ?_) (fun h35 => ?_)
    · skip
      have g35 : cx_SK n ((T 0)) ((T 3)) (cx_Uc T) (cx_Vc T) (cx_Ac T n) t := hp_32.2.mp h35
      exact J48 d (C 0) (C 4) ga_24 _ _ _ (by first | exact cx_kpS hp_19 hp_24 g35 | exact cx_kpN hp_19 hp_24 g35 hp_40 hp_45) hS (lv_sub hl [0, 1] rfl)
    · skip
      have g35 : ¬ (cx_SK n ((T 0)) ((T 3)) (cx_Uc T) (cx_Vc T) (cx_Ac T n) t) := fun z => hp_32.2.mpr z h35
      refine lv_aload_n hx hb dX1_keep_38 rfl (lv_at hl 0 rfl) ?_
      refine lv_iload_n hx hb dX1_keep_39 rfl (lv_at hl 1 rfl) ?_
      refine cx_cVv (As := [.int (nI t)]) (rest := []) ⟨hx, hb, hml, hown, hts⟩ hE hS (c_X1_findInheritedFaults l D q cI cJ n T k M d C J ga_24 t (by first | assumption | omega | rfl) (by first | assumption | omega | rfl) (by first | assumption | omega | rfl) (by first | assumption | omega | rfl) (by first | assumption | omega | rfl)) (cwV 1 hts gX1_keep_X1_findInheritedFaults rfl rfl rfl (by decide +kernel) ⟨Nat.le_of_ble_eq_true rfl, Nat.le_of_ble_eq_true rfl⟩) 4 1 rfl rfl rfl hl.1 rfl (Nat.le_of_ble_eq_true rfl) ⟨Nat.zero_le _, Nat.zero_le _⟩ dX1_keep_40 (fun u_40 H locs hp_40 hS => ?_)
      obtain ⟨ga_40, rfl⟩ : ∃ z, z = u_40 := ⟨_, rfl⟩
      have hS : cx_S D vwCl A s (cxW q cI cJ n T k M d C J ga_40) H locs := hS
      have hp_40 : cx_G ga_40 ↔ cx_G ga_24 ∨ cx_OV n k ((T 0)) ((T 2)) M (cx_Ac T n) t := hp_40
      refine lv_aload_n hx hb dX1_keep_43 rfl (lv_at hl 0 rfl) ?_
      refine lv_iload_n hx hb dX1_keep_44 rfl (lv_at hl 1 rfl) ?_
      refine cx_cVv (As := [.int (nI t)]) (rest := []) ⟨hx, hb, hml, hown, hts⟩ hE hS (c_X1_findGivenFaults l D q cI cJ n T k M d C J ga_40 t (by first | assumption | omega | rfl) (by first | assumption | omega | rfl) (by first | assumption | omega | rfl) (by first | assumption | omega | rfl) (by first | assumption | omega | rfl) (by first | assumption | omega | rfl)) (cwV 1 hts gX1_keep_X1_findGivenFaults rfl rfl rfl (by decide +kernel) ⟨Nat.le_of_ble_eq_true rfl, Nat.le_of_ble_eq_true rfl⟩) 4 1 rfl rfl rfl hl.1 rfl (Nat.le_of_ble_eq_true rfl) ⟨Nat.zero_le _, Nat.zero_le _⟩ dX1_keep_45 (fun u_45 H locs hp_45 hS => ?_)
      obtain ⟨co_45, d1_45, fo_45, ga_45⟩ := u_45
      have hS : cx_S D vwCl A s (cxW q cI cJ n T k M d1_45 (cx_u (cx_u C 4 (fun _ => co_45)) 0 fo_45) J ga_45) H locs := hS
      have hp_45 : cx_G ga_45 ↔ cx_G ga_40 ∨ cx_GV n k ((T 0)) ((T 1)) ((T 2)) ((T 3)) M (cx_Ac T n) t := hp_45
      exact J48 d1_45 fo_45 (fun _ => co_45) ga_45 _ _ _ (by first | exact cx_kpS hp_19 hp_24 g35 | exact cx_kpN hp_19 hp_24 g35 hp_40 hp_45) hS (lv_sub hl [0, 1] rfl)
  · skip
    exact RET ((C 4) 0, d, C 0, J, g) _ _ _ _ dX1_keep_8 (⟨⟨rfl, rfl, h5⟩, cx_kp0 hn ht hKT h5⟩) hS
set_option maxHeartbeats 4000000 in
set_option maxRecDepth 100000 in
theorem c_X1_countOf (l : Launch) (D : va_G) (q : Nat → Nat) (cI cJ : ClassId) (n : Nat) (T : Nat → Nat → Int32) (k : Nat) (M : Nat → Nat → Int32) (d : Nat) (C : Nat → Nat → Int32) (J : Nat → Nat → Int32) (g : Nat → Int64) (t : Nat) (hn : n ≤ 20) (hk : k ≤ 80) (hO : cx_R (M 0) 20) (hP : cx_P (T 3) 20) (hOn : ∀ j, j < k → (M 0 j).toNatClampNeg < n) (hR1 : cx_R (T 1) 16) (hR3 : cx_R (M 3) 16) (hB4 : cx_B4 n T) (ht : t < n) (hCI : (∀ a, a < n → bt ((J 1) 0) a = true → (¬ (J 0) a ≤ 0 ↔ cx_AF n k (T 0) (T 1) (T 2) (T 3) M (cx_Uc T) (cx_Wc T) (cx_Vc T) (cx_Ac T n) a)) ∧ ((J 2) 0 = -1 ∨ ∃ a, a < n ∧ (J 2) 0 = nI a ∧ (cx_G g ↔ cx_AF n k (T 0) (T 1) (T 2) (T 3) M (cx_Uc T) (cx_Wc T) (cx_Vc T) (cx_Ac T n) a))) : cx_Mi l D vwCl [(cI, .int), (cJ, .long)] cx_NW yX1_countOf wsX1_countOf ({ frames := 5, cells := 0, slots := 0, locals := 120 } : Room) [.ref (q 4), .int (nI t)] (cxW q cI cJ n T k M d C J g) (fun (r : Int32) (uw : (Int32) × (Nat) × (Nat → Int32) × (Nat → Nat → Int32) × (Nat → Int64)) => (¬ r ≤ 0 ↔ cx_AF n k (T 0) (T 1) (T 2) (T 3) M (cx_Uc T) (cx_Wc T) (cx_Vc T) (cx_Ac T n) t) ∧ ((∀ a, a < n → bt ((uw.2.2.2.1 1) 0) a = true → (¬ (uw.2.2.2.1 0) a ≤ 0 ↔ cx_AF n k (T 0) (T 1) (T 2) (T 3) M (cx_Uc T) (cx_Wc T) (cx_Vc T) (cx_Ac T n) a)) ∧ ((uw.2.2.2.1 2) 0 = -1 ∨ ∃ a, a < n ∧ (uw.2.2.2.1 2) 0 = nI a ∧ (cx_G uw.2.2.2.2 ↔ cx_AF n k (T 0) (T 1) (T 2) (T 3) M (cx_Uc T) (cx_Wc T) (cx_Vc T) (cx_Ac T n) a)))) (fun uw => (cxW q cI cJ n T k M uw.2.1 (cx_u (cx_u C 4 (fun _ => uw.1)) 0 uw.2.2.1) uw.2.2.2.1 uw.2.2.2.2)) := by
  refine cx_Mi.of (cc := cX1_countOf) (maxL := 2) cx_NW_ok (by decide) rfl (Nat.le_of_ble_eq_true rfl) ?_
  intro p e s m args below meth c Q A ls hx hb hml hown hts hE RET hS hl
  have hl : lv_has ls 2 [(0, .ref (q 4)), (1, .int (nI t))] := hl
  have hown : s.vm.findClass RX1 = some m.cls := hown
  have hinX1 : ∀ w ∈ u_ws RX1 TX1 9, w ∈ wsX1_countOf := cx_mem [254, 255, 256, 257, 258, 259, 260, 261, 262] (by decide +kernel)
  refine lv_aload_n hx hb dX1_countOf_0 rfl (lv_at hl 0 rfl) ?_
  refine cx_get (own := RX1) (index := 19) (C := RX1) (T := TX1) (N := 9) (k := 7) (ci := 1) (v := .int ((J 1) 0)) hx hb hts hown hE hS hinX1 4 rfl rfl (by decide) (List.mem_of_getElem? (i := 1) rfl) rfl dX1_countOf_1 ?_
  refine lv_iload_n hx hb dX1_countOf_4 rfl (lv_at hl 1 rfl) ?_
  refine cx_cNi (As := [.int ((J 1) 0), .int (nI t)]) (rest := []) ⟨hx, hb, hml, hown, hts⟩ hE hS (c_X6_holds_at_b l D [(cI, .int), (cJ, .long)] (cxW q cI cJ n T k M d C J g) ((J 1) 0) t (by first | assumption | omega | rfl)) ⟨va_cnB (own := RX1) (index := 56) (host := "ClassRules") 2 hts gX1_countOf_X6_holds_n56 rfl rfl rfl (hE.2.1 _ (List.mem_of_getElem? (i := 35) rfl)) (hts (.initialized RX6) (List.mem_of_getElem? (i := 4) rfl)) (by decide +kernel) ⟨Nat.le_of_ble_eq_true rfl, Nat.le_of_ble_eq_true rfl⟩, hts (.static yX6_holds) (List.mem_of_getElem? (i := 3) rfl), trivial⟩ rfl hl.1 rfl (Nat.le_of_ble_eq_true rfl) ⟨Nat.zero_le _, Nat.zero_le _⟩ dX1_countOf_5 (fun r_5 u_5 H locs hp_5 hS => ?_)
  have hp_5 : r_5 = cx_b (bt ((J 1) 0) t = true) := hp_5
  subst hp_5
  have J39 : ∀ (d_39 : Nat) (C_0_39 : Nat → Int32) (C_4_39 : Nat → Int32) (J_39 : Nat → Nat → Int32) (g_39 : Nat → Int64) (H : Heap) (locs : List Loc) (ls : Array Slot), ((¬ (J_39 0) t ≤ 0 ↔ cx_AF n k (T 0) (T 1) (T 2) (T 3) M (cx_Uc T) (cx_Wc T) (cx_Vc T) (cx_Ac T n) t) ∧ ((∀ a, a < n → bt ((J_39 1) 0) a = true → (¬ (J_39 0) a ≤ 0 ↔ cx_AF n k (T 0) (T 1) (T 2) (T 3) M (cx_Uc T) (cx_Wc T) (cx_Vc T) (cx_Ac T n) a)) ∧ ((J_39 2) 0 = -1 ∨ ∃ a, a < n ∧ (J_39 2) 0 = nI a ∧ (cx_G g_39 ↔ cx_AF n k (T 0) (T 1) (T 2) (T 3) M (cx_Uc T) (cx_Wc T) (cx_Vc T) (cx_Ac T n) a)))) → cx_S D vwCl A s (cxW q cI cJ n T k M d_39 (cx_u (cx_u C 0 C_0_39) 4 C_4_39) J_39 g_39) H locs → lv_has ls 2 [(0, .ref (q 4)), (1, .int (nI t))] → W p l e ({ frames := 5, cells := 0, slots := 0, locals := 120 } : Room) s m args below meth c H locs 0 0 Q (F0 m 39 ls []) := by
    intro d_39 C_0_39 C_4_39 J_39 g_39 H locs ls hq hS hl
    refine lv_aload_n hx hb dX1_countOf_39 rfl (lv_at hl 0 rfl) ?_
    refine cx_get (own := RX1) (index := 15) (C := RX1) (T := TX1) (N := 9) (k := 6) (ci := 1) (v := .ref (q 28)) hx hb hts hown hE hS hinX1 4 rfl rfl (by decide) (List.mem_of_getElem? (i := 2) rfl) rfl dX1_countOf_40 ?_
    refine lv_iload_n hx hb dX1_countOf_43 rfl (lv_at hl 1 rfl) ?_
    refine cx_iald (f := (J_39 0)) (n := 20) (cA := cI) hx hb hE hS 28 0 rfl rfl (by omega) (by decide) dX1_countOf_44 ?_
    exact RET _ (C_4_39 0, d_39, C_0_39, J_39, g_39) _ _ _ _ dX1_countOf_45 rfl hq hS
  refine lv_if_ne (tgt := 39) hx hb dX1_countOf_8 (by decide) (fun h8 => ?_) (fun h8 => ?_)
  · skip
    have g8 := cx_b1 h8
    exact J39 d (C 0) (C 4) J g _ _ _ (by first | exact ⟨hCI.1 t ht g8, hCI⟩ | exact cx_coS hn ht hCI.1 hp_13 hp_22) hS (lv_sub hl [0, 1] rfl)
  · skip
    have g8 := cx_b0 h8
    refine lv_aload_n hx hb dX1_countOf_11 rfl (lv_at hl 0 rfl) ?_
    refine lv_iload_n hx hb dX1_countOf_12 rfl (lv_at hl 1 rfl) ?_
    refine cx_cVv (As := [.int (nI t)]) (rest := []) ⟨hx, hb, hml, hown, hts⟩ hE hS (c_X1_keep l D q cI cJ n T k M d C J g t (by first | assumption | omega | rfl) (by first | assumption | omega | rfl) (by first | assumption | omega | rfl) (by first | assumption | omega | rfl) (by first | assumption | omega | rfl) (by first | assumption | omega | rfl) (by first | assumption | omega | rfl) (by first | assumption | omega | rfl) (by first | assumption | omega | rfl) hCI.2) (cwV 1 hts gX1_countOf_X1_keep rfl rfl rfl (by decide +kernel) ⟨Nat.le_of_ble_eq_true rfl, Nat.le_of_ble_eq_true rfl⟩) 4 1 rfl rfl rfl hl.1 rfl (Nat.le_of_ble_eq_true rfl) ⟨Nat.zero_le _, Nat.zero_le _⟩ dX1_countOf_13 (fun u_13 H locs hp_13 hS => ?_)
    obtain ⟨co_13, d1_13, fo_13, J1_13, ga_13⟩ := u_13
    have hS : cx_S D vwCl A s (cxW q cI cJ n T k M d1_13 (cx_u (cx_u C 4 (fun _ => co_13)) 0 fo_13) J1_13 ga_13) H locs := hS
    have hp_13 : (J1_13 0 = (J 0) ∧ J1_13 1 = (J 1) ∧ (J1_13 2) 0 = nI t) ∧ (cx_G ga_13 ↔ cx_AF n k ((T 0)) ((T 1)) ((T 2)) ((T 3)) M (cx_Uc T) (cx_Wc T) (cx_Vc T) (cx_Ac T n) t) := hp_13
    refine lv_aload_n hx hb dX1_countOf_16 rfl (lv_at hl 0 rfl) ?_
    refine cx_get (own := RX1) (index := 15) (C := RX1) (T := TX1) (N := 9) (k := 6) (ci := 1) (v := .ref (q 28)) hx hb hts hown hE hS hinX1 4 rfl rfl (by decide) (List.mem_of_getElem? (i := 2) rfl) rfl dX1_countOf_17 ?_
    refine lv_iload_n hx hb dX1_countOf_20 rfl (lv_at hl 1 rfl) ?_
    refine lv_aload_n hx hb dX1_countOf_21 rfl (lv_at hl 0 rfl) ?_
    refine cx_cVi (As := []) (rest := [.int (nI t), .ref (q 28)]) ⟨hx, hb, hml, hown, hts⟩ hE hS (c_X1_countFound l D q cI cJ n T k M d1_13 (cx_u (cx_u C 4 (fun _ => co_13)) 0 fo_13) J1_13 ga_13  ) (cwV 0 hts gX1_countOf_X1_countFound rfl rfl rfl (by decide +kernel) ⟨Nat.le_of_ble_eq_true rfl, Nat.le_of_ble_eq_true rfl⟩) 4 1 rfl rfl rfl hl.1 rfl (Nat.le_of_ble_eq_true rfl) ⟨Nat.zero_le _, Nat.zero_le _⟩ dX1_countOf_22 (fun r_22 u_22 H locs hp_22 hS => ?_)
    have hp_22 : ¬ r_22 ≤ 0 ↔ cx_G ga_13 := hp_22
    refine cx_iast (k := t) (f := (J1_13 0)) (n := 20) (cA := cI) (ws' := (cxW q cI cJ n T k M d1_13 (cx_u (cx_u C 4 (fun _ => co_13)) 0 fo_13) (cx_u J1_13 0 (upd (J1_13 0) t r_22)) ga_13)) hx hb hE hS 28 0 rfl rfl (by omega) (by decide) rfl dX1_countOf_25 (fun H locs hS => ?_)
    refine lv_aload_n hx hb dX1_countOf_26 rfl (lv_at hl 0 rfl) ?_
    refine lv_dup hx hb dX1_countOf_27 rfl ?_
    refine cx_get (own := RX1) (index := 19) (C := RX1) (T := TX1) (N := 9) (k := 7) (ci := 1) (v := .int ((J1_13 1) 0)) hx hb hts hown hE hS hinX1 4 rfl rfl (by decide) (List.mem_of_getElem? (i := 1) rfl) rfl dX1_countOf_28 ?_
    refine lv_iload_n hx hb dX1_countOf_31 rfl (lv_at hl 1 rfl) ?_
    refine cx_cNi (As := [.int (nI t)]) (rest := [.int ((J1_13 1) 0), .ref (q 4)]) ⟨hx, hb, hml, hown, hts⟩ hE hS (c_X6_bit l D [(cI, .int), (cJ, .long)] (cxW q cI cJ n T k M d1_13 (cx_u (cx_u C 4 (fun _ => co_13)) 0 fo_13) (cx_u J1_13 0 (upd (J1_13 0) t r_22)) ga_13) (nI t) ) ⟨va_cnB (own := RX1) (index := 68) (host := "ClassRules") 1 hts gX1_countOf_X6_bit_n68 rfl rfl rfl (hE.2.1 _ (List.mem_of_getElem? (i := 41) rfl)) (hts (.initialized RX6) (List.mem_of_getElem? (i := 4) rfl)) (by decide +kernel) ⟨Nat.le_of_ble_eq_true rfl, Nat.le_of_ble_eq_true rfl⟩, hts (.static yX6_bit) (List.mem_of_getElem? (i := 40) rfl), trivial⟩ rfl hl.1 rfl (Nat.le_of_ble_eq_true rfl) ⟨Nat.zero_le _, Nat.zero_le _⟩ dX1_countOf_32 (fun r_32 u_32 H locs hp_32 hS => ?_)
    have hp_32 : r_32 = ((1 : Int32) <<< ((nI t) &&& 31)) := hp_32
    subst hp_32
    refine lv_ior hx hb dX1_countOf_35 ?_
    refine cx_put (own := RX1) (index := 19) (C := RX1) (T := TX1) (N := 9) (k := 7) (ci := 1) (v := .int (((J1_13 1) 0) ||| (((1 : Int32) <<< ((nI t) &&& 31))))) (ty := .int) (ws' := (cxW q cI cJ n T k M d1_13 (cx_u (cx_u C 4 (fun _ => co_13)) 0 fo_13) (cx_u (cx_u J1_13 0 (upd (J1_13 0) t r_22)) 1 (fun _ => (((J1_13 1) 0) ||| (((1 : Int32) <<< ((nI t) &&& 31)))))) ga_13)) hx hb hts hown hE hS hinX1 tyX1 tyX1_ok nmX1 4 rfl rfl (by decide) (List.mem_of_getElem? (i := 1) rfl) rfl (by decide +kernel) rfl rfl (Nat.le_of_ble_eq_true rfl) rfl dX1_countOf_36 (fun H locs hS => ?_)
    exact J39 d1_13 fo_13 (fun _ => co_13) (cx_u (cx_u J1_13 0 (upd (J1_13 0) t r_22)) 1 (fun _ => (((J1_13 1) 0) ||| (((1 : Int32) <<< ((nI t) &&& 31)))))) ga_13 _ _ _ (by first | exact ⟨hCI.1 t ht g8, hCI⟩ | exact cx_coS hn ht hCI.1 hp_13 hp_22) hS (lv_sub hl [0, 1] rfl)
set_option maxHeartbeats 4000000 in
set_option maxRecDepth 100000 in
theorem c_X1_placeAt (l : Launch) (D : va_G) (q : Nat → Nat) (cI cJ : ClassId) (n : Nat) (T : Nat → Nat → Int32) (k : Nat) (M : Nat → Nat → Int32) (d : Nat) (C : Nat → Nat → Int32) (J : Nat → Nat → Int32) (g : Nat → Int64) (t : Nat) (kk : Int32) (hn : n ≤ 20) (hk : k ≤ 80) (hO : cx_R (M 0) 20) (hP : cx_P (T 3) 20) (hOn : ∀ j, j < k → (M 0 j).toNatClampNeg < n) (hR1 : cx_R (T 1) 16) (hR3 : cx_R (M 3) 16) (hB4 : cx_B4 n T) (ht : t < n) (hCI : (∀ a, a < n → bt ((J 1) 0) a = true → (¬ (J 0) a ≤ 0 ↔ cx_AF n k (T 0) (T 1) (T 2) (T 3) M (cx_Uc T) (cx_Wc T) (cx_Vc T) (cx_Ac T n) a)) ∧ ((J 2) 0 = -1 ∨ ∃ a, a < n ∧ (J 2) 0 = nI a ∧ (cx_G g ↔ cx_AF n k (T 0) (T 1) (T 2) (T 3) M (cx_Uc T) (cx_Wc T) (cx_Vc T) (cx_Ac T n) a))) : cx_Mi l D vwCl [(cI, .int), (cJ, .long)] cx_NW yX1_placeAt wsX1_placeAt ({ frames := 5, cells := 0, slots := 0, locals := 120 } : Room) [.ref (q 4), .int (nI t), .int kk] (cxW q cI cJ n T k M d C J g) (fun (r : Int32) (uw : (Int32) × (Nat) × (Nat → Int32) × (Nat → Nat → Int32) × (Nat → Int64)) => (∀ a, a < n → bt ((uw.2.2.2.1 1) 0) a = true → (¬ (uw.2.2.2.1 0) a ≤ 0 ↔ cx_AF n k (T 0) (T 1) (T 2) (T 3) M (cx_Uc T) (cx_Wc T) (cx_Vc T) (cx_Ac T n) a)) ∧ ((uw.2.2.2.1 2) 0 = -1 ∨ ∃ a, a < n ∧ (uw.2.2.2.1 2) 0 = nI a ∧ (cx_G uw.2.2.2.2 ↔ cx_AF n k (T 0) (T 1) (T 2) (T 3) M (cx_Uc T) (cx_Wc T) (cx_Vc T) (cx_Ac T n) a))) (fun uw => (cxW q cI cJ n T k M uw.2.1 (cx_u (cx_u C 4 (fun _ => uw.1)) 0 uw.2.2.1) uw.2.2.2.1 uw.2.2.2.2)) := by
  refine cx_Mi.of (cc := cX1_placeAt) (maxL := 6) cx_NW_ok (by decide) rfl (Nat.le_of_ble_eq_true rfl) ?_
  intro p e s m args below meth c Q A ls hx hb hml hown hts hE RET hS hl
  have hl : lv_has ls 6 [(0, .ref (q 4)), (1, .int (nI t)), (2, .int kk)] := hl
  have hown : s.vm.findClass RX1 = some m.cls := hown
  refine lv_aload_n hx hb dX1_placeAt_0 rfl (lv_at hl 0 rfl) ?_
  refine lv_iload_n hx hb dX1_placeAt_1 rfl (lv_at hl 1 rfl) ?_
  refine cx_cVv (As := [.int (nI t)]) (rest := []) ⟨hx, hb, hml, hown, hts⟩ hE hS (c_X1_keep l D q cI cJ n T k M d C J g t (by first | assumption | omega | rfl) (by first | assumption | omega | rfl) (by first | assumption | omega | rfl) (by first | assumption | omega | rfl) (by first | assumption | omega | rfl) (by first | assumption | omega | rfl) (by first | assumption | omega | rfl) (by first | assumption | omega | rfl) (by first | assumption | omega | rfl) hCI.2) (cwV 1 hts gX1_placeAt_X1_keep rfl rfl rfl (by decide +kernel) ⟨Nat.le_of_ble_eq_true rfl, Nat.le_of_ble_eq_true rfl⟩) 4 1 rfl rfl rfl hl.1 rfl (Nat.le_of_ble_eq_true rfl) ⟨Nat.zero_le _, Nat.zero_le _⟩ dX1_placeAt_2 (fun u_2 H locs hp_2 hS => ?_)
  obtain ⟨co_2, d1_2, fo_2, J1_2, ga_2⟩ := u_2
  have hS : cx_S D vwCl A s (cxW q cI cJ n T k M d1_2 (cx_u (cx_u C 4 (fun _ => co_2)) 0 fo_2) J1_2 ga_2) H locs := hS
  have hp_2 : (J1_2 0 = (J 0) ∧ J1_2 1 = (J 1) ∧ (J1_2 2) 0 = nI t) ∧ (cx_G ga_2 ↔ cx_AF n k ((T 0)) ((T 1)) ((T 2)) ((T 3)) M (cx_Uc T) (cx_Wc T) (cx_Vc T) (cx_Ac T n) t) := hp_2
  refine lv_iconst (v := (0 : Int32)) hx hb dX1_placeAt_5 (by decide) ?_
  refine cx_topr (z := nI 0) (by decide) ?_
  refine lv_istore_n (lv' := [(3, .int (nI 0)), (0, .ref (q 4)), (1, .int (nI t)), (2, .int kk)]) hx hb dX1_placeAt_6 rfl hl (by decide) rfl (fun ls hl => ?_)
  refine lv_iconst (v := (1 : Int32)) hx hb dX1_placeAt_7 (by decide) ?_
  refine cx_topr (z := nI 1) (by decide) ?_
  refine lv_istore (lv' := [(4, .int (nI 1)), (3, .int (nI 0)), (0, .ref (q 4)), (1, .int (nI t)), (2, .int kk)]) hx hb dX1_placeAt_8 hl (by decide) rfl (fun ls hl => ?_)
  have J10 : ∀ (N : Nat) (ps : Int32) (i10 : Nat) (H : Heap) (locs : List Loc) (ls : Array Slot), (18 - i10 < N) → (i10 ≤ 18) → cx_S D vwCl A s (cxW q cI cJ n T k M d1_2 (cx_u (cx_u C 4 (fun _ => co_2)) 0 fo_2) J1_2 ga_2) H locs → lv_has ls 6 [(0, .ref (q 4)), (1, .int (nI t)), (2, .int kk), (3, .int ps), (4, .int (nI i10))] → W p l e ({ frames := 5, cells := 0, slots := 0, locals := 120 } : Room) s m args below meth c H locs 0 0 Q (F0 m 10 ls []) := by
    intro N10
    induction N10 with
    | zero => intro ps i10 H locs ls hN; exact absurd hN (by omega)
    | succ N10 ih10 =>
      intro ps i10 H locs ls hN10 hi10 hS hl
      refine lv_iload hx hb dX1_placeAt_10 (lv_at hl 4 rfl) ?_
      refine lv_bipush (v := nI 17) hx hb dX1_placeAt_12 (by decide) ?_
      refine lv_icmp_gt (tgt := 67) hx hb dX1_placeAt_14 (by decide) (fun h14 => ?_) (fun h14 => ?_)
      · skip
        have g14 : 17 < i10 := (nI_ltI (a := 17) (b := i10) (by omega) (by omega)).mp h14
        refine lv_iconst (v := (-1 : Int32)) hx hb dX1_placeAt_67 (by decide) ?_
        exact RET _ (co_2, d1_2, fo_2, J1_2, ga_2) _ _ _ _ dX1_placeAt_68 rfl (cx_plS ht hCI.1 hp_2) hS
      · skip
        have g14 : ¬ (17 < i10) := fun z => h14 ((nI_ltI (a := 17) (b := i10) (by omega) (by omega)).mpr z)
        refine lv_iconst (v := (0 : Int32)) hx hb dX1_placeAt_17 (by decide) ?_
        refine cx_topr (z := nI 0) (by decide) ?_
        refine lv_istore (lv' := [(5, .int (nI 0)), (0, .ref (q 4)), (1, .int (nI t)), (2, .int kk), (3, .int ps), (4, .int (nI i10))]) hx hb dX1_placeAt_18 hl (by decide) rfl (fun ls hl => ?_)
        have J20 : ∀ (N : Nat) (pt : Int32) (i20 : Nat) (H : Heap) (locs : List Loc) (ls : Array Slot), (80 - i20 < N) → (i20 ≤ 80) → cx_S D vwCl A s (cxW q cI cJ n T k M d1_2 (cx_u (cx_u C 4 (fun _ => co_2)) 0 fo_2) J1_2 ga_2) H locs → lv_has ls 6 [(0, .ref (q 4)), (1, .int (nI t)), (2, .int kk), (3, .int pt), (4, .int (nI i10)), (5, .int (nI i20))] → W p l e ({ frames := 5, cells := 0, slots := 0, locals := 120 } : Room) s m args below meth c H locs 0 0 Q (F0 m 20 ls []) := by
          intro N20
          induction N20 with
          | zero => intro pt i20 H locs ls hN; exact absurd hN (by omega)
          | succ N20 ih20 =>
            intro pt i20 H locs ls hN20 hi20 hS hl
            refine lv_iload hx hb dX1_placeAt_20 (lv_at hl 5 rfl) ?_
            refine lv_bipush (v := nI 80) hx hb dX1_placeAt_22 (by decide) ?_
            refine lv_icmp_ge (tgt := 61) hx hb dX1_placeAt_24 (by decide) (fun h24 => ?_) (fun h24 => ?_)
            · skip
              have g24 : 80 ≤ i20 := (nI_leI (a := 80) (b := i20) (by omega) (by omega)).mp h24
              refine lv_iinc (v := nI (i10 + 1)) (lv' := [(4, .int (nI (i10 + 1))), (0, .ref (q 4)), (1, .int (nI t)), (2, .int kk), (3, .int pt), (5, .int (nI i20))]) hx hb dX1_placeAt_61 hl (k := 4) rfl (cx_inc _) (by decide) rfl (fun ls hl => ?_)
              refine lv_goto (tgt := 10) hx hb dX1_placeAt_64 (by decide) ?_
              exact ih10 pt (i10 + 1) _ _ _ (by omega) (by omega) hS (lv_sub hl [1, 2, 3, 4, 0] rfl)
            · skip
              have g24 : ¬ (80 ≤ i20) := fun z => h24 ((nI_leI (a := 80) (b := i20) (by omega) (by omega)).mpr z)
              refine lv_aload_n hx hb dX1_placeAt_27 rfl (lv_at hl 0 rfl) ?_
              refine lv_iload hx hb dX1_placeAt_28 (lv_at hl 4 rfl) ?_
              refine lv_iload hx hb dX1_placeAt_30 (lv_at hl 5 rfl) ?_
              refine cx_cVi (As := [.int (nI i10), .int (nI i20)]) (rest := []) ⟨hx, hb, hml, hown, hts⟩ hE hS (c_X1_isFound l D q cI cJ n T k M d1_2 (cx_u (cx_u C 4 (fun _ => co_2)) 0 fo_2) J1_2 ga_2 i10 i20 (by first | assumption | omega | rfl) (by first | assumption | omega | rfl)) (cwV 2 hts gX1_placeAt_X1_isFound rfl rfl rfl (by decide +kernel) ⟨Nat.le_of_ble_eq_true rfl, Nat.le_of_ble_eq_true rfl⟩) 4 1 rfl rfl rfl hl.1 rfl (Nat.le_of_ble_eq_true rfl) ⟨Nat.zero_le _, Nat.zero_le _⟩ dX1_placeAt_32 (fun r_32 u_32 H locs hp_32 hS => ?_)
              have hp_32 : r_32 = 0 ∨ r_32 = 1 := hp_32
              have J55 : ∀ (v55_l3 : Int32) (H : Heap) (locs : List Loc) (ls : Array Slot), cx_S D vwCl A s (cxW q cI cJ n T k M d1_2 (cx_u (cx_u C 4 (fun _ => co_2)) 0 fo_2) J1_2 ga_2) H locs → lv_has ls 6 [(0, .ref (q 4)), (1, .int (nI t)), (2, .int kk), (3, .int v55_l3), (4, .int (nI i10)), (5, .int (nI i20))] → W p l e ({ frames := 5, cells := 0, slots := 0, locals := 120 } : Room) s m args below meth c H locs 0 0 Q (F0 m 55 ls []) := by
                intro v55_l3 H locs ls  hS hl
                refine lv_iinc (v := nI (i20 + 1)) (lv' := [(5, .int (nI (i20 + 1))), (0, .ref (q 4)), (1, .int (nI t)), (2, .int kk), (3, .int v55_l3), (4, .int (nI i10))]) hx hb dX1_placeAt_55 hl (k := 5) rfl (cx_inc _) (by decide) rfl (fun ls hl => ?_)
                refine lv_goto (tgt := 20) hx hb dX1_placeAt_58 (by decide) ?_
                exact ih20 v55_l3 (i20 + 1) _ _ _ (by omega) (by omega) hS (lv_sub hl [1, 2, 3, 4, 5, 0] rfl)
              refine lv_if_eq (tgt := 55) hx hb dX1_placeAt_35 (by decide) (fun h35 => ?_) (fun h35 => ?_)
              · skip
                exact J55 pt _ _ _  hS (lv_sub hl [0, 1, 2, 3, 4, 5] rfl)
              · skip
                refine lv_iload_n hx hb dX1_placeAt_38 rfl (lv_at hl 3 rfl) ?_
                refine lv_iload_n hx hb dX1_placeAt_39 rfl (lv_at hl 2 rfl) ?_
                refine lv_icmp_ne (tgt := 52) hx hb dX1_placeAt_40 (by decide) (fun h40 => ?_) (fun h40 => ?_)
                · skip
                  refine lv_iinc (v := (pt + Int32.ofInt (1))) (lv' := [(3, .int (pt + Int32.ofInt (1))), (0, .ref (q 4)), (1, .int (nI t)), (2, .int kk), (4, .int (nI i10)), (5, .int (nI i20))]) hx hb dX1_placeAt_52 hl (k := 3) rfl rfl (by decide) rfl (fun ls hl => ?_)
                  exact J55 (pt + Int32.ofInt (1)) _ _ _  hS (lv_sub hl [1, 2, 3, 0, 4, 5] rfl)
                · skip
                  refine lv_iload hx hb dX1_placeAt_43 (lv_at hl 4 rfl) ?_
                  refine lv_bipush (v := nI 80) hx hb dX1_placeAt_45 (by decide) ?_
                  refine lv_imul hx hb dX1_placeAt_47 ?_
                  refine cx_topr (z := nI (i10 * 80)) (pk_mul _ _) ?_
                  refine lv_iload hx hb dX1_placeAt_48 (lv_at hl 5 rfl) ?_
                  refine lv_iadd hx hb dX1_placeAt_50 ?_
                  refine cx_topr (z := nI (i10 * 80 + i20)) (nI_add _ _) ?_
                  exact RET _ (co_2, d1_2, fo_2, J1_2, ga_2) _ _ _ _ dX1_placeAt_51 rfl (cx_plS ht hCI.1 hp_2) hS
        exact J20 (80 - 0 + 1) ps 0 _ _ _ (Nat.lt_succ_self _) (by omega) hS (lv_sub hl [1, 2, 3, 4, 5, 0] rfl)
  exact J10 (18 - 1 + 1) (nI 0) 1 _ _ _ (Nat.lt_succ_self _) (by omega) hS (lv_sub hl [2, 3, 4, 1, 0] rfl)
set_option maxHeartbeats 4000000 in
set_option maxRecDepth 100000 in
theorem c_X1_kindAt (l : Launch) (D : va_G) (q : Nat → Nat) (cI cJ : ClassId) (n : Nat) (T : Nat → Nat → Int32) (k : Nat) (M : Nat → Nat → Int32) (d : Nat) (C : Nat → Nat → Int32) (J : Nat → Nat → Int32) (g : Nat → Int64) (t : Nat) (kk : Int32) (hn : n ≤ 20) (hk : k ≤ 80) (hO : cx_R (M 0) 20) (hP : cx_P (T 3) 20) (hOn : ∀ j, j < k → (M 0 j).toNatClampNeg < n) (hR1 : cx_R (T 1) 16) (hR3 : cx_R (M 3) 16) (hB4 : cx_B4 n T) (ht : t < n) (hCI : (∀ a, a < n → bt ((J 1) 0) a = true → (¬ (J 0) a ≤ 0 ↔ cx_AF n k (T 0) (T 1) (T 2) (T 3) M (cx_Uc T) (cx_Wc T) (cx_Vc T) (cx_Ac T n) a)) ∧ ((J 2) 0 = -1 ∨ ∃ a, a < n ∧ (J 2) 0 = nI a ∧ (cx_G g ↔ cx_AF n k (T 0) (T 1) (T 2) (T 3) M (cx_Uc T) (cx_Wc T) (cx_Vc T) (cx_Ac T n) a))) : cx_Mi l D vwCl [(cI, .int), (cJ, .long)] cx_NW yX1_kindAt wsX1_kindAt ({ frames := 6, cells := 0, slots := 0, locals := 145 } : Room) [.ref (q 4), .int (nI t), .int kk] (cxW q cI cJ n T k M d C J g) (fun (r : Int32) (uw : (Int32) × (Nat) × (Nat → Int32) × (Nat → Nat → Int32) × (Nat → Int64)) => (∀ a, a < n → bt ((uw.2.2.2.1 1) 0) a = true → (¬ (uw.2.2.2.1 0) a ≤ 0 ↔ cx_AF n k (T 0) (T 1) (T 2) (T 3) M (cx_Uc T) (cx_Wc T) (cx_Vc T) (cx_Ac T n) a)) ∧ ((uw.2.2.2.1 2) 0 = -1 ∨ ∃ a, a < n ∧ (uw.2.2.2.1 2) 0 = nI a ∧ (cx_G uw.2.2.2.2 ↔ cx_AF n k (T 0) (T 1) (T 2) (T 3) M (cx_Uc T) (cx_Wc T) (cx_Vc T) (cx_Ac T n) a))) (fun uw => (cxW q cI cJ n T k M uw.2.1 (cx_u (cx_u C 4 (fun _ => uw.1)) 0 uw.2.2.1) uw.2.2.2.1 uw.2.2.2.2)) := by
  refine cx_Mi.of (cc := cX1_kindAt) (maxL := 3) cx_NW_ok (by decide) rfl (Nat.le_of_ble_eq_true rfl) ?_
  intro p e s m args below meth c Q A ls hx hb hml hown hts hE RET hS hl
  have hl : lv_has ls 3 [(0, .ref (q 4)), (1, .int (nI t)), (2, .int kk)] := hl
  have hown : s.vm.findClass RX1 = some m.cls := hown
  refine lv_aload_n hx hb dX1_kindAt_0 rfl (lv_at hl 0 rfl) ?_
  refine lv_iload_n hx hb dX1_kindAt_1 rfl (lv_at hl 1 rfl) ?_
  refine lv_iload_n hx hb dX1_kindAt_2 rfl (lv_at hl 2 rfl) ?_
  refine cx_cVi (As := [.int (nI t), .int kk]) (rest := []) ⟨hx, hb, hml, hown, hts⟩ hE hS (c_X1_placeAt l D q cI cJ n T k M d C J g t kk (by first | assumption | omega | rfl) (by first | assumption | omega | rfl) (by first | assumption | omega | rfl) (by first | assumption | omega | rfl) (by first | assumption | omega | rfl) (by first | assumption | omega | rfl) (by first | assumption | omega | rfl) (by first | assumption | omega | rfl) (by first | assumption | omega | rfl) (by first | assumption | omega | rfl)) (cwV 2 hts gX1_kindAt_X1_placeAt rfl rfl rfl (by decide +kernel) ⟨Nat.le_of_ble_eq_true rfl, Nat.le_of_ble_eq_true rfl⟩) 4 1 rfl rfl rfl hl.1 rfl (Nat.le_of_ble_eq_true rfl) ⟨Nat.zero_le _, Nat.zero_le _⟩ dX1_kindAt_3 (fun r_3 u_3 H locs hp_3 hS => ?_)
  obtain ⟨co_3, d1_3, fo_3, J1_3, ga_3⟩ := u_3
  have hS : cx_S D vwCl A s (cxW q cI cJ n T k M d1_3 (cx_u (cx_u C 4 (fun _ => co_3)) 0 fo_3) J1_3 ga_3) H locs := hS
  have hp_3 : (∀ a, a < n → bt ((J1_3 1) 0) a = true → (¬ (J1_3 0) a ≤ 0 ↔ cx_AF n k ((T 0)) ((T 1)) ((T 2)) ((T 3)) M (cx_Uc T) (cx_Wc T) (cx_Vc T) (cx_Ac T n) a)) ∧ ((J1_3 2) 0 = -1 ∨ ∃ a, a < n ∧ (J1_3 2) 0 = nI a ∧ (cx_G ga_3 ↔ cx_AF n k ((T 0)) ((T 1)) ((T 2)) ((T 3)) M (cx_Uc T) (cx_Wc T) (cx_Vc T) (cx_Ac T n) a)) := hp_3
  refine lv_bipush (v := nI 80) hx hb dX1_kindAt_6 (by decide) ?_
  refine lv_idiv hx hb dX1_kindAt_8 (by decide) ?_
  exact RET _ (co_3, d1_3, fo_3, J1_3, ga_3) _ _ _ _ dX1_kindAt_9 rfl hp_3 hS
set_option maxHeartbeats 4000000 in
set_option maxRecDepth 100000 in
theorem c_X1_numberAt (l : Launch) (D : va_G) (q : Nat → Nat) (cI cJ : ClassId) (n : Nat) (T : Nat → Nat → Int32) (k : Nat) (M : Nat → Nat → Int32) (d : Nat) (C : Nat → Nat → Int32) (J : Nat → Nat → Int32) (g : Nat → Int64) (t : Nat) (kk : Int32) (hn : n ≤ 20) (hk : k ≤ 80) (hO : cx_R (M 0) 20) (hP : cx_P (T 3) 20) (hOn : ∀ j, j < k → (M 0 j).toNatClampNeg < n) (hR1 : cx_R (T 1) 16) (hR3 : cx_R (M 3) 16) (hB4 : cx_B4 n T) (ht : t < n) (hCI : (∀ a, a < n → bt ((J 1) 0) a = true → (¬ (J 0) a ≤ 0 ↔ cx_AF n k (T 0) (T 1) (T 2) (T 3) M (cx_Uc T) (cx_Wc T) (cx_Vc T) (cx_Ac T n) a)) ∧ ((J 2) 0 = -1 ∨ ∃ a, a < n ∧ (J 2) 0 = nI a ∧ (cx_G g ↔ cx_AF n k (T 0) (T 1) (T 2) (T 3) M (cx_Uc T) (cx_Wc T) (cx_Vc T) (cx_Ac T n) a))) : cx_Mi l D vwCl [(cI, .int), (cJ, .long)] cx_NW yX1_numberAt wsX1_numberAt ({ frames := 6, cells := 0, slots := 0, locals := 145 } : Room) [.ref (q 4), .int (nI t), .int kk] (cxW q cI cJ n T k M d C J g) (fun (r : Int32) (uw : (Int32) × (Nat) × (Nat → Int32) × (Nat → Nat → Int32) × (Nat → Int64)) => (∀ a, a < n → bt ((uw.2.2.2.1 1) 0) a = true → (¬ (uw.2.2.2.1 0) a ≤ 0 ↔ cx_AF n k (T 0) (T 1) (T 2) (T 3) M (cx_Uc T) (cx_Wc T) (cx_Vc T) (cx_Ac T n) a)) ∧ ((uw.2.2.2.1 2) 0 = -1 ∨ ∃ a, a < n ∧ (uw.2.2.2.1 2) 0 = nI a ∧ (cx_G uw.2.2.2.2 ↔ cx_AF n k (T 0) (T 1) (T 2) (T 3) M (cx_Uc T) (cx_Wc T) (cx_Vc T) (cx_Ac T n) a))) (fun uw => (cxW q cI cJ n T k M uw.2.1 (cx_u (cx_u C 4 (fun _ => uw.1)) 0 uw.2.2.1) uw.2.2.2.1 uw.2.2.2.2)) := by
  refine cx_Mi.of (cc := cX1_numberAt) (maxL := 3) cx_NW_ok (by decide) rfl (Nat.le_of_ble_eq_true rfl) ?_
  intro p e s m args below meth c Q A ls hx hb hml hown hts hE RET hS hl
  have hl : lv_has ls 3 [(0, .ref (q 4)), (1, .int (nI t)), (2, .int kk)] := hl
  have hown : s.vm.findClass RX1 = some m.cls := hown
  refine lv_aload_n hx hb dX1_numberAt_0 rfl (lv_at hl 0 rfl) ?_
  refine lv_iload_n hx hb dX1_numberAt_1 rfl (lv_at hl 1 rfl) ?_
  refine lv_iload_n hx hb dX1_numberAt_2 rfl (lv_at hl 2 rfl) ?_
  refine cx_cVi (As := [.int (nI t), .int kk]) (rest := []) ⟨hx, hb, hml, hown, hts⟩ hE hS (c_X1_placeAt l D q cI cJ n T k M d C J g t kk (by first | assumption | omega | rfl) (by first | assumption | omega | rfl) (by first | assumption | omega | rfl) (by first | assumption | omega | rfl) (by first | assumption | omega | rfl) (by first | assumption | omega | rfl) (by first | assumption | omega | rfl) (by first | assumption | omega | rfl) (by first | assumption | omega | rfl) (by first | assumption | omega | rfl)) (cwV 2 hts gX1_numberAt_X1_placeAt rfl rfl rfl (by decide +kernel) ⟨Nat.le_of_ble_eq_true rfl, Nat.le_of_ble_eq_true rfl⟩) 4 1 rfl rfl rfl hl.1 rfl (Nat.le_of_ble_eq_true rfl) ⟨Nat.zero_le _, Nat.zero_le _⟩ dX1_numberAt_3 (fun r_3 u_3 H locs hp_3 hS => ?_)
  obtain ⟨co_3, d1_3, fo_3, J1_3, ga_3⟩ := u_3
  have hS : cx_S D vwCl A s (cxW q cI cJ n T k M d1_3 (cx_u (cx_u C 4 (fun _ => co_3)) 0 fo_3) J1_3 ga_3) H locs := hS
  have hp_3 : (∀ a, a < n → bt ((J1_3 1) 0) a = true → (¬ (J1_3 0) a ≤ 0 ↔ cx_AF n k ((T 0)) ((T 1)) ((T 2)) ((T 3)) M (cx_Uc T) (cx_Wc T) (cx_Vc T) (cx_Ac T n) a)) ∧ ((J1_3 2) 0 = -1 ∨ ∃ a, a < n ∧ (J1_3 2) 0 = nI a ∧ (cx_G ga_3 ↔ cx_AF n k ((T 0)) ((T 1)) ((T 2)) ((T 3)) M (cx_Uc T) (cx_Wc T) (cx_Vc T) (cx_Ac T n) a)) := hp_3
  refine lv_bipush (v := nI 80) hx hb dX1_numberAt_6 (by decide) ?_
  refine lv_irem hx hb dX1_numberAt_8 (by decide) ?_
  exact RET _ (co_3, d1_3, fo_3, J1_3, ga_3) _ _ _ _ dX1_numberAt_9 rfl hp_3 hS
