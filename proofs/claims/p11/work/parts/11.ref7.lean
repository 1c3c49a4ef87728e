set_option maxHeartbeats 4000000 in
set_option maxRecDepth 100000 in
theorem c_X7_call (l : Launch) (D : va_G) (q : Nat → Nat) (cI cZ : ClassId) (n : Nat) (T : Nat → Nat → Int32) (k : Nat) (M : Nat → Nat → Int32) (d : Nat) (Z : Nat → Nat → Int32) (F : Nat → Nat → Int32) (xa : Int32) (xb : Int32) (xe : Int32) (xf : Int32) (hn : n ≤ 20) (hP : cx_P (T 3) 20) (hU : cx_R (T 4) 20) (hV : cx_R (T 5) 4) (hKN : cx_KN n T (Z 0) ((Z 3) 0)) (hQ : cx_R (T 6) 20) (hW : cx_R (T 7) 4) (hO : cx_R (M 0) 20) (hk : k ≤ 80) (hOn : ∀ j, j < k → (M 0 j).toNatClampNeg < n) (hX : cx_R (M 4) 4) (hK0 : cx_R (T 0) 4) (hM5 : cx_R (M 5) 30) (hM1 : cx_R (M 1) 10) (hM2 : cx_R (M 2) 5) : cx_Mi l D vwCl [(cI, .int), (cZ, .boolean)] cx_NW yX7_call wsX7_call ({ frames := 8, cells := 0, slots := 0, locals := 187 } : Room) [.ref (q 0), .int xa, .int xb, .int xe, .int xf] (cyW q cI cZ n T k M d Z F) (fun (r : Int32) (uw : (Nat → Int32) × (Int32) × (Nat) × (Nat → Int32) × (Nat → Int32) × (Nat → Int32)) => cx_KN n T uw.1 uw.2.1 ∧ ((¬ ((0 ≤ xa ∧ xa < nI n) ∧ (0 ≤ xb ∧ xb < nI n) ∧ (0 ≤ xe ∧ xe < nI 10) ∧ (0 ≤ xf ∧ xf < nI 5)) ∧ r = (-1 : Int32)) ∨ (((0 ≤ xa ∧ xa < nI n) ∧ (0 ≤ xb ∧ xb < nI n) ∧ (0 ≤ xe ∧ xe < nI 10) ∧ (0 ≤ xf ∧ xf < nI 5)) ∧ (cx_WR n k (T 0) (T 1) (T 2) (T 3) M (cx_Ur T) (cx_Wr T) (cx_Vr T) (cx_Ar T n) (xb.toNatClampNeg) ∨ ¬ cx_is (cx_Ar T n) (xb.toNatClampNeg) (xa.toNatClampNeg)) ∧ r = (-4 : Int32)) ∨ (((0 ≤ xa ∧ xa < nI n) ∧ (0 ≤ xb ∧ xb < nI n) ∧ (0 ≤ xe ∧ xe < nI 10) ∧ (0 ≤ xf ∧ xf < nI 5)) ∧ ¬ (cx_WR n k (T 0) (T 1) (T 2) (T 3) M (cx_Ur T) (cx_Wr T) (cx_Vr T) (cx_Ar T n) (xb.toNatClampNeg) ∨ ¬ cx_is (cx_Ar T n) (xb.toNatClampNeg) (xa.toNatClampNeg)) ∧ ∃ r0 : Int32, cx_cal n k (T 0) (T 2) (T 3) M (cx_Ar T n) (xa.toNatClampNeg) (xb.toNatClampNeg) xe xf r0 ∧ ((r0 = -1 ∧ r = (-3 : Int32)) ∨ (¬ r0 = -1 ∧ r = r0))))) (fun uw => (cyW q cI cZ n T k M uw.2.2.1 (cx_u (cx_u (cx_u (cx_u Z 0 uw.1) 3 (fun _ => uw.2.1)) 1 uw.2.2.2.2.1) 2 uw.2.2.2.2.2) (cx_u F 0 uw.2.2.2.1))) := by
  refine cx_Mi.of (cc := cX7_call) (maxL := 9) cx_NW_ok (by decide) rfl (Nat.le_of_ble_eq_true rfl) ?_
  intro p e s m args below meth c Q A ls hx hb hml hown hts hE RET hS hl
  have hl : lv_has ls 9 [(0, .ref (q 0)), (1, .int xa), (2, .int xb), (3, .int xe), (4, .int xf)] := hl
  have hown : s.vm.findClass RX7 = some m.cls := hown
  have hinX7 : ∀ w ∈ u_ws RX7 TX7 22, w ∈ wsX7_call := cx_mem [147, 148, 149, 150, 151, 152, 153, 154, 155, 156, 157, 158, 159, 160, 161, 162, 163, 164, 165, 166, 167, 168] (by decide +kernel)
  refine lv_aload_n hx hb dX7_call_0 rfl (lv_at hl 0 rfl) ?_
  refine lv_iload_n hx hb dX7_call_1 rfl (lv_at hl 1 rfl) ?_
  refine cx_cVi (As := [.int xa]) (rest := []) ⟨hx, hb, hml, hown, hts⟩ hE hS (c_X7_isType l D q cI cZ n T k M d Z F xa (by first | assumption | omega | rfl)) (cwV 1 hts gX7_call_X7_isType rfl rfl rfl (by decide +kernel) ⟨Nat.le_of_ble_eq_true rfl, Nat.le_of_ble_eq_true rfl⟩) 0 7 rfl rfl rfl hl.1 rfl (Nat.le_of_ble_eq_true rfl) ⟨Nat.zero_le _, Nat.zero_le _⟩ dX7_call_2 (fun r_2 u_2 H locs hp_2 hS => ?_)
  have hp_2 : r_2 = cx_b (0 ≤ xa ∧ xa < nI n) := hp_2
  subst hp_2
  have J36 : ∀ (H : Heap) (locs : List Loc) (ls : Array Slot), (¬ ((0 ≤ xa ∧ xa < nI n) ∧ (0 ≤ xb ∧ xb < nI n) ∧ (0 ≤ xe ∧ xe < nI 10) ∧ (0 ≤ xf ∧ xf < nI 5))) → cx_S D vwCl A s (cyW q cI cZ n T k M d Z F) H locs → lv_has ls 9 [(0, .ref (q 0)), (1, .int xa), (2, .int xb), (3, .int xe), (4, .int xf)] → W p l e ({ frames := 8, cells := 0, slots := 0, locals := 187 } : Room) s m args below meth c H locs 0 0 Q (F0 m 36 ls []) := by
    intro  H locs ls hb36 hS hl
    refine lv_iconst (v := (-1 : Int32)) hx hb dX7_call_36 (by decide) ?_
    exact RET _ (Z 0, (Z 3) 0, d, F 0, Z 1, Z 2) _ _ _ _ dX7_call_37 rfl (⟨(by first | assumption | exact hKN), Or.inl ⟨hb36, rfl⟩⟩) hS
  refine lv_if_eq (tgt := 36) hx hb dX7_call_5 (by decide) (fun h5 => ?_) (fun h5 => ?_)
  · skip
    have g5 := cx_b0 h5
    exact J36  _ _ _ (by first | exact fun z => g5 z.1 | exact fun z => g13 z.2.1 | exact fun z => g23 ⟨z.2.2.1.1, (cx_leL _ 9 (by decide)).mpr z.2.2.1.2⟩ | exact fun z => g33 ⟨z.2.2.2.1, (cx_leL _ 4 (by decide)).mpr z.2.2.2.2⟩) hS (lv_sub hl [0, 1, 2, 3, 4] rfl)
  · skip
    have g5 := cx_b1 h5
    have hq5 := (cx_ixT (by omega) g5).2
    refine lv_aload_n hx hb dX7_call_8 rfl (lv_at hl 0 rfl) ?_
    refine lv_iload_n hx hb dX7_call_9 rfl (lv_at hl 2 rfl) ?_
    refine cx_cVi (As := [.int xb]) (rest := []) ⟨hx, hb, hml, hown, hts⟩ hE hS (c_X7_isType l D q cI cZ n T k M d Z F xb (by first | assumption | omega | rfl)) (cwV 1 hts gX7_call_X7_isType rfl rfl rfl (by decide +kernel) ⟨Nat.le_of_ble_eq_true rfl, Nat.le_of_ble_eq_true rfl⟩) 0 7 rfl rfl rfl hl.1 rfl (Nat.le_of_ble_eq_true rfl) ⟨Nat.zero_le _, Nat.zero_le _⟩ dX7_call_10 (fun r_10 u_10 H locs hp_10 hS => ?_)
    have hp_10 : r_10 = cx_b (0 ≤ xb ∧ xb < nI n) := hp_10
    subst hp_10
    refine lv_if_eq (tgt := 36) hx hb dX7_call_13 (by decide) (fun h13 => ?_) (fun h13 => ?_)
    · skip
      have g13 := cx_b0 h13
      exact J36  _ _ _ (by first | exact fun z => g5 z.1 | exact fun z => g13 z.2.1 | exact fun z => g23 ⟨z.2.2.1.1, (cx_leL _ 9 (by decide)).mpr z.2.2.1.2⟩ | exact fun z => g33 ⟨z.2.2.2.1, (cx_leL _ 4 (by decide)).mpr z.2.2.2.2⟩) hS (lv_sub hl [0, 1, 2, 3, 4] rfl)
    · skip
      have g13 := cx_b1 h13
      have hq13 := (cx_ixT (by omega) g13).2
      refine lv_iload_n hx hb dX7_call_16 rfl (lv_at hl 3 rfl) ?_
      refine lv_iconst (v := (0 : Int32)) hx hb dX7_call_17 (by decide) ?_
      refine lv_bipush (v := nI 9) hx hb dX7_call_18 (by decide) ?_
      refine cx_cSi (As := [.int xe, .int (0 : Int32), .int (nI 9)]) (rest := []) ⟨hx, hb, hml, hown, hts⟩ hE hS (c_X7_in l D [(cI, .int), (cZ, .boolean)] (cyW q cI cZ n T k M d Z F) xe (0 : Int32) (nI 9) ) (va_cwS 3 hts gX7_call_X7_in rfl rfl rfl (by decide +kernel) ⟨Nat.le_of_ble_eq_true rfl, Nat.le_of_ble_eq_true rfl⟩) rfl hl.1 rfl (Nat.le_of_ble_eq_true rfl) ⟨Nat.zero_le _, Nat.zero_le _⟩ dX7_call_20 (fun r_20 u_20 H locs hp_20 hS => ?_)
      have hp_20 : r_20 = cx_b ((0 : Int32) ≤ xe ∧ xe ≤ (nI 9)) := hp_20
      subst hp_20
      refine lv_if_eq (tgt := 36) hx hb dX7_call_23 (by decide) (fun h23 => ?_) (fun h23 => ?_)
      · skip
        have g23 := cx_b0 h23
        exact J36  _ _ _ (by first | exact fun z => g5 z.1 | exact fun z => g13 z.2.1 | exact fun z => g23 ⟨z.2.2.1.1, (cx_leL _ 9 (by decide)).mpr z.2.2.1.2⟩ | exact fun z => g33 ⟨z.2.2.2.1, (cx_leL _ 4 (by decide)).mpr z.2.2.2.2⟩) hS (lv_sub hl [0, 1, 2, 3, 4] rfl)
      · skip
        have g23 := cx_b1 h23
        refine lv_iload hx hb dX7_call_26 (lv_at hl 4 rfl) ?_
        refine lv_iconst (v := (0 : Int32)) hx hb dX7_call_28 (by decide) ?_
        refine lv_iconst (v := nI 4) hx hb dX7_call_29 (by decide) ?_
        refine cx_cSi (As := [.int xf, .int (0 : Int32), .int (nI 4)]) (rest := []) ⟨hx, hb, hml, hown, hts⟩ hE hS (c_X7_in l D [(cI, .int), (cZ, .boolean)] (cyW q cI cZ n T k M d Z F) xf (0 : Int32) (nI 4) ) (va_cwS 3 hts gX7_call_X7_in rfl rfl rfl (by decide +kernel) ⟨Nat.le_of_ble_eq_true rfl, Nat.le_of_ble_eq_true rfl⟩) rfl hl.1 rfl (Nat.le_of_ble_eq_true rfl) ⟨Nat.zero_le _, Nat.zero_le _⟩ dX7_call_30 (fun r_30 u_30 H locs hp_30 hS => ?_)
        have hp_30 : r_30 = cx_b ((0 : Int32) ≤ xf ∧ xf ≤ (nI 4)) := hp_30
        subst hp_30
        refine lv_if_ne (tgt := 38) hx hb dX7_call_33 (by decide) (fun h33 => ?_) (fun h33 => ?_)
        · skip
          have g33 := cx_b1 h33
          refine lv_aload_n hx hb dX7_call_38 rfl (lv_at hl 0 rfl) ?_
          refine lv_iload_n hx hb dX7_call_39 rfl (lv_at hl 2 rfl) ?_
          refine cx_topr (z := nI (xb.toNatClampNeg)) (cx_ixT (by omega) g13).1 ?_
          refine cx_cVi (As := [.int (nI (xb.toNatClampNeg))]) (rest := []) ⟨hx, hb, hml, hown, hts⟩ hE hS (c_X7_isWrongType l D q cI cZ n T k M d Z F xb.toNatClampNeg (by first | assumption | omega | rfl) (by first | assumption | omega | rfl) (by first | assumption | omega | rfl) (by first | assumption | omega | rfl) (by first | assumption | omega | rfl) (by first | assumption | omega | rfl) (by first | assumption | omega | rfl) (by first | assumption | omega | rfl) (by first | assumption | omega | rfl) (by first | assumption | omega | rfl) (by first | assumption | omega | rfl) (by first | assumption | omega | rfl) (by first | assumption | omega | rfl) (by first | assumption | omega | rfl) (by first | assumption | omega | rfl) hq13) (cwV 1 hts gX7_call_X7_isWrongType rfl rfl rfl (by decide +kernel) ⟨Nat.le_of_ble_eq_true rfl, Nat.le_of_ble_eq_true rfl⟩) 0 7 rfl rfl rfl hl.1 rfl (Nat.le_of_ble_eq_true rfl) ⟨Nat.zero_le _, Nat.zero_le _⟩ dX7_call_40 (fun r_40 u_40 H locs hp_40 hS => ?_)
          obtain ⟨za_40, kn_40, d1_40, fo_40, zf_40⟩ := u_40
          have hS : cx_S D vwCl A s (cyW q cI cZ n T k M d1_40 (cx_u (cx_u (cx_u Z 0 za_40) 3 (fun _ => kn_40)) 1 zf_40) (cx_u F 0 fo_40)) H locs := hS
          obtain ⟨hKN_40, hp_40⟩ := hp_40
          have hKN_40 : cx_KN n T za_40 kn_40 := hKN_40
          have hp_40 : (r_40 = 0 ∨ r_40 = 1) ∧ (¬ r_40 = 0 ↔ cx_WR n k ((T 0)) ((T 1)) ((T 2)) ((T 3)) M (cx_Ur T) (cx_Wr T) (cx_Vr T) (cx_Ar T n) xb.toNatClampNeg) := hp_40
          have J55 : ∀ (Z_0_55 : Nat → Int32) (Z_3_55 : Nat → Int32) (H : Heap) (locs : List Loc) (ls : Array Slot), (cx_KN n T Z_0_55 (Z_3_55 0)) → (cx_WR n k (T 0) (T 1) (T 2) (T 3) M (cx_Ur T) (cx_Wr T) (cx_Vr T) (cx_Ar T n) (xb.toNatClampNeg) ∨ ¬ cx_is (cx_Ar T n) (xb.toNatClampNeg) (xa.toNatClampNeg)) → cx_S D vwCl A s (cyW q cI cZ n T k M d1_40 (cx_u (cx_u (cx_u Z 1 zf_40) 0 Z_0_55) 3 Z_3_55) (cx_u F 0 fo_40)) H locs → lv_has ls 9 [(0, .ref (q 0)), (1, .int xa), (2, .int xb), (3, .int xe), (4, .int xf)] → W p l e ({ frames := 8, cells := 0, slots := 0, locals := 187 } : Room) s m args below meth c H locs 0 0 Q (F0 m 55 ls []) := by
            intro Z_0_55 Z_3_55 H locs ls hKN55 h55 hS hl
            refine lv_bipush (v := (-4 : Int32)) hx hb dX7_call_55 (by decide) ?_
            exact RET _ (Z_0_55, Z_3_55 0, d1_40, fo_40, zf_40, Z 2) _ _ _ _ dX7_call_57 rfl (⟨(by first | assumption | exact hKN), (Or.inr (Or.inl ⟨⟨g5, g13, ⟨g23.1, (cx_leL _ 9 (by decide)).mp g23.2⟩, ⟨g33.1, (cx_leL _ 4 (by decide)).mp g33.2⟩⟩, h55, rfl⟩))⟩) hS
          refine lv_if_ne (tgt := 55) hx hb dX7_call_43 (by decide) (fun h43 => ?_) (fun h43 => ?_)
          · skip
            have g43 : cx_WR n k ((T 0)) ((T 1)) ((T 2)) ((T 3)) M (cx_Ur T) (cx_Wr T) (cx_Vr T) (cx_Ar T n) xb.toNatClampNeg := hp_40.2.mp h43
            exact J55 za_40 (fun _ => kn_40) _ _ _ (by first | assumption | exact hKN) (by first | exact Or.inl g43 | exact Or.inr g52) hS (lv_sub hl [0, 1, 2, 3, 4] rfl)
          · skip
            have g43 : ¬ (cx_WR n k ((T 0)) ((T 1)) ((T 2)) ((T 3)) M (cx_Ur T) (cx_Wr T) (cx_Vr T) (cx_Ar T n) xb.toNatClampNeg) := fun z => hp_40.2.mpr z h43
            refine lv_aload_n hx hb dX7_call_46 rfl (lv_at hl 0 rfl) ?_
            refine lv_iload_n hx hb dX7_call_47 rfl (lv_at hl 2 rfl) ?_
            refine cx_topr (z := nI (xb.toNatClampNeg)) (cx_ixT (by omega) g13).1 ?_
            refine lv_iload_n hx hb dX7_call_48 rfl (lv_at hl 1 rfl) ?_
            refine cx_topr (z := nI (xa.toNatClampNeg)) (cx_ixT (by omega) g5).1 ?_
            refine cx_cVi (As := [.int (nI (xb.toNatClampNeg)), .int (nI (xa.toNatClampNeg))]) (rest := []) ⟨hx, hb, hml, hown, hts⟩ hE hS (c_X7_isOf l D q cI cZ n T k M d1_40 (cx_u (cx_u (cx_u Z 0 za_40) 3 (fun _ => kn_40)) 1 zf_40) (cx_u F 0 fo_40) xb.toNatClampNeg xa.toNatClampNeg (by first | assumption | omega | rfl) (by first | assumption | omega | rfl) (by first | assumption | omega | rfl) (by first | assumption | omega | rfl) (by first | assumption | omega | rfl) hq13 hq5) (cwV 2 hts gX7_call_X7_isOf rfl rfl rfl (by decide +kernel) ⟨Nat.le_of_ble_eq_true rfl, Nat.le_of_ble_eq_true rfl⟩) 0 7 rfl rfl rfl hl.1 rfl (Nat.le_of_ble_eq_true rfl) ⟨Nat.zero_le _, Nat.zero_le _⟩ dX7_call_49 (fun r_49 u_49 H locs hp_49 hS => ?_)
            obtain ⟨za_49, kn_49⟩ := u_49
            have hS : cx_S D vwCl A s (cyW q cI cZ n T k M d1_40 (cx_u (cx_u (cx_u Z 1 zf_40) 0 za_49) 3 (fun _ => kn_49)) (cx_u F 0 fo_40)) H locs := hS
            obtain ⟨hKN_49, hp_49⟩ := hp_49
            have hKN_49 : cx_KN n T za_49 kn_49 := hKN_49
            have hp_49 : ((r_49 = 0 ∨ r_49 = 1) ∧ (¬ r_49 = 0 ↔ cx_is (cx_Ar T n) xb.toNatClampNeg xa.toNatClampNeg)) ∧ ((∀ wa wu, wa < n → wu < n → (¬ za_49 (20 * wa + wu) = 0 ↔ (cx_w3 n (cx_Er T n) n) wa wu)) ∧ ¬ kn_49 = 0) := hp_49
            refine lv_if_ne (tgt := 58) hx hb dX7_call_52 (by decide) (fun h52 => ?_) (fun h52 => ?_)
            · skip
              have g52 : cx_is (cx_Ar T n) xb.toNatClampNeg xa.toNatClampNeg := hp_49.1.2.mp h52
              refine lv_aload_n hx hb dX7_call_58 rfl (lv_at hl 0 rfl) ?_
              refine lv_iload_n hx hb dX7_call_59 rfl (lv_at hl 1 rfl) ?_
              refine cx_topr (z := nI (xa.toNatClampNeg)) (cx_ixT (by omega) g5).1 ?_
              refine lv_iload_n hx hb dX7_call_60 rfl (lv_at hl 3 rfl) ?_
              refine lv_iload hx hb dX7_call_61 (lv_at hl 4 rfl) ?_
              refine cx_cVi (As := [.int (nI (xa.toNatClampNeg)), .int xe, .int xf]) (rest := []) ⟨hx, hb, hml, hown, hts⟩ hE hS (c_X7_classOne_at_k l D q cI cZ n T k M d1_40 (cx_u (cx_u (cx_u Z 1 zf_40) 0 za_49) 3 (fun _ => kn_49)) (cx_u F 0 fo_40) xa.toNatClampNeg xe xf (by first | assumption | omega | rfl) (by first | assumption | omega | rfl) (by first | assumption | omega | rfl) (by first | assumption | omega | rfl) (by first | assumption | omega | rfl) (by first | assumption | omega | rfl) (by first | assumption | omega | rfl) (by first | assumption | omega | rfl) (by first | assumption | omega | rfl) hq5 hp_49.2.2) (cwV 3 hts gX7_call_X7_classOne rfl rfl rfl (by decide +kernel) ⟨Nat.le_of_ble_eq_true rfl, Nat.le_of_ble_eq_true rfl⟩) 0 7 rfl rfl rfl hl.1 rfl (Nat.le_of_ble_eq_true rfl) ⟨Nat.zero_le _, Nat.zero_le _⟩ dX7_call_63 (fun r_63 u_63 H locs hp_63 hS => ?_)
              have hp_63 : (cx_co n k ((T 0)) ((T 2)) ((T 3)) M (cx_Ar T n) xa.toNatClampNeg xe xf r_63) ∧ (r_63 = -1 ∨ cx_ix r_63 80) := hp_63
              refine lv_istore (lv' := [(5, .int r_63), (0, .ref (q 0)), (1, .int xa), (2, .int xb), (3, .int xe), (4, .int xf)]) hx hb dX7_call_66 hl (by decide) rfl (fun ls hl => ?_)
              refine lv_iload hx hb dX7_call_68 (lv_at hl 0 rfl) ?_
              have J88 : ∀ (v88_l5 : Int32) (d_88 : Nat) (F_0_88 : Nat → Int32) (H : Heap) (locs : List Loc) (ls : Array Slot), (v88_l5 = -1 ∨ cx_ix v88_l5 80) → (cx_mt n k (T 0) (T 2) (T 3) M (cx_Ar T n) (xa.toNatClampNeg) xe xf v88_l5) → cx_S D vwCl A s (cyW q cI cZ n T k M d_88 (cx_u (cx_u (cx_u Z 1 zf_40) 0 za_49) 3 (fun _ => kn_49)) (cx_u F 0 F_0_88)) H locs → lv_has ls 9 [(0, .ref (q 0)), (1, .int xa), (2, .int xb), (3, .int xe), (4, .int xf), (5, .int v88_l5)] → W p l e ({ frames := 8, cells := 0, slots := 0, locals := 187 } : Room) s m args below meth c H locs 0 0 Q (F0 m 88 ls []) := by
                intro v88_l5 d_88 F_0_88 H locs ls hv hmt hS hl
                refine lv_iload hx hb dX7_call_88 (lv_at hl 5 rfl) ?_
                refine lv_if_ge (tgt := 96) hx hb dX7_call_90 (by decide) (fun h90 => ?_) (fun h90 => ?_)
                · skip
                  have hq90 := (cx_pg hv h90).2
                  have hq91 := ((cx_mt.ix hk hmt).resolve_left (cx_ixm (cx_pg hv h90) (by decide))).2
                  refine lv_aload_n hx hb dX7_call_96 rfl (lv_at hl 0 rfl) ?_
                  refine cx_get (own := RX7) (index := 46) (C := RX7) (T := TX7) (N := 22) (k := 14) (ci := 7) (v := .ref (q 13)) hx hb hts hown hE hS hinX7 0 rfl rfl (by decide) (List.mem_of_getElem? (i := 1) rfl) rfl dX7_call_97 ?_
                  refine lv_iload hx hb dX7_call_100 (lv_at hl 5 rfl) ?_
                  refine cx_topr (z := nI (v88_l5.toNatClampNeg)) (cx_pg hv h90).1 ?_
                  refine cx_iald (f := (M 4)) (n := 80) (cA := cI) hx hb hE hS 13 0 rfl rfl (by omega) (by decide) dX7_call_102 ?_
                  refine lv_if_ne (tgt := 109) hx hb dX7_call_103 (by decide) (fun h103 => ?_) (fun h103 => ?_)
                  · skip
                    refine lv_aload_n hx hb dX7_call_109 rfl (lv_at hl 0 rfl) ?_
                    refine cx_get (own := RX7) (index := 7) (C := RX7) (T := TX7) (N := 22) (k := 1) (ci := 7) (v := .ref (q 1)) hx hb hts hown hE hS hinX7 0 rfl rfl (by decide) (List.mem_of_getElem? (i := 2) rfl) rfl dX7_call_110 ?_
                    refine lv_aload_n hx hb dX7_call_113 rfl (lv_at hl 0 rfl) ?_
                    refine cx_get (own := RX7) (index := 34) (C := RX7) (T := TX7) (N := 22) (k := 10) (ci := 7) (v := .ref (q 9)) hx hb hts hown hE hS hinX7 0 rfl rfl (by decide) (List.mem_of_getElem? (i := 3) rfl) rfl dX7_call_114 ?_
                    refine lv_iload hx hb dX7_call_117 (lv_at hl 5 rfl) ?_
                    refine cx_topr (z := nI (v88_l5.toNatClampNeg)) (cx_pg hv h90).1 ?_
                    refine cx_iald (f := (M 0)) (n := 80) (cA := cI) hx hb hE hS 9 0 rfl rfl (by omega) (by decide) dX7_call_119 ?_
                    have ho119 := (hO v88_l5.toNatClampNeg).2
                    refine cx_topr (z := nI (((M 0) v88_l5.toNatClampNeg).toNatClampNeg)) (hO v88_l5.toNatClampNeg).1 ?_
                    refine cx_iald (f := (T 0)) (n := 20) (cA := cI) hx hb hE hS 1 0 rfl rfl (by omega) (by decide) dX7_call_120 ?_
                    refine lv_iconst (v := (1 : Int32)) hx hb dX7_call_121 (by decide) ?_
                    refine lv_icmp_ne (tgt := 134) hx hb dX7_call_122 (by decide) (fun h122 => ?_) (fun h122 => ?_)
                    · skip
                      refine lv_aload_n hx hb dX7_call_134 rfl (lv_at hl 0 rfl) ?_
                      refine lv_iload hx hb dX7_call_135 (lv_at hl 5 rfl) ?_
                      refine cx_topr (z := nI (v88_l5.toNatClampNeg)) (cx_pg hv h90).1 ?_
                      refine cx_cVv (As := [.int (nI (v88_l5.toNatClampNeg))]) (rest := []) ⟨hx, hb, hml, hown, hts⟩ hE hS (c_X7_findTaking l D q cI cZ n T k M d_88 (cx_u (cx_u (cx_u Z 1 zf_40) 0 za_49) 3 (fun _ => kn_49)) (cx_u F 0 F_0_88) v88_l5.toNatClampNeg (by first | assumption | omega | rfl) (by first | assumption | omega | rfl) (by first | assumption | omega | rfl) (by first | assumption | omega | rfl) (by first | assumption | omega | rfl) (by first | assumption | omega | rfl) hp_49.2.1) (cwV 1 hts gX7_call_X7_findTaking rfl rfl rfl (by decide +kernel) ⟨Nat.le_of_ble_eq_true rfl, Nat.le_of_ble_eq_true rfl⟩) 0 7 rfl rfl rfl hl.1 rfl (Nat.le_of_ble_eq_true rfl) ⟨Nat.zero_le _, Nat.zero_le _⟩ dX7_call_137 (fun u_137 H locs hp_137 hS => ?_)
                      obtain ⟨zt_137, rfl⟩ : ∃ z, z = u_137 := ⟨_, rfl⟩
                      have hS : cx_S D vwCl A s (cyW q cI cZ n T k M d_88 (cx_u (cx_u (cx_u (cx_u Z 1 zf_40) 0 za_49) 3 (fun _ => kn_49)) 2 zt_137) (cx_u F 0 F_0_88)) H locs := hS
                      have hp_137 : ∀ wa wu, wa < k → wu < k → (¬ zt_137 (80 * wa + wu) = 0 ↔ (cx_tk k ((T 0)) ((T 2)) M (cx_Ar T n) v88_l5.toNatClampNeg) wa wu) := hp_137
                      refine lv_iload_n hx hb dX7_call_140 rfl (lv_at hl 2 rfl) ?_
                      refine cx_topr (z := nI (xb.toNatClampNeg)) (cx_ixT (by omega) g13).1 ?_
                      refine lv_istore (lv' := [(6, .int (nI (xb.toNatClampNeg))), (0, .ref (q 0)), (1, .int xa), (2, .int xb), (3, .int xe), (4, .int xf), (5, .int v88_l5)]) hx hb dX7_call_141 hl (by decide) rfl (fun ls hl => ?_)
                      refine lv_iconst (v := (0 : Int32)) hx hb dX7_call_143 (by decide) ?_
                      refine cx_topr (z := nI 0) (by decide) ?_
                      refine lv_istore (lv' := [(7, .int (nI 0)), (6, .int (nI (xb.toNatClampNeg))), (0, .ref (q 0)), (1, .int xa), (2, .int xb), (3, .int xe), (4, .int xf), (5, .int v88_l5)]) hx hb dX7_call_144 hl (by decide) rfl (fun ls hl => ?_)
                      have J146 : ∀ (N : Nat) (v146_l6 : Int32) (i146 : Nat) (H : Heap) (locs : List Loc) (ls : Array Slot), (20 - i146 < N) → (i146 ≤ 20) → (∀ r, cx_one n k (T 3) (cx_tq k (T 0) (T 2) M (cx_Ar T n) (v88_l5.toNatClampNeg)) (20 - i146) v146_l6 r → cx_one n k (T 3) (cx_tq k (T 0) (T 2) M (cx_Ar T n) (v88_l5.toNatClampNeg)) 20 (nI (xb.toNatClampNeg)) r) → cx_S D vwCl A s (cyW q cI cZ n T k M d_88 (cx_u (cx_u (cx_u (cx_u Z 1 zf_40) 0 za_49) 3 (fun _ => kn_49)) 2 zt_137) (cx_u F 0 F_0_88)) H locs → lv_has ls 9 [(0, .ref (q 0)), (1, .int xa), (2, .int xb), (3, .int xe), (4, .int xf), (5, .int v88_l5), (6, .int v146_l6), (7, .int (nI i146))] → W p l e ({ frames := 8, cells := 0, slots := 0, locals := 187 } : Room) s m args below meth c H locs 0 0 Q (F0 m 146 ls []) := by
                        intro N146
                        induction N146 with
                        | zero => intro v146_l6 i146 H locs ls hN; exact absurd hN (by omega)
                        | succ N146 ih146 =>
                          intro v146_l6 i146 H locs ls hN146 hi146 hq hS hl
                          refine lv_iload hx hb dX7_call_146 (lv_at hl 7 rfl) ?_
                          refine lv_bipush (v := nI 20) hx hb dX7_call_148 (by decide) ?_
                          have J249 : ∀ (H : Heap) (locs : List Loc) (ls : Array Slot), (cx_one n k (T 3) (cx_tq k (T 0) (T 2) M (cx_Ar T n) (v88_l5.toNatClampNeg)) 20 (nI (xb.toNatClampNeg)) (-1)) → cx_S D vwCl A s (cyW q cI cZ n T k M d_88 (cx_u (cx_u (cx_u (cx_u Z 1 zf_40) 0 za_49) 3 (fun _ => kn_49)) 2 zt_137) (cx_u F 0 F_0_88)) H locs → lv_has ls 9 [(0, .ref (q 0)), (1, .int xa), (2, .int xb), (3, .int xe), (4, .int xf), (5, .int v88_l5), (6, .int v146_l6), (7, .int (nI i146))] → W p l e ({ frames := 8, cells := 0, slots := 0, locals := 187 } : Room) s m args below meth c H locs 0 0 Q (F0 m 249 ls []) := by
                            intro  H locs ls hfin hS hl
                            refine lv_bipush (v := (-3 : Int32)) hx hb dX7_call_249 (by decide) ?_
                            exact RET _ (za_49, kn_49, d_88, F_0_88, zf_40, zt_137) _ _ _ _ dX7_call_251 rfl (⟨(by first | assumption | exact hKN), (Or.inr (Or.inr ⟨⟨g5, g13, ⟨g23.1, (cx_leL _ 9 (by decide)).mp g23.2⟩, ⟨g33.1, (cx_leL _ 4 (by decide)).mp g33.2⟩⟩, fun z => z.elim g43 (fun y => y g52), cx_ca5 hmt (cx_ixm (cx_pg hv h90) (by decide)) h103 h122 hfin⟩))⟩) hS
                          refine lv_icmp_ge (tgt := 249) hx hb dX7_call_150 (by decide) (fun h150 => ?_) (fun h150 => ?_)
                          · skip
                            have g150 : 20 ≤ i146 := (nI_leI (a := 20) (b := i146) (by omega) (by omega)).mp h150
                            exact J249  _ _ _ (by first | exact hq _ (by rw [show 20 - i146 = 0 by omega]; exact rfl) | exact hq _ (cx_one_end g159 _)) hS (lv_sub hl [0, 1, 2, 3, 4, 5, 6, 7] rfl)
                          · skip
                            have g150 : ¬ (20 ≤ i146) := fun z => h150 ((nI_leI (a := 20) (b := i146) (by omega) (by omega)).mpr z)
                            refine lv_aload_n hx hb dX7_call_153 rfl (lv_at hl 0 rfl) ?_
                            refine lv_iload hx hb dX7_call_154 (lv_at hl 6 rfl) ?_
                            refine cx_cVi (As := [.int v146_l6]) (rest := []) ⟨hx, hb, hml, hown, hts⟩ hE hS (c_X7_isType l D q cI cZ n T k M d_88 (cx_u (cx_u (cx_u (cx_u Z 1 zf_40) 0 za_49) 3 (fun _ => kn_49)) 2 zt_137) (cx_u F 0 F_0_88) v146_l6 (by first | assumption | omega | rfl)) (cwV 1 hts gX7_call_X7_isType rfl rfl rfl (by decide +kernel) ⟨Nat.le_of_ble_eq_true rfl, Nat.le_of_ble_eq_true rfl⟩) 0 7 rfl rfl rfl hl.1 rfl (Nat.le_of_ble_eq_true rfl) ⟨Nat.zero_le _, Nat.zero_le _⟩ dX7_call_156 (fun r_156 u_156 H locs hp_156 hS => ?_)
                            have hp_156 : r_156 = cx_b (0 ≤ v146_l6 ∧ v146_l6 < nI n) := hp_156
                            subst hp_156
                            refine lv_if_eq (tgt := 249) hx hb dX7_call_159 (by decide) (fun h159 => ?_) (fun h159 => ?_)
                            · skip
                              have g159 := cx_b0 h159
                              exact J249  _ _ _ (by first | exact hq _ (by rw [show 20 - i146 = 0 by omega]; exact rfl) | exact hq _ (cx_one_end g159 _)) hS (lv_sub hl [0, 1, 2, 3, 4, 5, 6, 7] rfl)
                            · skip
                              have g159 := cx_b1 h159
                              refine lv_iconst (v := (0 : Int32)) hx hb dX7_call_162 (by decide) ?_
                              refine cx_topr (z := nI 0) (by decide) ?_
                              refine lv_istore (lv' := [(8, .int (nI 0)), (0, .ref (q 0)), (1, .int xa), (2, .int xb), (3, .int xe), (4, .int xf), (5, .int v88_l5), (6, .int v146_l6), (7, .int (nI i146))]) hx hb dX7_call_163 hl (by decide) rfl (fun ls hl => ?_)
                              have J165 : ∀ (N : Nat) (i165 : Nat) (H : Heap) (locs : List Loc) (ls : Array Slot), (k - i165 < N) → (i165 ≤ k) → (∀ j, j < i165 → ¬ (cx_tq k (T 0) (T 2) M (cx_Ar T n) (v88_l5.toNatClampNeg)) v146_l6.toNatClampNeg j) → cx_S D vwCl A s (cyW q cI cZ n T k M d_88 (cx_u (cx_u (cx_u (cx_u Z 1 zf_40) 0 za_49) 3 (fun _ => kn_49)) 2 zt_137) (cx_u F 0 F_0_88)) H locs → lv_has ls 9 [(0, .ref (q 0)), (1, .int xa), (2, .int xb), (3, .int xe), (4, .int xf), (5, .int v88_l5), (6, .int v146_l6), (7, .int (nI i146)), (8, .int (nI i165))] → W p l e ({ frames := 8, cells := 0, slots := 0, locals := 187 } : Room) s m args below meth c H locs 0 0 Q (F0 m 165 ls []) := by
                                intro N165
                                induction N165 with
                                | zero => intro i165 H locs ls hN; exact absurd hN (by omega)
                                | succ N165 ih165 =>
                                  intro i165 H locs ls hN165 hi165 hnone hS hl
                                  refine lv_iload hx hb dX7_call_165 (lv_at hl 8 rfl) ?_
                                  refine lv_aload_n hx hb dX7_call_167 rfl (lv_at hl 0 rfl) ?_
                                  refine cx_get (own := RX7) (index := 81) (C := RX7) (T := TX7) (N := 22) (k := 9) (ci := 7) (v := .int (nI k)) hx hb hts hown hE hS hinX7 0 rfl rfl (by decide) (List.mem_of_getElem? (i := 4) rfl) rfl dX7_call_168 ?_
                                  refine lv_icmp_ge (tgt := 234) hx hb dX7_call_171 (by decide) (fun h171 => ?_) (fun h171 => ?_)
                                  · skip
                                    have g171 : k ≤ i165 := (nI_leI (a := k) (b := i165) (by omega) (by omega)).mp h171
                                    refine lv_aload_n hx hb dX7_call_234 rfl (lv_at hl 0 rfl) ?_
                                    refine cx_get (own := RX7) (index := 19) (C := RX7) (T := TX7) (N := 22) (k := 4) (ci := 7) (v := .ref (q 4)) hx hb hts hown hE hS hinX7 0 rfl rfl (by decide) (List.mem_of_getElem? (i := 6) rfl) rfl dX7_call_235 ?_
                                    refine lv_iload hx hb dX7_call_238 (lv_at hl 6 rfl) ?_
                                    refine cx_topr (z := nI (v146_l6.toNatClampNeg)) (cx_ixT (by omega) g159).1 ?_
                                    refine cx_iald (f := (T 3)) (n := 20) (cA := cI) hx hb hE hS 4 0 rfl rfl (by have := (cx_ixT (by omega) g159).2; omega) (by decide) dX7_call_240 ?_
                                    refine lv_istore (lv' := [(6, .int ((T 3) v146_l6.toNatClampNeg)), (0, .ref (q 0)), (1, .int xa), (2, .int xb), (3, .int xe), (4, .int xf), (5, .int v88_l5), (7, .int (nI i146)), (8, .int (nI i165))]) hx hb dX7_call_241 hl (by decide) rfl (fun ls hl => ?_)
                                    refine lv_iinc (v := nI (i146 + 1)) (lv' := [(7, .int (nI (i146 + 1))), (6, .int ((T 3) v146_l6.toNatClampNeg)), (0, .ref (q 0)), (1, .int xa), (2, .int xb), (3, .int xe), (4, .int xf), (5, .int v88_l5), (8, .int (nI i165))]) hx hb dX7_call_243 hl (k := 7) rfl (cx_inc _) (by decide) rfl (fun ls hl => ?_)
                                    refine lv_goto (tgt := 146) hx hb dX7_call_246 (by decide) ?_
                                    exact ih146 ((T 3) v146_l6.toNatClampNeg) (i146 + 1) _ _ _ (by (try clear hp_130); (try clear hp_83); omega) (by (try clear hp_130); (try clear hp_83); omega) (by first | exact fun r hr => hr | exact fun r hr => hq r (by rw [show 20 - i146 = (20 - (i146 + 1)) + 1 by omega]; exact cx_one_nxt g159 (fun j hj => hnone j (by omega)) hr)) hS (lv_sub hl [2, 3, 4, 5, 6, 7, 1, 0] rfl)
                                  · skip
                                    have g171 : ¬ (k ≤ i165) := fun z => h171 ((nI_leI (a := k) (b := i165) (by omega) (by omega)).mpr z)
                                    refine lv_aload_n hx hb dX7_call_174 rfl (lv_at hl 0 rfl) ?_
                                    refine cx_get (own := RX7) (index := 34) (C := RX7) (T := TX7) (N := 22) (k := 10) (ci := 7) (v := .ref (q 9)) hx hb hts hown hE hS hinX7 0 rfl rfl (by decide) (List.mem_of_getElem? (i := 3) rfl) rfl dX7_call_175 ?_
                                    refine lv_iload hx hb dX7_call_178 (lv_at hl 8 rfl) ?_
                                    refine cx_iald (f := (M 0)) (n := 80) (cA := cI) hx hb hE hS 9 0 rfl rfl (by omega) (by decide) dX7_call_180 ?_
                                    refine lv_iload hx hb dX7_call_181 (lv_at hl 6 rfl) ?_
                                    have J228 : ∀ (H : Heap) (locs : List Loc) (ls : Array Slot), (¬ (cx_tq k (T 0) (T 2) M (cx_Ar T n) (v88_l5.toNatClampNeg)) v146_l6.toNatClampNeg i165) → cx_S D vwCl A s (cyW q cI cZ n T k M d_88 (cx_u (cx_u (cx_u (cx_u Z 1 zf_40) 0 za_49) 3 (fun _ => kn_49)) 2 zt_137) (cx_u F 0 F_0_88)) H locs → lv_has ls 9 [(0, .ref (q 0)), (1, .int xa), (2, .int xb), (3, .int xe), (4, .int xf), (5, .int v88_l5), (6, .int v146_l6), (7, .int (nI i146)), (8, .int (nI i165))] → W p l e ({ frames := 8, cells := 0, slots := 0, locals := 187 } : Room) s m args below meth c H locs 0 0 Q (F0 m 228 ls []) := by
                                      intro  H locs ls h228 hS hl
                                      refine lv_iinc (v := nI (i165 + 1)) (lv' := [(8, .int (nI (i165 + 1))), (0, .ref (q 0)), (1, .int xa), (2, .int xb), (3, .int xe), (4, .int xf), (5, .int v88_l5), (6, .int v146_l6), (7, .int (nI i146))]) hx hb dX7_call_228 hl (k := 8) rfl (cx_inc _) (by decide) rfl (fun ls hl => ?_)
                                      refine lv_goto (tgt := 165) hx hb dX7_call_231 (by decide) ?_
                                      exact ih165 (i165 + 1) _ _ _ (by (try clear hp_130); (try clear hp_83); omega) (by (try clear hp_130); (try clear hp_83); omega) (by first | exact cx_all0 | exact cx_allS hnone h228) hS (lv_sub hl [1, 2, 3, 4, 5, 6, 7, 8, 0] rfl)
                                    refine lv_icmp_ne (tgt := 228) hx hb dX7_call_183 (by decide) (fun h183 => ?_) (fun h183 => ?_)
                                    · skip
                                      exact J228  _ _ _ (by first | exact cx_tqn hO (cx_ixT (by omega) g159) h183 | exact fun z => z.2.elim g190 (fun y => (hp_137 _ _ (by omega) hq91).mpr y h206)) hS (lv_sub hl [0, 1, 2, 3, 4, 5, 6, 7, 8] rfl)
                                    · skip
                                      refine lv_iload hx hb dX7_call_186 (lv_at hl 8 rfl) ?_
                                      refine lv_iload hx hb dX7_call_188 (lv_at hl 5 rfl) ?_
                                      refine cx_topr (z := nI (v88_l5.toNatClampNeg)) (cx_pg hv h90).1 ?_
                                      have J209 : ∀ (H : Heap) (locs : List Loc) (ls : Array Slot), (cx_tks k (T 0) (T 2) M (cx_Ar T n) (v88_l5.toNatClampNeg) i165) → cx_S D vwCl A s (cyW q cI cZ n T k M d_88 (cx_u (cx_u (cx_u (cx_u Z 1 zf_40) 0 za_49) 3 (fun _ => kn_49)) 2 zt_137) (cx_u F 0 F_0_88)) H locs → lv_has ls 9 [(0, .ref (q 0)), (1, .int xa), (2, .int xb), (3, .int xe), (4, .int xf), (5, .int v88_l5), (6, .int v146_l6), (7, .int (nI i146)), (8, .int (nI i165))] → W p l e ({ frames := 8, cells := 0, slots := 0, locals := 187 } : Room) s m args below meth c H locs 0 0 Q (F0 m 209 ls []) := by
                                        intro  H locs ls h209 hS hl
                                        refine lv_aload_n hx hb dX7_call_209 rfl (lv_at hl 0 rfl) ?_
                                        refine lv_iload hx hb dX7_call_210 (lv_at hl 8 rfl) ?_
                                        refine lv_iconst (v := (1 : Int32)) hx hb dX7_call_212 (by decide) ?_
                                        refine lv_iconst (v := (1 : Int32)) hx hb dX7_call_213 (by decide) ?_
                                        refine cx_cVi (As := [.int (nI i165), .int (1 : Int32), .int (1 : Int32)]) (rest := []) ⟨hx, hb, hml, hown, hts⟩ hE hS (c_X7_is_at_1 l D q cI cZ n T k M d_88 (cx_u (cx_u (cx_u (cx_u Z 1 zf_40) 0 za_49) 3 (fun _ => kn_49)) 2 zt_137) (cx_u F 0 F_0_88) i165 (1 : Int32) (1 : Int32) (by first | assumption | omega | rfl) (by first | assumption | omega | rfl)) (cwV 3 hts gX7_call_X7_is rfl rfl rfl (by decide +kernel) ⟨Nat.le_of_ble_eq_true rfl, Nat.le_of_ble_eq_true rfl⟩) 0 7 rfl rfl rfl hl.1 rfl (Nat.le_of_ble_eq_true rfl) ⟨Nat.zero_le _, Nat.zero_le _⟩ dX7_call_214 (fun r_214 u_214 H locs hp_214 hS => ?_)
                                        have hp_214 : (r_214 = 0 ∨ r_214 = 1) ∧ (¬ r_214 = 0 ↔ cx_mk ((M 3)) i165 (1 : Int32)) := hp_214
                                        have J227 : ∀ (v227_s0 : Int32) (H : Heap) (locs : List Loc) (ls : Array Slot), ((cx_mk (M 3) i165 1 ∧ v227_s0 = (-3 : Int32)) ∨ (¬ cx_mk (M 3) i165 1 ∧ v227_s0 = nI i165)) → cx_S D vwCl A s (cyW q cI cZ n T k M d_88 (cx_u (cx_u (cx_u (cx_u Z 1 zf_40) 0 za_49) 3 (fun _ => kn_49)) 2 zt_137) (cx_u F 0 F_0_88)) H locs → lv_has ls 9 [(0, .ref (q 0)), (1, .int xa), (2, .int xb), (3, .int xe), (4, .int xf), (5, .int v88_l5), (6, .int v146_l6), (7, .int (nI i146)), (8, .int (nI i165))] → W p l e ({ frames := 8, cells := 0, slots := 0, locals := 187 } : Room) s m args below meth c H locs 0 0 Q (F0 m 227 ls [.int v227_s0]) := by
                                          intro v227_s0 H locs ls h227 hS hl
                                          exact RET _ (za_49, kn_49, d_88, F_0_88, zf_40, zt_137) _ _ _ _ dX7_call_227 rfl (⟨(by first | assumption | exact hKN), (Or.inr (Or.inr ⟨⟨g5, g13, ⟨g23.1, (cx_leL _ 9 (by decide)).mp g23.2⟩, ⟨g33.1, (cx_leL _ 4 (by decide)).mp g33.2⟩⟩, fun z => z.elim g43 (fun y => y g52), cx_ca4 (by omega) hmt (cx_ixm (cx_pg hv h90) (by decide)) h103 h122 (hq _ (by rw [show 20 - i146 = (20 - (i146 + 1)) + 1 by omega]; exact cx_one_hit g159 (by omega) hk (cx_tqy hO h183 h209) hnone)) h227⟩))⟩) hS
                                        refine lv_if_eq (tgt := 225) hx hb dX7_call_217 (by decide) (fun h217 => ?_) (fun h217 => ?_)
                                        · skip
                                          have g217 : ¬ (cx_mk ((M 3)) i165 (1 : Int32)) := fun z => hp_214.2.mpr z h217
                                          refine lv_iload hx hb dX7_call_225 (lv_at hl 8 rfl) ?_
                                          exact J227 (nI i165) _ _ _ (by first | exact Or.inl ⟨g217, rfl⟩ | exact Or.inr ⟨g217, rfl⟩) hS (lv_sub hl [0, 1, 2, 3, 4, 5, 6, 7, 8] rfl)
                                        · skip
                                          have g217 : cx_mk ((M 3)) i165 (1 : Int32) := hp_214.2.mp h217
                                          refine lv_bipush (v := (-3 : Int32)) hx hb dX7_call_220 (by decide) ?_
                                          refine lv_goto (tgt := 227) hx hb dX7_call_222 (by decide) ?_
                                          exact J227 (-3 : Int32) _ _ _ (by first | exact Or.inl ⟨g217, rfl⟩ | exact Or.inr ⟨g217, rfl⟩) hS (lv_sub hl [0, 1, 2, 3, 4, 5, 6, 7, 8] rfl)
                                      refine lv_icmp_eq (tgt := 209) hx hb dX7_call_190 (by decide) (fun h190 => ?_) (fun h190 => ?_)
                                      · skip
                                        have g190 : i165 = v88_l5.toNatClampNeg := (nI_eq (a := i165) (b := v88_l5.toNatClampNeg) (by omega) (by omega)).mp h190
                                        exact J209  _ _ _ (by first | exact Or.inl g190 | exact Or.inr ((hp_137 _ _ (by omega) hq91).mp h206)) hS (lv_sub hl [0, 1, 2, 3, 4, 5, 6, 7, 8] rfl)
                                      · skip
                                        have g190 : ¬ (i165 = v88_l5.toNatClampNeg) := fun z => h190 ((nI_eq (a := i165) (b := v88_l5.toNatClampNeg) (by omega) (by omega)).mpr z)
                                        refine lv_aload_n hx hb dX7_call_193 rfl (lv_at hl 0 rfl) ?_
                                        refine cx_get (own := RX7) (index := 62) (C := RX7) (T := TX7) (N := 22) (k := 21) (ci := 7) (v := .ref (q 18)) hx hb hts hown hE hS hinX7 0 rfl rfl (by decide) (List.mem_of_getElem? (i := 5) rfl) rfl dX7_call_194 ?_
                                        refine lv_bipush (v := nI 80) hx hb dX7_call_197 (by decide) ?_
                                        refine lv_iload hx hb dX7_call_199 (lv_at hl 8 rfl) ?_
                                        refine lv_imul hx hb dX7_call_201 ?_
                                        refine cx_topr (z := nI (80 * i165)) (pk_mul _ _) ?_
                                        refine lv_iload hx hb dX7_call_202 (lv_at hl 5 rfl) ?_
                                        refine cx_topr (z := nI (v88_l5.toNatClampNeg)) (cx_pg hv h90).1 ?_
                                        refine lv_iadd hx hb dX7_call_204 ?_
                                        refine cx_topr (z := nI (80 * i165 + v88_l5.toNatClampNeg)) (nI_add _ _) ?_
                                        refine cx_zald (f := zt_137) (n := 6400) (cA := cZ) hx hb hE hS 18 1 rfl rfl (by omega) (by decide) dX7_call_205 ?_
                                        refine lv_if_eq (tgt := 228) hx hb dX7_call_206 (by decide) (fun h206 => ?_) (fun h206 => ?_)
                                        · skip
                                          exact J228  _ _ _ (by first | exact cx_tqn hO (cx_ixT (by omega) g159) h183 | exact fun z => z.2.elim g190 (fun y => (hp_137 _ _ (by omega) hq91).mpr y h206)) hS (lv_sub hl [0, 1, 2, 3, 4, 5, 6, 7, 8] rfl)
                                        · skip
                                          exact J209  _ _ _ (by first | exact Or.inl g190 | exact Or.inr ((hp_137 _ _ (by omega) hq91).mp h206)) hS (lv_sub hl [0, 1, 2, 3, 4, 5, 6, 7, 8] rfl)
                              exact J165 (k - 0 + 1) 0 _ _ _ (Nat.lt_succ_self _) (by (try clear hp_130); (try clear hp_83); omega) (by first | exact cx_all0 | exact cx_allS hnone h228) hS (lv_sub hl [1, 2, 3, 4, 5, 6, 7, 8, 0] rfl)
                      exact J146 (20 - 0 + 1) (nI (xb.toNatClampNeg)) 0 _ _ _ (Nat.lt_succ_self _) (by (try clear hp_130); (try clear hp_83); omega) (by first | exact fun r hr => hr | exact fun r hr => hq r (by rw [show 20 - i146 = (20 - (i146 + 1)) + 1 by omega]; exact cx_one_nxt g159 (fun j hj => hnone j (by omega)) hr)) hS (lv_sub hl [2, 3, 4, 5, 6, 7, 1, 0] rfl)
                    · skip
                      refine lv_aload_n hx hb dX7_call_125 rfl (lv_at hl 0 rfl) ?_
                      refine lv_iload_n hx hb dX7_call_126 rfl (lv_at hl 2 rfl) ?_
                      refine cx_topr (z := nI (xb.toNatClampNeg)) (cx_ixT (by omega) g13).1 ?_
                      refine lv_iload_n hx hb dX7_call_127 rfl (lv_at hl 3 rfl) ?_
                      refine lv_iload hx hb dX7_call_128 (lv_at hl 4 rfl) ?_
                      refine cx_cVi (As := [.int (nI (xb.toNatClampNeg)), .int xe, .int xf]) (rest := []) ⟨hx, hb, hml, hown, hts⟩ hE hS (c_X7_running l D q cI cZ n T k M d_88 (cx_u (cx_u (cx_u Z 1 zf_40) 0 za_49) 3 (fun _ => kn_49)) (cx_u F 0 F_0_88) xb.toNatClampNeg xe xf (by first | assumption | omega | rfl) (by first | assumption | omega | rfl) (by first | assumption | omega | rfl) (by first | assumption | omega | rfl) (by first | assumption | omega | rfl) (by first | assumption | omega | rfl) (by first | assumption | omega | rfl) (by first | assumption | omega | rfl) (by first | assumption | omega | rfl) hq13) (cwV 3 hts gX7_call_X7_running rfl rfl rfl (by decide +kernel) ⟨Nat.le_of_ble_eq_true rfl, Nat.le_of_ble_eq_true rfl⟩) 0 7 rfl rfl rfl hl.1 rfl (Nat.le_of_ble_eq_true rfl) ⟨Nat.zero_le _, Nat.zero_le _⟩ dX7_call_130 (fun r_130 u_130 H locs hp_130 hS => ?_)
                      obtain ⟨za_130, kn_130, d1_130, fo_130⟩ := u_130
                      have hS : cx_S D vwCl A s (cyW q cI cZ n T k M d1_130 (cx_u (cx_u (cx_u Z 1 zf_40) 0 za_130) 3 (fun _ => kn_130)) (cx_u F 0 fo_130)) H locs := hS
                      obtain ⟨hKN_130, hp_130⟩ := hp_130
                      have hKN_130 : cx_KN n T za_130 kn_130 := hKN_130
                      have hp_130 : (∀ u, u < n → cx_is (cx_Ar T n) xb.toNatClampNeg u → ¬ (cx_Ar T n) u u) → ∃ r0 : Int32, cx_rn n k ((T 0)) ((T 2)) ((T 3)) M (cx_Ar T n) xb.toNatClampNeg xe xf r0 ∧ ((r0 = -1 ∧ r_130 = (-3 : Int32)) ∨ (¬ r0 = -1 ∧ r_130 = r0)) := hp_130
                      exact RET _ (za_130, kn_130, d1_130, fo_130, zf_40, Z 2) _ _ _ _ dX7_call_133 rfl (⟨(by first | assumption | exact hKN), (Or.inr (Or.inr ⟨⟨g5, g13, ⟨g23.1, (cx_leL _ 9 (by decide)).mp g23.2⟩, ⟨g33.1, (cx_leL _ 4 (by decide)).mp g33.2⟩⟩, fun z => z.elim g43 (fun y => y g52), cx_ca3 hmt (cx_ixm (cx_pg hv h90) (by decide)) h103 h122 (hp_130 (cx_nrW g43))⟩))⟩) hS
                  · skip
                    refine lv_iload hx hb dX7_call_106 (lv_at hl 5 rfl) ?_
                    exact RET _ (za_49, kn_49, d_88, F_0_88, zf_40, Z 2) _ _ _ _ dX7_call_108 rfl (⟨(by first | assumption | exact hKN), (Or.inr (Or.inr ⟨⟨g5, g13, ⟨g23.1, (cx_leL _ 9 (by decide)).mp g23.2⟩, ⟨g33.1, (cx_leL _ 4 (by decide)).mp g33.2⟩⟩, fun z => z.elim g43 (fun y => y g52), cx_ca2 hmt (cx_ixm (cx_pg hv h90) (by decide)) h103⟩))⟩) hS
                · skip
                  refine lv_bipush (v := (-3 : Int32)) hx hb dX7_call_93 (by decide) ?_
                  exact RET _ (za_49, kn_49, d_88, F_0_88, zf_40, Z 2) _ _ _ _ dX7_call_95 rfl (⟨(by first | assumption | exact hKN), (Or.inr (Or.inr ⟨⟨g5, g13, ⟨g23.1, (cx_leL _ 9 (by decide)).mp g23.2⟩, ⟨g33.1, (cx_leL _ 4 (by decide)).mp g33.2⟩⟩, fun z => z.elim g43 (fun y => y g52), cx_ca1 hmt (cx_neg1 hv (by decide) (Int32.not_le.mp h90))⟩))⟩) hS
              refine lv_if_ge (tgt := 88) hx hb dX7_call_70 (by decide) (fun h70 => ?_) (fun h70 => ?_)
              · skip
                exact J88 r_63 d1_40 fo_40 _ _ _ (by first | exact hp_63.2 | exact hp_83.1.1) (by first | exact ⟨_, hp_63.1, Or.inl ⟨cx_ixm (cx_pg hp_63.2 h70) (by decide), rfl⟩⟩ | exact ⟨_, hp_63.1, Or.inr ⟨cx_neg1 hp_63.2 (by decide) (Int32.not_le.mp h70), cx_Mn.lst (hp_78.2 (cx_nrT (cx_AXr hn) g43 g52)) (fun m z => z.1) (hp_83.2.2 rfl)⟩⟩) hS (lv_sub hl [1, 2, 3, 4, 5, 0] rfl)
              · skip
                refine lv_aload_n hx hb dX7_call_73 rfl (lv_at hl 1 rfl) ?_
                refine lv_iload_n hx hb dX7_call_74 rfl (lv_at hl 2 rfl) ?_
                refine cx_topr (z := nI (xa.toNatClampNeg)) (cx_ixT (by omega) g5).1 ?_
                refine lv_iload_n hx hb dX7_call_75 rfl (lv_at hl 4 rfl) ?_
                refine lv_iload hx hb dX7_call_76 (lv_at hl 5 rfl) ?_
                refine cx_cVv (As := [.int (nI (xa.toNatClampNeg)), .int xe, .int xf]) (rest := []) ⟨hx, hb, hml, hown, hts⟩ hE hS (c_X7_findFaceOnes_at_k l D q cI cZ n T k M d1_40 (cx_u (cx_u (cx_u Z 1 zf_40) 0 za_49) 3 (fun _ => kn_49)) (cx_u F 0 fo_40) xa.toNatClampNeg xe xf (by first | assumption | omega | rfl) (by first | assumption | omega | rfl) (by first | assumption | omega | rfl) (by first | assumption | omega | rfl) (by first | assumption | omega | rfl) (by first | assumption | omega | rfl) (by first | assumption | omega | rfl) (by first | assumption | omega | rfl) (by first | assumption | omega | rfl) hq5 hp_49.2.2) (cwV 3 hts gX7_call_X7_findFaceOnes rfl rfl rfl (by decide +kernel) ⟨Nat.le_of_ble_eq_true rfl, Nat.le_of_ble_eq_true rfl⟩) 0 7 rfl rfl rfl hl.1 rfl (Nat.le_of_ble_eq_true rfl) ⟨Nat.zero_le _, Nat.zero_le _⟩ dX7_call_78 (fun u_78 H locs hp_78 hS => ?_)
                obtain ⟨d1_78, fo_78⟩ := u_78
                have hS : cx_S D vwCl A s (cyW q cI cZ n T k M d1_78 (cx_u (cx_u (cx_u Z 1 zf_40) 0 za_49) 3 (fun _ => kn_49)) (cx_u F 0 fo_78)) H locs := hS
                have hp_78 : (d1_78 ≤ 20 ∧ ∀ j, j < d1_78 → cx_ix (fo_78 j) 80) ∧ ((∀ u, u < n → cx_is (cx_Ar T n) xa.toNatClampNeg u → ¬ (cx_Ar T n) u u) → cx_LI (cx_fo k ((T 0)) M (cx_Ar T n) xa.toNatClampNeg xe xf) fo_78 d1_78) := hp_78
                have hd_78 := hp_78.1.1
                refine lv_aload_n hx hb dX7_call_81 rfl (lv_at hl 1 rfl) ?_
                refine lv_iconst (v := (0 : Int32)) hx hb dX7_call_82 (by decide) ?_
                refine cx_cVi (As := [.int (0 : Int32)]) (rest := []) ⟨hx, hb, hml, hown, hts⟩ hE hS (c_X7_leastFaceOne l D q cI cZ n T k M d1_78 (cx_u (cx_u (cx_u Z 1 zf_40) 0 za_49) 3 (fun _ => kn_49)) (cx_u F 0 fo_78) (0 : Int32) hp_78.1.1 hp_78.1.2) (cwV 1 hts gX7_call_X7_leastFaceOne rfl rfl rfl (by decide +kernel) ⟨Nat.le_of_ble_eq_true rfl, Nat.le_of_ble_eq_true rfl⟩) 0 7 rfl rfl rfl hl.1 rfl (Nat.le_of_ble_eq_true rfl) ⟨Nat.zero_le _, Nat.zero_le _⟩ dX7_call_83 (fun r_83 u_83 H locs hp_83 hS => ?_)
                have hp_83 : ((r_83 = -1 ∨ cx_ix r_83 80) ∧ ((0 : Int32) = 0 → 0 < d1_78 → cx_ix r_83 80)) ∧ (((0 : Int32) = 1 → (¬ r_83 = -1 ↔ ∃ j, j < d1_78 ∧ cx_mk ((M 3)) ((fo_78) j).toNatClampNeg 1)) ∧ ((0 : Int32) = 0 → cx_Mn (fo_78) d1_78 r_83)) := hp_83
                refine lv_istore (lv' := [(5, .int r_83), (0, .ref (q 0)), (1, .int xa), (2, .int xb), (3, .int xe), (4, .int xf)]) hx hb dX7_call_86 hl (by decide) rfl (fun ls hl => ?_)
                exact J88 r_83 d1_78 fo_78 _ _ _ (by first | exact hp_63.2 | exact hp_83.1.1) (by first | exact ⟨_, hp_63.1, Or.inl ⟨cx_ixm (cx_pg hp_63.2 h70) (by decide), rfl⟩⟩ | exact ⟨_, hp_63.1, Or.inr ⟨cx_neg1 hp_63.2 (by decide) (Int32.not_le.mp h70), cx_Mn.lst (hp_78.2 (cx_nrT (cx_AXr hn) g43 g52)) (fun m z => z.1) (hp_83.2.2 rfl)⟩⟩) hS (lv_sub hl [1, 2, 3, 4, 5, 0] rfl)
            · skip
              have g52 : ¬ (cx_is (cx_Ar T n) xb.toNatClampNeg xa.toNatClampNeg) := fun z => hp_49.1.2.mpr z h52
              exact J55 za_49 (fun _ => kn_49) _ _ _ (by first | assumption | exact hKN) (by first | exact Or.inl g43 | exact Or.inr g52) hS (lv_sub hl [0, 1, 2, 3, 4] rfl)
        · skip
          have g33 := cx_b0 h33
          exact J36  _ _ _ (by first | exact fun z => g5 z.1 | exact fun z => g13 z.2.1 | exact fun z => g23 ⟨z.2.2.1.1, (cx_leL _ 9 (by decide)).mpr z.2.2.1.2⟩ | exact fun z => g33 ⟨z.2.2.2.1, (cx_leL _ 4 (by decide)).mpr z.2.2.2.2⟩) hS (lv_sub hl [0, 1, 2, 3, 4] rfl)
set_option maxHeartbeats 4000000 in
set_option maxRecDepth 100000 in
theorem c_X7_upper (l : Launch) (D : va_G) (q : Nat → Nat) (cI cZ : ClassId) (n : Nat) (T : Nat → Nat → Int32) (k : Nat) (M : Nat → Nat → Int32) (d : Nat) (Z : Nat → Nat → Int32) (F : Nat → Nat → Int32) (xa : Int32) (xb : Int32) (hn : n ≤ 20) (hV : cx_R (T 5) 4) : cx_Mi l D vwCl [(cI, .int), (cZ, .boolean)] cx_NW yX7_upper wsX7_upper ({ frames := 2, cells := 0, slots := 0, locals := 43 } : Room) [.ref (q 0), .int xa, .int xb] (cyW q cI cZ n T k M d Z F) (fun (r : Int32) (uw : (Nat → Nat → Int32) × (Nat → Nat → Int32)) => (¬ ((0 ≤ xa ∧ xa < nI n) ∧ (0 ≤ xb ∧ xb < nI 20)) ∧ r = (-1 : Int32) ∧ uw.1 = T ∧ uw.2 = Z) ∨ (((0 ≤ xa ∧ xa < nI n) ∧ (0 ≤ xb ∧ xb < nI 20)) ∧ (((T 5) (xa.toNatClampNeg)).toNatClampNeg) = 3 ∧ r = (-2 : Int32) ∧ uw.1 = T ∧ uw.2 = Z) ∨ (((0 ≤ xa ∧ xa < nI n) ∧ (0 ≤ xb ∧ xb < nI 20)) ∧ (((T 5) (xa.toNatClampNeg)).toNatClampNeg) < 3 ∧ r = nI ((((T 5) (xa.toNatClampNeg)).toNatClampNeg) + 1) ∧ uw.1 = cx_u (cx_u T 4 (upd (T 4) (3 * (xa.toNatClampNeg) + (((T 5) (xa.toNatClampNeg)).toNatClampNeg)) xb)) 5 (upd (T 5) (xa.toNatClampNeg) (nI ((((T 5) (xa.toNatClampNeg)).toNatClampNeg) + 1))) ∧ uw.2 = cx_u Z 3 (fun _ => (0 : Int32)))) (fun uw => (cyW q cI cZ n uw.1 k M d uw.2 F)) := by
  refine cx_Mi.of (cc := cX7_upper) (maxL := 3) cx_NW_ok (by decide) rfl (Nat.le_of_ble_eq_true rfl) ?_
  intro p e s m args below meth c Q A ls hx hb hml hown hts hE RET hS hl
  have hl : lv_has ls 3 [(0, .ref (q 0)), (1, .int xa), (2, .int xb)] := hl
  have hown : s.vm.findClass RX7 = some m.cls := hown
  have hinX7 : ∀ w ∈ u_ws RX7 TX7 22, w ∈ wsX7_upper := cx_mem [13, 14, 15, 16, 17, 18, 19, 20, 21, 22, 23, 24, 25, 26, 27, 28, 29, 30, 31, 32, 33, 34] (by decide +kernel)
  refine lv_aload_n hx hb dX7_upper_0 rfl (lv_at hl 0 rfl) ?_
  refine lv_iload_n hx hb dX7_upper_1 rfl (lv_at hl 1 rfl) ?_
  refine cx_cVi (As := [.int xa]) (rest := []) ⟨hx, hb, hml, hown, hts⟩ hE hS (c_X7_isType l D q cI cZ n T k M d Z F xa (by first | assumption | omega | rfl)) (cwV 1 hts gX7_upper_X7_isType rfl rfl rfl (by decide +kernel) ⟨Nat.le_of_ble_eq_true rfl, Nat.le_of_ble_eq_true rfl⟩) 0 7 rfl rfl rfl hl.1 rfl (Nat.le_of_ble_eq_true rfl) ⟨Nat.zero_le _, Nat.zero_le _⟩ dX7_upper_2 (fun r_2 u_2 H locs hp_2 hS => ?_)
  have hp_2 : r_2 = cx_b (0 ≤ xa ∧ xa < nI n) := hp_2
  subst hp_2
  have J18 : ∀ (H : Heap) (locs : List Loc) (ls : Array Slot), (¬ ((0 ≤ xa ∧ xa < nI n) ∧ (0 ≤ xb ∧ xb < nI 20))) → cx_S D vwCl A s (cyW q cI cZ n T k M d Z F) H locs → lv_has ls 3 [(0, .ref (q 0)), (1, .int xa), (2, .int xb)] → W p l e ({ frames := 2, cells := 0, slots := 0, locals := 43 } : Room) s m args below meth c H locs 0 0 Q (F0 m 18 ls []) := by
    intro  H locs ls hb18 hS hl
    refine lv_iconst (v := (-1 : Int32)) hx hb dX7_upper_18 (by decide) ?_
    exact RET _ (T, Z) _ _ _ _ dX7_upper_19 rfl (Or.inl ⟨hb18, rfl, rfl, rfl⟩) hS
  refine lv_if_eq (tgt := 18) hx hb dX7_upper_5 (by decide) (fun h5 => ?_) (fun h5 => ?_)
  · skip
    have g5 := cx_b0 h5
    exact J18  _ _ _ (by first | exact fun z => g5 z.1 | exact fun z => g15 ⟨z.2.1, (cx_le19 _).mpr z.2.2⟩) hS (lv_sub hl [0, 1, 2] rfl)
  · skip
    have g5 := cx_b1 h5
    have hq5 := (cx_ixT (by omega) g5).2
    refine lv_iload_n hx hb dX7_upper_8 rfl (lv_at hl 2 rfl) ?_
    refine lv_iconst (v := (0 : Int32)) hx hb dX7_upper_9 (by decide) ?_
    refine lv_bipush (v := nI 19) hx hb dX7_upper_10 (by decide) ?_
    refine cx_cSi (As := [.int xb, .int (0 : Int32), .int (nI 19)]) (rest := []) ⟨hx, hb, hml, hown, hts⟩ hE hS (c_X7_in l D [(cI, .int), (cZ, .boolean)] (cyW q cI cZ n T k M d Z F) xb (0 : Int32) (nI 19) ) (va_cwS 3 hts gX7_upper_X7_in rfl rfl rfl (by decide +kernel) ⟨Nat.le_of_ble_eq_true rfl, Nat.le_of_ble_eq_true rfl⟩) rfl hl.1 rfl (Nat.le_of_ble_eq_true rfl) ⟨Nat.zero_le _, Nat.zero_le _⟩ dX7_upper_12 (fun r_12 u_12 H locs hp_12 hS => ?_)
    have hp_12 : r_12 = cx_b ((0 : Int32) ≤ xb ∧ xb ≤ (nI 19)) := hp_12
    subst hp_12
    refine lv_if_ne (tgt := 20) hx hb dX7_upper_15 (by decide) (fun h15 => ?_) (fun h15 => ?_)
    · skip
      have g15 := cx_b1 h15
      refine lv_aload_n hx hb dX7_upper_20 rfl (lv_at hl 0 rfl) ?_
      refine cx_get (own := RX7) (index := 25) (C := RX7) (T := TX7) (N := 22) (k := 6) (ci := 7) (v := .ref (q 6)) hx hb hts hown hE hS hinX7 0 rfl rfl (by decide) (List.mem_of_getElem? (i := 1) rfl) rfl dX7_upper_21 ?_
      refine lv_iload_n hx hb dX7_upper_24 rfl (lv_at hl 1 rfl) ?_
      refine cx_topr (z := nI (xa.toNatClampNeg)) (cx_ixT (by omega) g5).1 ?_
      refine cx_iald (f := (T 5)) (n := 20) (cA := cI) hx hb hE hS 6 0 rfl rfl (by omega) (by decide) dX7_upper_25 ?_
      have ho25 := (hV xa.toNatClampNeg).2
      refine cx_topr (z := nI (((T 5) xa.toNatClampNeg).toNatClampNeg)) (hV xa.toNatClampNeg).1 ?_
      refine lv_iconst (v := nI 3) hx hb dX7_upper_26 (by decide) ?_
      refine lv_icmp_ne (tgt := 33) hx hb dX7_upper_27 (by decide) (fun h27 => ?_) (fun h27 => ?_)
      · skip
        have g27 : ¬ ((((T 5) xa.toNatClampNeg).toNatClampNeg) = 3) := fun z => h27 ((nI_eq (a := ((T 5) xa.toNatClampNeg).toNatClampNeg) (b := 3) (by omega) (by omega)).mpr z)
        refine lv_aload_n hx hb dX7_upper_33 rfl (lv_at hl 0 rfl) ?_
        refine cx_get (own := RX7) (index := 22) (C := RX7) (T := TX7) (N := 22) (k := 5) (ci := 7) (v := .ref (q 5)) hx hb hts hown hE hS hinX7 0 rfl rfl (by decide) (List.mem_of_getElem? (i := 2) rfl) rfl dX7_upper_34 ?_
        refine lv_iconst (v := nI 3) hx hb dX7_upper_37 (by decide) ?_
        refine lv_iload_n hx hb dX7_upper_38 rfl (lv_at hl 1 rfl) ?_
        refine cx_topr (z := nI (xa.toNatClampNeg)) (cx_ixT (by omega) g5).1 ?_
        refine lv_imul hx hb dX7_upper_39 ?_
        refine cx_topr (z := nI (3 * xa.toNatClampNeg)) (pk_mul _ _) ?_
        refine lv_aload_n hx hb dX7_upper_40 rfl (lv_at hl 0 rfl) ?_
        refine cx_get (own := RX7) (index := 25) (C := RX7) (T := TX7) (N := 22) (k := 6) (ci := 7) (v := .ref (q 6)) hx hb hts hown hE hS hinX7 0 rfl rfl (by decide) (List.mem_of_getElem? (i := 1) rfl) rfl dX7_upper_41 ?_
        refine lv_iload_n hx hb dX7_upper_44 rfl (lv_at hl 1 rfl) ?_
        refine cx_topr (z := nI (xa.toNatClampNeg)) (cx_ixT (by omega) g5).1 ?_
        refine cx_iald (f := (T 5)) (n := 20) (cA := cI) hx hb hE hS 6 0 rfl rfl (by omega) (by decide) dX7_upper_45 ?_
        have ho45 := (hV xa.toNatClampNeg).2
        refine cx_topr (z := nI (((T 5) xa.toNatClampNeg).toNatClampNeg)) (hV xa.toNatClampNeg).1 ?_
        refine lv_iadd hx hb dX7_upper_46 ?_
        refine cx_topr (z := nI (3 * xa.toNatClampNeg + ((T 5) xa.toNatClampNeg).toNatClampNeg)) (nI_add _ _) ?_
        refine lv_iload_n hx hb dX7_upper_47 rfl (lv_at hl 2 rfl) ?_
        refine cx_iast (k := 3 * xa.toNatClampNeg + ((T 5) xa.toNatClampNeg).toNatClampNeg) (f := (T 4)) (n := 60) (cA := cI) (ws' := (cyW q cI cZ n (cx_u T 4 (upd (T 4) (3 * xa.toNatClampNeg + ((T 5) xa.toNatClampNeg).toNatClampNeg) xb)) k M d Z F)) hx hb hE hS 5 0 rfl rfl (by omega) (by decide) rfl dX7_upper_48 (fun H locs hS => ?_)
        refine lv_aload_n hx hb dX7_upper_49 rfl (lv_at hl 0 rfl) ?_
        refine cx_get (own := RX7) (index := 25) (C := RX7) (T := TX7) (N := 22) (k := 6) (ci := 7) (v := .ref (q 6)) hx hb hts hown hE hS hinX7 0 rfl rfl (by decide) (List.mem_of_getElem? (i := 1) rfl) rfl dX7_upper_50 ?_
        refine lv_iload_n hx hb dX7_upper_53 rfl (lv_at hl 1 rfl) ?_
        refine cx_topr (z := nI (xa.toNatClampNeg)) (cx_ixT (by omega) g5).1 ?_
        refine lv_dup2_11 hx hb dX7_upper_54 rfl rfl ?_
        refine cx_iald (f := (T 5)) (n := 20) (cA := cI) hx hb hE hS 6 0 rfl rfl (by omega) (by decide) dX7_upper_55 ?_
        have ho55 := (hV xa.toNatClampNeg).2
        refine cx_topr (z := nI (((T 5) xa.toNatClampNeg).toNatClampNeg)) (hV xa.toNatClampNeg).1 ?_
        refine lv_iconst (v := (1 : Int32)) hx hb dX7_upper_56 (by decide) ?_
        refine lv_iadd hx hb dX7_upper_57 ?_
        refine cx_topr (z := nI (((T 5) xa.toNatClampNeg).toNatClampNeg + 1)) (nI_1 _) ?_
        refine cx_iast (k := xa.toNatClampNeg) (f := (T 5)) (n := 20) (cA := cI) (ws' := (cyW q cI cZ n (cx_u (cx_u T 4 (upd (T 4) (3 * xa.toNatClampNeg + ((T 5) xa.toNatClampNeg).toNatClampNeg) xb)) 5 (upd (T 5) xa.toNatClampNeg (nI (((T 5) xa.toNatClampNeg).toNatClampNeg + 1)))) k M d Z F)) hx hb hE hS 6 0 rfl rfl (by omega) (by decide) rfl dX7_upper_58 (fun H locs hS => ?_)
        refine lv_aload_n hx hb dX7_upper_59 rfl (lv_at hl 0 rfl) ?_
        refine lv_iconst (v := (0 : Int32)) hx hb dX7_upper_60 (by decide) ?_
        refine cx_put (own := RX7) (index := 73) (C := RX7) (T := TX7) (N := 22) (k := 17) (ci := 7) (v := .int (0 : Int32)) (ty := .boolean) (ws' := (cyW q cI cZ n (cx_u (cx_u T 4 (upd (T 4) (3 * xa.toNatClampNeg + ((T 5) xa.toNatClampNeg).toNatClampNeg) xb)) 5 (upd (T 5) xa.toNatClampNeg (nI (((T 5) xa.toNatClampNeg).toNatClampNeg + 1)))) k M d (cx_u Z 3 (fun _ => (0 : Int32))) F)) hx hb hts hown hE hS hinX7 tyX7 tyX7_ok nmX7 0 rfl rfl (by decide) (List.mem_of_getElem? (i := 3) rfl) rfl (by decide +kernel) rfl rfl (Nat.le_of_ble_eq_true rfl) rfl dX7_upper_61 (fun H locs hS => ?_)
        refine lv_aload_n hx hb dX7_upper_64 rfl (lv_at hl 0 rfl) ?_
        refine cx_get (own := RX7) (index := 25) (C := RX7) (T := TX7) (N := 22) (k := 6) (ci := 7) (v := .ref (q 6)) hx hb hts hown hE hS hinX7 0 rfl rfl (by decide) (List.mem_of_getElem? (i := 1) rfl) rfl dX7_upper_65 ?_
        refine lv_iload_n hx hb dX7_upper_68 rfl (lv_at hl 1 rfl) ?_
        refine cx_topr (z := nI (xa.toNatClampNeg)) (cx_ixT (by omega) g5).1 ?_
        refine cx_iald (f := (upd (T 5) xa.toNatClampNeg (nI (((T 5) xa.toNatClampNeg).toNatClampNeg + 1)))) (n := 20) (cA := cI) hx hb hE hS 6 0 rfl rfl (by omega) (by decide) dX7_upper_69 ?_
        exact RET _ (cx_u (cx_u T 4 (upd (T 4) (3 * xa.toNatClampNeg + ((T 5) xa.toNatClampNeg).toNatClampNeg) xb)) 5 (upd (T 5) xa.toNatClampNeg (nI (((T 5) xa.toNatClampNeg).toNatClampNeg + 1))), cx_u Z 3 (fun _ => (0 : Int32))) _ _ _ _ dX7_upper_70 rfl (Or.inr (Or.inr ⟨⟨g5, ⟨g15.1, (cx_le19 _).mp g15.2⟩⟩, by omega, cx_updn, rfl, rfl⟩)) hS
      · skip
        have g27 : (((T 5) xa.toNatClampNeg).toNatClampNeg) = 3 := (nI_eq (a := ((T 5) xa.toNatClampNeg).toNatClampNeg) (b := 3) (by omega) (by omega)).mp h27
        refine lv_bipush (v := (-2 : Int32)) hx hb dX7_upper_30 (by decide) ?_
        exact RET _ (T, Z) _ _ _ _ dX7_upper_32 rfl (Or.inr (Or.inl ⟨⟨g5, ⟨g15.1, (cx_le19 _).mp g15.2⟩⟩, g27, rfl, rfl, rfl⟩)) hS
    · skip
      have g15 := cx_b0 h15
      exact J18  _ _ _ (by first | exact fun z => g5 z.1 | exact fun z => g15 ⟨z.2.1, (cx_le19 _).mpr z.2.2⟩) hS (lv_sub hl [0, 1, 2] rfl)
set_option maxHeartbeats 4000000 in
set_option maxRecDepth 100000 in
theorem c_X7_permit (l : Launch) (D : va_G) (q : Nat → Nat) (cI cZ : ClassId) (n : Nat) (T : Nat → Nat → Int32) (k : Nat) (M : Nat → Nat → Int32) (d : Nat) (Z : Nat → Nat → Int32) (F : Nat → Nat → Int32) (xa : Int32) (xb : Int32) (hn : n ≤ 20) (hW : cx_R (T 7) 4) : cx_Mi l D vwCl [(cI, .int), (cZ, .boolean)] cx_NW yX7_permit wsX7_permit ({ frames := 2, cells := 0, slots := 0, locals := 43 } : Room) [.ref (q 0), .int xa, .int xb] (cyW q cI cZ n T k M d Z F) (fun (r : Int32) (uw : (Nat → Nat → Int32)) => (¬ ((0 ≤ xa ∧ xa < nI n) ∧ (0 ≤ xb ∧ xb < nI 20)) ∧ r = (-1 : Int32) ∧ uw = T) ∨ (((0 ≤ xa ∧ xa < nI n) ∧ (0 ≤ xb ∧ xb < nI 20)) ∧ (((T 7) (xa.toNatClampNeg)).toNatClampNeg) = 3 ∧ r = (-2 : Int32) ∧ uw = T) ∨ (((0 ≤ xa ∧ xa < nI n) ∧ (0 ≤ xb ∧ xb < nI 20)) ∧ (((T 7) (xa.toNatClampNeg)).toNatClampNeg) < 3 ∧ r = nI ((((T 7) (xa.toNatClampNeg)).toNatClampNeg) + 1) ∧ uw = cx_u (cx_u T 6 (upd (T 6) (3 * (xa.toNatClampNeg) + (((T 7) (xa.toNatClampNeg)).toNatClampNeg)) xb)) 7 (upd (T 7) (xa.toNatClampNeg) (nI ((((T 7) (xa.toNatClampNeg)).toNatClampNeg) + 1))))) (fun uw => (cyW q cI cZ n uw k M d Z F)) := by
  refine cx_Mi.of (cc := cX7_permit) (maxL := 3) cx_NW_ok (by decide) rfl (Nat.le_of_ble_eq_true rfl) ?_
  intro p e s m args below meth c Q A ls hx hb hml hown hts hE RET hS hl
  have hl : lv_has ls 3 [(0, .ref (q 0)), (1, .int xa), (2, .int xb)] := hl
  have hown : s.vm.findClass RX7 = some m.cls := hown
  have hinX7 : ∀ w ∈ u_ws RX7 TX7 22, w ∈ wsX7_permit := cx_mem [12, 13, 14, 15, 16, 17, 18, 19, 20, 21, 22, 23, 24, 25, 26, 27, 28, 29, 30, 31, 32, 33] (by decide +kernel)
  refine lv_aload_n hx hb dX7_permit_0 rfl (lv_at hl 0 rfl) ?_
  refine lv_iload_n hx hb dX7_permit_1 rfl (lv_at hl 1 rfl) ?_
  refine cx_cVi (As := [.int xa]) (rest := []) ⟨hx, hb, hml, hown, hts⟩ hE hS (c_X7_isType l D q cI cZ n T k M d Z F xa (by first | assumption | omega | rfl)) (cwV 1 hts gX7_permit_X7_isType rfl rfl rfl (by decide +kernel) ⟨Nat.le_of_ble_eq_true rfl, Nat.le_of_ble_eq_true rfl⟩) 0 7 rfl rfl rfl hl.1 rfl (Nat.le_of_ble_eq_true rfl) ⟨Nat.zero_le _, Nat.zero_le _⟩ dX7_permit_2 (fun r_2 u_2 H locs hp_2 hS => ?_)
  have hp_2 : r_2 = cx_b (0 ≤ xa ∧ xa < nI n) := hp_2
  subst hp_2
  have J18 : ∀ (H : Heap) (locs : List Loc) (ls : Array Slot), (¬ ((0 ≤ xa ∧ xa < nI n) ∧ (0 ≤ xb ∧ xb < nI 20))) → cx_S D vwCl A s (cyW q cI cZ n T k M d Z F) H locs → lv_has ls 3 [(0, .ref (q 0)), (1, .int xa), (2, .int xb)] → W p l e ({ frames := 2, cells := 0, slots := 0, locals := 43 } : Room) s m args below meth c H locs 0 0 Q (F0 m 18 ls []) := by
    intro  H locs ls hb18 hS hl
    refine lv_iconst (v := (-1 : Int32)) hx hb dX7_permit_18 (by decide) ?_
    exact RET _ (T) _ _ _ _ dX7_permit_19 rfl (Or.inl ⟨hb18, rfl, rfl⟩) hS
  refine lv_if_eq (tgt := 18) hx hb dX7_permit_5 (by decide) (fun h5 => ?_) (fun h5 => ?_)
  · skip
    have g5 := cx_b0 h5
    exact J18  _ _ _ (by first | exact fun z => g5 z.1 | exact fun z => g15 ⟨z.2.1, (cx_le19 _).mpr z.2.2⟩) hS (lv_sub hl [0, 1, 2] rfl)
  · skip
    have g5 := cx_b1 h5
    have hq5 := (cx_ixT (by omega) g5).2
    refine lv_iload_n hx hb dX7_permit_8 rfl (lv_at hl 2 rfl) ?_
    refine lv_iconst (v := (0 : Int32)) hx hb dX7_permit_9 (by decide) ?_
    refine lv_bipush (v := nI 19) hx hb dX7_permit_10 (by decide) ?_
    refine cx_cSi (As := [.int xb, .int (0 : Int32), .int (nI 19)]) (rest := []) ⟨hx, hb, hml, hown, hts⟩ hE hS (c_X7_in l D [(cI, .int), (cZ, .boolean)] (cyW q cI cZ n T k M d Z F) xb (0 : Int32) (nI 19) ) (va_cwS 3 hts gX7_permit_X7_in rfl rfl rfl (by decide +kernel) ⟨Nat.le_of_ble_eq_true rfl, Nat.le_of_ble_eq_true rfl⟩) rfl hl.1 rfl (Nat.le_of_ble_eq_true rfl) ⟨Nat.zero_le _, Nat.zero_le _⟩ dX7_permit_12 (fun r_12 u_12 H locs hp_12 hS => ?_)
    have hp_12 : r_12 = cx_b ((0 : Int32) ≤ xb ∧ xb ≤ (nI 19)) := hp_12
    subst hp_12
    refine lv_if_ne (tgt := 20) hx hb dX7_permit_15 (by decide) (fun h15 => ?_) (fun h15 => ?_)
    · skip
      have g15 := cx_b1 h15
      refine lv_aload_n hx hb dX7_permit_20 rfl (lv_at hl 0 rfl) ?_
      refine cx_get (own := RX7) (index := 31) (C := RX7) (T := TX7) (N := 22) (k := 8) (ci := 7) (v := .ref (q 8)) hx hb hts hown hE hS hinX7 0 rfl rfl (by decide) (List.mem_of_getElem? (i := 1) rfl) rfl dX7_permit_21 ?_
      refine lv_iload_n hx hb dX7_permit_24 rfl (lv_at hl 1 rfl) ?_
      refine cx_topr (z := nI (xa.toNatClampNeg)) (cx_ixT (by omega) g5).1 ?_
      refine cx_iald (f := (T 7)) (n := 20) (cA := cI) hx hb hE hS 8 0 rfl rfl (by omega) (by decide) dX7_permit_25 ?_
      have ho25 := (hW xa.toNatClampNeg).2
      refine cx_topr (z := nI (((T 7) xa.toNatClampNeg).toNatClampNeg)) (hW xa.toNatClampNeg).1 ?_
      refine lv_iconst (v := nI 3) hx hb dX7_permit_26 (by decide) ?_
      refine lv_icmp_ne (tgt := 33) hx hb dX7_permit_27 (by decide) (fun h27 => ?_) (fun h27 => ?_)
      · skip
        have g27 : ¬ ((((T 7) xa.toNatClampNeg).toNatClampNeg) = 3) := fun z => h27 ((nI_eq (a := ((T 7) xa.toNatClampNeg).toNatClampNeg) (b := 3) (by omega) (by omega)).mpr z)
        refine lv_aload_n hx hb dX7_permit_33 rfl (lv_at hl 0 rfl) ?_
        refine cx_get (own := RX7) (index := 28) (C := RX7) (T := TX7) (N := 22) (k := 7) (ci := 7) (v := .ref (q 7)) hx hb hts hown hE hS hinX7 0 rfl rfl (by decide) (List.mem_of_getElem? (i := 2) rfl) rfl dX7_permit_34 ?_
        refine lv_iconst (v := nI 3) hx hb dX7_permit_37 (by decide) ?_
        refine lv_iload_n hx hb dX7_permit_38 rfl (lv_at hl 1 rfl) ?_
        refine cx_topr (z := nI (xa.toNatClampNeg)) (cx_ixT (by omega) g5).1 ?_
        refine lv_imul hx hb dX7_permit_39 ?_
        refine cx_topr (z := nI (3 * xa.toNatClampNeg)) (pk_mul _ _) ?_
        refine lv_aload_n hx hb dX7_permit_40 rfl (lv_at hl 0 rfl) ?_
        refine cx_get (own := RX7) (index := 31) (C := RX7) (T := TX7) (N := 22) (k := 8) (ci := 7) (v := .ref (q 8)) hx hb hts hown hE hS hinX7 0 rfl rfl (by decide) (List.mem_of_getElem? (i := 1) rfl) rfl dX7_permit_41 ?_
        refine lv_iload_n hx hb dX7_permit_44 rfl (lv_at hl 1 rfl) ?_
        refine cx_topr (z := nI (xa.toNatClampNeg)) (cx_ixT (by omega) g5).1 ?_
        refine cx_iald (f := (T 7)) (n := 20) (cA := cI) hx hb hE hS 8 0 rfl rfl (by omega) (by decide) dX7_permit_45 ?_
        have ho45 := (hW xa.toNatClampNeg).2
        refine cx_topr (z := nI (((T 7) xa.toNatClampNeg).toNatClampNeg)) (hW xa.toNatClampNeg).1 ?_
        refine lv_iadd hx hb dX7_permit_46 ?_
        refine cx_topr (z := nI (3 * xa.toNatClampNeg + ((T 7) xa.toNatClampNeg).toNatClampNeg)) (nI_add _ _) ?_
        refine lv_iload_n hx hb dX7_permit_47 rfl (lv_at hl 2 rfl) ?_
        refine cx_iast (k := 3 * xa.toNatClampNeg + ((T 7) xa.toNatClampNeg).toNatClampNeg) (f := (T 6)) (n := 60) (cA := cI) (ws' := (cyW q cI cZ n (cx_u T 6 (upd (T 6) (3 * xa.toNatClampNeg + ((T 7) xa.toNatClampNeg).toNatClampNeg) xb)) k M d Z F)) hx hb hE hS 7 0 rfl rfl (by omega) (by decide) rfl dX7_permit_48 (fun H locs hS => ?_)
        refine lv_aload_n hx hb dX7_permit_49 rfl (lv_at hl 0 rfl) ?_
        refine cx_get (own := RX7) (index := 31) (C := RX7) (T := TX7) (N := 22) (k := 8) (ci := 7) (v := .ref (q 8)) hx hb hts hown hE hS hinX7 0 rfl rfl (by decide) (List.mem_of_getElem? (i := 1) rfl) rfl dX7_permit_50 ?_
        refine lv_iload_n hx hb dX7_permit_53 rfl (lv_at hl 1 rfl) ?_
        refine cx_topr (z := nI (xa.toNatClampNeg)) (cx_ixT (by omega) g5).1 ?_
        refine lv_dup2_11 hx hb dX7_permit_54 rfl rfl ?_
        refine cx_iald (f := (T 7)) (n := 20) (cA := cI) hx hb hE hS 8 0 rfl rfl (by omega) (by decide) dX7_permit_55 ?_
        have ho55 := (hW xa.toNatClampNeg).2
        refine cx_topr (z := nI (((T 7) xa.toNatClampNeg).toNatClampNeg)) (hW xa.toNatClampNeg).1 ?_
        refine lv_iconst (v := (1 : Int32)) hx hb dX7_permit_56 (by decide) ?_
        refine lv_iadd hx hb dX7_permit_57 ?_
        refine cx_topr (z := nI (((T 7) xa.toNatClampNeg).toNatClampNeg + 1)) (nI_1 _) ?_
        refine cx_iast (k := xa.toNatClampNeg) (f := (T 7)) (n := 20) (cA := cI) (ws' := (cyW q cI cZ n (cx_u (cx_u T 6 (upd (T 6) (3 * xa.toNatClampNeg + ((T 7) xa.toNatClampNeg).toNatClampNeg) xb)) 7 (upd (T 7) xa.toNatClampNeg (nI (((T 7) xa.toNatClampNeg).toNatClampNeg + 1)))) k M d Z F)) hx hb hE hS 8 0 rfl rfl (by omega) (by decide) rfl dX7_permit_58 (fun H locs hS => ?_)
        refine lv_aload_n hx hb dX7_permit_59 rfl (lv_at hl 0 rfl) ?_
        refine cx_get (own := RX7) (index := 31) (C := RX7) (T := TX7) (N := 22) (k := 8) (ci := 7) (v := .ref (q 8)) hx hb hts hown hE hS hinX7 0 rfl rfl (by decide) (List.mem_of_getElem? (i := 1) rfl) rfl dX7_permit_60 ?_
        refine lv_iload_n hx hb dX7_permit_63 rfl (lv_at hl 1 rfl) ?_
        refine cx_topr (z := nI (xa.toNatClampNeg)) (cx_ixT (by omega) g5).1 ?_
        refine cx_iald (f := (upd (T 7) xa.toNatClampNeg (nI (((T 7) xa.toNatClampNeg).toNatClampNeg + 1)))) (n := 20) (cA := cI) hx hb hE hS 8 0 rfl rfl (by omega) (by decide) dX7_permit_64 ?_
        exact RET _ (cx_u (cx_u T 6 (upd (T 6) (3 * xa.toNatClampNeg + ((T 7) xa.toNatClampNeg).toNatClampNeg) xb)) 7 (upd (T 7) xa.toNatClampNeg (nI (((T 7) xa.toNatClampNeg).toNatClampNeg + 1)))) _ _ _ _ dX7_permit_65 rfl (Or.inr (Or.inr ⟨⟨g5, ⟨g15.1, (cx_le19 _).mp g15.2⟩⟩, by omega, cx_updn, rfl⟩)) hS
      · skip
        have g27 : (((T 7) xa.toNatClampNeg).toNatClampNeg) = 3 := (nI_eq (a := ((T 7) xa.toNatClampNeg).toNatClampNeg) (b := 3) (by omega) (by omega)).mp h27
        refine lv_bipush (v := (-2 : Int32)) hx hb dX7_permit_30 (by decide) ?_
        exact RET _ (T) _ _ _ _ dX7_permit_32 rfl (Or.inr (Or.inl ⟨⟨g5, ⟨g15.1, (cx_le19 _).mp g15.2⟩⟩, g27, rfl, rfl⟩)) hS
    · skip
      have g15 := cx_b0 h15
      exact J18  _ _ _ (by first | exact fun z => g5 z.1 | exact fun z => g15 ⟨z.2.1, (cx_le19 _).mpr z.2.2⟩) hS (lv_sub hl [0, 1, 2] rfl)
set_option maxHeartbeats 4000000 in
set_option maxRecDepth 100000 in
theorem c_X7_member (l : Launch) (D : va_G) (q : Nat → Nat) (cI cZ : ClassId) (n : Nat) (T : Nat → Nat → Int32) (k : Nat) (M : Nat → Nat → Int32) (d : Nat) (Z : Nat → Nat → Int32) (F : Nat → Nat → Int32) (xa : Int32) (xb : Int32) (xe : Int32) (xf : Int32) (xh : Int32) (xi : Int32) (hn : n ≤ 20) (hk : k ≤ 80) : cx_Mi l D vwCl [(cI, .int), (cZ, .boolean)] cx_NW yX7_member wsX7_member ({ frames := 2, cells := 0, slots := 0, locals := 43 } : Room) [.ref (q 0), .int xa, .int xb, .int xe, .int xf, .int xh, .int xi] (cyW q cI cZ n T k M d Z F) (fun (r : Int32) (uw : (Nat) × (Nat → Nat → Int32)) => (¬ ((0 ≤ xa ∧ xa < nI n) ∧ (0 ≤ xb ∧ xb < nI 10) ∧ (0 ≤ xe ∧ xe < nI 5) ∧ (0 ≤ xf ∧ xf < nI 16) ∧ (0 ≤ xh ∧ xh < nI 4) ∧ (0 ≤ xi ∧ xi < nI 30)) ∧ r = (-1 : Int32) ∧ uw.1 = k ∧ uw.2 = M) ∨ (((0 ≤ xa ∧ xa < nI n) ∧ (0 ≤ xb ∧ xb < nI 10) ∧ (0 ≤ xe ∧ xe < nI 5) ∧ (0 ≤ xf ∧ xf < nI 16) ∧ (0 ≤ xh ∧ xh < nI 4) ∧ (0 ≤ xi ∧ xi < nI 30)) ∧ ¬ k < 80 ∧ r = (-2 : Int32) ∧ uw.1 = k ∧ uw.2 = M) ∨ (((0 ≤ xa ∧ xa < nI n) ∧ (0 ≤ xb ∧ xb < nI 10) ∧ (0 ≤ xe ∧ xe < nI 5) ∧ (0 ≤ xf ∧ xf < nI 16) ∧ (0 ≤ xh ∧ xh < nI 4) ∧ (0 ≤ xi ∧ xi < nI 30)) ∧ k < 80 ∧ r = nI k ∧ uw.1 = k + 1 ∧ uw.2 = cx_u (cx_u (cx_u (cx_u (cx_u (cx_u M 0 (upd (M 0) k xa)) 1 (upd (M 1) k xb)) 2 (upd (M 2) k xe)) 3 (upd (M 3) k xf)) 4 (upd (M 4) k xh)) 5 (upd (M 5) k xi))) (fun uw => (cyW q cI cZ n T uw.1 uw.2 d Z F)) := by
  refine cx_Mi.of (cc := cX7_member) (maxL := 7) cx_NW_ok (by decide) rfl (Nat.le_of_ble_eq_true rfl) ?_
  intro p e s m args below meth c Q A ls hx hb hml hown hts hE RET hS hl
  have hl : lv_has ls 7 [(0, .ref (q 0)), (1, .int xa), (2, .int xb), (3, .int xe), (4, .int xf), (5, .int xh), (6, .int xi)] := hl
  have hown : s.vm.findClass RX7 = some m.cls := hown
  have hinX7 : ∀ w ∈ u_ws RX7 TX7 22, w ∈ wsX7_member := cx_mem [17, 18, 19, 20, 21, 22, 23, 24, 25, 26, 27, 28, 29, 30, 31, 32, 33, 34, 35, 36, 37, 38] (by decide +kernel)
  refine lv_aload_n hx hb dX7_member_0 rfl (lv_at hl 0 rfl) ?_
  refine lv_iload_n hx hb dX7_member_1 rfl (lv_at hl 1 rfl) ?_
  refine cx_cVi (As := [.int xa]) (rest := []) ⟨hx, hb, hml, hown, hts⟩ hE hS (c_X7_isType l D q cI cZ n T k M d Z F xa (by first | assumption | omega | rfl)) (cwV 1 hts gX7_member_X7_isType rfl rfl rfl (by decide +kernel) ⟨Nat.le_of_ble_eq_true rfl, Nat.le_of_ble_eq_true rfl⟩) 0 7 rfl rfl rfl hl.1 rfl (Nat.le_of_ble_eq_true rfl) ⟨Nat.zero_le _, Nat.zero_le _⟩ dX7_member_2 (fun r_2 u_2 H locs hp_2 hS => ?_)
  have hp_2 : r_2 = cx_b (0 ≤ xa ∧ xa < nI n) := hp_2
  subst hp_2
  have J59 : ∀ (H : Heap) (locs : List Loc) (ls : Array Slot), (¬ ((0 ≤ xa ∧ xa < nI n) ∧ (0 ≤ xb ∧ xb < nI 10) ∧ (0 ≤ xe ∧ xe < nI 5) ∧ (0 ≤ xf ∧ xf < nI 16) ∧ (0 ≤ xh ∧ xh < nI 4) ∧ (0 ≤ xi ∧ xi < nI 30))) → cx_S D vwCl A s (cyW q cI cZ n T k M d Z F) H locs → lv_has ls 7 [(0, .ref (q 0)), (1, .int xa), (2, .int xb), (3, .int xe), (4, .int xf), (5, .int xh), (6, .int xi)] → W p l e ({ frames := 2, cells := 0, slots := 0, locals := 43 } : Room) s m args below meth c H locs 0 0 Q (F0 m 59 ls []) := by
    intro  H locs ls hb59 hS hl
    refine lv_iconst (v := (-1 : Int32)) hx hb dX7_member_59 (by decide) ?_
    exact RET _ (k, M) _ _ _ _ dX7_member_60 rfl (Or.inl ⟨hb59, rfl, rfl, rfl⟩) hS
  refine lv_if_eq (tgt := 59) hx hb dX7_member_5 (by decide) (fun h5 => ?_) (fun h5 => ?_)
  · skip
    have g5 := cx_b0 h5
    exact J59  _ _ _ (by first | exact fun z => g5 z.1 | exact fun z => g15 ⟨z.2.1.1, (cx_leL _ 9 (by decide)).mpr z.2.1.2⟩ | exact fun z => g24 ⟨z.2.2.1.1, (cx_leL _ 4 (by decide)).mpr z.2.2.1.2⟩ | exact fun z => g35 ⟨z.2.2.2.1.1, (cx_leL _ 15 (by decide)).mpr z.2.2.2.1.2⟩ | exact fun z => g45 ⟨z.2.2.2.2.1.1, (cx_leL _ 3 (by decide)).mpr z.2.2.2.2.1.2⟩ | exact fun z => g56 ⟨z.2.2.2.2.2.1, (cx_leL _ 29 (by decide)).mpr z.2.2.2.2.2.2⟩) hS (lv_sub hl [0, 1, 2, 3, 4, 5, 6] rfl)
  · skip
    have g5 := cx_b1 h5
    refine lv_iload_n hx hb dX7_member_8 rfl (lv_at hl 2 rfl) ?_
    refine lv_iconst (v := (0 : Int32)) hx hb dX7_member_9 (by decide) ?_
    refine lv_bipush (v := nI 9) hx hb dX7_member_10 (by decide) ?_
    refine cx_cSi (As := [.int xb, .int (0 : Int32), .int (nI 9)]) (rest := []) ⟨hx, hb, hml, hown, hts⟩ hE hS (c_X7_in l D [(cI, .int), (cZ, .boolean)] (cyW q cI cZ n T k M d Z F) xb (0 : Int32) (nI 9) ) (va_cwS 3 hts gX7_member_X7_in rfl rfl rfl (by decide +kernel) ⟨Nat.le_of_ble_eq_true rfl, Nat.le_of_ble_eq_true rfl⟩) rfl hl.1 rfl (Nat.le_of_ble_eq_true rfl) ⟨Nat.zero_le _, Nat.zero_le _⟩ dX7_member_12 (fun r_12 u_12 H locs hp_12 hS => ?_)
    have hp_12 : r_12 = cx_b ((0 : Int32) ≤ xb ∧ xb ≤ (nI 9)) := hp_12
    subst hp_12
    refine lv_if_eq (tgt := 59) hx hb dX7_member_15 (by decide) (fun h15 => ?_) (fun h15 => ?_)
    · skip
      have g15 := cx_b0 h15
      exact J59  _ _ _ (by first | exact fun z => g5 z.1 | exact fun z => g15 ⟨z.2.1.1, (cx_leL _ 9 (by decide)).mpr z.2.1.2⟩ | exact fun z => g24 ⟨z.2.2.1.1, (cx_leL _ 4 (by decide)).mpr z.2.2.1.2⟩ | exact fun z => g35 ⟨z.2.2.2.1.1, (cx_leL _ 15 (by decide)).mpr z.2.2.2.1.2⟩ | exact fun z => g45 ⟨z.2.2.2.2.1.1, (cx_leL _ 3 (by decide)).mpr z.2.2.2.2.1.2⟩ | exact fun z => g56 ⟨z.2.2.2.2.2.1, (cx_leL _ 29 (by decide)).mpr z.2.2.2.2.2.2⟩) hS (lv_sub hl [0, 1, 2, 3, 4, 5, 6] rfl)
    · skip
      have g15 := cx_b1 h15
      refine lv_iload_n hx hb dX7_member_18 rfl (lv_at hl 3 rfl) ?_
      refine lv_iconst (v := (0 : Int32)) hx hb dX7_member_19 (by decide) ?_
      refine lv_iconst (v := nI 4) hx hb dX7_member_20 (by decide) ?_
      refine cx_cSi (As := [.int xe, .int (0 : Int32), .int (nI 4)]) (rest := []) ⟨hx, hb, hml, hown, hts⟩ hE hS (c_X7_in l D [(cI, .int), (cZ, .boolean)] (cyW q cI cZ n T k M d Z F) xe (0 : Int32) (nI 4) ) (va_cwS 3 hts gX7_member_X7_in rfl rfl rfl (by decide +kernel) ⟨Nat.le_of_ble_eq_true rfl, Nat.le_of_ble_eq_true rfl⟩) rfl hl.1 rfl (Nat.le_of_ble_eq_true rfl) ⟨Nat.zero_le _, Nat.zero_le _⟩ dX7_member_21 (fun r_21 u_21 H locs hp_21 hS => ?_)
      have hp_21 : r_21 = cx_b ((0 : Int32) ≤ xe ∧ xe ≤ (nI 4)) := hp_21
      subst hp_21
      refine lv_if_eq (tgt := 59) hx hb dX7_member_24 (by decide) (fun h24 => ?_) (fun h24 => ?_)
      · skip
        have g24 := cx_b0 h24
        exact J59  _ _ _ (by first | exact fun z => g5 z.1 | exact fun z => g15 ⟨z.2.1.1, (cx_leL _ 9 (by decide)).mpr z.2.1.2⟩ | exact fun z => g24 ⟨z.2.2.1.1, (cx_leL _ 4 (by decide)).mpr z.2.2.1.2⟩ | exact fun z => g35 ⟨z.2.2.2.1.1, (cx_leL _ 15 (by decide)).mpr z.2.2.2.1.2⟩ | exact fun z => g45 ⟨z.2.2.2.2.1.1, (cx_leL _ 3 (by decide)).mpr z.2.2.2.2.1.2⟩ | exact fun z => g56 ⟨z.2.2.2.2.2.1, (cx_leL _ 29 (by decide)).mpr z.2.2.2.2.2.2⟩) hS (lv_sub hl [0, 1, 2, 3, 4, 5, 6] rfl)
      · skip
        have g24 := cx_b1 h24
        refine lv_iload hx hb dX7_member_27 (lv_at hl 4 rfl) ?_
        refine lv_iconst (v := (0 : Int32)) hx hb dX7_member_29 (by decide) ?_
        refine lv_bipush (v := nI 15) hx hb dX7_member_30 (by decide) ?_
        refine cx_cSi (As := [.int xf, .int (0 : Int32), .int (nI 15)]) (rest := []) ⟨hx, hb, hml, hown, hts⟩ hE hS (c_X7_in l D [(cI, .int), (cZ, .boolean)] (cyW q cI cZ n T k M d Z F) xf (0 : Int32) (nI 15) ) (va_cwS 3 hts gX7_member_X7_in rfl rfl rfl (by decide +kernel) ⟨Nat.le_of_ble_eq_true rfl, Nat.le_of_ble_eq_true rfl⟩) rfl hl.1 rfl (Nat.le_of_ble_eq_true rfl) ⟨Nat.zero_le _, Nat.zero_le _⟩ dX7_member_32 (fun r_32 u_32 H locs hp_32 hS => ?_)
        have hp_32 : r_32 = cx_b ((0 : Int32) ≤ xf ∧ xf ≤ (nI 15)) := hp_32
        subst hp_32
        refine lv_if_eq (tgt := 59) hx hb dX7_member_35 (by decide) (fun h35 => ?_) (fun h35 => ?_)
        · skip
          have g35 := cx_b0 h35
          exact J59  _ _ _ (by first | exact fun z => g5 z.1 | exact fun z => g15 ⟨z.2.1.1, (cx_leL _ 9 (by decide)).mpr z.2.1.2⟩ | exact fun z => g24 ⟨z.2.2.1.1, (cx_leL _ 4 (by decide)).mpr z.2.2.1.2⟩ | exact fun z => g35 ⟨z.2.2.2.1.1, (cx_leL _ 15 (by decide)).mpr z.2.2.2.1.2⟩ | exact fun z => g45 ⟨z.2.2.2.2.1.1, (cx_leL _ 3 (by decide)).mpr z.2.2.2.2.1.2⟩ | exact fun z => g56 ⟨z.2.2.2.2.2.1, (cx_leL _ 29 (by decide)).mpr z.2.2.2.2.2.2⟩) hS (lv_sub hl [0, 1, 2, 3, 4, 5, 6] rfl)
        · skip
          have g35 := cx_b1 h35
          refine lv_iload hx hb dX7_member_38 (lv_at hl 5 rfl) ?_
          refine lv_iconst (v := (0 : Int32)) hx hb dX7_member_40 (by decide) ?_
          refine lv_iconst (v := nI 3) hx hb dX7_member_41 (by decide) ?_
          refine cx_cSi (As := [.int xh, .int (0 : Int32), .int (nI 3)]) (rest := []) ⟨hx, hb, hml, hown, hts⟩ hE hS (c_X7_in l D [(cI, .int), (cZ, .boolean)] (cyW q cI cZ n T k M d Z F) xh (0 : Int32) (nI 3) ) (va_cwS 3 hts gX7_member_X7_in rfl rfl rfl (by decide +kernel) ⟨Nat.le_of_ble_eq_true rfl, Nat.le_of_ble_eq_true rfl⟩) rfl hl.1 rfl (Nat.le_of_ble_eq_true rfl) ⟨Nat.zero_le _, Nat.zero_le _⟩ dX7_member_42 (fun r_42 u_42 H locs hp_42 hS => ?_)
          have hp_42 : r_42 = cx_b ((0 : Int32) ≤ xh ∧ xh ≤ (nI 3)) := hp_42
          subst hp_42
          refine lv_if_eq (tgt := 59) hx hb dX7_member_45 (by decide) (fun h45 => ?_) (fun h45 => ?_)
          · skip
            have g45 := cx_b0 h45
            exact J59  _ _ _ (by first | exact fun z => g5 z.1 | exact fun z => g15 ⟨z.2.1.1, (cx_leL _ 9 (by decide)).mpr z.2.1.2⟩ | exact fun z => g24 ⟨z.2.2.1.1, (cx_leL _ 4 (by decide)).mpr z.2.2.1.2⟩ | exact fun z => g35 ⟨z.2.2.2.1.1, (cx_leL _ 15 (by decide)).mpr z.2.2.2.1.2⟩ | exact fun z => g45 ⟨z.2.2.2.2.1.1, (cx_leL _ 3 (by decide)).mpr z.2.2.2.2.1.2⟩ | exact fun z => g56 ⟨z.2.2.2.2.2.1, (cx_leL _ 29 (by decide)).mpr z.2.2.2.2.2.2⟩) hS (lv_sub hl [0, 1, 2, 3, 4, 5, 6] rfl)
          · skip
            have g45 := cx_b1 h45
            refine lv_iload hx hb dX7_member_48 (lv_at hl 6 rfl) ?_
            refine lv_iconst (v := (0 : Int32)) hx hb dX7_member_50 (by decide) ?_
            refine lv_bipush (v := nI 29) hx hb dX7_member_51 (by decide) ?_
            refine cx_cSi (As := [.int xi, .int (0 : Int32), .int (nI 29)]) (rest := []) ⟨hx, hb, hml, hown, hts⟩ hE hS (c_X7_in l D [(cI, .int), (cZ, .boolean)] (cyW q cI cZ n T k M d Z F) xi (0 : Int32) (nI 29) ) (va_cwS 3 hts gX7_member_X7_in rfl rfl rfl (by decide +kernel) ⟨Nat.le_of_ble_eq_true rfl, Nat.le_of_ble_eq_true rfl⟩) rfl hl.1 rfl (Nat.le_of_ble_eq_true rfl) ⟨Nat.zero_le _, Nat.zero_le _⟩ dX7_member_53 (fun r_53 u_53 H locs hp_53 hS => ?_)
            have hp_53 : r_53 = cx_b ((0 : Int32) ≤ xi ∧ xi ≤ (nI 29)) := hp_53
            subst hp_53
            refine lv_if_ne (tgt := 61) hx hb dX7_member_56 (by decide) (fun h56 => ?_) (fun h56 => ?_)
            · skip
              have g56 := cx_b1 h56
              refine lv_aload_n hx hb dX7_member_61 rfl (lv_at hl 0 rfl) ?_
              refine cx_get (own := RX7) (index := 81) (C := RX7) (T := TX7) (N := 22) (k := 9) (ci := 7) (v := .int (nI k)) hx hb hts hown hE hS hinX7 0 rfl rfl (by decide) (List.mem_of_getElem? (i := 1) rfl) rfl dX7_member_62 ?_
              refine lv_bipush (v := nI 80) hx hb dX7_member_65 (by decide) ?_
              refine lv_icmp_ne (tgt := 73) hx hb dX7_member_67 (by decide) (fun h67 => ?_) (fun h67 => ?_)
              · skip
                have g67 : ¬ (k = 80) := fun z => h67 ((nI_eq (a := k) (b := 80) (by omega) (by omega)).mpr z)
                refine lv_aload_n hx hb dX7_member_73 rfl (lv_at hl 0 rfl) ?_
                refine cx_get (own := RX7) (index := 34) (C := RX7) (T := TX7) (N := 22) (k := 10) (ci := 7) (v := .ref (q 9)) hx hb hts hown hE hS hinX7 0 rfl rfl (by decide) (List.mem_of_getElem? (i := 2) rfl) rfl dX7_member_74 ?_
                refine lv_aload_n hx hb dX7_member_77 rfl (lv_at hl 0 rfl) ?_
                refine cx_get (own := RX7) (index := 81) (C := RX7) (T := TX7) (N := 22) (k := 9) (ci := 7) (v := .int (nI k)) hx hb hts hown hE hS hinX7 0 rfl rfl (by decide) (List.mem_of_getElem? (i := 1) rfl) rfl dX7_member_78 ?_
                refine lv_iload_n hx hb dX7_member_81 rfl (lv_at hl 1 rfl) ?_
                refine cx_iast (k := k) (f := (M 0)) (n := 80) (cA := cI) (ws' := (cyW q cI cZ n T k (cx_u M 0 (upd (M 0) k xa)) d Z F)) hx hb hE hS 9 0 rfl rfl (by omega) (by decide) rfl dX7_member_82 (fun H locs hS => ?_)
                refine lv_aload_n hx hb dX7_member_83 rfl (lv_at hl 0 rfl) ?_
                refine cx_get (own := RX7) (index := 37) (C := RX7) (T := TX7) (N := 22) (k := 11) (ci := 7) (v := .ref (q 10)) hx hb hts hown hE hS hinX7 0 rfl rfl (by decide) (List.mem_of_getElem? (i := 3) rfl) rfl dX7_member_84 ?_
                refine lv_aload_n hx hb dX7_member_87 rfl (lv_at hl 0 rfl) ?_
                refine cx_get (own := RX7) (index := 81) (C := RX7) (T := TX7) (N := 22) (k := 9) (ci := 7) (v := .int (nI k)) hx hb hts hown hE hS hinX7 0 rfl rfl (by decide) (List.mem_of_getElem? (i := 1) rfl) rfl dX7_member_88 ?_
                refine lv_iload_n hx hb dX7_member_91 rfl (lv_at hl 2 rfl) ?_
                refine cx_iast (k := k) (f := (M 1)) (n := 80) (cA := cI) (ws' := (cyW q cI cZ n T k (cx_u (cx_u M 0 (upd (M 0) k xa)) 1 (upd (M 1) k xb)) d Z F)) hx hb hE hS 10 0 rfl rfl (by omega) (by decide) rfl dX7_member_92 (fun H locs hS => ?_)
                refine lv_aload_n hx hb dX7_member_93 rfl (lv_at hl 0 rfl) ?_
                refine cx_get (own := RX7) (index := 40) (C := RX7) (T := TX7) (N := 22) (k := 12) (ci := 7) (v := .ref (q 11)) hx hb hts hown hE hS hinX7 0 rfl rfl (by decide) (List.mem_of_getElem? (i := 4) rfl) rfl dX7_member_94 ?_
                refine lv_aload_n hx hb dX7_member_97 rfl (lv_at hl 0 rfl) ?_
                refine cx_get (own := RX7) (index := 81) (C := RX7) (T := TX7) (N := 22) (k := 9) (ci := 7) (v := .int (nI k)) hx hb hts hown hE hS hinX7 0 rfl rfl (by decide) (List.mem_of_getElem? (i := 1) rfl) rfl dX7_member_98 ?_
                refine lv_iload_n hx hb dX7_member_101 rfl (lv_at hl 3 rfl) ?_
                refine cx_iast (k := k) (f := (M 2)) (n := 80) (cA := cI) (ws' := (cyW q cI cZ n T k (cx_u (cx_u (cx_u M 0 (upd (M 0) k xa)) 1 (upd (M 1) k xb)) 2 (upd (M 2) k xe)) d Z F)) hx hb hE hS 11 0 rfl rfl (by omega) (by decide) rfl dX7_member_102 (fun H locs hS => ?_)
                refine lv_aload_n hx hb dX7_member_103 rfl (lv_at hl 0 rfl) ?_
                refine cx_get (own := RX7) (index := 43) (C := RX7) (T := TX7) (N := 22) (k := 13) (ci := 7) (v := .ref (q 12)) hx hb hts hown hE hS hinX7 0 rfl rfl (by decide) (List.mem_of_getElem? (i := 5) rfl) rfl dX7_member_104 ?_
                refine lv_aload_n hx hb dX7_member_107 rfl (lv_at hl 0 rfl) ?_
                refine cx_get (own := RX7) (index := 81) (C := RX7) (T := TX7) (N := 22) (k := 9) (ci := 7) (v := .int (nI k)) hx hb hts hown hE hS hinX7 0 rfl rfl (by decide) (List.mem_of_getElem? (i := 1) rfl) rfl dX7_member_108 ?_
                refine lv_iload hx hb dX7_member_111 (lv_at hl 4 rfl) ?_
                refine cx_iast (k := k) (f := (M 3)) (n := 80) (cA := cI) (ws' := (cyW q cI cZ n T k (cx_u (cx_u (cx_u (cx_u M 0 (upd (M 0) k xa)) 1 (upd (M 1) k xb)) 2 (upd (M 2) k xe)) 3 (upd (M 3) k xf)) d Z F)) hx hb hE hS 12 0 rfl rfl (by omega) (by decide) rfl dX7_member_113 (fun H locs hS => ?_)
                refine lv_aload_n hx hb dX7_member_114 rfl (lv_at hl 0 rfl) ?_
                refine cx_get (own := RX7) (index := 46) (C := RX7) (T := TX7) (N := 22) (k := 14) (ci := 7) (v := .ref (q 13)) hx hb hts hown hE hS hinX7 0 rfl rfl (by decide) (List.mem_of_getElem? (i := 6) rfl) rfl dX7_member_115 ?_
                refine lv_aload_n hx hb dX7_member_118 rfl (lv_at hl 0 rfl) ?_
                refine cx_get (own := RX7) (index := 81) (C := RX7) (T := TX7) (N := 22) (k := 9) (ci := 7) (v := .int (nI k)) hx hb hts hown hE hS hinX7 0 rfl rfl (by decide) (List.mem_of_getElem? (i := 1) rfl) rfl dX7_member_119 ?_
                refine lv_iload hx hb dX7_member_122 (lv_at hl 5 rfl) ?_
                refine cx_iast (k := k) (f := (M 4)) (n := 80) (cA := cI) (ws' := (cyW q cI cZ n T k (cx_u (cx_u (cx_u (cx_u (cx_u M 0 (upd (M 0) k xa)) 1 (upd (M 1) k xb)) 2 (upd (M 2) k xe)) 3 (upd (M 3) k xf)) 4 (upd (M 4) k xh)) d Z F)) hx hb hE hS 13 0 rfl rfl (by omega) (by decide) rfl dX7_member_124 (fun H locs hS => ?_)
                refine lv_aload_n hx hb dX7_member_125 rfl (lv_at hl 0 rfl) ?_
                refine cx_get (own := RX7) (index := 49) (C := RX7) (T := TX7) (N := 22) (k := 15) (ci := 7) (v := .ref (q 14)) hx hb hts hown hE hS hinX7 0 rfl rfl (by decide) (List.mem_of_getElem? (i := 7) rfl) rfl dX7_member_126 ?_
                refine lv_aload_n hx hb dX7_member_129 rfl (lv_at hl 0 rfl) ?_
                refine cx_get (own := RX7) (index := 81) (C := RX7) (T := TX7) (N := 22) (k := 9) (ci := 7) (v := .int (nI k)) hx hb hts hown hE hS hinX7 0 rfl rfl (by decide) (List.mem_of_getElem? (i := 1) rfl) rfl dX7_member_130 ?_
                refine lv_iload hx hb dX7_member_133 (lv_at hl 6 rfl) ?_
                refine cx_iast (k := k) (f := (M 5)) (n := 80) (cA := cI) (ws' := (cyW q cI cZ n T k (cx_u (cx_u (cx_u (cx_u (cx_u (cx_u M 0 (upd (M 0) k xa)) 1 (upd (M 1) k xb)) 2 (upd (M 2) k xe)) 3 (upd (M 3) k xf)) 4 (upd (M 4) k xh)) 5 (upd (M 5) k xi)) d Z F)) hx hb hE hS 14 0 rfl rfl (by omega) (by decide) rfl dX7_member_135 (fun H locs hS => ?_)
                refine lv_aload_n hx hb dX7_member_136 rfl (lv_at hl 0 rfl) ?_
                refine lv_dup hx hb dX7_member_137 rfl ?_
                refine cx_get (own := RX7) (index := 81) (C := RX7) (T := TX7) (N := 22) (k := 9) (ci := 7) (v := .int (nI k)) hx hb hts hown hE hS hinX7 0 rfl rfl (by decide) (List.mem_of_getElem? (i := 1) rfl) rfl dX7_member_138 ?_
                refine lv_iconst (v := (1 : Int32)) hx hb dX7_member_141 (by decide) ?_
                refine lv_iadd hx hb dX7_member_142 ?_
                refine cx_topr (z := nI (k + 1)) (nI_1 _) ?_
                refine cx_put (own := RX7) (index := 81) (C := RX7) (T := TX7) (N := 22) (k := 9) (ci := 7) (v := .int (nI (k + 1))) (ty := .int) (ws' := (cyW q cI cZ n T (k + 1) (cx_u (cx_u (cx_u (cx_u (cx_u (cx_u M 0 (upd (M 0) k xa)) 1 (upd (M 1) k xb)) 2 (upd (M 2) k xe)) 3 (upd (M 3) k xf)) 4 (upd (M 4) k xh)) 5 (upd (M 5) k xi)) d Z F)) hx hb hts hown hE hS hinX7 tyX7 tyX7_ok nmX7 0 rfl rfl (by decide) (List.mem_of_getElem? (i := 1) rfl) rfl (by decide +kernel) rfl rfl (Nat.le_of_ble_eq_true rfl) rfl dX7_member_143 (fun H locs hS => ?_)
                refine lv_aload_n hx hb dX7_member_146 rfl (lv_at hl 0 rfl) ?_
                refine cx_get (own := RX7) (index := 81) (C := RX7) (T := TX7) (N := 22) (k := 9) (ci := 7) (v := .int (nI (k + 1))) hx hb hts hown hE hS hinX7 0 rfl rfl (by decide) (List.mem_of_getElem? (i := 1) rfl) rfl dX7_member_147 ?_
                refine lv_iconst (v := (1 : Int32)) hx hb dX7_member_150 (by decide) ?_
                refine lv_isub hx hb dX7_member_151 ?_
                refine cx_topr (z := nI k) (nI_pred k) ?_
                exact RET _ (k + 1, cx_u (cx_u (cx_u (cx_u (cx_u (cx_u M 0 (upd (M 0) k xa)) 1 (upd (M 1) k xb)) 2 (upd (M 2) k xe)) 3 (upd (M 3) k xf)) 4 (upd (M 4) k xh)) 5 (upd (M 5) k xi)) _ _ _ _ dX7_member_152 rfl (Or.inr (Or.inr ⟨⟨g5, ⟨g15.1, (cx_leL _ 9 (by decide)).mp g15.2⟩, ⟨g24.1, (cx_leL _ 4 (by decide)).mp g24.2⟩, ⟨g35.1, (cx_leL _ 15 (by decide)).mp g35.2⟩, ⟨g45.1, (cx_leL _ 3 (by decide)).mp g45.2⟩, ⟨g56.1, (cx_leL _ 29 (by decide)).mp g56.2⟩⟩, by omega, rfl, rfl, rfl⟩)) hS
              · skip
                have g67 : k = 80 := (nI_eq (a := k) (b := 80) (by omega) (by omega)).mp h67
                refine lv_bipush (v := (-2 : Int32)) hx hb dX7_member_70 (by decide) ?_
                exact RET _ (k, M) _ _ _ _ dX7_member_72 rfl (Or.inr (Or.inl ⟨⟨g5, ⟨g15.1, (cx_leL _ 9 (by decide)).mp g15.2⟩, ⟨g24.1, (cx_leL _ 4 (by decide)).mp g24.2⟩, ⟨g35.1, (cx_leL _ 15 (by decide)).mp g35.2⟩, ⟨g45.1, (cx_leL _ 3 (by decide)).mp g45.2⟩, ⟨g56.1, (cx_leL _ 29 (by decide)).mp g56.2⟩⟩, by omega, rfl, rfl, rfl⟩)) hS
            · skip
              have g56 := cx_b0 h56
              exact J59  _ _ _ (by first | exact fun z => g5 z.1 | exact fun z => g15 ⟨z.2.1.1, (cx_leL _ 9 (by decide)).mpr z.2.1.2⟩ | exact fun z => g24 ⟨z.2.2.1.1, (cx_leL _ 4 (by decide)).mpr z.2.2.1.2⟩ | exact fun z => g35 ⟨z.2.2.2.1.1, (cx_leL _ 15 (by decide)).mpr z.2.2.2.1.2⟩ | exact fun z => g45 ⟨z.2.2.2.2.1.1, (cx_leL _ 3 (by decide)).mpr z.2.2.2.2.1.2⟩ | exact fun z => g56 ⟨z.2.2.2.2.2.1, (cx_leL _ 29 (by decide)).mpr z.2.2.2.2.2.2⟩) hS (lv_sub hl [0, 1, 2, 3, 4, 5, 6] rfl)
