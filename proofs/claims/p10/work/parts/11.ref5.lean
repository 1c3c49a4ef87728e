set_option maxHeartbeats 4000000 in
set_option maxRecDepth 100000 in
theorem c_X7_count (l : Launch) (D : va_G) (q : Nat → Nat) (cI cZ : ClassId) (n : Nat) (T : Nat → Nat → Int32) (k : Nat) (M : Nat → Nat → Int32) (d : Nat) (Z : Nat → Nat → Int32) (F : Nat → Nat → Int32) : cx_Mi l D vwCl [(cI, .int), (cZ, .boolean)] cx_NW yX7_count wsX7_count ({ frames := 0, cells := 0, slots := 0, locals := 0 } : Room) [.ref (q 0)] (cyW q cI cZ n T k M d Z F) (fun (r : Int32) (uw : Unit) => True) (fun _ => (cyW q cI cZ n T k M d Z F)) := by
  refine cx_Mi.of (cc := cX7_count) (maxL := 3) cx_NW_ok (by decide) rfl (Nat.le_of_ble_eq_true rfl) ?_
  intro p e s m args below meth c Q A ls hx hb hml hown hts hE RET hS hl
  have hl : lv_has ls 3 [(0, .ref (q 0))] := hl
  have hown : s.vm.findClass RX7 = some m.cls := hown
  have hinX7 : ∀ w ∈ u_ws RX7 TX7 22, w ∈ wsX7_count := cx_mem [2, 3, 4, 5, 6, 7, 8, 9, 10, 11, 12, 13, 14, 15, 16, 17, 18, 19, 20, 21, 22, 23] (by decide +kernel)
  refine lv_iconst (v := (0 : Int32)) hx hb dX7_count_0 (by decide) ?_
  refine cx_topr (z := nI 0) (by decide) ?_
  refine lv_istore_n (lv' := [(1, .int (nI 0)), (0, .ref (q 0))]) hx hb dX7_count_1 rfl hl (by decide) rfl (fun ls hl => ?_)
  refine lv_iconst (v := (0 : Int32)) hx hb dX7_count_2 (by decide) ?_
  refine cx_topr (z := nI 0) (by decide) ?_
  refine lv_istore_n (lv' := [(2, .int (nI 0)), (1, .int (nI 0)), (0, .ref (q 0))]) hx hb dX7_count_3 rfl hl (by decide) rfl (fun ls hl => ?_)
  have J4 : ∀ (N : Nat) (v4_l1 : Int32) (i4 : Nat) (H : Heap) (locs : List Loc) (ls : Array Slot), (1600 - i4 < N) → (i4 ≤ 1600) → cx_S D vwCl A s (cyW q cI cZ n T k M d Z F) H locs → lv_has ls 3 [(0, .ref (q 0)), (1, .int v4_l1), (2, .int (nI i4))] → W p l e ({ frames := 0, cells := 0, slots := 0, locals := 0 } : Room) s m args below meth c H locs 0 0 Q (F0 m 4 ls []) := by
    intro N4
    induction N4 with
    | zero => intro v4_l1 i4 H locs ls hN; exact absurd hN (by omega)
    | succ N4 ih4 =>
      intro v4_l1 i4 H locs ls hN4 hi4 hS hl
      refine lv_iload_n hx hb dX7_count_4 rfl (lv_at hl 2 rfl) ?_
      refine lv_sipush (v := nI 1600) hx hb dX7_count_5 (by decide) ?_
      refine lv_icmp_ge (tgt := 34) hx hb dX7_count_8 (by decide) (fun h8 => ?_) (fun h8 => ?_)
      · skip
        have g8 : 1600 ≤ i4 := (nI_leI (a := 1600) (b := i4) (by omega) (by omega)).mp h8
        refine lv_iload_n hx hb dX7_count_34 rfl (lv_at hl 1 rfl) ?_
        exact RET _ () _ _ _ _ dX7_count_35 rfl trivial hS
      · skip
        have g8 : ¬ (1600 ≤ i4) := fun z => h8 ((nI_leI (a := 1600) (b := i4) (by omega) (by omega)).mpr z)
        refine lv_iload_n hx hb dX7_count_11 rfl (lv_at hl 1 rfl) ?_
        refine lv_aload_n hx hb dX7_count_12 rfl (lv_at hl 0 rfl) ?_
        refine cx_get (own := RX7) (index := 56) (C := RX7) (T := TX7) (N := 22) (k := 18) (ci := 7) (v := .ref (q 16)) hx hb hts hown hE hS hinX7 0 rfl rfl (by decide) (List.mem_of_getElem? (i := 1) rfl) rfl dX7_count_13 ?_
        refine lv_iload_n hx hb dX7_count_16 rfl (lv_at hl 2 rfl) ?_
        refine cx_zald (f := (Z 1)) (n := 1600) (cA := cZ) hx hb hE hS 16 1 rfl rfl (by omega) (by decide) dX7_count_17 ?_
        have J26 : ∀ (v26_s0 : Int32) (H : Heap) (locs : List Loc) (ls : Array Slot), cx_S D vwCl A s (cyW q cI cZ n T k M d Z F) H locs → lv_has ls 3 [(0, .ref (q 0)), (1, .int v4_l1), (2, .int (nI i4))] → W p l e ({ frames := 0, cells := 0, slots := 0, locals := 0 } : Room) s m args below meth c H locs 0 0 Q (F0 m 26 ls [.int v26_s0, .int v4_l1]) := by
          intro v26_s0 H locs ls  hS hl
          refine lv_iadd hx hb dX7_count_26 ?_
          refine lv_istore_n (lv' := [(1, .int (v4_l1 + v26_s0)), (0, .ref (q 0)), (2, .int (nI i4))]) hx hb dX7_count_27 rfl hl (by decide) rfl (fun ls hl => ?_)
          refine lv_iinc (v := nI (i4 + 1)) (lv' := [(2, .int (nI (i4 + 1))), (1, .int (v4_l1 + v26_s0)), (0, .ref (q 0))]) hx hb dX7_count_28 hl (k := 2) rfl (cx_inc _) (by decide) rfl (fun ls hl => ?_)
          refine lv_goto (tgt := 4) hx hb dX7_count_31 (by decide) ?_
          exact ih4 (v4_l1 + v26_s0) (i4 + 1) _ _ _ (by omega) (by omega) hS (lv_sub hl [2, 1, 0] rfl)
        refine lv_if_eq (tgt := 25) hx hb dX7_count_18 (by decide) (fun h18 => ?_) (fun h18 => ?_)
        · skip
          refine lv_iconst (v := (0 : Int32)) hx hb dX7_count_25 (by decide) ?_
          exact J26 (0 : Int32) _ _ _  hS (lv_sub hl [0, 1, 2] rfl)
        · skip
          refine lv_iconst (v := (1 : Int32)) hx hb dX7_count_21 (by decide) ?_
          refine lv_goto (tgt := 26) hx hb dX7_count_22 (by decide) ?_
          exact J26 (1 : Int32) _ _ _  hS (lv_sub hl [0, 1, 2] rfl)
  exact J4 (1600 - 0 + 1) (nI 0) 0 _ _ _ (Nat.lt_succ_self _) (by omega) hS (lv_sub hl [2, 1, 0] rfl)
set_option maxHeartbeats 4000000 in
set_option maxRecDepth 100000 in
theorem c_X7_faults (l : Launch) (D : va_G) (q : Nat → Nat) (cI cZ : ClassId) (n : Nat) (T : Nat → Nat → Int32) (k : Nat) (M : Nat → Nat → Int32) (d : Nat) (Z : Nat → Nat → Int32) (F : Nat → Nat → Int32) (xa : Int32) (hn : n ≤ 20) (hP : cx_P (T 3) 20) (hU : cx_R (T 4) 20) (hV : cx_R (T 5) 4) (hKN : cx_KN n T (Z 0) ((Z 3) 0)) (hQ : cx_R (T 6) 20) (hW : cx_R (T 7) 4) (hO : cx_R (M 0) 20) (hk : k ≤ 80) (hOn : ∀ j, j < k → (M 0 j).toNatClampNeg < n) (hX : cx_R (M 4) 4) (hK0 : cx_R (T 0) 4) (hM5 : cx_R (M 5) 30) (hM1 : cx_R (M 1) 10) (hM2 : cx_R (M 2) 5) : cx_Mi l D vwCl [(cI, .int), (cZ, .boolean)] cx_NW yX7_faults wsX7_faults ({ frames := 7, cells := 0, slots := 0, locals := 164 } : Room) [.ref (q 0), .int xa] (cyW q cI cZ n T k M d Z F) (fun (r : Int32) (uw : (Nat → Int32) × (Int32) × (Nat) × (Nat → Int32) × (Nat → Int32)) => cx_KN n T uw.1 uw.2.1 ∧ (True)) (fun uw => (cyW q cI cZ n T k M uw.2.2.1 (cx_u (cx_u (cx_u Z 0 uw.1) 3 (fun _ => uw.2.1)) 1 uw.2.2.2.2) (cx_u F 0 uw.2.2.2.1))) := by
  refine cx_Mi.of (cc := cX7_faults) (maxL := 2) cx_NW_ok (by decide) rfl (Nat.le_of_ble_eq_true rfl) ?_
  intro p e s m args below meth c Q A ls hx hb hml hown hts hE RET hS hl
  have hl : lv_has ls 2 [(0, .ref (q 0)), (1, .int xa)] := hl
  have hown : s.vm.findClass RX7 = some m.cls := hown
  refine lv_aload_n hx hb dX7_faults_0 rfl (lv_at hl 0 rfl) ?_
  refine lv_iload_n hx hb dX7_faults_1 rfl (lv_at hl 1 rfl) ?_
  refine cx_cVi (As := [.int xa]) (rest := []) ⟨hx, hb, hml, hown, hts⟩ hE hS (c_X7_isType l D q cI cZ n T k M d Z F xa (by first | assumption | omega | rfl)) (cwV 1 hts gX7_faults_X7_isType rfl rfl rfl (by decide +kernel) ⟨Nat.le_of_ble_eq_true rfl, Nat.le_of_ble_eq_true rfl⟩) 0 7 rfl rfl rfl hl.1 rfl (Nat.le_of_ble_eq_true rfl) ⟨Nat.zero_le _, Nat.zero_le _⟩ dX7_faults_2 (fun r_2 u_2 H locs hp_2 hS => ?_)
  have hp_2 : r_2 = cx_b (0 ≤ xa ∧ xa < nI n) := hp_2
  subst hp_2
  refine lv_if_ne (tgt := 10) hx hb dX7_faults_5 (by decide) (fun h5 => ?_) (fun h5 => ?_)
  · skip
    have g5 := cx_b1 h5
    have hq5 := (cx_ixT (by omega) g5).2
    refine lv_aload_n hx hb dX7_faults_10 rfl (lv_at hl 0 rfl) ?_
    refine lv_iload_n hx hb dX7_faults_11 rfl (lv_at hl 1 rfl) ?_
    refine cx_topr (z := nI (xa.toNatClampNeg)) (cx_ixT (by omega) g5).1 ?_
    refine cx_cVv (As := [.int (nI (xa.toNatClampNeg))]) (rest := []) ⟨hx, hb, hml, hown, hts⟩ hE hS (c_X7_faultsOf l D q cI cZ n T k M d Z F xa.toNatClampNeg (by first | assumption | omega | rfl) (by first | assumption | omega | rfl) (by first | assumption | omega | rfl) (by first | assumption | omega | rfl) (by first | assumption | omega | rfl) (by first | assumption | omega | rfl) (by first | assumption | omega | rfl) (by first | assumption | omega | rfl) (by first | assumption | omega | rfl) (by first | assumption | omega | rfl) (by first | assumption | omega | rfl) (by first | assumption | omega | rfl) (by first | assumption | omega | rfl) (by first | assumption | omega | rfl) (by first | assumption | omega | rfl) (by first | assumption | omega | rfl)) (cwV 1 hts gX7_faults_X7_faultsOf rfl rfl rfl (by decide +kernel) ⟨Nat.le_of_ble_eq_true rfl, Nat.le_of_ble_eq_true rfl⟩) 0 7 rfl rfl rfl hl.1 rfl (Nat.le_of_ble_eq_true rfl) ⟨Nat.zero_le _, Nat.zero_le _⟩ dX7_faults_12 (fun u_12 H locs hp_12 hS => ?_)
    obtain ⟨za_12, kn_12, d1_12, fo_12, zf_12⟩ := u_12
    have hS : cx_S D vwCl A s (cyW q cI cZ n T k M d1_12 (cx_u (cx_u (cx_u Z 0 za_12) 3 (fun _ => kn_12)) 1 zf_12) (cx_u F 0 fo_12)) H locs := hS
    obtain ⟨hKN_12, hp_12⟩ := hp_12
    have hKN_12 : cx_KN n T za_12 kn_12 := hKN_12
    have hp_12 : cx_EE zf_12 ↔ cx_AF n k ((T 0)) ((T 1)) ((T 2)) ((T 3)) M (cx_Ur T) (cx_Wr T) (cx_Vr T) (cx_Ar T n) xa.toNatClampNeg := hp_12
    refine lv_aload_n hx hb dX7_faults_15 rfl (lv_at hl 0 rfl) ?_
    refine cx_cVi (As := []) (rest := []) ⟨hx, hb, hml, hown, hts⟩ hE hS (c_X7_count l D q cI cZ n T k M d1_12 (cx_u (cx_u (cx_u Z 0 za_12) 3 (fun _ => kn_12)) 1 zf_12) (cx_u F 0 fo_12)  ) (cwV 0 hts gX7_faults_X7_count rfl rfl rfl (by decide +kernel) ⟨Nat.le_of_ble_eq_true rfl, Nat.le_of_ble_eq_true rfl⟩) 0 7 rfl rfl rfl hl.1 rfl (Nat.le_of_ble_eq_true rfl) ⟨Nat.zero_le _, Nat.zero_le _⟩ dX7_faults_16 (fun r_16 u_16 H locs hp_16 hS => ?_)
    exact RET _ (za_12, kn_12, d1_12, fo_12, zf_12) _ _ _ _ dX7_faults_19 rfl (⟨(by first | assumption | exact hKN), trivial⟩) hS
  · skip
    have g5 := cx_b0 h5
    refine lv_iconst (v := (-1 : Int32)) hx hb dX7_faults_8 (by decide) ?_
    exact RET _ (Z 0, (Z 3) 0, d, F 0, Z 1) _ _ _ _ dX7_faults_9 rfl (⟨(by first | assumption | exact hKN), trivial⟩) hS
set_option maxHeartbeats 4000000 in
set_option maxRecDepth 100000 in
theorem c_X7_fault (l : Launch) (D : va_G) (q : Nat → Nat) (cI cZ : ClassId) (n : Nat) (T : Nat → Nat → Int32) (k : Nat) (M : Nat → Nat → Int32) (d : Nat) (Z : Nat → Nat → Int32) (F : Nat → Nat → Int32) (xa : Int32) (xb : Int32) (xe : Int32) (hn : n ≤ 20) (hP : cx_P (T 3) 20) (hU : cx_R (T 4) 20) (hV : cx_R (T 5) 4) (hKN : cx_KN n T (Z 0) ((Z 3) 0)) (hQ : cx_R (T 6) 20) (hW : cx_R (T 7) 4) (hO : cx_R (M 0) 20) (hk : k ≤ 80) (hOn : ∀ j, j < k → (M 0 j).toNatClampNeg < n) (hX : cx_R (M 4) 4) (hK0 : cx_R (T 0) 4) (hM5 : cx_R (M 5) 30) (hM1 : cx_R (M 1) 10) (hM2 : cx_R (M 2) 5) : cx_Mi l D vwCl [(cI, .int), (cZ, .boolean)] cx_NW yX7_fault wsX7_fault ({ frames := 7, cells := 0, slots := 0, locals := 164 } : Room) [.ref (q 0), .int xa, .int xb, .int xe] (cyW q cI cZ n T k M d Z F) (fun (r : Int32) (uw : (Nat → Int32) × (Int32) × (Nat) × (Nat → Int32) × (Nat → Int32)) => cx_KN n T uw.1 uw.2.1 ∧ (True)) (fun uw => (cyW q cI cZ n T k M uw.2.2.1 (cx_u (cx_u (cx_u Z 0 uw.1) 3 (fun _ => uw.2.1)) 1 uw.2.2.2.2) (cx_u F 0 uw.2.2.2.1))) := by
  refine cx_Mi.of (cc := cX7_fault) (maxL := 6) cx_NW_ok (by decide) rfl (Nat.le_of_ble_eq_true rfl) ?_
  intro p e s m args below meth c Q A ls hx hb hml hown hts hE RET hS hl
  have hl : lv_has ls 6 [(0, .ref (q 0)), (1, .int xa), (2, .int xb), (3, .int xe)] := hl
  have hown : s.vm.findClass RX7 = some m.cls := hown
  have hinX7 : ∀ w ∈ u_ws RX7 TX7 22, w ∈ wsX7_fault := cx_mem [130, 131, 132, 133, 134, 135, 136, 137, 138, 139, 140, 141, 142, 143, 144, 145, 146, 147, 148, 149, 150, 151] (by decide +kernel)
  refine lv_aload_n hx hb dX7_fault_0 rfl (lv_at hl 0 rfl) ?_
  refine lv_iload_n hx hb dX7_fault_1 rfl (lv_at hl 1 rfl) ?_
  refine cx_cVi (As := [.int xa]) (rest := []) ⟨hx, hb, hml, hown, hts⟩ hE hS (c_X7_isType l D q cI cZ n T k M d Z F xa (by first | assumption | omega | rfl)) (cwV 1 hts gX7_fault_X7_isType rfl rfl rfl (by decide +kernel) ⟨Nat.le_of_ble_eq_true rfl, Nat.le_of_ble_eq_true rfl⟩) 0 7 rfl rfl rfl hl.1 rfl (Nat.le_of_ble_eq_true rfl) ⟨Nat.zero_le _, Nat.zero_le _⟩ dX7_fault_2 (fun r_2 u_2 H locs hp_2 hS => ?_)
  have hp_2 : r_2 = cx_b (0 ≤ xa ∧ xa < nI n) := hp_2
  subst hp_2
  have J21 : ∀ (H : Heap) (locs : List Loc) (ls : Array Slot), cx_S D vwCl A s (cyW q cI cZ n T k M d Z F) H locs → lv_has ls 6 [(0, .ref (q 0)), (1, .int xa), (2, .int xb), (3, .int xe)] → W p l e ({ frames := 7, cells := 0, slots := 0, locals := 164 } : Room) s m args below meth c H locs 0 0 Q (F0 m 21 ls []) := by
    intro  H locs ls  hS hl
    refine lv_iconst (v := (-1 : Int32)) hx hb dX7_fault_21 (by decide) ?_
    exact RET _ (Z 0, (Z 3) 0, d, F 0, Z 1) _ _ _ _ dX7_fault_22 rfl (⟨(by first | assumption | exact hKN), trivial⟩) hS
  refine lv_if_eq (tgt := 21) hx hb dX7_fault_5 (by decide) (fun h5 => ?_) (fun h5 => ?_)
  · skip
    have g5 := cx_b0 h5
    exact J21  _ _ _  hS (lv_sub hl [0, 1, 2, 3] rfl)
  · skip
    have g5 := cx_b1 h5
    have hq5 := (cx_ixT (by omega) g5).2
    refine lv_iload_n hx hb dX7_fault_8 rfl (lv_at hl 3 rfl) ?_
    refine lv_iconst (v := (0 : Int32)) hx hb dX7_fault_9 (by decide) ?_
    refine lv_iconst (v := (1 : Int32)) hx hb dX7_fault_10 (by decide) ?_
    refine cx_cSi (As := [.int xe, .int (0 : Int32), .int (1 : Int32)]) (rest := []) ⟨hx, hb, hml, hown, hts⟩ hE hS (c_X7_in l D [(cI, .int), (cZ, .boolean)] (cyW q cI cZ n T k M d Z F) xe (0 : Int32) (1 : Int32) ) (va_cwS 3 hts gX7_fault_X7_in rfl rfl rfl (by decide +kernel) ⟨Nat.le_of_ble_eq_true rfl, Nat.le_of_ble_eq_true rfl⟩) rfl hl.1 rfl (Nat.le_of_ble_eq_true rfl) ⟨Nat.zero_le _, Nat.zero_le _⟩ dX7_fault_11 (fun r_11 u_11 H locs hp_11 hS => ?_)
    have hp_11 : r_11 = cx_b ((0 : Int32) ≤ xe ∧ xe ≤ (1 : Int32)) := hp_11
    subst hp_11
    refine lv_if_eq (tgt := 21) hx hb dX7_fault_14 (by decide) (fun h14 => ?_) (fun h14 => ?_)
    · skip
      have g14 := cx_b0 h14
      exact J21  _ _ _  hS (lv_sub hl [0, 1, 2, 3] rfl)
    · skip
      have g14 := cx_b1 h14
      refine lv_iload_n hx hb dX7_fault_17 rfl (lv_at hl 2 rfl) ?_
      refine lv_if_ge (tgt := 23) hx hb dX7_fault_18 (by decide) (fun h18 => ?_) (fun h18 => ?_)
      · skip
        refine lv_aload_n hx hb dX7_fault_23 rfl (lv_at hl 0 rfl) ?_
        refine lv_iload_n hx hb dX7_fault_24 rfl (lv_at hl 1 rfl) ?_
        refine cx_topr (z := nI (xa.toNatClampNeg)) (cx_ixT (by omega) g5).1 ?_
        refine cx_cVv (As := [.int (nI (xa.toNatClampNeg))]) (rest := []) ⟨hx, hb, hml, hown, hts⟩ hE hS (c_X7_faultsOf l D q cI cZ n T k M d Z F xa.toNatClampNeg (by first | assumption | omega | rfl) (by first | assumption | omega | rfl) (by first | assumption | omega | rfl) (by first | assumption | omega | rfl) (by first | assumption | omega | rfl) (by first | assumption | omega | rfl) (by first | assumption | omega | rfl) (by first | assumption | omega | rfl) (by first | assumption | omega | rfl) (by first | assumption | omega | rfl) (by first | assumption | omega | rfl) (by first | assumption | omega | rfl) (by first | assumption | omega | rfl) (by first | assumption | omega | rfl) (by first | assumption | omega | rfl) (by first | assumption | omega | rfl)) (cwV 1 hts gX7_fault_X7_faultsOf rfl rfl rfl (by decide +kernel) ⟨Nat.le_of_ble_eq_true rfl, Nat.le_of_ble_eq_true rfl⟩) 0 7 rfl rfl rfl hl.1 rfl (Nat.le_of_ble_eq_true rfl) ⟨Nat.zero_le _, Nat.zero_le _⟩ dX7_fault_25 (fun u_25 H locs hp_25 hS => ?_)
        obtain ⟨za_25, kn_25, d1_25, fo_25, zf_25⟩ := u_25
        have hS : cx_S D vwCl A s (cyW q cI cZ n T k M d1_25 (cx_u (cx_u (cx_u Z 0 za_25) 3 (fun _ => kn_25)) 1 zf_25) (cx_u F 0 fo_25)) H locs := hS
        obtain ⟨hKN_25, hp_25⟩ := hp_25
        have hKN_25 : cx_KN n T za_25 kn_25 := hKN_25
        have hp_25 : cx_EE zf_25 ↔ cx_AF n k ((T 0)) ((T 1)) ((T 2)) ((T 3)) M (cx_Ur T) (cx_Wr T) (cx_Vr T) (cx_Ar T n) xa.toNatClampNeg := hp_25
        refine lv_iload_n hx hb dX7_fault_28 rfl (lv_at hl 2 rfl) ?_
        refine lv_istore (lv' := [(4, .int xb), (0, .ref (q 0)), (1, .int xa), (2, .int xb), (3, .int xe)]) hx hb dX7_fault_29 hl (by decide) rfl (fun ls hl => ?_)
        refine lv_iconst (v := (0 : Int32)) hx hb dX7_fault_31 (by decide) ?_
        refine cx_topr (z := nI 0) (by decide) ?_
        refine lv_istore (lv' := [(5, .int (nI 0)), (4, .int xb), (0, .ref (q 0)), (1, .int xa), (2, .int xb), (3, .int xe)]) hx hb dX7_fault_32 hl (by decide) rfl (fun ls hl => ?_)
        have J34 : ∀ (N : Nat) (v34_l4 : Int32) (i34 : Nat) (H : Heap) (locs : List Loc) (ls : Array Slot), (1600 - i34 < N) → (i34 ≤ 1600) → cx_S D vwCl A s (cyW q cI cZ n T k M d1_25 (cx_u (cx_u (cx_u Z 0 za_25) 3 (fun _ => kn_25)) 1 zf_25) (cx_u F 0 fo_25)) H locs → lv_has ls 6 [(0, .ref (q 0)), (1, .int xa), (2, .int xb), (3, .int xe), (4, .int v34_l4), (5, .int (nI i34))] → W p l e ({ frames := 7, cells := 0, slots := 0, locals := 164 } : Room) s m args below meth c H locs 0 0 Q (F0 m 34 ls []) := by
          intro N34
          induction N34 with
          | zero => intro v34_l4 i34 H locs ls hN; exact absurd hN (by omega)
          | succ N34 ih34 =>
            intro v34_l4 i34 H locs ls hN34 hi34 hS hl
            refine lv_iload hx hb dX7_fault_34 (lv_at hl 5 rfl) ?_
            refine lv_sipush (v := nI 1600) hx hb dX7_fault_36 (by decide) ?_
            refine lv_icmp_ge (tgt := 101) hx hb dX7_fault_39 (by decide) (fun h39 => ?_) (fun h39 => ?_)
            · skip
              have g39 : 1600 ≤ i34 := (nI_leI (a := 1600) (b := i34) (by omega) (by omega)).mp h39
              refine lv_iconst (v := (-1 : Int32)) hx hb dX7_fault_101 (by decide) ?_
              exact RET _ (za_25, kn_25, d1_25, fo_25, zf_25) _ _ _ _ dX7_fault_102 rfl (⟨(by first | assumption | exact hKN), trivial⟩) hS
            · skip
              have g39 : ¬ (1600 ≤ i34) := fun z => h39 ((nI_leI (a := 1600) (b := i34) (by omega) (by omega)).mpr z)
              refine lv_aload_n hx hb dX7_fault_42 rfl (lv_at hl 0 rfl) ?_
              refine cx_get (own := RX7) (index := 56) (C := RX7) (T := TX7) (N := 22) (k := 18) (ci := 7) (v := .ref (q 16)) hx hb hts hown hE hS hinX7 0 rfl rfl (by decide) (List.mem_of_getElem? (i := 1) rfl) rfl dX7_fault_43 ?_
              refine lv_iload hx hb dX7_fault_46 (lv_at hl 5 rfl) ?_
              refine cx_zald (f := zf_25) (n := 1600) (cA := cZ) hx hb hE hS 16 1 rfl rfl (by omega) (by decide) dX7_fault_48 ?_
              have J75 : ∀ (H : Heap) (locs : List Loc) (ls : Array Slot), cx_S D vwCl A s (cyW q cI cZ n T k M d1_25 (cx_u (cx_u (cx_u Z 0 za_25) 3 (fun _ => kn_25)) 1 zf_25) (cx_u F 0 fo_25)) H locs → lv_has ls 6 [(0, .ref (q 0)), (1, .int xa), (2, .int xb), (3, .int xe), (4, .int v34_l4), (5, .int (nI i34))] → W p l e ({ frames := 7, cells := 0, slots := 0, locals := 164 } : Room) s m args below meth c H locs 0 0 Q (F0 m 75 ls []) := by
                intro  H locs ls  hS hl
                refine lv_iload hx hb dX7_fault_75 (lv_at hl 4 rfl) ?_
                refine lv_aload_n hx hb dX7_fault_77 rfl (lv_at hl 0 rfl) ?_
                refine cx_get (own := RX7) (index := 56) (C := RX7) (T := TX7) (N := 22) (k := 18) (ci := 7) (v := .ref (q 16)) hx hb hts hown hE hS hinX7 0 rfl rfl (by decide) (List.mem_of_getElem? (i := 1) rfl) rfl dX7_fault_78 ?_
                refine lv_iload hx hb dX7_fault_81 (lv_at hl 5 rfl) ?_
                refine cx_zald (f := zf_25) (n := 1600) (cA := cZ) hx hb hE hS 16 1 rfl rfl (by omega) (by decide) dX7_fault_83 ?_
                have J92 : ∀ (v92_s0 : Int32) (H : Heap) (locs : List Loc) (ls : Array Slot), cx_S D vwCl A s (cyW q cI cZ n T k M d1_25 (cx_u (cx_u (cx_u Z 0 za_25) 3 (fun _ => kn_25)) 1 zf_25) (cx_u F 0 fo_25)) H locs → lv_has ls 6 [(0, .ref (q 0)), (1, .int xa), (2, .int xb), (3, .int xe), (4, .int v34_l4), (5, .int (nI i34))] → W p l e ({ frames := 7, cells := 0, slots := 0, locals := 164 } : Room) s m args below meth c H locs 0 0 Q (F0 m 92 ls [.int v92_s0, .int v34_l4]) := by
                  intro v92_s0 H locs ls  hS hl
                  refine lv_isub hx hb dX7_fault_92 ?_
                  refine lv_istore (lv' := [(4, .int (v34_l4 - v92_s0)), (0, .ref (q 0)), (1, .int xa), (2, .int xb), (3, .int xe), (5, .int (nI i34))]) hx hb dX7_fault_93 hl (by decide) rfl (fun ls hl => ?_)
                  refine lv_iinc (v := nI (i34 + 1)) (lv' := [(5, .int (nI (i34 + 1))), (4, .int (v34_l4 - v92_s0)), (0, .ref (q 0)), (1, .int xa), (2, .int xb), (3, .int xe)]) hx hb dX7_fault_95 hl (k := 5) rfl (cx_inc _) (by decide) rfl (fun ls hl => ?_)
                  refine lv_goto (tgt := 34) hx hb dX7_fault_98 (by decide) ?_
                  exact ih34 (v34_l4 - v92_s0) (i34 + 1) _ _ _ (by omega) (by omega) hS (lv_sub hl [2, 3, 4, 5, 1, 0] rfl)
                refine lv_if_eq (tgt := 91) hx hb dX7_fault_84 (by decide) (fun h84 => ?_) (fun h84 => ?_)
                · skip
                  refine lv_iconst (v := (0 : Int32)) hx hb dX7_fault_91 (by decide) ?_
                  exact J92 (0 : Int32) _ _ _  hS (lv_sub hl [0, 1, 2, 3, 4, 5] rfl)
                · skip
                  refine lv_iconst (v := (1 : Int32)) hx hb dX7_fault_87 (by decide) ?_
                  refine lv_goto (tgt := 92) hx hb dX7_fault_88 (by decide) ?_
                  exact J92 (1 : Int32) _ _ _  hS (lv_sub hl [0, 1, 2, 3, 4, 5] rfl)
              refine lv_if_eq (tgt := 75) hx hb dX7_fault_49 (by decide) (fun h49 => ?_) (fun h49 => ?_)
              · skip
                exact J75  _ _ _  hS (lv_sub hl [0, 1, 2, 3, 4, 5] rfl)
              · skip
                refine lv_iload hx hb dX7_fault_52 (lv_at hl 4 rfl) ?_
                refine lv_if_ne (tgt := 75) hx hb dX7_fault_54 (by decide) (fun h54 => ?_) (fun h54 => ?_)
                · skip
                  exact J75  _ _ _  hS (lv_sub hl [0, 1, 2, 3, 4, 5] rfl)
                · skip
                  refine lv_iload_n hx hb dX7_fault_57 rfl (lv_at hl 3 rfl) ?_
                  have J74 : ∀ (v74_s0 : Int32) (H : Heap) (locs : List Loc) (ls : Array Slot), cx_S D vwCl A s (cyW q cI cZ n T k M d1_25 (cx_u (cx_u (cx_u Z 0 za_25) 3 (fun _ => kn_25)) 1 zf_25) (cx_u F 0 fo_25)) H locs → lv_has ls 6 [(0, .ref (q 0)), (1, .int xa), (2, .int xb), (3, .int xe), (4, .int v34_l4), (5, .int (nI i34))] → W p l e ({ frames := 7, cells := 0, slots := 0, locals := 164 } : Room) s m args below meth c H locs 0 0 Q (F0 m 74 ls [.int v74_s0]) := by
                    intro v74_s0 H locs ls  hS hl
                    exact RET _ (za_25, kn_25, d1_25, fo_25, zf_25) _ _ _ _ dX7_fault_74 rfl (⟨(by first | assumption | exact hKN), trivial⟩) hS
                  refine lv_if_ne (tgt := 69) hx hb dX7_fault_58 (by decide) (fun h58 => ?_) (fun h58 => ?_)
                  · skip
                    refine lv_iload hx hb dX7_fault_69 (lv_at hl 5 rfl) ?_
                    refine lv_bipush (v := nI 80) hx hb dX7_fault_71 (by decide) ?_
                    refine lv_irem hx hb dX7_fault_73 (by decide) ?_
                    exact J74 ((nI i34) - (nI i34) / (nI 80) * (nI 80)) _ _ _  hS (lv_sub hl [0, 1, 2, 3, 4, 5] rfl)
                  · skip
                    refine lv_iload hx hb dX7_fault_61 (lv_at hl 5 rfl) ?_
                    refine lv_bipush (v := nI 80) hx hb dX7_fault_63 (by decide) ?_
                    refine lv_idiv hx hb dX7_fault_65 (by decide) ?_
                    refine cx_topr (z := nI (i34 / 80)) (pk_div (by omega) (by decide) (by decide)) ?_
                    refine lv_goto (tgt := 74) hx hb dX7_fault_66 (by decide) ?_
                    exact J74 (nI (i34 / 80)) _ _ _  hS (lv_sub hl [0, 1, 2, 3, 4, 5] rfl)
        exact J34 (1600 - 0 + 1) xb 0 _ _ _ (Nat.lt_succ_self _) (by omega) hS (lv_sub hl [2, 3, 4, 5, 1, 0] rfl)
      · skip
        exact J21  _ _ _  hS (lv_sub hl [0, 1, 2, 3] rfl)
set_option maxHeartbeats 4000000 in
set_option maxRecDepth 100000 in
theorem c_X7_all (l : Launch) (D : va_G) (q : Nat → Nat) (cI cZ : ClassId) (n : Nat) (T : Nat → Nat → Int32) (k : Nat) (M : Nat → Nat → Int32) (d : Nat) (Z : Nat → Nat → Int32) (F : Nat → Nat → Int32) (hn : n ≤ 20) (hP : cx_P (T 3) 20) (hU : cx_R (T 4) 20) (hV : cx_R (T 5) 4) (hKN : cx_KN n T (Z 0) ((Z 3) 0)) (hQ : cx_R (T 6) 20) (hW : cx_R (T 7) 4) (hO : cx_R (M 0) 20) (hk : k ≤ 80) (hOn : ∀ j, j < k → (M 0 j).toNatClampNeg < n) (hX : cx_R (M 4) 4) (hK0 : cx_R (T 0) 4) (hM5 : cx_R (M 5) 30) (hM1 : cx_R (M 1) 10) (hM2 : cx_R (M 2) 5) : cx_Mi l D vwCl [(cI, .int), (cZ, .boolean)] cx_NW yX7_all wsX7_all ({ frames := 8, cells := 0, slots := 0, locals := 185 } : Room) [.ref (q 0)] (cyW q cI cZ n T k M d Z F) (fun (r : Int32) (uw : (Nat → Int32) × (Int32) × (Nat) × (Nat → Int32) × (Nat → Int32)) => cx_KN n T uw.1 uw.2.1 ∧ (True)) (fun uw => (cyW q cI cZ n T k M uw.2.2.1 (cx_u (cx_u (cx_u Z 0 uw.1) 3 (fun _ => uw.2.1)) 1 uw.2.2.2.2) (cx_u F 0 uw.2.2.2.1))) := by
  refine cx_Mi.of (cc := cX7_all) (maxL := 3) cx_NW_ok (by decide) rfl (Nat.le_of_ble_eq_true rfl) ?_
  intro p e s m args below meth c Q A ls hx hb hml hown hts hE RET hS hl
  have hl : lv_has ls 3 [(0, .ref (q 0))] := hl
  have hown : s.vm.findClass RX7 = some m.cls := hown
  have hinX7 : ∀ w ∈ u_ws RX7 TX7 22, w ∈ wsX7_all := cx_mem [138, 139, 140, 141, 142, 143, 144, 145, 146, 147, 148, 149, 150, 151, 152, 153, 154, 155, 156, 157, 158, 159] (by decide +kernel)
  refine lv_iconst (v := (0 : Int32)) hx hb dX7_all_0 (by decide) ?_
  refine cx_topr (z := nI 0) (by decide) ?_
  refine lv_istore_n (lv' := [(1, .int (nI 0)), (0, .ref (q 0))]) hx hb dX7_all_1 rfl hl (by decide) rfl (fun ls hl => ?_)
  refine lv_iconst (v := (0 : Int32)) hx hb dX7_all_2 (by decide) ?_
  refine cx_topr (z := nI 0) (by decide) ?_
  refine lv_istore_n (lv' := [(2, .int (nI 0)), (1, .int (nI 0)), (0, .ref (q 0))]) hx hb dX7_all_3 rfl hl (by decide) rfl (fun ls hl => ?_)
  have J4 : ∀ (N : Nat) (v4_l1 : Int32) (i4 : Nat) (d_4 : Nat) (Z_0_4 : Nat → Int32) (Z_1_4 : Nat → Int32) (Z_3_4 : Nat → Int32) (F_0_4 : Nat → Int32) (H : Heap) (locs : List Loc) (ls : Array Slot), (n - i4 < N) → (i4 ≤ n) → (cx_KN n T Z_0_4 (Z_3_4 0)) → cx_S D vwCl A s (cyW q cI cZ n T k M d_4 (cx_u (cx_u (cx_u Z 0 Z_0_4) 1 Z_1_4) 3 Z_3_4) (cx_u F 0 F_0_4)) H locs → lv_has ls 3 [(0, .ref (q 0)), (1, .int v4_l1), (2, .int (nI i4))] → W p l e ({ frames := 8, cells := 0, slots := 0, locals := 185 } : Room) s m args below meth c H locs 0 0 Q (F0 m 4 ls []) := by
    intro N4
    induction N4 with
    | zero => intro v4_l1 i4 d_4 Z_0_4 Z_1_4 Z_3_4 F_0_4 H locs ls hN; exact absurd hN (by omega)
    | succ N4 ih4 =>
      intro v4_l1 i4 d_4 Z_0_4 Z_1_4 Z_3_4 F_0_4 H locs ls hN4 hi4 hKN4 hS hl
      refine lv_iload_n hx hb dX7_all_4 rfl (lv_at hl 2 rfl) ?_
      refine lv_aload_n hx hb dX7_all_5 rfl (lv_at hl 0 rfl) ?_
      refine cx_get (own := RX7) (index := 65) (C := RX7) (T := TX7) (N := 22) (k := 0) (ci := 7) (v := .int (nI n)) hx hb hts hown hE hS hinX7 0 rfl rfl (by decide) (List.mem_of_getElem? (i := 1) rfl) rfl dX7_all_6 ?_
      refine lv_icmp_ge (tgt := 26) hx hb dX7_all_9 (by decide) (fun h9 => ?_) (fun h9 => ?_)
      · skip
        have g9 : n ≤ i4 := (nI_leI (a := n) (b := i4) (by omega) (by omega)).mp h9
        refine lv_iload_n hx hb dX7_all_26 rfl (lv_at hl 1 rfl) ?_
        exact RET _ (Z_0_4, Z_3_4 0, d_4, F_0_4, Z_1_4) _ _ _ _ dX7_all_27 rfl (⟨(by first | assumption | exact hKN), trivial⟩) hS
      · skip
        have g9 : ¬ (n ≤ i4) := fun z => h9 ((nI_leI (a := n) (b := i4) (by omega) (by omega)).mpr z)
        refine lv_iload_n hx hb dX7_all_12 rfl (lv_at hl 1 rfl) ?_
        refine lv_aload_n hx hb dX7_all_13 rfl (lv_at hl 0 rfl) ?_
        refine lv_iload_n hx hb dX7_all_14 rfl (lv_at hl 2 rfl) ?_
        refine cx_cVi (As := [.int (nI i4)]) (rest := [.int v4_l1]) ⟨hx, hb, hml, hown, hts⟩ hE hS (c_X7_faults l D q cI cZ n T k M d_4 (cx_u (cx_u (cx_u Z 0 Z_0_4) 1 Z_1_4) 3 Z_3_4) (cx_u F 0 F_0_4) (nI i4) (by first | assumption | omega | rfl) (by first | assumption | omega | rfl) (by first | assumption | omega | rfl) (by first | assumption | omega | rfl) (by first | assumption | omega | rfl) (by first | assumption | omega | rfl) (by first | assumption | omega | rfl) (by first | assumption | omega | rfl) (by first | assumption | omega | rfl) (by first | assumption | omega | rfl) (by first | assumption | omega | rfl) (by first | assumption | omega | rfl) (by first | assumption | omega | rfl) (by first | assumption | omega | rfl) (by first | assumption | omega | rfl)) (cwV 1 hts gX7_all_X7_faults rfl rfl rfl (by decide +kernel) ⟨Nat.le_of_ble_eq_true rfl, Nat.le_of_ble_eq_true rfl⟩) 0 7 rfl rfl rfl hl.1 rfl (Nat.le_of_ble_eq_true rfl) ⟨Nat.zero_le _, Nat.zero_le _⟩ dX7_all_15 (fun r_15 u_15 H locs hp_15 hS => ?_)
        obtain ⟨za_15, kn_15, d1_15, fo_15, zf_15⟩ := u_15
        have hS : cx_S D vwCl A s (cyW q cI cZ n T k M d1_15 (cx_u (cx_u (cx_u Z 0 za_15) 3 (fun _ => kn_15)) 1 zf_15) (cx_u F 0 fo_15)) H locs := hS
        obtain ⟨hKN_15, hp_15⟩ := hp_15
        have hKN_15 : cx_KN n T za_15 kn_15 := hKN_15
        refine lv_iadd hx hb dX7_all_18 ?_
        refine lv_istore_n (lv' := [(1, .int (v4_l1 + r_15)), (0, .ref (q 0)), (2, .int (nI i4))]) hx hb dX7_all_19 rfl hl (by decide) rfl (fun ls hl => ?_)
        refine lv_iinc (v := nI (i4 + 1)) (lv' := [(2, .int (nI (i4 + 1))), (1, .int (v4_l1 + r_15)), (0, .ref (q 0))]) hx hb dX7_all_20 hl (k := 2) rfl (cx_inc _) (by decide) rfl (fun ls hl => ?_)
        refine lv_goto (tgt := 4) hx hb dX7_all_23 (by decide) ?_
        exact ih4 (v4_l1 + r_15) (i4 + 1) d1_15 za_15 zf_15 (fun _ => kn_15) fo_15 _ _ _ (by omega) (by omega) (by first | assumption | exact hKN) hS (lv_sub hl [2, 1, 0] rfl)
  exact J4 (n - 0 + 1) (nI 0) 0 d (Z 0) (Z 1) (Z 3) (F 0) _ _ _ (Nat.lt_succ_self _) (by omega) (by first | assumption | exact hKN) hS (lv_sub hl [2, 1, 0] rfl)
set_option maxHeartbeats 4000000 in
set_option maxRecDepth 100000 in
theorem c_X7_is_ (l : Launch) (D : va_G) (q : Nat → Nat) (cI cZ : ClassId) (n : Nat) (T : Nat → Nat → Int32) (k : Nat) (M : Nat → Nat → Int32) (d : Nat) (Z : Nat → Nat → Int32) (F : Nat → Nat → Int32) (xa : Int32) (xb : Int32) (hn : n ≤ 20) (hP : cx_P (T 3) 20) (hU : cx_R (T 4) 20) (hV : cx_R (T 5) 4) (hKN : cx_KN n T (Z 0) ((Z 3) 0)) : cx_Mi l D vwCl [(cI, .int), (cZ, .boolean)] cx_NW yX7_is_ wsX7_is_ ({ frames := 4, cells := 0, slots := 0, locals := 88 } : Room) [.ref (q 0), .int xa, .int xb] (cyW q cI cZ n T k M d Z F) (fun (r : Int32) (uw : (Nat → Int32) × (Int32)) => cx_KN n T uw.1 uw.2 ∧ ((¬ ((0 ≤ xa ∧ xa < nI n) ∧ (0 ≤ xb ∧ xb < nI n)) ∧ r = (-1 : Int32)) ∨ (((0 ≤ xa ∧ xa < nI n) ∧ (0 ≤ xb ∧ xb < nI n)) ∧ (r = 0 ∨ r = 1) ∧ (¬ r = 0 ↔ cx_is (cx_Ar T n) (xa.toNatClampNeg) (xb.toNatClampNeg))))) (fun uw => (cyW q cI cZ n T k M d (cx_u (cx_u Z 0 uw.1) 3 (fun _ => uw.2)) F)) := by
  refine cx_Mi.of (cc := cX7_is_) (maxL := 3) cx_NW_ok (by decide) rfl (Nat.le_of_ble_eq_true rfl) ?_
  intro p e s m args below meth c Q A ls hx hb hml hown hts hE RET hS hl
  have hl : lv_has ls 3 [(0, .ref (q 0)), (1, .int xa), (2, .int xb)] := hl
  have hown : s.vm.findClass RX7 = some m.cls := hown
  refine lv_aload_n hx hb dX7_is__0 rfl (lv_at hl 0 rfl) ?_
  refine lv_iload_n hx hb dX7_is__1 rfl (lv_at hl 1 rfl) ?_
  refine cx_cVi (As := [.int xa]) (rest := []) ⟨hx, hb, hml, hown, hts⟩ hE hS (c_X7_isType l D q cI cZ n T k M d Z F xa (by first | assumption | omega | rfl)) (cwV 1 hts gX7_is__X7_isType rfl rfl rfl (by decide +kernel) ⟨Nat.le_of_ble_eq_true rfl, Nat.le_of_ble_eq_true rfl⟩) 0 7 rfl rfl rfl hl.1 rfl (Nat.le_of_ble_eq_true rfl) ⟨Nat.zero_le _, Nat.zero_le _⟩ dX7_is__2 (fun r_2 u_2 H locs hp_2 hS => ?_)
  have hp_2 : r_2 = cx_b (0 ≤ xa ∧ xa < nI n) := hp_2
  subst hp_2
  have J34 : ∀ (v34_s0 : Int32) (Z_0_34 : Nat → Int32) (Z_3_34 : Nat → Int32) (H : Heap) (locs : List Loc) (ls : Array Slot), (cx_KN n T Z_0_34 (Z_3_34 0)) → ((¬ ((0 ≤ xa ∧ xa < nI n) ∧ (0 ≤ xb ∧ xb < nI n)) ∧ v34_s0 = (-1 : Int32)) ∨ (((0 ≤ xa ∧ xa < nI n) ∧ (0 ≤ xb ∧ xb < nI n)) ∧ (v34_s0 = 0 ∨ v34_s0 = 1) ∧ (¬ v34_s0 = 0 ↔ cx_is (cx_Ar T n) (xa.toNatClampNeg) (xb.toNatClampNeg)))) → cx_S D vwCl A s (cyW q cI cZ n T k M d (cx_u (cx_u Z 0 Z_0_34) 3 Z_3_34) F) H locs → lv_has ls 3 [(0, .ref (q 0)), (1, .int xa), (2, .int xb)] → W p l e ({ frames := 4, cells := 0, slots := 0, locals := 88 } : Room) s m args below meth c H locs 0 0 Q (F0 m 34 ls [.int v34_s0]) := by
    intro v34_s0 Z_0_34 Z_3_34 H locs ls hKN34 h34 hS hl
    exact RET _ (Z_0_34, Z_3_34 0) _ _ _ _ dX7_is__34 rfl (⟨(by first | assumption | exact hKN), h34⟩) hS
  have J33 : ∀ (H : Heap) (locs : List Loc) (ls : Array Slot), (¬ ((0 ≤ xa ∧ xa < nI n) ∧ (0 ≤ xb ∧ xb < nI n))) → cx_S D vwCl A s (cyW q cI cZ n T k M d Z F) H locs → lv_has ls 3 [(0, .ref (q 0)), (1, .int xa), (2, .int xb)] → W p l e ({ frames := 4, cells := 0, slots := 0, locals := 88 } : Room) s m args below meth c H locs 0 0 Q (F0 m 33 ls []) := by
    intro  H locs ls hb33 hS hl
    refine lv_iconst (v := (-1 : Int32)) hx hb dX7_is__33 (by decide) ?_
    exact J34 (-1 : Int32) (Z 0) (Z 3) _ _ _ (by first | assumption | exact hKN) (by first | exact Or.inl ⟨hb33, rfl⟩ | exact Or.inr ⟨⟨g5, g13⟩, cx_e1 g22⟩ | exact Or.inr ⟨⟨g5, g13⟩, cx_e0 g22⟩) hS (lv_sub hl [0, 1, 2] rfl)
  refine lv_if_eq (tgt := 33) hx hb dX7_is__5 (by decide) (fun h5 => ?_) (fun h5 => ?_)
  · skip
    have g5 := cx_b0 h5
    exact J33  _ _ _ (by first | exact fun z => g5 z.1 | exact fun z => g13 z.2) hS (lv_sub hl [0, 1, 2] rfl)
  · skip
    have g5 := cx_b1 h5
    refine lv_aload_n hx hb dX7_is__8 rfl (lv_at hl 0 rfl) ?_
    refine lv_iload_n hx hb dX7_is__9 rfl (lv_at hl 2 rfl) ?_
    refine cx_cVi (As := [.int xb]) (rest := []) ⟨hx, hb, hml, hown, hts⟩ hE hS (c_X7_isType l D q cI cZ n T k M d Z F xb (by first | assumption | omega | rfl)) (cwV 1 hts gX7_is__X7_isType rfl rfl rfl (by decide +kernel) ⟨Nat.le_of_ble_eq_true rfl, Nat.le_of_ble_eq_true rfl⟩) 0 7 rfl rfl rfl hl.1 rfl (Nat.le_of_ble_eq_true rfl) ⟨Nat.zero_le _, Nat.zero_le _⟩ dX7_is__10 (fun r_10 u_10 H locs hp_10 hS => ?_)
    have hp_10 : r_10 = cx_b (0 ≤ xb ∧ xb < nI n) := hp_10
    subst hp_10
    refine lv_if_eq (tgt := 33) hx hb dX7_is__13 (by decide) (fun h13 => ?_) (fun h13 => ?_)
    · skip
      have g13 := cx_b0 h13
      exact J33  _ _ _ (by first | exact fun z => g5 z.1 | exact fun z => g13 z.2) hS (lv_sub hl [0, 1, 2] rfl)
    · skip
      have g13 := cx_b1 h13
      refine lv_aload_n hx hb dX7_is__16 rfl (lv_at hl 0 rfl) ?_
      refine lv_iload_n hx hb dX7_is__17 rfl (lv_at hl 1 rfl) ?_
      refine cx_topr (z := nI (xa.toNatClampNeg)) (cx_ixT (by omega) g5).1 ?_
      refine lv_iload_n hx hb dX7_is__18 rfl (lv_at hl 2 rfl) ?_
      refine cx_topr (z := nI (xb.toNatClampNeg)) (cx_ixT (by omega) g13).1 ?_
      refine cx_cVi (As := [.int (nI (xa.toNatClampNeg)), .int (nI (xb.toNatClampNeg))]) (rest := []) ⟨hx, hb, hml, hown, hts⟩ hE hS (c_X7_isOf l D q cI cZ n T k M d Z F xa.toNatClampNeg xb.toNatClampNeg (by first | assumption | omega | rfl) (by first | assumption | omega | rfl) (by first | assumption | omega | rfl) (by first | assumption | omega | rfl) (by first | assumption | omega | rfl) ((cx_ixT (by omega) g5).2) ((cx_ixT (by omega) g13).2)) (cwV 2 hts gX7_is__X7_isOf rfl rfl rfl (by decide +kernel) ⟨Nat.le_of_ble_eq_true rfl, Nat.le_of_ble_eq_true rfl⟩) 0 7 rfl rfl rfl hl.1 rfl (Nat.le_of_ble_eq_true rfl) ⟨Nat.zero_le _, Nat.zero_le _⟩ dX7_is__19 (fun r_19 u_19 H locs hp_19 hS => ?_)
      obtain ⟨za_19, kn_19⟩ := u_19
      have hS : cx_S D vwCl A s (cyW q cI cZ n T k M d (cx_u (cx_u Z 0 za_19) 3 (fun _ => kn_19)) F) H locs := hS
      obtain ⟨hKN_19, hp_19⟩ := hp_19
      have hKN_19 : cx_KN n T za_19 kn_19 := hKN_19
      have hp_19 : ((r_19 = 0 ∨ r_19 = 1) ∧ (¬ r_19 = 0 ↔ cx_is (cx_Ar T n) xa.toNatClampNeg xb.toNatClampNeg)) ∧ (∀ wa wu, wa < n → wu < n → (¬ za_19 (20 * wa + wu) = 0 ↔ (cx_w3 n (cx_Er T n) n) wa wu)) := hp_19
      refine lv_if_eq (tgt := 29) hx hb dX7_is__22 (by decide) (fun h22 => ?_) (fun h22 => ?_)
      · skip
        have g22 : ¬ (cx_is (cx_Ar T n) xa.toNatClampNeg xb.toNatClampNeg) := fun z => hp_19.1.2.mpr z h22
        refine lv_iconst (v := (0 : Int32)) hx hb dX7_is__29 (by decide) ?_
        refine lv_goto (tgt := 34) hx hb dX7_is__30 (by decide) ?_
        exact J34 (0 : Int32) za_19 (fun _ => kn_19) _ _ _ (by first | assumption | exact hKN) (by first | exact Or.inl ⟨hb33, rfl⟩ | exact Or.inr ⟨⟨g5, g13⟩, cx_e1 g22⟩ | exact Or.inr ⟨⟨g5, g13⟩, cx_e0 g22⟩) hS (lv_sub hl [0, 1, 2] rfl)
      · skip
        have g22 : cx_is (cx_Ar T n) xa.toNatClampNeg xb.toNatClampNeg := hp_19.1.2.mp h22
        refine lv_iconst (v := (1 : Int32)) hx hb dX7_is__25 (by decide) ?_
        refine lv_goto (tgt := 34) hx hb dX7_is__26 (by decide) ?_
        exact J34 (1 : Int32) za_19 (fun _ => kn_19) _ _ _ (by first | assumption | exact hKN) (by first | exact Or.inl ⟨hb33, rfl⟩ | exact Or.inr ⟨⟨g5, g13⟩, cx_e1 g22⟩ | exact Or.inr ⟨⟨g5, g13⟩, cx_e0 g22⟩) hS (lv_sub hl [0, 1, 2] rfl)
set_option maxHeartbeats 4000000 in
set_option maxRecDepth 100000 in
theorem c_X7_isWrongType (l : Launch) (D : va_G) (q : Nat → Nat) (cI cZ : ClassId) (n : Nat) (T : Nat → Nat → Int32) (k : Nat) (M : Nat → Nat → Int32) (d : Nat) (Z : Nat → Nat → Int32) (F : Nat → Nat → Int32) (t : Nat) (hn : n ≤ 20) (hP : cx_P (T 3) 20) (hU : cx_R (T 4) 20) (hV : cx_R (T 5) 4) (hKN : cx_KN n T (Z 0) ((Z 3) 0)) (hQ : cx_R (T 6) 20) (hW : cx_R (T 7) 4) (hO : cx_R (M 0) 20) (hk : k ≤ 80) (hOn : ∀ j, j < k → (M 0 j).toNatClampNeg < n) (hX : cx_R (M 4) 4) (hK0 : cx_R (T 0) 4) (hM5 : cx_R (M 5) 30) (hM1 : cx_R (M 1) 10) (hM2 : cx_R (M 2) 5) (ht : t < n) : cx_Mi l D vwCl [(cI, .int), (cZ, .boolean)] cx_NW yX7_isWrongType wsX7_isWrongType ({ frames := 7, cells := 0, slots := 0, locals := 164 } : Room) [.ref (q 0), .int (nI t)] (cyW q cI cZ n T k M d Z F) (fun (r : Int32) (uw : (Nat → Int32) × (Int32) × (Nat) × (Nat → Int32) × (Nat → Int32)) => cx_KN n T uw.1 uw.2.1 ∧ ((r = 0 ∨ r = 1) ∧ (¬ r = 0 ↔ cx_WR n k (T 0) (T 1) (T 2) (T 3) M (cx_Ur T) (cx_Wr T) (cx_Vr T) (cx_Ar T n) t))) (fun uw => (cyW q cI cZ n T k M uw.2.2.1 (cx_u (cx_u (cx_u Z 0 uw.1) 3 (fun _ => uw.2.1)) 1 uw.2.2.2.2) (cx_u F 0 uw.2.2.2.1))) := by
  refine cx_Mi.of (cc := cX7_isWrongType) (maxL := 4) cx_NW_ok (by decide) rfl (Nat.le_of_ble_eq_true rfl) ?_
  intro p e s m args below meth c Q A ls hx hb hml hown hts hE RET hS hl
  have hl : lv_has ls 4 [(0, .ref (q 0)), (1, .int (nI t))] := hl
  have hown : s.vm.findClass RX7 = some m.cls := hown
  have hinX7 : ∀ w ∈ u_ws RX7 TX7 22, w ∈ wsX7_isWrongType := cx_mem [130, 131, 132, 133, 134, 135, 136, 137, 138, 139, 140, 141, 142, 143, 144, 145, 146, 147, 148, 149, 150, 151] (by decide +kernel)
  refine lv_aload_n hx hb dX7_isWrongType_0 rfl (lv_at hl 0 rfl) ?_
  refine cx_get (own := RX7) (index := 7) (C := RX7) (T := TX7) (N := 22) (k := 1) (ci := 7) (v := .ref (q 1)) hx hb hts hown hE hS hinX7 0 rfl rfl (by decide) (List.mem_of_getElem? (i := 1) rfl) rfl dX7_isWrongType_1 ?_
  refine lv_iload_n hx hb dX7_isWrongType_4 rfl (lv_at hl 1 rfl) ?_
  refine cx_iald (f := (T 0)) (n := 20) (cA := cI) hx hb hE hS 1 0 rfl rfl (by omega) (by decide) dX7_isWrongType_5 ?_
  refine lv_iconst (v := (1 : Int32)) hx hb dX7_isWrongType_6 (by decide) ?_
  have J24 : ∀ (v24_s0 : Int32) (H : Heap) (locs : List Loc) (ls : Array Slot), ((v24_s0 = 0 ∨ v24_s0 = 1) ∧ (¬ v24_s0 = 0 ↔ T 0 t = 1 ∨ cx_mk (T 1) t 1)) → cx_S D vwCl A s (cyW q cI cZ n T k M d Z F) H locs → lv_has ls 4 [(0, .ref (q 0)), (1, .int (nI t))] → W p l e ({ frames := 7, cells := 0, slots := 0, locals := 164 } : Room) s m args below meth c H locs 0 0 Q (F0 m 24 ls [.int v24_s0]) := by
    intro v24_s0 H locs ls b24 hS hl
    refine lv_istore_n (lv' := [(2, .int v24_s0), (0, .ref (q 0)), (1, .int (nI t))]) hx hb dX7_isWrongType_24 rfl hl (by decide) rfl (fun ls hl => ?_)
    refine lv_iconst (v := (0 : Int32)) hx hb dX7_isWrongType_25 (by decide) ?_
    refine cx_topr (z := nI 0) (by decide) ?_
    refine lv_istore_n (lv' := [(3, .int (nI 0)), (2, .int v24_s0), (0, .ref (q 0)), (1, .int (nI t))]) hx hb dX7_isWrongType_26 rfl hl (by decide) rfl (fun ls hl => ?_)
    have J27 : ∀ (N : Nat) (v27_l2 : Int32) (i27 : Nat) (d_27 : Nat) (Z_0_27 : Nat → Int32) (Z_1_27 : Nat → Int32) (Z_3_27 : Nat → Int32) (F_0_27 : Nat → Int32) (H : Heap) (locs : List Loc) (ls : Array Slot), (n - i27 < N) → (i27 ≤ n) → (cx_KN n T Z_0_27 (Z_3_27 0)) → ((v27_l2 = 0 ∨ v27_l2 = 1) ∧ (¬ v27_l2 = 0 ↔ T 0 t = 1 ∨ cx_mk (T 1) t 1 ∨ ∃ u, u < i27 ∧ (cx_is (cx_Ar T n) t u ∧ cx_AF n k (T 0) (T 1) (T 2) (T 3) M (cx_Ur T) (cx_Wr T) (cx_Vr T) (cx_Ar T n) u))) → cx_S D vwCl A s (cyW q cI cZ n T k M d_27 (cx_u (cx_u (cx_u Z 0 Z_0_27) 1 Z_1_27) 3 Z_3_27) (cx_u F 0 F_0_27)) H locs → lv_has ls 4 [(0, .ref (q 0)), (1, .int (nI t)), (2, .int v27_l2), (3, .int (nI i27))] → W p l e ({ frames := 7, cells := 0, slots := 0, locals := 164 } : Room) s m args below meth c H locs 0 0 Q (F0 m 27 ls []) := by
      intro N27
      induction N27 with
      | zero => intro v27_l2 i27 d_27 Z_0_27 Z_1_27 Z_3_27 F_0_27 H locs ls hN; exact absurd hN (by omega)
      | succ N27 ih27 =>
        intro v27_l2 i27 d_27 Z_0_27 Z_1_27 Z_3_27 F_0_27 H locs ls hN27 hi27 hKN27 b27_2 hS hl
        refine lv_iload_n hx hb dX7_isWrongType_27 rfl (lv_at hl 3 rfl) ?_
        refine lv_aload_n hx hb dX7_isWrongType_28 rfl (lv_at hl 0 rfl) ?_
        refine cx_get (own := RX7) (index := 65) (C := RX7) (T := TX7) (N := 22) (k := 0) (ci := 7) (v := .int (nI n)) hx hb hts hown hE hS hinX7 0 rfl rfl (by decide) (List.mem_of_getElem? (i := 2) rfl) rfl dX7_isWrongType_29 ?_
        have J64 : ∀ (H : Heap) (locs : List Loc) (ls : Array Slot), ((v27_l2 = 0 ∨ v27_l2 = 1) ∧ (¬ v27_l2 = 0 ↔ cx_WR n k (T 0) (T 1) (T 2) (T 3) M (cx_Ur T) (cx_Wr T) (cx_Vr T) (cx_Ar T n) t)) → cx_S D vwCl A s (cyW q cI cZ n T k M d_27 (cx_u (cx_u (cx_u Z 0 Z_0_27) 1 Z_1_27) 3 Z_3_27) (cx_u F 0 F_0_27)) H locs → lv_has ls 4 [(0, .ref (q 0)), (1, .int (nI t)), (2, .int v27_l2), (3, .int (nI i27))] → W p l e ({ frames := 7, cells := 0, slots := 0, locals := 164 } : Room) s m args below meth c H locs 0 0 Q (F0 m 64 ls []) := by
          intro  H locs ls h64 hS hl
          refine lv_iload_n hx hb dX7_isWrongType_64 rfl (lv_at hl 2 rfl) ?_
          exact RET _ (Z_0_27, Z_3_27 0, d_27, F_0_27, Z_1_27) _ _ _ _ dX7_isWrongType_65 (cx_nb h64.1) (⟨(by first | assumption | exact hKN), h64⟩) hS
        refine lv_icmp_ge (tgt := 64) hx hb dX7_isWrongType_32 (by decide) (fun h32 => ?_) (fun h32 => ?_)
        · skip
          have g32 : n ≤ i27 := (nI_leI (a := n) (b := i27) (by omega) (by omega)).mp h32
          exact J64  _ _ _ (by first | exact cx_wr9 b27_2 h36 (by omega) | (have e : i27 = n := (by omega); rw [e] at b27_2; exact b27_2)) hS (lv_sub hl [0, 1, 2, 3] rfl)
        · skip
          have g32 : ¬ (n ≤ i27) := fun z => h32 ((nI_leI (a := n) (b := i27) (by omega) (by omega)).mpr z)
          refine lv_iload_n hx hb dX7_isWrongType_35 rfl (lv_at hl 2 rfl) ?_
          refine lv_if_ne (tgt := 64) hx hb dX7_isWrongType_36 (by decide) (fun h36 => ?_) (fun h36 => ?_)
          · skip
            have g36 : T 0 t = 1 ∨ cx_mk (T 1) t 1 ∨ ∃ u, u < i27 ∧ (cx_is (cx_Ar T n) t u ∧ cx_AF n k (T 0) (T 1) (T 2) (T 3) M (cx_Ur T) (cx_Wr T) (cx_Vr T) (cx_Ar T n) u) := b27_2.2.mp h36
            exact J64  _ _ _ (by first | exact cx_wr9 b27_2 h36 (by omega) | (have e : i27 = n := (by omega); rw [e] at b27_2; exact b27_2)) hS (lv_sub hl [0, 1, 2, 3] rfl)
          · skip
            have g36 : ¬ (T 0 t = 1 ∨ cx_mk (T 1) t 1 ∨ ∃ u, u < i27 ∧ (cx_is (cx_Ar T n) t u ∧ cx_AF n k (T 0) (T 1) (T 2) (T 3) M (cx_Ur T) (cx_Wr T) (cx_Vr T) (cx_Ar T n) u)) := fun z => b27_2.2.mpr z h36
            refine lv_aload_n hx hb dX7_isWrongType_39 rfl (lv_at hl 0 rfl) ?_
            refine lv_iload_n hx hb dX7_isWrongType_40 rfl (lv_at hl 1 rfl) ?_
            refine lv_iload_n hx hb dX7_isWrongType_41 rfl (lv_at hl 3 rfl) ?_
            refine cx_cVi (As := [.int (nI t), .int (nI i27)]) (rest := []) ⟨hx, hb, hml, hown, hts⟩ hE hS (c_X7_isOf l D q cI cZ n T k M d_27 (cx_u (cx_u (cx_u Z 0 Z_0_27) 1 Z_1_27) 3 Z_3_27) (cx_u F 0 F_0_27) t i27 (by first | assumption | omega | rfl) (by first | assumption | omega | rfl) (by first | assumption | omega | rfl) (by first | assumption | omega | rfl) (by first | assumption | omega | rfl) (by first | assumption | omega | rfl) (by first | assumption | omega | rfl)) (cwV 2 hts gX7_isWrongType_X7_isOf rfl rfl rfl (by decide +kernel) ⟨Nat.le_of_ble_eq_true rfl, Nat.le_of_ble_eq_true rfl⟩) 0 7 rfl rfl rfl hl.1 rfl (Nat.le_of_ble_eq_true rfl) ⟨Nat.zero_le _, Nat.zero_le _⟩ dX7_isWrongType_42 (fun r_42 u_42 H locs hp_42 hS => ?_)
            obtain ⟨za_42, kn_42⟩ := u_42
            have hS : cx_S D vwCl A s (cyW q cI cZ n T k M d_27 (cx_u (cx_u (cx_u Z 1 Z_1_27) 0 za_42) 3 (fun _ => kn_42)) (cx_u F 0 F_0_27)) H locs := hS
            obtain ⟨hKN_42, hp_42⟩ := hp_42
            have hKN_42 : cx_KN n T za_42 kn_42 := hKN_42
            have hp_42 : ((r_42 = 0 ∨ r_42 = 1) ∧ (¬ r_42 = 0 ↔ cx_is (cx_Ar T n) t i27)) ∧ (∀ wa wu, wa < n → wu < n → (¬ za_42 (20 * wa + wu) = 0 ↔ (cx_w3 n (cx_Er T n) n) wa wu)) := hp_42
            have J58 : ∀ (v58_l2 : Int32) (d_58 : Nat) (Z_0_58 : Nat → Int32) (Z_1_58 : Nat → Int32) (Z_3_58 : Nat → Int32) (F_0_58 : Nat → Int32) (H : Heap) (locs : List Loc) (ls : Array Slot), (cx_KN n T Z_0_58 (Z_3_58 0)) → ((v58_l2 = 0 ∨ v58_l2 = 1) ∧ (¬ v58_l2 = 0 ↔ T 0 t = 1 ∨ cx_mk (T 1) t 1 ∨ ∃ u, u < (i27 + 1) ∧ (cx_is (cx_Ar T n) t u ∧ cx_AF n k (T 0) (T 1) (T 2) (T 3) M (cx_Ur T) (cx_Wr T) (cx_Vr T) (cx_Ar T n) u))) → cx_S D vwCl A s (cyW q cI cZ n T k M d_58 (cx_u (cx_u (cx_u Z 0 Z_0_58) 1 Z_1_58) 3 Z_3_58) (cx_u F 0 F_0_58)) H locs → lv_has ls 4 [(0, .ref (q 0)), (1, .int (nI t)), (2, .int v58_l2), (3, .int (nI i27))] → W p l e ({ frames := 7, cells := 0, slots := 0, locals := 164 } : Room) s m args below meth c H locs 0 0 Q (F0 m 58 ls []) := by
              intro v58_l2 d_58 Z_0_58 Z_1_58 Z_3_58 F_0_58 H locs ls hKN58 b58_2 hS hl
              refine lv_iinc (v := nI (i27 + 1)) (lv' := [(3, .int (nI (i27 + 1))), (0, .ref (q 0)), (1, .int (nI t)), (2, .int v58_l2)]) hx hb dX7_isWrongType_58 hl (k := 3) rfl (cx_inc _) (by decide) rfl (fun ls hl => ?_)
              refine lv_goto (tgt := 27) hx hb dX7_isWrongType_61 (by decide) ?_
              exact ih27 v58_l2 (i27 + 1) d_58 Z_0_58 Z_1_58 Z_3_58 F_0_58 _ _ _ (by (try clear g36); (try clear b58_2); (try clear b27_2); omega) (by (try clear g36); (try clear b58_2); (try clear b27_2); omega) (by first | assumption | exact hKN) (by first | exact b58_2 | (try clear RET); (try clear hS); (try clear hl); (try clear hE); (try clear hts); (try clear hb); (try clear hx); (try clear hml); (try clear hown); (try clear hinX7); (try clear J24); (try clear J27); (try clear ih27); (try clear hN27); (try clear J64); (try clear J58); have y10 : ¬ (1 : Int32) = 0 := (by decide); first | assumption | ((try rw [cx_exS (P := fun u => cx_is (cx_Ar T n) t u ∧ cx_AF n k (T 0) (T 1) (T 2) (T 3) M (cx_Ur T) (cx_Wr T) (cx_Vr T) (cx_Ar T n) u)]); (try have y0 := @cx_ex0 (fun u => cx_is (cx_Ar T n) t u ∧ cx_AF n k (T 0) (T 1) (T 2) (T 3) M (cx_Ur T) (cx_Wr T) (cx_Vr T) (cx_Ar T n) u)); grind)) hS (lv_sub hl [1, 2, 3, 0] rfl)
            refine lv_if_eq (tgt := 58) hx hb dX7_isWrongType_45 (by decide) (fun h45 => ?_) (fun h45 => ?_)
            · skip
              have g45 : ¬ (cx_is (cx_Ar T n) t i27) := fun z => hp_42.1.2.mpr z h45
              exact J58 v27_l2 d_27 za_42 Z_1_27 (fun _ => kn_42) F_0_27 _ _ _ (by first | assumption | exact hKN) (by first | exact b27_2 | (try clear RET); (try clear hS); (try clear hl); (try clear hE); (try clear hts); (try clear hb); (try clear hx); (try clear hml); (try clear hown); (try clear hinX7); (try clear J24); (try clear J27); (try clear ih27); (try clear hN27); (try clear J64); (try clear J58); have y10 : ¬ (1 : Int32) = 0 := (by decide); first | assumption | ((try rw [cx_exS (P := fun u => cx_is (cx_Ar T n) t u ∧ cx_AF n k (T 0) (T 1) (T 2) (T 3) M (cx_Ur T) (cx_Wr T) (cx_Vr T) (cx_Ar T n) u)]); (try have y0 := @cx_ex0 (fun u => cx_is (cx_Ar T n) t u ∧ cx_AF n k (T 0) (T 1) (T 2) (T 3) M (cx_Ur T) (cx_Wr T) (cx_Vr T) (cx_Ar T n) u)); grind)) hS (lv_sub hl [0, 1, 2, 3] rfl)
            · skip
              have g45 : cx_is (cx_Ar T n) t i27 := hp_42.1.2.mp h45
              refine lv_aload_n hx hb dX7_isWrongType_48 rfl (lv_at hl 0 rfl) ?_
              refine lv_iload_n hx hb dX7_isWrongType_49 rfl (lv_at hl 3 rfl) ?_
              refine cx_cVv (As := [.int (nI i27)]) (rest := []) ⟨hx, hb, hml, hown, hts⟩ hE hS (c_X7_faultsOf l D q cI cZ n T k M d_27 (cx_u (cx_u (cx_u Z 1 Z_1_27) 0 za_42) 3 (fun _ => kn_42)) (cx_u F 0 F_0_27) i27 (by first | assumption | omega | rfl) (by first | assumption | omega | rfl) (by first | assumption | omega | rfl) (by first | assumption | omega | rfl) (by first | assumption | omega | rfl) (by first | assumption | omega | rfl) (by first | assumption | omega | rfl) (by first | assumption | omega | rfl) (by first | assumption | omega | rfl) (by first | assumption | omega | rfl) (by first | assumption | omega | rfl) (by first | assumption | omega | rfl) (by first | assumption | omega | rfl) (by first | assumption | omega | rfl) (by first | assumption | omega | rfl) (by first | assumption | omega | rfl)) (cwV 1 hts gX7_isWrongType_X7_faultsOf rfl rfl rfl (by decide +kernel) ⟨Nat.le_of_ble_eq_true rfl, Nat.le_of_ble_eq_true rfl⟩) 0 7 rfl rfl rfl hl.1 rfl (Nat.le_of_ble_eq_true rfl) ⟨Nat.zero_le _, Nat.zero_le _⟩ dX7_isWrongType_50 (fun u_50 H locs hp_50 hS => ?_)
              obtain ⟨za_50, kn_50, d1_50, fo_50, zf_50⟩ := u_50
              have hS : cx_S D vwCl A s (cyW q cI cZ n T k M d1_50 (cx_u (cx_u (cx_u Z 0 za_50) 3 (fun _ => kn_50)) 1 zf_50) (cx_u F 0 fo_50)) H locs := hS
              obtain ⟨hKN_50, hp_50⟩ := hp_50
              have hKN_50 : cx_KN n T za_50 kn_50 := hKN_50
              have hp_50 : cx_EE zf_50 ↔ cx_AF n k ((T 0)) ((T 1)) ((T 2)) ((T 3)) M (cx_Ur T) (cx_Wr T) (cx_Vr T) (cx_Ar T n) i27 := hp_50
              refine lv_aload_n hx hb dX7_isWrongType_53 rfl (lv_at hl 0 rfl) ?_
              refine cx_cVi (As := []) (rest := []) ⟨hx, hb, hml, hown, hts⟩ hE hS (c_X7_haveAny l D q cI cZ n T k M d1_50 (cx_u (cx_u (cx_u Z 0 za_50) 3 (fun _ => kn_50)) 1 zf_50) (cx_u F 0 fo_50)  ) (cwV 0 hts gX7_isWrongType_X7_haveAny rfl rfl rfl (by decide +kernel) ⟨Nat.le_of_ble_eq_true rfl, Nat.le_of_ble_eq_true rfl⟩) 0 7 rfl rfl rfl hl.1 rfl (Nat.le_of_ble_eq_true rfl) ⟨Nat.zero_le _, Nat.zero_le _⟩ dX7_isWrongType_54 (fun r_54 u_54 H locs hp_54 hS => ?_)
              have hp_54 : (r_54 = 0 ∨ r_54 = 1) ∧ (¬ r_54 = 0 ↔ cx_EE (zf_50)) := hp_54
              refine lv_istore_n (lv' := [(2, .int r_54), (0, .ref (q 0)), (1, .int (nI t)), (3, .int (nI i27))]) hx hb dX7_isWrongType_57 rfl hl (by decide) rfl (fun ls hl => ?_)
              exact J58 r_54 d1_50 za_50 zf_50 (fun _ => kn_50) fo_50 _ _ _ (by first | assumption | exact hKN) (by first | exact hp_54 | (try clear RET); (try clear hS); (try clear hl); (try clear hE); (try clear hts); (try clear hb); (try clear hx); (try clear hml); (try clear hown); (try clear hinX7); (try clear J24); (try clear J27); (try clear ih27); (try clear hN27); (try clear J64); (try clear J58); have y10 : ¬ (1 : Int32) = 0 := (by decide); first | assumption | ((try rw [cx_exS (P := fun u => cx_is (cx_Ar T n) t u ∧ cx_AF n k (T 0) (T 1) (T 2) (T 3) M (cx_Ur T) (cx_Wr T) (cx_Vr T) (cx_Ar T n) u)]); (try have y0 := @cx_ex0 (fun u => cx_is (cx_Ar T n) t u ∧ cx_AF n k (T 0) (T 1) (T 2) (T 3) M (cx_Ur T) (cx_Wr T) (cx_Vr T) (cx_Ar T n) u)); grind)) hS (lv_sub hl [1, 2, 0, 3] rfl)
    exact J27 (n - 0 + 1) v24_s0 0 d (Z 0) (Z 1) (Z 3) (F 0) _ _ _ (Nat.lt_succ_self _) (by (try clear g36); (try clear b27_2); omega) (by first | assumption | exact hKN) (by first | exact b24 | (try clear RET); (try clear hS); (try clear hl); (try clear hE); (try clear hts); (try clear hb); (try clear hx); (try clear hml); (try clear hown); (try clear hinX7); (try clear J24); (try clear J27); (try clear ih27); (try clear hN27); have y10 : ¬ (1 : Int32) = 0 := (by decide); first | assumption | ((try rw [cx_exS (P := fun u => cx_is (cx_Ar T n) t u ∧ cx_AF n k (T 0) (T 1) (T 2) (T 3) M (cx_Ur T) (cx_Wr T) (cx_Vr T) (cx_Ar T n) u)]); (try have y0 := @cx_ex0 (fun u => cx_is (cx_Ar T n) t u ∧ cx_AF n k (T 0) (T 1) (T 2) (T 3) M (cx_Ur T) (cx_Wr T) (cx_Vr T) (cx_Ar T n) u)); grind)) hS (lv_sub hl [2, 3, 1, 0] rfl)
  have J19 : ∀ (H : Heap) (locs : List Loc) (ls : Array Slot), (T 0 t = 1 ∨ cx_mk (T 1) t 1) → cx_S D vwCl A s (cyW q cI cZ n T k M d Z F) H locs → lv_has ls 4 [(0, .ref (q 0)), (1, .int (nI t))] → W p l e ({ frames := 7, cells := 0, slots := 0, locals := 164 } : Room) s m args below meth c H locs 0 0 Q (F0 m 19 ls []) := by
    intro  H locs ls f19 hS hl
    refine lv_iconst (v := (1 : Int32)) hx hb dX7_isWrongType_19 (by decide) ?_
    refine lv_goto (tgt := 24) hx hb dX7_isWrongType_20 (by decide) ?_
    exact J24 (1 : Int32) _ _ _ (cx_e1 (by (try clear RET); (try clear hS); (try clear hl); (try clear hE); (try clear hts); (try clear hb); (try clear hx); (try clear hml); (try clear hown); (try clear hinX7); (try clear J24); (try clear J19); have y10 : ¬ (1 : Int32) = 0 := (by decide); first | assumption | ((try rw [cx_exS (P := fun u => cx_is (cx_Ar T n) t u ∧ cx_AF n k (T 0) (T 1) (T 2) (T 3) M (cx_Ur T) (cx_Wr T) (cx_Vr T) (cx_Ar T n) u)]); (try have y0 := @cx_ex0 (fun u => cx_is (cx_Ar T n) t u ∧ cx_AF n k (T 0) (T 1) (T 2) (T 3) M (cx_Ur T) (cx_Wr T) (cx_Vr T) (cx_Ar T n) u)); grind))) hS (lv_sub hl [0, 1] rfl)
  refine lv_icmp_eq (tgt := 19) hx hb dX7_isWrongType_7 (by decide) (fun h7 => ?_) (fun h7 => ?_)
  · skip
    exact J19  _ _ _ (by (try clear RET); (try clear hS); (try clear hl); (try clear hE); (try clear hts); (try clear hb); (try clear hx); (try clear hml); (try clear hown); (try clear hinX7); (try clear J24); (try clear J19); have y10 : ¬ (1 : Int32) = 0 := (by decide); first | assumption | ((try rw [cx_exS (P := fun u => cx_is (cx_Ar T n) t u ∧ cx_AF n k (T 0) (T 1) (T 2) (T 3) M (cx_Ur T) (cx_Wr T) (cx_Vr T) (cx_Ar T n) u)]); (try have y0 := @cx_ex0 (fun u => cx_is (cx_Ar T n) t u ∧ cx_AF n k (T 0) (T 1) (T 2) (T 3) M (cx_Ur T) (cx_Wr T) (cx_Vr T) (cx_Ar T n) u)); grind)) hS (lv_sub hl [0, 1] rfl)
  · skip
    refine lv_aload_n hx hb dX7_isWrongType_10 rfl (lv_at hl 0 rfl) ?_
    refine lv_iload_n hx hb dX7_isWrongType_11 rfl (lv_at hl 1 rfl) ?_
    refine lv_iconst (v := (1 : Int32)) hx hb dX7_isWrongType_12 (by decide) ?_
    refine cx_cVi (As := [.int (nI t), .int (1 : Int32)]) (rest := []) ⟨hx, hb, hml, hown, hts⟩ hE hS (c_X7_marked l D q cI cZ n T k M d Z F t (1 : Int32) (by first | assumption | omega | rfl)) (cwV 2 hts gX7_isWrongType_X7_marked rfl rfl rfl (by decide +kernel) ⟨Nat.le_of_ble_eq_true rfl, Nat.le_of_ble_eq_true rfl⟩) 0 7 rfl rfl rfl hl.1 rfl (Nat.le_of_ble_eq_true rfl) ⟨Nat.zero_le _, Nat.zero_le _⟩ dX7_isWrongType_13 (fun r_13 u_13 H locs hp_13 hS => ?_)
    have hp_13 : (r_13 = 0 ∨ r_13 = 1) ∧ (¬ r_13 = 0 ↔ cx_mk ((T 1)) t (1 : Int32)) := hp_13
    refine lv_if_eq (tgt := 23) hx hb dX7_isWrongType_16 (by decide) (fun h16 => ?_) (fun h16 => ?_)
    · skip
      have g16 : ¬ (cx_mk ((T 1)) t (1 : Int32)) := fun z => hp_13.2.mpr z h16
      refine lv_iconst (v := (0 : Int32)) hx hb dX7_isWrongType_23 (by decide) ?_
      exact J24 (0 : Int32) _ _ _ (cx_e0 (by (try clear RET); (try clear hS); (try clear hl); (try clear hE); (try clear hts); (try clear hb); (try clear hx); (try clear hml); (try clear hown); (try clear hinX7); (try clear J24); (try clear J19); have y10 : ¬ (1 : Int32) = 0 := (by decide); first | assumption | ((try rw [cx_exS (P := fun u => cx_is (cx_Ar T n) t u ∧ cx_AF n k (T 0) (T 1) (T 2) (T 3) M (cx_Ur T) (cx_Wr T) (cx_Vr T) (cx_Ar T n) u)]); (try have y0 := @cx_ex0 (fun u => cx_is (cx_Ar T n) t u ∧ cx_AF n k (T 0) (T 1) (T 2) (T 3) M (cx_Ur T) (cx_Wr T) (cx_Vr T) (cx_Ar T n) u)); grind))) hS (lv_sub hl [0, 1] rfl)
    · skip
      have g16 : cx_mk ((T 1)) t (1 : Int32) := hp_13.2.mp h16
      exact J19  _ _ _ (by (try clear RET); (try clear hS); (try clear hl); (try clear hE); (try clear hts); (try clear hb); (try clear hx); (try clear hml); (try clear hown); (try clear hinX7); (try clear J24); (try clear J19); have y10 : ¬ (1 : Int32) = 0 := (by decide); first | assumption | ((try rw [cx_exS (P := fun u => cx_is (cx_Ar T n) t u ∧ cx_AF n k (T 0) (T 1) (T 2) (T 3) M (cx_Ur T) (cx_Wr T) (cx_Vr T) (cx_Ar T n) u)]); (try have y0 := @cx_ex0 (fun u => cx_is (cx_Ar T n) t u ∧ cx_AF n k (T 0) (T 1) (T 2) (T 3) M (cx_Ur T) (cx_Wr T) (cx_Vr T) (cx_Ar T n) u)); grind)) hS (lv_sub hl [0, 1] rfl)
set_option maxHeartbeats 4000000 in
set_option maxRecDepth 100000 in
theorem c_X7_running (l : Launch) (D : va_G) (q : Nat → Nat) (cI cZ : ClassId) (n : Nat) (T : Nat → Nat → Int32) (k : Nat) (M : Nat → Nat → Int32) (d : Nat) (Z : Nat → Nat → Int32) (F : Nat → Nat → Int32) (t : Nat) (nm : Int32) (pm : Int32) (hn : n ≤ 20) (hP : cx_P (T 3) 20) (hU : cx_R (T 4) 20) (hV : cx_R (T 5) 4) (hKN : cx_KN n T (Z 0) ((Z 3) 0)) (hO : cx_R (M 0) 20) (hk : k ≤ 80) (hOn : ∀ j, j < k → (M 0 j).toNatClampNeg < n) (hX : cx_R (M 4) 4) (ht : t < n) : cx_Mi l D vwCl [(cI, .int), (cZ, .boolean)] cx_NW yX7_running wsX7_running ({ frames := 5, cells := 0, slots := 0, locals := 115 } : Room) [.ref (q 0), .int (nI t), .int nm, .int pm] (cyW q cI cZ n T k M d Z F) (fun (r : Int32) (uw : (Nat → Int32) × (Int32) × (Nat) × (Nat → Int32)) => cx_KN n T uw.1 uw.2.1 ∧ ((∀ u, u < n → cx_is (cx_Ar T n) t u → ¬ (cx_Ar T n) u u) → ∃ r0 : Int32, cx_rn n k (T 0) (T 2) (T 3) M (cx_Ar T n) t nm pm r0 ∧ ((r0 = -1 ∧ r = (-3 : Int32)) ∨ (¬ r0 = -1 ∧ r = r0)))) (fun uw => (cyW q cI cZ n T k M uw.2.2.1 (cx_u (cx_u Z 0 uw.1) 3 (fun _ => uw.2.1)) (cx_u F 0 uw.2.2.2))) := by
  refine cx_Mi.of (cc := cX7_running) (maxL := 5) cx_NW_ok (by decide) rfl (Nat.le_of_ble_eq_true rfl) ?_
  intro p e s m args below meth c Q A ls hx hb hml hown hts hE RET hS hl
  have hl : lv_has ls 5 [(0, .ref (q 0)), (1, .int (nI t)), (2, .int nm), (3, .int pm)] := hl
  have hown : s.vm.findClass RX7 = some m.cls := hown
  have hinX7 : ∀ w ∈ u_ws RX7 TX7 22, w ∈ wsX7_running := cx_mem [53, 54, 55, 56, 57, 58, 59, 60, 61, 62, 63, 64, 65, 66, 67, 68, 69, 70, 71, 72, 73, 74] (by decide +kernel)
  refine lv_aload_n hx hb dX7_running_0 rfl (lv_at hl 0 rfl) ?_
  refine lv_iload_n hx hb dX7_running_1 rfl (lv_at hl 1 rfl) ?_
  refine lv_iload_n hx hb dX7_running_2 rfl (lv_at hl 2 rfl) ?_
  refine lv_iload_n hx hb dX7_running_3 rfl (lv_at hl 3 rfl) ?_
  refine cx_cVi (As := [.int (nI t), .int nm, .int pm]) (rest := []) ⟨hx, hb, hml, hown, hts⟩ hE hS (c_X7_classOne l D q cI cZ n T k M d Z F t nm pm (by first | assumption | omega | rfl) (by first | assumption | omega | rfl) (by first | assumption | omega | rfl) (by first | assumption | omega | rfl) (by first | assumption | omega | rfl) (by first | assumption | omega | rfl) (by first | assumption | omega | rfl) (by first | assumption | omega | rfl) (by first | assumption | omega | rfl) (by first | assumption | omega | rfl)) (cwV 3 hts gX7_running_X7_classOne rfl rfl rfl (by decide +kernel) ⟨Nat.le_of_ble_eq_true rfl, Nat.le_of_ble_eq_true rfl⟩) 0 7 rfl rfl rfl hl.1 rfl (Nat.le_of_ble_eq_true rfl) ⟨Nat.zero_le _, Nat.zero_le _⟩ dX7_running_4 (fun r_4 u_4 H locs hp_4 hS => ?_)
  obtain ⟨za_4, kn_4⟩ := u_4
  have hS : cx_S D vwCl A s (cyW q cI cZ n T k M d (cx_u (cx_u Z 0 za_4) 3 (fun _ => kn_4)) F) H locs := hS
  obtain ⟨hKN_4, hp_4⟩ := hp_4
  have hKN_4 : cx_KN n T za_4 kn_4 := hKN_4
  have hp_4 : (cx_co n k ((T 0)) ((T 2)) ((T 3)) M (cx_Ar T n) t nm pm r_4) ∧ (r_4 = -1 ∨ cx_ix r_4 80) := hp_4
  refine lv_istore (lv' := [(4, .int r_4), (0, .ref (q 0)), (1, .int (nI t)), (2, .int nm), (3, .int pm)]) hx hb dX7_running_7 hl (by decide) rfl (fun ls hl => ?_)
  refine lv_iload hx hb dX7_running_9 (lv_at hl 0 rfl) ?_
  refine lv_if_lt (tgt := 33) hx hb dX7_running_11 (by decide) (fun h11 => ?_) (fun h11 => ?_)
  · skip
    refine lv_aload_n hx hb dX7_running_33 rfl (lv_at hl 1 rfl) ?_
    refine lv_iload_n hx hb dX7_running_34 rfl (lv_at hl 2 rfl) ?_
    refine lv_iload_n hx hb dX7_running_35 rfl (lv_at hl 3 rfl) ?_
    refine lv_iload_n hx hb dX7_running_36 rfl (lv_at hl 4 rfl) ?_
    refine cx_cVv (As := [.int (nI t), .int nm, .int pm]) (rest := []) ⟨hx, hb, hml, hown, hts⟩ hE hS (c_X7_findFaceOnes l D q cI cZ n T k M d (cx_u (cx_u Z 0 za_4) 3 (fun _ => kn_4)) F t nm pm (by first | assumption | omega | rfl) (by first | assumption | omega | rfl) (by first | assumption | omega | rfl) (by first | assumption | omega | rfl) (by first | assumption | omega | rfl) (by first | assumption | omega | rfl) (by first | assumption | omega | rfl) (by first | assumption | omega | rfl) (by first | assumption | omega | rfl) (by first | assumption | omega | rfl)) (cwV 3 hts gX7_running_X7_findFaceOnes rfl rfl rfl (by decide +kernel) ⟨Nat.le_of_ble_eq_true rfl, Nat.le_of_ble_eq_true rfl⟩) 0 7 rfl rfl rfl hl.1 rfl (Nat.le_of_ble_eq_true rfl) ⟨Nat.zero_le _, Nat.zero_le _⟩ dX7_running_37 (fun u_37 H locs hp_37 hS => ?_)
    obtain ⟨za_37, kn_37, d1_37, fo_37⟩ := u_37
    have hS : cx_S D vwCl A s (cyW q cI cZ n T k M d1_37 (cx_u (cx_u Z 0 za_37) 3 (fun _ => kn_37)) (cx_u F 0 fo_37)) H locs := hS
    obtain ⟨hKN_37, hp_37⟩ := hp_37
    have hKN_37 : cx_KN n T za_37 kn_37 := hKN_37
    have hp_37 : (d1_37 ≤ 20 ∧ ∀ j, j < d1_37 → cx_ix (fo_37 j) 80) ∧ ((∀ u, u < n → cx_is (cx_Ar T n) t u → ¬ (cx_Ar T n) u u) → cx_LI (cx_fo k ((T 0)) M (cx_Ar T n) t nm pm) fo_37 d1_37) := hp_37
    have hd_37 := hp_37.1.1
    refine lv_aload_n hx hb dX7_running_40 rfl (lv_at hl 1 rfl) ?_
    refine cx_get (own := RX7) (index := 127) (C := RX7) (T := TX7) (N := 22) (k := 20) (ci := 7) (v := .int (nI d1_37)) hx hb hts hown hE hS hinX7 0 rfl rfl (by decide) (List.mem_of_getElem? (i := 1) rfl) rfl dX7_running_41 ?_
    refine lv_iconst (v := (1 : Int32)) hx hb dX7_running_44 (by decide) ?_
    have J75 : ∀ (v75_s0 : Int32) (H : Heap) (locs : List Loc) (ls : Array Slot), ((∀ u, u < n → cx_is (cx_Ar T n) t u → ¬ (cx_Ar T n) u u) → ∃ r0 : Int32, cx_rn n k (T 0) (T 2) (T 3) M (cx_Ar T n) t nm pm r0 ∧ ((r0 = -1 ∧ v75_s0 = (-3 : Int32)) ∨ (¬ r0 = -1 ∧ v75_s0 = r0))) → cx_S D vwCl A s (cyW q cI cZ n T k M d1_37 (cx_u (cx_u Z 0 za_37) 3 (fun _ => kn_37)) (cx_u F 0 fo_37)) H locs → lv_has ls 5 [(0, .ref (q 0)), (1, .int (nI t)), (2, .int nm), (3, .int pm), (4, .int r_4)] → W p l e ({ frames := 5, cells := 0, slots := 0, locals := 115 } : Room) s m args below meth c H locs 0 0 Q (F0 m 75 ls [.int v75_s0]) := by
      intro v75_s0 H locs ls h75 hS hl
      exact RET _ (za_37, kn_37, d1_37, fo_37) _ _ _ _ dX7_running_75 rfl (⟨(by first | assumption | exact hKN), h75⟩) hS
    have J73 : ∀ (H : Heap) (locs : List Loc) (ls : Array Slot), ((∀ u, u < n → cx_is (cx_Ar T n) t u → ¬ (cx_Ar T n) u u) → ∃ r0 : Int32, cx_rn n k (T 0) (T 2) (T 3) M (cx_Ar T n) t nm pm r0 ∧ ((r0 = -1 ∧ (-3 : Int32) = (-3 : Int32)) ∨ (¬ r0 = -1 ∧ (-3 : Int32) = r0))) → cx_S D vwCl A s (cyW q cI cZ n T k M d1_37 (cx_u (cx_u Z 0 za_37) 3 (fun _ => kn_37)) (cx_u F 0 fo_37)) H locs → lv_has ls 5 [(0, .ref (q 0)), (1, .int (nI t)), (2, .int nm), (3, .int pm), (4, .int r_4)] → W p l e ({ frames := 5, cells := 0, slots := 0, locals := 115 } : Room) s m args below meth c H locs 0 0 Q (F0 m 73 ls []) := by
      intro  H locs ls h73 hS hl
      refine lv_bipush (v := (-3 : Int32)) hx hb dX7_running_73 (by decide) ?_
      exact J75 (-3 : Int32) _ _ _ (by first | exact h73 | exact fun z => cx_rr4 hp_4 h11 (hp_37.2 z) g45 g61) hS (lv_sub hl [0, 1, 2, 3, 4] rfl)
    refine lv_icmp_ne (tgt := 73) hx hb dX7_running_45 (by decide) (fun h45 => ?_) (fun h45 => ?_)
    · skip
      have g45 : ¬ (d1_37 = 1) := fun z => h45 ((nI_eq (a := d1_37) (b := 1) (by omega) (by omega)).mpr z)
      exact J73  _ _ _ (by first | exact fun z => cx_rr3 hp_4 h11 (hp_37.2 z) (fun y => absurd y g45) | exact fun z => cx_rr3 hp_4 h11 (hp_37.2 z) (fun _ => g61)) hS (lv_sub hl [1, 2, 3, 4, 0] rfl)
    · skip
      have g45 : d1_37 = 1 := (nI_eq (a := d1_37) (b := 1) (by omega) (by omega)).mp h45
      refine lv_aload_n hx hb dX7_running_48 rfl (lv_at hl 1 rfl) ?_
      refine lv_aload_n hx hb dX7_running_49 rfl (lv_at hl 1 rfl) ?_
      refine cx_get (own := RX7) (index := 59) (C := RX7) (T := TX7) (N := 22) (k := 19) (ci := 7) (v := .ref (q 17)) hx hb hts hown hE hS hinX7 0 rfl rfl (by decide) (List.mem_of_getElem? (i := 2) rfl) rfl dX7_running_50 ?_
      refine lv_iconst (v := (0 : Int32)) hx hb dX7_running_53 (by decide) ?_
      refine cx_topr (z := nI 0) (by decide) ?_
      refine cx_iald (f := fo_37) (n := 20) (cA := cI) hx hb hE hS 17 0 rfl rfl (by omega) (by decide) dX7_running_54 ?_
      refine cx_topr (z := nI ((fo_37 0).toNatClampNeg)) (hp_37.1.2 _ (by omega)).1 ?_
      refine lv_iconst (v := (1 : Int32)) hx hb dX7_running_55 (by decide) ?_
      refine lv_bipush (v := nI 8) hx hb dX7_running_56 (by decide) ?_
      refine cx_cVi (As := [.int (nI ((fo_37 0).toNatClampNeg)), .int (1 : Int32), .int (nI 8)]) (rest := []) ⟨hx, hb, hml, hown, hts⟩ hE hS (c_X7_is_at_1 l D q cI cZ n T k M d1_37 (cx_u (cx_u Z 0 za_37) 3 (fun _ => kn_37)) (cx_u F 0 fo_37) ((fo_37 0).toNatClampNeg) (1 : Int32) (nI 8) ((hp_37.1.2 _ (by omega)).2) (by first | assumption | omega | rfl)) (cwV 3 hts gX7_running_X7_is rfl rfl rfl (by decide +kernel) ⟨Nat.le_of_ble_eq_true rfl, Nat.le_of_ble_eq_true rfl⟩) 0 7 rfl rfl rfl hl.1 rfl (Nat.le_of_ble_eq_true rfl) ⟨Nat.zero_le _, Nat.zero_le _⟩ dX7_running_58 (fun r_58 u_58 H locs hp_58 hS => ?_)
      have hp_58 : (r_58 = 0 ∨ r_58 = 1) ∧ (¬ r_58 = 0 ↔ cx_mk ((M 3)) ((fo_37 0).toNatClampNeg) (nI 8)) := hp_58
      refine lv_if_eq (tgt := 73) hx hb dX7_running_61 (by decide) (fun h61 => ?_) (fun h61 => ?_)
      · skip
        have g61 : ¬ (cx_mk ((M 3)) ((fo_37 0).toNatClampNeg) (nI 8)) := fun z => hp_58.2.mpr z h61
        exact J73  _ _ _ (by first | exact fun z => cx_rr3 hp_4 h11 (hp_37.2 z) (fun y => absurd y g45) | exact fun z => cx_rr3 hp_4 h11 (hp_37.2 z) (fun _ => g61)) hS (lv_sub hl [1, 2, 3, 4, 0] rfl)
      · skip
        have g61 : cx_mk ((M 3)) ((fo_37 0).toNatClampNeg) (nI 8) := hp_58.2.mp h61
        refine lv_aload_n hx hb dX7_running_64 rfl (lv_at hl 1 rfl) ?_
        refine cx_get (own := RX7) (index := 59) (C := RX7) (T := TX7) (N := 22) (k := 19) (ci := 7) (v := .ref (q 17)) hx hb hts hown hE hS hinX7 0 rfl rfl (by decide) (List.mem_of_getElem? (i := 2) rfl) rfl dX7_running_65 ?_
        refine lv_iconst (v := (0 : Int32)) hx hb dX7_running_68 (by decide) ?_
        refine cx_topr (z := nI 0) (by decide) ?_
        refine cx_iald (f := fo_37) (n := 20) (cA := cI) hx hb hE hS 17 0 rfl rfl (by omega) (by decide) dX7_running_69 ?_
        refine lv_goto (tgt := 75) hx hb dX7_running_70 (by decide) ?_
        exact J75 (fo_37 0) _ _ _ (by first | exact h73 | exact fun z => cx_rr4 hp_4 h11 (hp_37.2 z) g45 g61) hS (lv_sub hl [1, 2, 3, 4, 0] rfl)
  · skip
    refine lv_aload_n hx hb dX7_running_14 rfl (lv_at hl 1 rfl) ?_
    refine lv_iload hx hb dX7_running_15 (lv_at hl 0 rfl) ?_
    refine cx_topr (z := nI (r_4.toNatClampNeg)) (cx_pp hp_4.2 h11).1 ?_
    refine lv_iconst (v := (1 : Int32)) hx hb dX7_running_17 (by decide) ?_
    refine lv_iconst (v := (1 : Int32)) hx hb dX7_running_18 (by decide) ?_
    refine cx_cVi (As := [.int (nI (r_4.toNatClampNeg)), .int (1 : Int32), .int (1 : Int32)]) (rest := []) ⟨hx, hb, hml, hown, hts⟩ hE hS (c_X7_is_at_1 l D q cI cZ n T k M d (cx_u (cx_u Z 0 za_4) 3 (fun _ => kn_4)) F r_4.toNatClampNeg (1 : Int32) (1 : Int32) ((cx_pp hp_4.2 h11).2) (by first | assumption | omega | rfl)) (cwV 3 hts gX7_running_X7_is rfl rfl rfl (by decide +kernel) ⟨Nat.le_of_ble_eq_true rfl, Nat.le_of_ble_eq_true rfl⟩) 0 7 rfl rfl rfl hl.1 rfl (Nat.le_of_ble_eq_true rfl) ⟨Nat.zero_le _, Nat.zero_le _⟩ dX7_running_19 (fun r_19 u_19 H locs hp_19 hS => ?_)
    have hp_19 : (r_19 = 0 ∨ r_19 = 1) ∧ (¬ r_19 = 0 ↔ cx_mk ((M 3)) r_4.toNatClampNeg (1 : Int32)) := hp_19
    have J32 : ∀ (v32_s0 : Int32) (H : Heap) (locs : List Loc) (ls : Array Slot), (∃ r0 : Int32, cx_rn n k (T 0) (T 2) (T 3) M (cx_Ar T n) t nm pm r0 ∧ ((r0 = -1 ∧ v32_s0 = (-3 : Int32)) ∨ (¬ r0 = -1 ∧ v32_s0 = r0))) → cx_S D vwCl A s (cyW q cI cZ n T k M d (cx_u (cx_u Z 0 za_4) 3 (fun _ => kn_4)) F) H locs → lv_has ls 5 [(0, .ref (q 0)), (1, .int (nI t)), (2, .int nm), (3, .int pm), (4, .int r_4)] → W p l e ({ frames := 5, cells := 0, slots := 0, locals := 115 } : Room) s m args below meth c H locs 0 0 Q (F0 m 32 ls [.int v32_s0]) := by
      intro v32_s0 H locs ls h32 hS hl
      exact RET _ (za_4, kn_4, d, F 0) _ _ _ _ dX7_running_32 rfl (⟨(by first | assumption | exact hKN), (fun _ => h32)⟩) hS
    refine lv_if_eq (tgt := 30) hx hb dX7_running_22 (by decide) (fun h22 => ?_) (fun h22 => ?_)
    · skip
      have g22 : ¬ (cx_mk ((M 3)) r_4.toNatClampNeg (1 : Int32)) := fun z => hp_19.2.mpr z h22
      refine lv_iload hx hb dX7_running_30 (lv_at hl 0 rfl) ?_
      exact J32 r_4 _ _ _ (by first | exact cx_rr1 hp_4 h11 g22 | exact cx_rr2 hp_4 h11 g22) hS (lv_sub hl [1, 2, 3, 4, 0] rfl)
    · skip
      have g22 : cx_mk ((M 3)) r_4.toNatClampNeg (1 : Int32) := hp_19.2.mp h22
      refine lv_bipush (v := (-3 : Int32)) hx hb dX7_running_25 (by decide) ?_
      refine lv_goto (tgt := 32) hx hb dX7_running_27 (by decide) ?_
      exact J32 (-3 : Int32) _ _ _ (by first | exact cx_rr1 hp_4 h11 g22 | exact cx_rr2 hp_4 h11 g22) hS (lv_sub hl [1, 2, 3, 4, 0] rfl)
set_option maxHeartbeats 4000000 in
set_option maxRecDepth 100000 in
theorem c_X7_runs (l : Launch) (D : va_G) (q : Nat → Nat) (cI cZ : ClassId) (n : Nat) (T : Nat → Nat → Int32) (k : Nat) (M : Nat → Nat → Int32) (d : Nat) (Z : Nat → Nat → Int32) (F : Nat → Nat → Int32) (xa : Int32) (xb : Int32) (xe : Int32) (hn : n ≤ 20) (hP : cx_P (T 3) 20) (hU : cx_R (T 4) 20) (hV : cx_R (T 5) 4) (hKN : cx_KN n T (Z 0) ((Z 3) 0)) (hQ : cx_R (T 6) 20) (hW : cx_R (T 7) 4) (hO : cx_R (M 0) 20) (hk : k ≤ 80) (hOn : ∀ j, j < k → (M 0 j).toNatClampNeg < n) (hX : cx_R (M 4) 4) (hK0 : cx_R (T 0) 4) (hM5 : cx_R (M 5) 30) (hM1 : cx_R (M 1) 10) (hM2 : cx_R (M 2) 5) : cx_Mi l D vwCl [(cI, .int), (cZ, .boolean)] cx_NW yX7_runs wsX7_runs ({ frames := 8, cells := 0, slots := 0, locals := 187 } : Room) [.ref (q 0), .int xa, .int xb, .int xe] (cyW q cI cZ n T k M d Z F) (fun (r : Int32) (uw : (Nat → Int32) × (Int32) × (Nat) × (Nat → Int32) × (Nat → Int32)) => cx_KN n T uw.1 uw.2.1 ∧ ((¬ ((0 ≤ xa ∧ xa < nI n) ∧ (0 ≤ xb ∧ xb < nI 10) ∧ (0 ≤ xe ∧ xe < nI 5)) ∧ r = (-1 : Int32)) ∨ (((0 ≤ xa ∧ xa < nI n) ∧ (0 ≤ xb ∧ xb < nI 10) ∧ (0 ≤ xe ∧ xe < nI 5)) ∧ cx_WR n k (T 0) (T 1) (T 2) (T 3) M (cx_Ur T) (cx_Wr T) (cx_Vr T) (cx_Ar T n) (xa.toNatClampNeg) ∧ r = (-4 : Int32)) ∨ (((0 ≤ xa ∧ xa < nI n) ∧ (0 ≤ xb ∧ xb < nI 10) ∧ (0 ≤ xe ∧ xe < nI 5)) ∧ ¬ cx_WR n k (T 0) (T 1) (T 2) (T 3) M (cx_Ur T) (cx_Wr T) (cx_Vr T) (cx_Ar T n) (xa.toNatClampNeg) ∧ ∃ r0 : Int32, cx_rn n k (T 0) (T 2) (T 3) M (cx_Ar T n) (xa.toNatClampNeg) xb xe r0 ∧ ((r0 = -1 ∧ r = (-3 : Int32)) ∨ (¬ r0 = -1 ∧ r = r0))))) (fun uw => (cyW q cI cZ n T k M uw.2.2.1 (cx_u (cx_u (cx_u Z 0 uw.1) 3 (fun _ => uw.2.1)) 1 uw.2.2.2.2) (cx_u F 0 uw.2.2.2.1))) := by
  refine cx_Mi.of (cc := cX7_runs) (maxL := 4) cx_NW_ok (by decide) rfl (Nat.le_of_ble_eq_true rfl) ?_
  intro p e s m args below meth c Q A ls hx hb hml hown hts hE RET hS hl
  have hl : lv_has ls 4 [(0, .ref (q 0)), (1, .int xa), (2, .int xb), (3, .int xe)] := hl
  have hown : s.vm.findClass RX7 = some m.cls := hown
  refine lv_aload_n hx hb dX7_runs_0 rfl (lv_at hl 0 rfl) ?_
  refine lv_iload_n hx hb dX7_runs_1 rfl (lv_at hl 1 rfl) ?_
  refine cx_cVi (As := [.int xa]) (rest := []) ⟨hx, hb, hml, hown, hts⟩ hE hS (c_X7_isType l D q cI cZ n T k M d Z F xa (by first | assumption | omega | rfl)) (cwV 1 hts gX7_runs_X7_isType rfl rfl rfl (by decide +kernel) ⟨Nat.le_of_ble_eq_true rfl, Nat.le_of_ble_eq_true rfl⟩) 0 7 rfl rfl rfl hl.1 rfl (Nat.le_of_ble_eq_true rfl) ⟨Nat.zero_le _, Nat.zero_le _⟩ dX7_runs_2 (fun r_2 u_2 H locs hp_2 hS => ?_)
  have hp_2 : r_2 = cx_b (0 ≤ xa ∧ xa < nI n) := hp_2
  subst hp_2
  have J27 : ∀ (H : Heap) (locs : List Loc) (ls : Array Slot), (¬ ((0 ≤ xa ∧ xa < nI n) ∧ (0 ≤ xb ∧ xb < nI 10) ∧ (0 ≤ xe ∧ xe < nI 5))) → cx_S D vwCl A s (cyW q cI cZ n T k M d Z F) H locs → lv_has ls 4 [(0, .ref (q 0)), (1, .int xa), (2, .int xb), (3, .int xe)] → W p l e ({ frames := 8, cells := 0, slots := 0, locals := 187 } : Room) s m args below meth c H locs 0 0 Q (F0 m 27 ls []) := by
    intro  H locs ls hb27 hS hl
    refine lv_iconst (v := (-1 : Int32)) hx hb dX7_runs_27 (by decide) ?_
    exact RET _ (Z 0, (Z 3) 0, d, F 0, Z 1) _ _ _ _ dX7_runs_28 rfl (⟨(by first | assumption | exact hKN), Or.inl ⟨hb27, rfl⟩⟩) hS
  refine lv_if_eq (tgt := 27) hx hb dX7_runs_5 (by decide) (fun h5 => ?_) (fun h5 => ?_)
  · skip
    have g5 := cx_b0 h5
    exact J27  _ _ _ (by first | exact fun z => g5 z.1 | exact fun z => g15 ⟨z.2.1.1, (cx_leL _ 9 (by decide)).mpr z.2.1.2⟩ | exact fun z => g24 ⟨z.2.2.1, (cx_leL _ 4 (by decide)).mpr z.2.2.2⟩) hS (lv_sub hl [0, 1, 2, 3] rfl)
  · skip
    have g5 := cx_b1 h5
    have hq5 := (cx_ixT (by omega) g5).2
    refine lv_iload_n hx hb dX7_runs_8 rfl (lv_at hl 2 rfl) ?_
    refine lv_iconst (v := (0 : Int32)) hx hb dX7_runs_9 (by decide) ?_
    refine lv_bipush (v := nI 9) hx hb dX7_runs_10 (by decide) ?_
    refine cx_cSi (As := [.int xb, .int (0 : Int32), .int (nI 9)]) (rest := []) ⟨hx, hb, hml, hown, hts⟩ hE hS (c_X7_in l D [(cI, .int), (cZ, .boolean)] (cyW q cI cZ n T k M d Z F) xb (0 : Int32) (nI 9) ) (va_cwS 3 hts gX7_runs_X7_in rfl rfl rfl (by decide +kernel) ⟨Nat.le_of_ble_eq_true rfl, Nat.le_of_ble_eq_true rfl⟩) rfl hl.1 rfl (Nat.le_of_ble_eq_true rfl) ⟨Nat.zero_le _, Nat.zero_le _⟩ dX7_runs_12 (fun r_12 u_12 H locs hp_12 hS => ?_)
    have hp_12 : r_12 = cx_b ((0 : Int32) ≤ xb ∧ xb ≤ (nI 9)) := hp_12
    subst hp_12
    refine lv_if_eq (tgt := 27) hx hb dX7_runs_15 (by decide) (fun h15 => ?_) (fun h15 => ?_)
    · skip
      have g15 := cx_b0 h15
      exact J27  _ _ _ (by first | exact fun z => g5 z.1 | exact fun z => g15 ⟨z.2.1.1, (cx_leL _ 9 (by decide)).mpr z.2.1.2⟩ | exact fun z => g24 ⟨z.2.2.1, (cx_leL _ 4 (by decide)).mpr z.2.2.2⟩) hS (lv_sub hl [0, 1, 2, 3] rfl)
    · skip
      have g15 := cx_b1 h15
      refine lv_iload_n hx hb dX7_runs_18 rfl (lv_at hl 3 rfl) ?_
      refine lv_iconst (v := (0 : Int32)) hx hb dX7_runs_19 (by decide) ?_
      refine lv_iconst (v := nI 4) hx hb dX7_runs_20 (by decide) ?_
      refine cx_cSi (As := [.int xe, .int (0 : Int32), .int (nI 4)]) (rest := []) ⟨hx, hb, hml, hown, hts⟩ hE hS (c_X7_in l D [(cI, .int), (cZ, .boolean)] (cyW q cI cZ n T k M d Z F) xe (0 : Int32) (nI 4) ) (va_cwS 3 hts gX7_runs_X7_in rfl rfl rfl (by decide +kernel) ⟨Nat.le_of_ble_eq_true rfl, Nat.le_of_ble_eq_true rfl⟩) rfl hl.1 rfl (Nat.le_of_ble_eq_true rfl) ⟨Nat.zero_le _, Nat.zero_le _⟩ dX7_runs_21 (fun r_21 u_21 H locs hp_21 hS => ?_)
      have hp_21 : r_21 = cx_b ((0 : Int32) ≤ xe ∧ xe ≤ (nI 4)) := hp_21
      subst hp_21
      refine lv_if_ne (tgt := 29) hx hb dX7_runs_24 (by decide) (fun h24 => ?_) (fun h24 => ?_)
      · skip
        have g24 := cx_b1 h24
        refine lv_aload_n hx hb dX7_runs_29 rfl (lv_at hl 0 rfl) ?_
        refine lv_iload_n hx hb dX7_runs_30 rfl (lv_at hl 1 rfl) ?_
        refine cx_topr (z := nI (xa.toNatClampNeg)) (cx_ixT (by omega) g5).1 ?_
        refine cx_cVi (As := [.int (nI (xa.toNatClampNeg))]) (rest := []) ⟨hx, hb, hml, hown, hts⟩ hE hS (c_X7_isWrongType l D q cI cZ n T k M d Z F xa.toNatClampNeg (by first | assumption | omega | rfl) (by first | assumption | omega | rfl) (by first | assumption | omega | rfl) (by first | assumption | omega | rfl) (by first | assumption | omega | rfl) (by first | assumption | omega | rfl) (by first | assumption | omega | rfl) (by first | assumption | omega | rfl) (by first | assumption | omega | rfl) (by first | assumption | omega | rfl) (by first | assumption | omega | rfl) (by first | assumption | omega | rfl) (by first | assumption | omega | rfl) (by first | assumption | omega | rfl) (by first | assumption | omega | rfl) hq5) (cwV 1 hts gX7_runs_X7_isWrongType rfl rfl rfl (by decide +kernel) ⟨Nat.le_of_ble_eq_true rfl, Nat.le_of_ble_eq_true rfl⟩) 0 7 rfl rfl rfl hl.1 rfl (Nat.le_of_ble_eq_true rfl) ⟨Nat.zero_le _, Nat.zero_le _⟩ dX7_runs_31 (fun r_31 u_31 H locs hp_31 hS => ?_)
        obtain ⟨za_31, kn_31, d1_31, fo_31, zf_31⟩ := u_31
        have hS : cx_S D vwCl A s (cyW q cI cZ n T k M d1_31 (cx_u (cx_u (cx_u Z 0 za_31) 3 (fun _ => kn_31)) 1 zf_31) (cx_u F 0 fo_31)) H locs := hS
        obtain ⟨hKN_31, hp_31⟩ := hp_31
        have hKN_31 : cx_KN n T za_31 kn_31 := hKN_31
        have hp_31 : (r_31 = 0 ∨ r_31 = 1) ∧ (¬ r_31 = 0 ↔ cx_WR n k ((T 0)) ((T 1)) ((T 2)) ((T 3)) M (cx_Ur T) (cx_Wr T) (cx_Vr T) (cx_Ar T n) xa.toNatClampNeg) := hp_31
        have J49 : ∀ (v49_s0 : Int32) (d_49 : Nat) (Z_0_49 : Nat → Int32) (Z_3_49 : Nat → Int32) (F_0_49 : Nat → Int32) (H : Heap) (locs : List Loc) (ls : Array Slot), (cx_KN n T Z_0_49 (Z_3_49 0)) → ((¬ ((0 ≤ xa ∧ xa < nI n) ∧ (0 ≤ xb ∧ xb < nI 10) ∧ (0 ≤ xe ∧ xe < nI 5)) ∧ v49_s0 = (-1 : Int32)) ∨ (((0 ≤ xa ∧ xa < nI n) ∧ (0 ≤ xb ∧ xb < nI 10) ∧ (0 ≤ xe ∧ xe < nI 5)) ∧ cx_WR n k (T 0) (T 1) (T 2) (T 3) M (cx_Ur T) (cx_Wr T) (cx_Vr T) (cx_Ar T n) (xa.toNatClampNeg) ∧ v49_s0 = (-4 : Int32)) ∨ (((0 ≤ xa ∧ xa < nI n) ∧ (0 ≤ xb ∧ xb < nI 10) ∧ (0 ≤ xe ∧ xe < nI 5)) ∧ ¬ cx_WR n k (T 0) (T 1) (T 2) (T 3) M (cx_Ur T) (cx_Wr T) (cx_Vr T) (cx_Ar T n) (xa.toNatClampNeg) ∧ ∃ r0 : Int32, cx_rn n k (T 0) (T 2) (T 3) M (cx_Ar T n) (xa.toNatClampNeg) xb xe r0 ∧ ((r0 = -1 ∧ v49_s0 = (-3 : Int32)) ∨ (¬ r0 = -1 ∧ v49_s0 = r0)))) → cx_S D vwCl A s (cyW q cI cZ n T k M d_49 (cx_u (cx_u (cx_u Z 1 zf_31) 0 Z_0_49) 3 Z_3_49) (cx_u F 0 F_0_49)) H locs → lv_has ls 4 [(0, .ref (q 0)), (1, .int xa), (2, .int xb), (3, .int xe)] → W p l e ({ frames := 8, cells := 0, slots := 0, locals := 187 } : Room) s m args below meth c H locs 0 0 Q (F0 m 49 ls [.int v49_s0]) := by
          intro v49_s0 d_49 Z_0_49 Z_3_49 F_0_49 H locs ls hKN49 h49 hS hl
          exact RET _ (Z_0_49, Z_3_49 0, d_49, F_0_49, zf_31) _ _ _ _ dX7_runs_49 rfl (⟨(by first | assumption | exact hKN), h49⟩) hS
        refine lv_if_eq (tgt := 42) hx hb dX7_runs_34 (by decide) (fun h34 => ?_) (fun h34 => ?_)
        · skip
          have g34 : ¬ (cx_WR n k ((T 0)) ((T 1)) ((T 2)) ((T 3)) M (cx_Ur T) (cx_Wr T) (cx_Vr T) (cx_Ar T n) xa.toNatClampNeg) := fun z => hp_31.2.mpr z h34
          refine lv_aload_n hx hb dX7_runs_42 rfl (lv_at hl 0 rfl) ?_
          refine lv_iload_n hx hb dX7_runs_43 rfl (lv_at hl 1 rfl) ?_
          refine cx_topr (z := nI (xa.toNatClampNeg)) (cx_ixT (by omega) g5).1 ?_
          refine lv_iload_n hx hb dX7_runs_44 rfl (lv_at hl 2 rfl) ?_
          refine lv_iload_n hx hb dX7_runs_45 rfl (lv_at hl 3 rfl) ?_
          refine cx_cVi (As := [.int (nI (xa.toNatClampNeg)), .int xb, .int xe]) (rest := []) ⟨hx, hb, hml, hown, hts⟩ hE hS (c_X7_running l D q cI cZ n T k M d1_31 (cx_u (cx_u (cx_u Z 0 za_31) 3 (fun _ => kn_31)) 1 zf_31) (cx_u F 0 fo_31) xa.toNatClampNeg xb xe (by first | assumption | omega | rfl) (by first | assumption | omega | rfl) (by first | assumption | omega | rfl) (by first | assumption | omega | rfl) (by first | assumption | omega | rfl) (by first | assumption | omega | rfl) (by first | assumption | omega | rfl) (by first | assumption | omega | rfl) (by first | assumption | omega | rfl) hq5) (cwV 3 hts gX7_runs_X7_running rfl rfl rfl (by decide +kernel) ⟨Nat.le_of_ble_eq_true rfl, Nat.le_of_ble_eq_true rfl⟩) 0 7 rfl rfl rfl hl.1 rfl (Nat.le_of_ble_eq_true rfl) ⟨Nat.zero_le _, Nat.zero_le _⟩ dX7_runs_46 (fun r_46 u_46 H locs hp_46 hS => ?_)
          obtain ⟨za_46, kn_46, d1_46, fo_46⟩ := u_46
          have hS : cx_S D vwCl A s (cyW q cI cZ n T k M d1_46 (cx_u (cx_u (cx_u Z 1 zf_31) 0 za_46) 3 (fun _ => kn_46)) (cx_u F 0 fo_46)) H locs := hS
          obtain ⟨hKN_46, hp_46⟩ := hp_46
          have hKN_46 : cx_KN n T za_46 kn_46 := hKN_46
          have hp_46 : (∀ u, u < n → cx_is (cx_Ar T n) xa.toNatClampNeg u → ¬ (cx_Ar T n) u u) → ∃ r0 : Int32, cx_rn n k ((T 0)) ((T 2)) ((T 3)) M (cx_Ar T n) xa.toNatClampNeg xb xe r0 ∧ ((r0 = -1 ∧ r_46 = (-3 : Int32)) ∨ (¬ r0 = -1 ∧ r_46 = r0)) := hp_46
          exact J49 r_46 d1_46 za_46 (fun _ => kn_46) fo_46 _ _ _ (by first | assumption | exact hKN) (by first | exact Or.inr (Or.inl ⟨⟨g5, ⟨g15.1, (cx_leL _ 9 (by decide)).mp g15.2⟩, ⟨g24.1, (cx_leL _ 4 (by decide)).mp g24.2⟩⟩, g34, rfl⟩) | exact Or.inr (Or.inr ⟨⟨g5, ⟨g15.1, (cx_leL _ 9 (by decide)).mp g15.2⟩, ⟨g24.1, (cx_leL _ 4 (by decide)).mp g24.2⟩⟩, g34, hp_46 (cx_nrW g34)⟩)) hS (lv_sub hl [0, 1, 2, 3] rfl)
        · skip
          have g34 : cx_WR n k ((T 0)) ((T 1)) ((T 2)) ((T 3)) M (cx_Ur T) (cx_Wr T) (cx_Vr T) (cx_Ar T n) xa.toNatClampNeg := hp_31.2.mp h34
          refine lv_bipush (v := (-4 : Int32)) hx hb dX7_runs_37 (by decide) ?_
          refine lv_goto (tgt := 49) hx hb dX7_runs_39 (by decide) ?_
          exact J49 (-4 : Int32) d1_31 za_31 (fun _ => kn_31) fo_31 _ _ _ (by first | assumption | exact hKN) (by first | exact Or.inr (Or.inl ⟨⟨g5, ⟨g15.1, (cx_leL _ 9 (by decide)).mp g15.2⟩, ⟨g24.1, (cx_leL _ 4 (by decide)).mp g24.2⟩⟩, g34, rfl⟩) | exact Or.inr (Or.inr ⟨⟨g5, ⟨g15.1, (cx_leL _ 9 (by decide)).mp g15.2⟩, ⟨g24.1, (cx_leL _ 4 (by decide)).mp g24.2⟩⟩, g34, hp_46 (cx_nrW g34)⟩)) hS (lv_sub hl [0, 1, 2, 3] rfl)
      · skip
        have g24 := cx_b0 h24
        exact J27  _ _ _ (by first | exact fun z => g5 z.1 | exact fun z => g15 ⟨z.2.1.1, (cx_leL _ 9 (by decide)).mpr z.2.1.2⟩ | exact fun z => g24 ⟨z.2.2.1, (cx_leL _ 4 (by decide)).mpr z.2.2.2⟩) hS (lv_sub hl [0, 1, 2, 3] rfl)
set_option maxHeartbeats 4000000 in
set_option maxRecDepth 100000 in
theorem c_X7_mayTake (l : Launch) (D : va_G) (q : Nat → Nat) (cI cZ : ClassId) (n : Nat) (T : Nat → Nat → Int32) (k : Nat) (M : Nat → Nat → Int32) (d : Nat) (Z : Nat → Nat → Int32) (F : Nat → Nat → Int32) (mm : Nat) (hO : cx_R (M 0) 20) (hm : mm < 80) : cx_Mi l D vwCl [(cI, .int), (cZ, .boolean)] cx_NW yX7_mayTake wsX7_mayTake ({ frames := 1, cells := 0, slots := 0, locals := 23 } : Room) [.ref (q 0), .int (nI mm)] (cyW q cI cZ n T k M d Z F) (fun (r : Int32) (uw : Unit) => r = 0 ∨ r = 1) (fun _ => (cyW q cI cZ n T k M d Z F)) := by
  refine cx_Mi.of (cc := cX7_mayTake) (maxL := 2) cx_NW_ok (by decide) rfl (Nat.le_of_ble_eq_true rfl) ?_
  intro p e s m args below meth c Q A ls hx hb hml hown hts hE RET hS hl
  have hl : lv_has ls 2 [(0, .ref (q 0)), (1, .int (nI mm))] := hl
  have hown : s.vm.findClass RX7 = some m.cls := hown
  have hinX7 : ∀ w ∈ u_ws RX7 TX7 22, w ∈ wsX7_mayTake := cx_mem [10, 11, 12, 13, 14, 15, 16, 17, 18, 19, 20, 21, 22, 23, 24, 25, 26, 27, 28, 29, 30, 31] (by decide +kernel)
  refine lv_aload_n hx hb dX7_mayTake_0 rfl (lv_at hl 0 rfl) ?_
  refine lv_iload_n hx hb dX7_mayTake_1 rfl (lv_at hl 1 rfl) ?_
  refine lv_iconst (v := (0 : Int32)) hx hb dX7_mayTake_2 (by decide) ?_
  refine lv_iconst (v := nI 4) hx hb dX7_mayTake_3 (by decide) ?_
  refine cx_cVi (As := [.int (nI mm), .int (0 : Int32), .int (nI 4)]) (rest := []) ⟨hx, hb, hml, hown, hts⟩ hE hS (c_X7_is_at_0 l D q cI cZ n T k M d Z F mm (0 : Int32) (nI 4) (by first | assumption | omega | rfl) (by first | assumption | omega | rfl)) (cwV 3 hts gX7_mayTake_X7_is rfl rfl rfl (by decide +kernel) ⟨Nat.le_of_ble_eq_true rfl, Nat.le_of_ble_eq_true rfl⟩) 0 7 rfl rfl rfl hl.1 rfl (Nat.le_of_ble_eq_true rfl) ⟨Nat.zero_le _, Nat.zero_le _⟩ dX7_mayTake_4 (fun r_4 u_4 H locs hp_4 hS => ?_)
  have hp_4 : (r_4 = 0 ∨ r_4 = 1) ∧ (¬ r_4 = 0 ↔ ¬ cx_mk ((M 3)) mm (nI 4)) := hp_4
  have J39 : ∀ (v39_s0 : Int32) (H : Heap) (locs : List Loc) (ls : Array Slot), (v39_s0 = 0 ∨ v39_s0 = 1) → cx_S D vwCl A s (cyW q cI cZ n T k M d Z F) H locs → lv_has ls 2 [(0, .ref (q 0)), (1, .int (nI mm))] → W p l e ({ frames := 1, cells := 0, slots := 0, locals := 23 } : Room) s m args below meth c H locs 0 0 Q (F0 m 39 ls [.int v39_s0]) := by
    intro v39_s0 H locs ls hb39 hS hl
    exact RET _ () _ _ _ _ dX7_mayTake_39 (cx_nb (by first | assumption | exact cx_bb)) (by first | exact Or.inl rfl | exact Or.inr rfl | assumption | exact cx_bb) hS
  have J38 : ∀ (H : Heap) (locs : List Loc) (ls : Array Slot), cx_S D vwCl A s (cyW q cI cZ n T k M d Z F) H locs → lv_has ls 2 [(0, .ref (q 0)), (1, .int (nI mm))] → W p l e ({ frames := 1, cells := 0, slots := 0, locals := 23 } : Room) s m args below meth c H locs 0 0 Q (F0 m 38 ls []) := by
    intro  H locs ls  hS hl
    refine lv_iconst (v := (0 : Int32)) hx hb dX7_mayTake_38 (by decide) ?_
    exact J39 (0 : Int32) _ _ _ (by first | exact Or.inl rfl | exact Or.inr rfl | assumption | exact cx_bb) hS (lv_sub hl [0, 1] rfl)
  refine lv_if_eq (tgt := 38) hx hb dX7_mayTake_7 (by decide) (fun h7 => ?_) (fun h7 => ?_)
  · skip
    have g7 : ¬ (¬ cx_mk ((M 3)) mm (nI 4)) := fun z => hp_4.2.mpr z h7
    exact J38  _ _ _  hS (lv_sub hl [0, 1] rfl)
  · skip
    have g7 : ¬ cx_mk ((M 3)) mm (nI 4) := hp_4.2.mp h7
    refine lv_aload_n hx hb dX7_mayTake_10 rfl (lv_at hl 0 rfl) ?_
    refine cx_get (own := RX7) (index := 46) (C := RX7) (T := TX7) (N := 22) (k := 14) (ci := 7) (v := .ref (q 13)) hx hb hts hown hE hS hinX7 0 rfl rfl (by decide) (List.mem_of_getElem? (i := 1) rfl) rfl dX7_mayTake_11 ?_
    refine lv_iload_n hx hb dX7_mayTake_14 rfl (lv_at hl 1 rfl) ?_
    refine cx_iald (f := (M 4)) (n := 80) (cA := cI) hx hb hE hS 13 0 rfl rfl (by omega) (by decide) dX7_mayTake_15 ?_
    refine lv_if_le (tgt := 38) hx hb dX7_mayTake_16 (by decide) (fun h16 => ?_) (fun h16 => ?_)
    · skip
      exact J38  _ _ _  hS (lv_sub hl [0, 1] rfl)
    · skip
      refine lv_aload_n hx hb dX7_mayTake_19 rfl (lv_at hl 0 rfl) ?_
      refine cx_get (own := RX7) (index := 7) (C := RX7) (T := TX7) (N := 22) (k := 1) (ci := 7) (v := .ref (q 1)) hx hb hts hown hE hS hinX7 0 rfl rfl (by decide) (List.mem_of_getElem? (i := 2) rfl) rfl dX7_mayTake_20 ?_
      refine lv_aload_n hx hb dX7_mayTake_23 rfl (lv_at hl 0 rfl) ?_
      refine cx_get (own := RX7) (index := 34) (C := RX7) (T := TX7) (N := 22) (k := 10) (ci := 7) (v := .ref (q 9)) hx hb hts hown hE hS hinX7 0 rfl rfl (by decide) (List.mem_of_getElem? (i := 3) rfl) rfl dX7_mayTake_24 ?_
      refine lv_iload_n hx hb dX7_mayTake_27 rfl (lv_at hl 1 rfl) ?_
      refine cx_iald (f := (M 0)) (n := 80) (cA := cI) hx hb hE hS 9 0 rfl rfl (by omega) (by decide) dX7_mayTake_28 ?_
      have ho28 := (hO mm).2
      refine cx_topr (z := nI (((M 0) mm).toNatClampNeg)) (hO mm).1 ?_
      refine cx_iald (f := (T 0)) (n := 20) (cA := cI) hx hb hE hS 1 0 rfl rfl (by omega) (by decide) dX7_mayTake_29 ?_
      refine lv_iconst (v := (1 : Int32)) hx hb dX7_mayTake_30 (by decide) ?_
      refine lv_icmp_eq (tgt := 38) hx hb dX7_mayTake_31 (by decide) (fun h31 => ?_) (fun h31 => ?_)
      · skip
        exact J38  _ _ _  hS (lv_sub hl [0, 1] rfl)
      · skip
        refine lv_iconst (v := (1 : Int32)) hx hb dX7_mayTake_34 (by decide) ?_
        refine lv_goto (tgt := 39) hx hb dX7_mayTake_35 (by decide) ?_
        exact J39 (1 : Int32) _ _ _ (by first | exact Or.inl rfl | exact Or.inr rfl | assumption | exact cx_bb) hS (lv_sub hl [0, 1] rfl)
set_option maxHeartbeats 4000000 in
set_option maxRecDepth 100000 in
theorem c_X7_findTaking (l : Launch) (D : va_G) (q : Nat → Nat) (cI cZ : ClassId) (n : Nat) (T : Nat → Nat → Int32) (k : Nat) (M : Nat → Nat → Int32) (d : Nat) (Z : Nat → Nat → Int32) (F : Nat → Nat → Int32) (lk : Nat) (hO : cx_R (M 0) 20) (hk : k ≤ 80) (hlk : lk < 80) : cx_Mv l D vwCl [(cI, .int), (cZ, .boolean)] cx_NW yX7_findTaking wsX7_findTaking ({ frames := 2, cells := 0, slots := 0, locals := 44 } : Room) [.ref (q 0), .int (nI lk)] (cyW q cI cZ n T k M d Z F) (fun (uw : (Nat → Int32)) => True) (fun uw => (cyW q cI cZ n T k M d (cx_u Z 2 uw) F)) := by
  refine cx_Mv.of (cc := cX7_findTaking) (maxL := 5) cx_NW_ok (by decide) rfl (Nat.le_of_ble_eq_true rfl) ?_
  intro p e s m args below meth c Q A ls hx hb hml hown hts hE RET hS hl
  have hl : lv_has ls 5 [(0, .ref (q 0)), (1, .int (nI lk))] := hl
  have hown : s.vm.findClass RX7 = some m.cls := hown
  have hinX7 : ∀ w ∈ u_ws RX7 TX7 22, w ∈ wsX7_findTaking := cx_mem [24, 25, 26, 27, 28, 29, 30, 31, 32, 33, 34, 35, 36, 37, 38, 39, 40, 41, 42, 43, 44, 45] (by decide +kernel)
  refine lv_iconst (v := (0 : Int32)) hx hb dX7_findTaking_0 (by decide) ?_
  refine cx_topr (z := nI 0) (by decide) ?_
  refine lv_istore_n (lv' := [(2, .int (nI 0)), (0, .ref (q 0)), (1, .int (nI lk))]) hx hb dX7_findTaking_1 rfl hl (by decide) rfl (fun ls hl => ?_)
  have J2 : ∀ (N : Nat) (i2 : Nat) (Z_2_2 : Nat → Int32) (H : Heap) (locs : List Loc) (ls : Array Slot), (k - i2 < N) → (i2 ≤ k) → cx_S D vwCl A s (cyW q cI cZ n T k M d (cx_u Z 2 Z_2_2) F) H locs → lv_has ls 5 [(0, .ref (q 0)), (1, .int (nI lk)), (2, .int (nI i2))] → W p l e ({ frames := 2, cells := 0, slots := 0, locals := 44 } : Room) s m args below meth c H locs 0 0 Q (F0 m 2 ls []) := by
    intro N2
    induction N2 with
    | zero => intro i2 Z_2_2 H locs ls hN; exact absurd hN (by omega)
    | succ N2 ih2 =>
      intro i2 Z_2_2 H locs ls hN2 hi2 hS hl
      refine lv_iload_n hx hb dX7_findTaking_2 rfl (lv_at hl 2 rfl) ?_
      refine lv_aload_n hx hb dX7_findTaking_3 rfl (lv_at hl 0 rfl) ?_
      refine cx_get (own := RX7) (index := 81) (C := RX7) (T := TX7) (N := 22) (k := 9) (ci := 7) (v := .int (nI k)) hx hb hts hown hE hS hinX7 0 rfl rfl (by decide) (List.mem_of_getElem? (i := 1) rfl) rfl dX7_findTaking_4 ?_
      refine lv_icmp_ge (tgt := 168) hx hb dX7_findTaking_7 (by decide) (fun h7 => ?_) (fun h7 => ?_)
      · skip
        have g7 : k ≤ i2 := (nI_leI (a := k) (b := i2) (by omega) (by omega)).mp h7
        refine lv_iconst (v := (0 : Int32)) hx hb dX7_findTaking_168 (by decide) ?_
        refine cx_topr (z := nI 0) (by decide) ?_
        refine lv_istore_n (lv' := [(2, .int (nI 0)), (0, .ref (q 0)), (1, .int (nI lk))]) hx hb dX7_findTaking_169 rfl hl (by decide) rfl (fun ls hl => ?_)
        have J170 : ∀ (N : Nat) (i170 : Nat) (Z_2_170 : Nat → Int32) (H : Heap) (locs : List Loc) (ls : Array Slot), (k - i170 < N) → (i170 ≤ k) → cx_S D vwCl A s (cyW q cI cZ n T k M d (cx_u Z 2 Z_2_170) F) H locs → lv_has ls 5 [(0, .ref (q 0)), (1, .int (nI lk)), (2, .int (nI i170))] → W p l e ({ frames := 2, cells := 0, slots := 0, locals := 44 } : Room) s m args below meth c H locs 0 0 Q (F0 m 170 ls []) := by
          intro N170
          induction N170 with
          | zero => intro i170 Z_2_170 H locs ls hN; exact absurd hN (by omega)
          | succ N170 ih170 =>
            intro i170 Z_2_170 H locs ls hN170 hi170 hS hl
            refine lv_iload_n hx hb dX7_findTaking_170 rfl (lv_at hl 2 rfl) ?_
            refine lv_aload_n hx hb dX7_findTaking_171 rfl (lv_at hl 0 rfl) ?_
            refine cx_get (own := RX7) (index := 81) (C := RX7) (T := TX7) (N := 22) (k := 9) (ci := 7) (v := .int (nI k)) hx hb hts hown hE hS hinX7 0 rfl rfl (by decide) (List.mem_of_getElem? (i := 1) rfl) rfl dX7_findTaking_172 ?_
            refine lv_icmp_ge (tgt := 279) hx hb dX7_findTaking_175 (by decide) (fun h175 => ?_) (fun h175 => ?_)
            · skip
              have g175 : k ≤ i170 := (nI_leI (a := k) (b := i170) (by omega) (by omega)).mp h175
              exact RET (Z_2_170) _ _ _ _ dX7_findTaking_279 trivial hS
            · skip
              have g175 : ¬ (k ≤ i170) := fun z => h175 ((nI_leI (a := k) (b := i170) (by omega) (by omega)).mpr z)
              refine lv_iconst (v := (0 : Int32)) hx hb dX7_findTaking_178 (by decide) ?_
              refine cx_topr (z := nI 0) (by decide) ?_
              refine lv_istore_n (lv' := [(3, .int (nI 0)), (0, .ref (q 0)), (1, .int (nI lk)), (2, .int (nI i170))]) hx hb dX7_findTaking_179 rfl hl (by decide) rfl (fun ls hl => ?_)
              have J180 : ∀ (N : Nat) (i180 : Nat) (Z_2_180 : Nat → Int32) (H : Heap) (locs : List Loc) (ls : Array Slot), (k - i180 < N) → (i180 ≤ k) → cx_S D vwCl A s (cyW q cI cZ n T k M d (cx_u Z 2 Z_2_180) F) H locs → lv_has ls 5 [(0, .ref (q 0)), (1, .int (nI lk)), (2, .int (nI i170)), (3, .int (nI i180))] → W p l e ({ frames := 2, cells := 0, slots := 0, locals := 44 } : Room) s m args below meth c H locs 0 0 Q (F0 m 180 ls []) := by
                intro N180
                induction N180 with
                | zero => intro i180 Z_2_180 H locs ls hN; exact absurd hN (by omega)
                | succ N180 ih180 =>
                  intro i180 Z_2_180 H locs ls hN180 hi180 hS hl
                  refine lv_iload_n hx hb dX7_findTaking_180 rfl (lv_at hl 3 rfl) ?_
                  refine lv_aload_n hx hb dX7_findTaking_181 rfl (lv_at hl 0 rfl) ?_
                  refine cx_get (own := RX7) (index := 81) (C := RX7) (T := TX7) (N := 22) (k := 9) (ci := 7) (v := .int (nI k)) hx hb hts hown hE hS hinX7 0 rfl rfl (by decide) (List.mem_of_getElem? (i := 1) rfl) rfl dX7_findTaking_182 ?_
                  refine lv_icmp_ge (tgt := 273) hx hb dX7_findTaking_185 (by decide) (fun h185 => ?_) (fun h185 => ?_)
                  · skip
                    have g185 : k ≤ i180 := (nI_leI (a := k) (b := i180) (by omega) (by omega)).mp h185
                    refine lv_iinc (v := nI (i170 + 1)) (lv' := [(2, .int (nI (i170 + 1))), (0, .ref (q 0)), (1, .int (nI lk)), (3, .int (nI i180))]) hx hb dX7_findTaking_273 hl (k := 2) rfl (cx_inc _) (by decide) rfl (fun ls hl => ?_)
                    refine lv_goto (tgt := 170) hx hb dX7_findTaking_276 (by decide) ?_
                    exact ih170 (i170 + 1) Z_2_180 _ _ _ (by omega) (by omega) hS (lv_sub hl [1, 2, 0] rfl)
                  · skip
                    have g185 : ¬ (k ≤ i180) := fun z => h185 ((nI_leI (a := k) (b := i180) (by omega) (by omega)).mpr z)
                    refine lv_iconst (v := (0 : Int32)) hx hb dX7_findTaking_188 (by decide) ?_
                    refine cx_topr (z := nI 0) (by decide) ?_
                    refine lv_istore (lv' := [(4, .int (nI 0)), (0, .ref (q 0)), (1, .int (nI lk)), (2, .int (nI i170)), (3, .int (nI i180))]) hx hb dX7_findTaking_189 hl (by decide) rfl (fun ls hl => ?_)
                    have J191 : ∀ (N : Nat) (i191 : Nat) (Z_2_191 : Nat → Int32) (H : Heap) (locs : List Loc) (ls : Array Slot), (k - i191 < N) → (i191 ≤ k) → cx_S D vwCl A s (cyW q cI cZ n T k M d (cx_u Z 2 Z_2_191) F) H locs → lv_has ls 5 [(0, .ref (q 0)), (1, .int (nI lk)), (2, .int (nI i170)), (3, .int (nI i180)), (4, .int (nI i191))] → W p l e ({ frames := 2, cells := 0, slots := 0, locals := 44 } : Room) s m args below meth c H locs 0 0 Q (F0 m 191 ls []) := by
                      intro N191
                      induction N191 with
                      | zero => intro i191 Z_2_191 H locs ls hN; exact absurd hN (by omega)
                      | succ N191 ih191 =>
                        intro i191 Z_2_191 H locs ls hN191 hi191 hS hl
                        refine lv_iload hx hb dX7_findTaking_191 (lv_at hl 4 rfl) ?_
                        refine lv_aload_n hx hb dX7_findTaking_193 rfl (lv_at hl 0 rfl) ?_
                        refine cx_get (own := RX7) (index := 81) (C := RX7) (T := TX7) (N := 22) (k := 9) (ci := 7) (v := .int (nI k)) hx hb hts hown hE hS hinX7 0 rfl rfl (by decide) (List.mem_of_getElem? (i := 1) rfl) rfl dX7_findTaking_194 ?_
                        have J267 : ∀ (H : Heap) (locs : List Loc) (ls : Array Slot), cx_S D vwCl A s (cyW q cI cZ n T k M d (cx_u Z 2 Z_2_191) F) H locs → lv_has ls 5 [(0, .ref (q 0)), (1, .int (nI lk)), (2, .int (nI i170)), (3, .int (nI i180)), (4, .int (nI i191))] → W p l e ({ frames := 2, cells := 0, slots := 0, locals := 44 } : Room) s m args below meth c H locs 0 0 Q (F0 m 267 ls []) := by
                          intro  H locs ls  hS hl
                          refine lv_iinc (v := nI (i180 + 1)) (lv' := [(3, .int (nI (i180 + 1))), (0, .ref (q 0)), (1, .int (nI lk)), (2, .int (nI i170)), (4, .int (nI i191))]) hx hb dX7_findTaking_267 hl (k := 3) rfl (cx_inc _) (by decide) rfl (fun ls hl => ?_)
                          refine lv_goto (tgt := 180) hx hb dX7_findTaking_270 (by decide) ?_
                          exact ih180 (i180 + 1) Z_2_191 _ _ _ (by omega) (by omega) hS (lv_sub hl [1, 2, 3, 0] rfl)
                        refine lv_icmp_ge (tgt := 267) hx hb dX7_findTaking_197 (by decide) (fun h197 => ?_) (fun h197 => ?_)
                        · skip
                          have g197 : k ≤ i191 := (nI_leI (a := k) (b := i191) (by omega) (by omega)).mp h197
                          exact J267  _ _ _  hS (lv_sub hl [0, 1, 2, 3, 4] rfl)
                        · skip
                          have g197 : ¬ (k ≤ i191) := fun z => h197 ((nI_leI (a := k) (b := i191) (by omega) (by omega)).mpr z)
                          refine lv_aload_n hx hb dX7_findTaking_200 rfl (lv_at hl 0 rfl) ?_
                          refine cx_get (own := RX7) (index := 62) (C := RX7) (T := TX7) (N := 22) (k := 21) (ci := 7) (v := .ref (q 18)) hx hb hts hown hE hS hinX7 0 rfl rfl (by decide) (List.mem_of_getElem? (i := 4) rfl) rfl dX7_findTaking_201 ?_
                          refine lv_bipush (v := nI 80) hx hb dX7_findTaking_204 (by decide) ?_
                          refine lv_iload_n hx hb dX7_findTaking_206 rfl (lv_at hl 3 rfl) ?_
                          refine lv_imul hx hb dX7_findTaking_207 ?_
                          refine cx_topr (z := nI (80 * i180)) (pk_mul _ _) ?_
                          refine lv_iload_n hx hb dX7_findTaking_208 rfl (lv_at hl 2 rfl) ?_
                          refine lv_iadd hx hb dX7_findTaking_209 ?_
                          refine cx_topr (z := nI (80 * i180 + i170)) (nI_add _ _) ?_
                          refine cx_zald (f := Z_2_191) (n := 6400) (cA := cZ) hx hb hE hS 18 1 rfl rfl (by omega) (by decide) dX7_findTaking_210 ?_
                          refine lv_if_eq (tgt := 267) hx hb dX7_findTaking_211 (by decide) (fun h211 => ?_) (fun h211 => ?_)
                          · skip
                            exact J267  _ _ _  hS (lv_sub hl [0, 1, 2, 3, 4] rfl)
                          · skip
                            refine lv_aload_n hx hb dX7_findTaking_214 rfl (lv_at hl 0 rfl) ?_
                            refine cx_get (own := RX7) (index := 62) (C := RX7) (T := TX7) (N := 22) (k := 21) (ci := 7) (v := .ref (q 18)) hx hb hts hown hE hS hinX7 0 rfl rfl (by decide) (List.mem_of_getElem? (i := 4) rfl) rfl dX7_findTaking_215 ?_
                            refine lv_bipush (v := nI 80) hx hb dX7_findTaking_218 (by decide) ?_
                            refine lv_iload_n hx hb dX7_findTaking_220 rfl (lv_at hl 3 rfl) ?_
                            refine lv_imul hx hb dX7_findTaking_221 ?_
                            refine cx_topr (z := nI (80 * i180)) (pk_mul _ _) ?_
                            refine lv_iload hx hb dX7_findTaking_222 (lv_at hl 4 rfl) ?_
                            refine lv_iadd hx hb dX7_findTaking_224 ?_
                            refine cx_topr (z := nI (80 * i180 + i191)) (nI_add _ _) ?_
                            refine lv_aload_n hx hb dX7_findTaking_225 rfl (lv_at hl 0 rfl) ?_
                            refine cx_get (own := RX7) (index := 62) (C := RX7) (T := TX7) (N := 22) (k := 21) (ci := 7) (v := .ref (q 18)) hx hb hts hown hE hS hinX7 0 rfl rfl (by decide) (List.mem_of_getElem? (i := 4) rfl) rfl dX7_findTaking_226 ?_
                            refine lv_bipush (v := nI 80) hx hb dX7_findTaking_229 (by decide) ?_
                            refine lv_iload_n hx hb dX7_findTaking_231 rfl (lv_at hl 3 rfl) ?_
                            refine lv_imul hx hb dX7_findTaking_232 ?_
                            refine cx_topr (z := nI (80 * i180)) (pk_mul _ _) ?_
                            refine lv_iload hx hb dX7_findTaking_233 (lv_at hl 4 rfl) ?_
                            refine lv_iadd hx hb dX7_findTaking_235 ?_
                            refine cx_topr (z := nI (80 * i180 + i191)) (nI_add _ _) ?_
                            refine cx_zald (f := Z_2_191) (n := 6400) (cA := cZ) hx hb hE hS 18 1 rfl rfl (by omega) (by decide) dX7_findTaking_236 ?_
                            have J260 : ∀ (v260_s0 : Int32) (H : Heap) (locs : List Loc) (ls : Array Slot), cx_S D vwCl A s (cyW q cI cZ n T k M d (cx_u Z 2 Z_2_191) F) H locs → lv_has ls 5 [(0, .ref (q 0)), (1, .int (nI lk)), (2, .int (nI i170)), (3, .int (nI i180)), (4, .int (nI i191))] → W p l e ({ frames := 2, cells := 0, slots := 0, locals := 44 } : Room) s m args below meth c H locs 0 0 Q (F0 m 260 ls [.int v260_s0, .int (nI (80 * i180 + i191)), .ref (q 18)]) := by
                              intro v260_s0 H locs ls  hS hl
                              refine cx_zast (k := 80 * i180 + i191) (f := Z_2_191) (n := 6400) (cA := cZ) (ws' := (cyW q cI cZ n T k M d (cx_u Z 2 (upd Z_2_191 (80 * i180 + i191) (vp_nar .boolean v260_s0))) F)) hx hb hE hS 18 1 rfl rfl (by omega) (by decide) rfl dX7_findTaking_260 (fun H locs hS => ?_)
                              refine lv_iinc (v := nI (i191 + 1)) (lv' := [(4, .int (nI (i191 + 1))), (0, .ref (q 0)), (1, .int (nI lk)), (2, .int (nI i170)), (3, .int (nI i180))]) hx hb dX7_findTaking_261 hl (k := 4) rfl (cx_inc _) (by decide) rfl (fun ls hl => ?_)
                              refine lv_goto (tgt := 191) hx hb dX7_findTaking_264 (by decide) ?_
                              exact ih191 (i191 + 1) (upd Z_2_191 (80 * i180 + i191) (vp_nar .boolean v260_s0)) _ _ _ (by omega) (by omega) hS (lv_sub hl [1, 2, 3, 4, 0] rfl)
                            have J255 : ∀ (H : Heap) (locs : List Loc) (ls : Array Slot), cx_S D vwCl A s (cyW q cI cZ n T k M d (cx_u Z 2 Z_2_191) F) H locs → lv_has ls 5 [(0, .ref (q 0)), (1, .int (nI lk)), (2, .int (nI i170)), (3, .int (nI i180)), (4, .int (nI i191))] → W p l e ({ frames := 2, cells := 0, slots := 0, locals := 44 } : Room) s m args below meth c H locs 0 0 Q (F0 m 255 ls [.int (nI (80 * i180 + i191)), .ref (q 18)]) := by
                              intro  H locs ls  hS hl
                              refine lv_iconst (v := (1 : Int32)) hx hb dX7_findTaking_255 (by decide) ?_
                              refine lv_goto (tgt := 260) hx hb dX7_findTaking_256 (by decide) ?_
                              exact J260 (1 : Int32) _ _ _  hS (lv_sub hl [0, 1, 2, 3, 4] rfl)
                            refine lv_if_ne (tgt := 255) hx hb dX7_findTaking_237 (by decide) (fun h237 => ?_) (fun h237 => ?_)
                            · skip
                              exact J255  _ _ _  hS (lv_sub hl [0, 1, 2, 3, 4] rfl)
                            · skip
                              refine lv_aload_n hx hb dX7_findTaking_240 rfl (lv_at hl 0 rfl) ?_
                              refine cx_get (own := RX7) (index := 62) (C := RX7) (T := TX7) (N := 22) (k := 21) (ci := 7) (v := .ref (q 18)) hx hb hts hown hE hS hinX7 0 rfl rfl (by decide) (List.mem_of_getElem? (i := 4) rfl) rfl dX7_findTaking_241 ?_
                              refine lv_bipush (v := nI 80) hx hb dX7_findTaking_244 (by decide) ?_
                              refine lv_iload_n hx hb dX7_findTaking_246 rfl (lv_at hl 2 rfl) ?_
                              refine lv_imul hx hb dX7_findTaking_247 ?_
                              refine cx_topr (z := nI (80 * i170)) (pk_mul _ _) ?_
                              refine lv_iload hx hb dX7_findTaking_248 (lv_at hl 4 rfl) ?_
                              refine lv_iadd hx hb dX7_findTaking_250 ?_
                              refine cx_topr (z := nI (80 * i170 + i191)) (nI_add _ _) ?_
                              refine cx_zald (f := Z_2_191) (n := 6400) (cA := cZ) hx hb hE hS 18 1 rfl rfl (by omega) (by decide) dX7_findTaking_251 ?_
                              refine lv_if_eq (tgt := 259) hx hb dX7_findTaking_252 (by decide) (fun h252 => ?_) (fun h252 => ?_)
                              · skip
                                refine lv_iconst (v := (0 : Int32)) hx hb dX7_findTaking_259 (by decide) ?_
                                exact J260 (0 : Int32) _ _ _  hS (lv_sub hl [0, 1, 2, 3, 4] rfl)
                              · skip
                                exact J255  _ _ _  hS (lv_sub hl [0, 1, 2, 3, 4] rfl)
                    exact J191 (k - 0 + 1) 0 Z_2_180 _ _ _ (Nat.lt_succ_self _) (by omega) hS (lv_sub hl [1, 2, 3, 4, 0] rfl)
              exact J180 (k - 0 + 1) 0 Z_2_170 _ _ _ (Nat.lt_succ_self _) (by omega) hS (lv_sub hl [1, 2, 3, 0] rfl)
        exact J170 (k - 0 + 1) 0 Z_2_2 _ _ _ (Nat.lt_succ_self _) (by omega) hS (lv_sub hl [1, 2, 0] rfl)
      · skip
        have g7 : ¬ (k ≤ i2) := fun z => h7 ((nI_leI (a := k) (b := i2) (by omega) (by omega)).mpr z)
        refine lv_iconst (v := (0 : Int32)) hx hb dX7_findTaking_10 (by decide) ?_
        refine cx_topr (z := nI 0) (by decide) ?_
        refine lv_istore_n (lv' := [(3, .int (nI 0)), (0, .ref (q 0)), (1, .int (nI lk)), (2, .int (nI i2))]) hx hb dX7_findTaking_11 rfl hl (by decide) rfl (fun ls hl => ?_)
        have J12 : ∀ (N : Nat) (i12 : Nat) (Z_2_12 : Nat → Int32) (H : Heap) (locs : List Loc) (ls : Array Slot), (k - i12 < N) → (i12 ≤ k) → cx_S D vwCl A s (cyW q cI cZ n T k M d (cx_u Z 2 Z_2_12) F) H locs → lv_has ls 5 [(0, .ref (q 0)), (1, .int (nI lk)), (2, .int (nI i2)), (3, .int (nI i12))] → W p l e ({ frames := 2, cells := 0, slots := 0, locals := 44 } : Room) s m args below meth c H locs 0 0 Q (F0 m 12 ls []) := by
          intro N12
          induction N12 with
          | zero => intro i12 Z_2_12 H locs ls hN; exact absurd hN (by omega)
          | succ N12 ih12 =>
            intro i12 Z_2_12 H locs ls hN12 hi12 hS hl
            refine lv_iload_n hx hb dX7_findTaking_12 rfl (lv_at hl 3 rfl) ?_
            refine lv_aload_n hx hb dX7_findTaking_13 rfl (lv_at hl 0 rfl) ?_
            refine cx_get (own := RX7) (index := 81) (C := RX7) (T := TX7) (N := 22) (k := 9) (ci := 7) (v := .int (nI k)) hx hb hts hown hE hS hinX7 0 rfl rfl (by decide) (List.mem_of_getElem? (i := 1) rfl) rfl dX7_findTaking_14 ?_
            refine lv_icmp_ge (tgt := 162) hx hb dX7_findTaking_17 (by decide) (fun h17 => ?_) (fun h17 => ?_)
            · skip
              have g17 : k ≤ i12 := (nI_leI (a := k) (b := i12) (by omega) (by omega)).mp h17
              refine lv_iinc (v := nI (i2 + 1)) (lv' := [(2, .int (nI (i2 + 1))), (0, .ref (q 0)), (1, .int (nI lk)), (3, .int (nI i12))]) hx hb dX7_findTaking_162 hl (k := 2) rfl (cx_inc _) (by decide) rfl (fun ls hl => ?_)
              refine lv_goto (tgt := 2) hx hb dX7_findTaking_165 (by decide) ?_
              exact ih2 (i2 + 1) Z_2_12 _ _ _ (by omega) (by omega) hS (lv_sub hl [1, 2, 0] rfl)
            · skip
              have g17 : ¬ (k ≤ i12) := fun z => h17 ((nI_leI (a := k) (b := i12) (by omega) (by omega)).mpr z)
              refine lv_aload_n hx hb dX7_findTaking_20 rfl (lv_at hl 0 rfl) ?_
              refine lv_iload_n hx hb dX7_findTaking_21 rfl (lv_at hl 2 rfl) ?_
              refine lv_iload_n hx hb dX7_findTaking_22 rfl (lv_at hl 1 rfl) ?_
              refine cx_cVi (As := [.int (nI i2), .int (nI lk)]) (rest := []) ⟨hx, hb, hml, hown, hts⟩ hE hS (c_X7_areLike l D q cI cZ n T k M d (cx_u Z 2 Z_2_12) F i2 lk (by first | assumption | omega | rfl) (by first | assumption | omega | rfl)) (cwV 2 hts gX7_findTaking_X7_areLike rfl rfl rfl (by decide +kernel) ⟨Nat.le_of_ble_eq_true rfl, Nat.le_of_ble_eq_true rfl⟩) 0 7 rfl rfl rfl hl.1 rfl (Nat.le_of_ble_eq_true rfl) ⟨Nat.zero_le _, Nat.zero_le _⟩ dX7_findTaking_23 (fun r_23 u_23 H locs hp_23 hS => ?_)
              have hp_23 : (r_23 = 0 ∨ r_23 = 1) ∧ (¬ r_23 = 0 ↔ cx_lk M i2 lk) := hp_23
              have J98 : ∀ (v98_s0 : Int32) (H : Heap) (locs : List Loc) (ls : Array Slot), cx_S D vwCl A s (cyW q cI cZ n T k M d (cx_u Z 2 Z_2_12) F) H locs → lv_has ls 5 [(0, .ref (q 0)), (1, .int (nI lk)), (2, .int (nI i2)), (3, .int (nI i12))] → W p l e ({ frames := 2, cells := 0, slots := 0, locals := 44 } : Room) s m args below meth c H locs 0 0 Q (F0 m 98 ls [.int v98_s0]) := by
                intro v98_s0 H locs ls  hS hl
                refine lv_istore (lv' := [(4, .int v98_s0), (0, .ref (q 0)), (1, .int (nI lk)), (2, .int (nI i2)), (3, .int (nI i12))]) hx hb dX7_findTaking_98 hl (by decide) rfl (fun ls hl => ?_)
                refine lv_aload_n hx hb dX7_findTaking_100 rfl (lv_at hl 1 rfl) ?_
                refine cx_get (own := RX7) (index := 62) (C := RX7) (T := TX7) (N := 22) (k := 21) (ci := 7) (v := .ref (q 18)) hx hb hts hown hE hS hinX7 0 rfl rfl (by decide) (List.mem_of_getElem? (i := 4) rfl) rfl dX7_findTaking_101 ?_
                refine lv_bipush (v := nI 80) hx hb dX7_findTaking_104 (by decide) ?_
                refine lv_iload_n hx hb dX7_findTaking_106 rfl (lv_at hl 3 rfl) ?_
                refine lv_imul hx hb dX7_findTaking_107 ?_
                refine cx_topr (z := nI (80 * i2)) (pk_mul _ _) ?_
                refine lv_iload_n hx hb dX7_findTaking_108 rfl (lv_at hl 4 rfl) ?_
                refine lv_iadd hx hb dX7_findTaking_109 ?_
                refine cx_topr (z := nI (80 * i2 + i12)) (nI_add _ _) ?_
                refine lv_iload hx hb dX7_findTaking_110 (lv_at hl 0 rfl) ?_
                have J155 : ∀ (v155_s0 : Int32) (H : Heap) (locs : List Loc) (ls : Array Slot), cx_S D vwCl A s (cyW q cI cZ n T k M d (cx_u Z 2 Z_2_12) F) H locs → lv_has ls 5 [(0, .ref (q 0)), (1, .int (nI lk)), (2, .int (nI i2)), (3, .int (nI i12)), (4, .int v98_s0)] → W p l e ({ frames := 2, cells := 0, slots := 0, locals := 44 } : Room) s m args below meth c H locs 0 0 Q (F0 m 155 ls [.int v155_s0, .int (nI (80 * i2 + i12)), .ref (q 18)]) := by
                  intro v155_s0 H locs ls  hS hl
                  refine cx_zast (k := 80 * i2 + i12) (f := Z_2_12) (n := 6400) (cA := cZ) (ws' := (cyW q cI cZ n T k M d (cx_u Z 2 (upd Z_2_12 (80 * i2 + i12) (vp_nar .boolean v155_s0))) F)) hx hb hE hS 18 1 rfl rfl (by omega) (by decide) rfl dX7_findTaking_155 (fun H locs hS => ?_)
                  refine lv_iinc (v := nI (i12 + 1)) (lv' := [(3, .int (nI (i12 + 1))), (0, .ref (q 0)), (1, .int (nI lk)), (2, .int (nI i2)), (4, .int v98_s0)]) hx hb dX7_findTaking_156 hl (k := 3) rfl (cx_inc _) (by decide) rfl (fun ls hl => ?_)
                  refine lv_goto (tgt := 12) hx hb dX7_findTaking_159 (by decide) ?_
                  exact ih12 (i12 + 1) (upd Z_2_12 (80 * i2 + i12) (vp_nar .boolean v155_s0)) _ _ _ (by omega) (by omega) hS (lv_sub hl [1, 2, 3, 0] rfl)
                have J154 : ∀ (H : Heap) (locs : List Loc) (ls : Array Slot), cx_S D vwCl A s (cyW q cI cZ n T k M d (cx_u Z 2 Z_2_12) F) H locs → lv_has ls 5 [(0, .ref (q 0)), (1, .int (nI lk)), (2, .int (nI i2)), (3, .int (nI i12)), (4, .int v98_s0)] → W p l e ({ frames := 2, cells := 0, slots := 0, locals := 44 } : Room) s m args below meth c H locs 0 0 Q (F0 m 154 ls [.int (nI (80 * i2 + i12)), .ref (q 18)]) := by
                  intro  H locs ls  hS hl
                  refine lv_iconst (v := (0 : Int32)) hx hb dX7_findTaking_154 (by decide) ?_
                  exact J155 (0 : Int32) _ _ _  hS (lv_sub hl [0, 1, 2, 3, 4] rfl)
                refine lv_if_eq (tgt := 154) hx hb dX7_findTaking_112 (by decide) (fun h112 => ?_) (fun h112 => ?_)
                · skip
                  exact J154  _ _ _  hS (lv_sub hl [1, 2, 3, 4, 0] rfl)
                · skip
                  refine lv_aload_n hx hb dX7_findTaking_115 rfl (lv_at hl 1 rfl) ?_
                  refine cx_get (own := RX7) (index := 46) (C := RX7) (T := TX7) (N := 22) (k := 14) (ci := 7) (v := .ref (q 13)) hx hb hts hown hE hS hinX7 0 rfl rfl (by decide) (List.mem_of_getElem? (i := 5) rfl) rfl dX7_findTaking_116 ?_
                  refine lv_iload_n hx hb dX7_findTaking_119 rfl (lv_at hl 4 rfl) ?_
                  refine cx_iald (f := (M 4)) (n := 80) (cA := cI) hx hb hE hS 13 0 rfl rfl (by omega) (by decide) dX7_findTaking_120 ?_
                  refine lv_iconst (v := (1 : Int32)) hx hb dX7_findTaking_121 (by decide) ?_
                  have J150 : ∀ (H : Heap) (locs : List Loc) (ls : Array Slot), cx_S D vwCl A s (cyW q cI cZ n T k M d (cx_u Z 2 Z_2_12) F) H locs → lv_has ls 5 [(0, .ref (q 0)), (1, .int (nI lk)), (2, .int (nI i2)), (3, .int (nI i12)), (4, .int v98_s0)] → W p l e ({ frames := 2, cells := 0, slots := 0, locals := 44 } : Room) s m args below meth c H locs 0 0 Q (F0 m 150 ls [.int (nI (80 * i2 + i12)), .ref (q 18)]) := by
                    intro  H locs ls  hS hl
                    refine lv_iconst (v := (1 : Int32)) hx hb dX7_findTaking_150 (by decide) ?_
                    refine lv_goto (tgt := 155) hx hb dX7_findTaking_151 (by decide) ?_
                    exact J155 (1 : Int32) _ _ _  hS (lv_sub hl [0, 1, 2, 3, 4] rfl)
                  refine lv_icmp_gt (tgt := 150) hx hb dX7_findTaking_122 (by decide) (fun h122 => ?_) (fun h122 => ?_)
                  · skip
                    exact J150  _ _ _  hS (lv_sub hl [1, 2, 3, 4, 0] rfl)
                  · skip
                    refine lv_aload_n hx hb dX7_findTaking_125 rfl (lv_at hl 1 rfl) ?_
                    refine cx_get (own := RX7) (index := 16) (C := RX7) (T := TX7) (N := 22) (k := 3) (ci := 7) (v := .ref (q 3)) hx hb hts hown hE hS hinX7 0 rfl rfl (by decide) (List.mem_of_getElem? (i := 6) rfl) rfl dX7_findTaking_126 ?_
                    refine lv_aload_n hx hb dX7_findTaking_129 rfl (lv_at hl 1 rfl) ?_
                    refine cx_get (own := RX7) (index := 34) (C := RX7) (T := TX7) (N := 22) (k := 10) (ci := 7) (v := .ref (q 9)) hx hb hts hown hE hS hinX7 0 rfl rfl (by decide) (List.mem_of_getElem? (i := 2) rfl) rfl dX7_findTaking_130 ?_
                    refine lv_iload_n hx hb dX7_findTaking_133 rfl (lv_at hl 3 rfl) ?_
                    refine cx_iald (f := (M 0)) (n := 80) (cA := cI) hx hb hE hS 9 0 rfl rfl (by omega) (by decide) dX7_findTaking_134 ?_
                    have ho134 := (hO i2).2
                    refine cx_topr (z := nI (((M 0) i2).toNatClampNeg)) (hO i2).1 ?_
                    refine cx_iald (f := (T 2)) (n := 20) (cA := cI) hx hb hE hS 3 0 rfl rfl (by omega) (by decide) dX7_findTaking_135 ?_
                    refine lv_aload_n hx hb dX7_findTaking_136 rfl (lv_at hl 1 rfl) ?_
                    refine cx_get (own := RX7) (index := 16) (C := RX7) (T := TX7) (N := 22) (k := 3) (ci := 7) (v := .ref (q 3)) hx hb hts hown hE hS hinX7 0 rfl rfl (by decide) (List.mem_of_getElem? (i := 6) rfl) rfl dX7_findTaking_137 ?_
                    refine lv_aload_n hx hb dX7_findTaking_140 rfl (lv_at hl 1 rfl) ?_
                    refine cx_get (own := RX7) (index := 34) (C := RX7) (T := TX7) (N := 22) (k := 10) (ci := 7) (v := .ref (q 9)) hx hb hts hown hE hS hinX7 0 rfl rfl (by decide) (List.mem_of_getElem? (i := 2) rfl) rfl dX7_findTaking_141 ?_
                    refine lv_iload_n hx hb dX7_findTaking_144 rfl (lv_at hl 4 rfl) ?_
                    refine cx_iald (f := (M 0)) (n := 80) (cA := cI) hx hb hE hS 9 0 rfl rfl (by omega) (by decide) dX7_findTaking_145 ?_
                    have ho145 := (hO i12).2
                    refine cx_topr (z := nI (((M 0) i12).toNatClampNeg)) (hO i12).1 ?_
                    refine cx_iald (f := (T 2)) (n := 20) (cA := cI) hx hb hE hS 3 0 rfl rfl (by omega) (by decide) dX7_findTaking_146 ?_
                    refine lv_icmp_ne (tgt := 154) hx hb dX7_findTaking_147 (by decide) (fun h147 => ?_) (fun h147 => ?_)
                    · skip
                      exact J154  _ _ _  hS (lv_sub hl [1, 2, 3, 4, 0] rfl)
                    · skip
                      exact J150  _ _ _  hS (lv_sub hl [1, 2, 3, 4, 0] rfl)
              have J97 : ∀ (H : Heap) (locs : List Loc) (ls : Array Slot), cx_S D vwCl A s (cyW q cI cZ n T k M d (cx_u Z 2 Z_2_12) F) H locs → lv_has ls 5 [(0, .ref (q 0)), (1, .int (nI lk)), (2, .int (nI i2)), (3, .int (nI i12))] → W p l e ({ frames := 2, cells := 0, slots := 0, locals := 44 } : Room) s m args below meth c H locs 0 0 Q (F0 m 97 ls []) := by
                intro  H locs ls  hS hl
                refine lv_iconst (v := (0 : Int32)) hx hb dX7_findTaking_97 (by decide) ?_
                exact J98 (0 : Int32) _ _ _  hS (lv_sub hl [0, 1, 2, 3] rfl)
              refine lv_if_eq (tgt := 97) hx hb dX7_findTaking_26 (by decide) (fun h26 => ?_) (fun h26 => ?_)
              · skip
                have g26 : ¬ (cx_lk M i2 lk) := fun z => hp_23.2.mpr z h26
                exact J97  _ _ _  hS (lv_sub hl [0, 1, 2, 3] rfl)
              · skip
                have g26 : cx_lk M i2 lk := hp_23.2.mp h26
                refine lv_aload_n hx hb dX7_findTaking_29 rfl (lv_at hl 0 rfl) ?_
                refine lv_iload_n hx hb dX7_findTaking_30 rfl (lv_at hl 3 rfl) ?_
                refine lv_iload_n hx hb dX7_findTaking_31 rfl (lv_at hl 1 rfl) ?_
                refine cx_cVi (As := [.int (nI i12), .int (nI lk)]) (rest := []) ⟨hx, hb, hml, hown, hts⟩ hE hS (c_X7_areLike l D q cI cZ n T k M d (cx_u Z 2 Z_2_12) F i12 lk (by first | assumption | omega | rfl) (by first | assumption | omega | rfl)) (cwV 2 hts gX7_findTaking_X7_areLike rfl rfl rfl (by decide +kernel) ⟨Nat.le_of_ble_eq_true rfl, Nat.le_of_ble_eq_true rfl⟩) 0 7 rfl rfl rfl hl.1 rfl (Nat.le_of_ble_eq_true rfl) ⟨Nat.zero_le _, Nat.zero_le _⟩ dX7_findTaking_32 (fun r_32 u_32 H locs hp_32 hS => ?_)
                have hp_32 : (r_32 = 0 ∨ r_32 = 1) ∧ (¬ r_32 = 0 ↔ cx_lk M i12 lk) := hp_32
                refine lv_if_eq (tgt := 97) hx hb dX7_findTaking_35 (by decide) (fun h35 => ?_) (fun h35 => ?_)
                · skip
                  have g35 : ¬ (cx_lk M i12 lk) := fun z => hp_32.2.mpr z h35
                  exact J97  _ _ _  hS (lv_sub hl [0, 1, 2, 3] rfl)
                · skip
                  have g35 : cx_lk M i12 lk := hp_32.2.mp h35
                  refine lv_aload_n hx hb dX7_findTaking_38 rfl (lv_at hl 0 rfl) ?_
                  refine lv_iload_n hx hb dX7_findTaking_39 rfl (lv_at hl 2 rfl) ?_
                  refine cx_cVi (As := [.int (nI i2)]) (rest := []) ⟨hx, hb, hml, hown, hts⟩ hE hS (c_X7_mayTake l D q cI cZ n T k M d (cx_u Z 2 Z_2_12) F i2 (by first | assumption | omega | rfl) (by first | assumption | omega | rfl)) (cwV 1 hts gX7_findTaking_X7_mayTake rfl rfl rfl (by decide +kernel) ⟨Nat.le_of_ble_eq_true rfl, Nat.le_of_ble_eq_true rfl⟩) 0 7 rfl rfl rfl hl.1 rfl (Nat.le_of_ble_eq_true rfl) ⟨Nat.zero_le _, Nat.zero_le _⟩ dX7_findTaking_40 (fun r_40 u_40 H locs hp_40 hS => ?_)
                  have hp_40 : r_40 = 0 ∨ r_40 = 1 := hp_40
                  refine lv_if_eq (tgt := 97) hx hb dX7_findTaking_43 (by decide) (fun h43 => ?_) (fun h43 => ?_)
                  · skip
                    exact J97  _ _ _  hS (lv_sub hl [0, 1, 2, 3] rfl)
                  · skip
                    refine lv_aload_n hx hb dX7_findTaking_46 rfl (lv_at hl 0 rfl) ?_
                    refine lv_iload_n hx hb dX7_findTaking_47 rfl (lv_at hl 3 rfl) ?_
                    refine cx_cVi (As := [.int (nI i12)]) (rest := []) ⟨hx, hb, hml, hown, hts⟩ hE hS (c_X7_mayTake l D q cI cZ n T k M d (cx_u Z 2 Z_2_12) F i12 (by first | assumption | omega | rfl) (by first | assumption | omega | rfl)) (cwV 1 hts gX7_findTaking_X7_mayTake rfl rfl rfl (by decide +kernel) ⟨Nat.le_of_ble_eq_true rfl, Nat.le_of_ble_eq_true rfl⟩) 0 7 rfl rfl rfl hl.1 rfl (Nat.le_of_ble_eq_true rfl) ⟨Nat.zero_le _, Nat.zero_le _⟩ dX7_findTaking_48 (fun r_48 u_48 H locs hp_48 hS => ?_)
                    have hp_48 : r_48 = 0 ∨ r_48 = 1 := hp_48
                    refine lv_if_eq (tgt := 97) hx hb dX7_findTaking_51 (by decide) (fun h51 => ?_) (fun h51 => ?_)
                    · skip
                      exact J97  _ _ _  hS (lv_sub hl [0, 1, 2, 3] rfl)
                    · skip
                      refine lv_aload_n hx hb dX7_findTaking_54 rfl (lv_at hl 0 rfl) ?_
                      refine cx_get (own := RX7) (index := 34) (C := RX7) (T := TX7) (N := 22) (k := 10) (ci := 7) (v := .ref (q 9)) hx hb hts hown hE hS hinX7 0 rfl rfl (by decide) (List.mem_of_getElem? (i := 2) rfl) rfl dX7_findTaking_55 ?_
                      refine lv_iload_n hx hb dX7_findTaking_58 rfl (lv_at hl 2 rfl) ?_
                      refine cx_iald (f := (M 0)) (n := 80) (cA := cI) hx hb hE hS 9 0 rfl rfl (by omega) (by decide) dX7_findTaking_59 ?_
                      have ho59 := (hO i2).2
                      refine cx_topr (z := nI (((M 0) i2).toNatClampNeg)) (hO i2).1 ?_
                      refine lv_aload_n hx hb dX7_findTaking_60 rfl (lv_at hl 0 rfl) ?_
                      refine cx_get (own := RX7) (index := 34) (C := RX7) (T := TX7) (N := 22) (k := 10) (ci := 7) (v := .ref (q 9)) hx hb hts hown hE hS hinX7 0 rfl rfl (by decide) (List.mem_of_getElem? (i := 2) rfl) rfl dX7_findTaking_61 ?_
                      refine lv_iload_n hx hb dX7_findTaking_64 rfl (lv_at hl 3 rfl) ?_
                      refine cx_iald (f := (M 0)) (n := 80) (cA := cI) hx hb hE hS 9 0 rfl rfl (by omega) (by decide) dX7_findTaking_65 ?_
                      have ho65 := (hO i12).2
                      refine cx_topr (z := nI (((M 0) i12).toNatClampNeg)) (hO i12).1 ?_
                      refine lv_icmp_eq (tgt := 97) hx hb dX7_findTaking_66 (by decide) (fun h66 => ?_) (fun h66 => ?_)
                      · skip
                        have g66 : (((M 0) i2).toNatClampNeg) = (((M 0) i12).toNatClampNeg) := (nI_eq (a := ((M 0) i2).toNatClampNeg) (b := ((M 0) i12).toNatClampNeg) (by omega) (by omega)).mp h66
                        exact J97  _ _ _  hS (lv_sub hl [0, 1, 2, 3] rfl)
                      · skip
                        have g66 : ¬ ((((M 0) i2).toNatClampNeg) = (((M 0) i12).toNatClampNeg)) := fun z => h66 ((nI_eq (a := ((M 0) i2).toNatClampNeg) (b := ((M 0) i12).toNatClampNeg) (by omega) (by omega)).mpr z)
                        refine lv_aload_n hx hb dX7_findTaking_69 rfl (lv_at hl 0 rfl) ?_
                        refine cx_get (own := RX7) (index := 52) (C := RX7) (T := TX7) (N := 22) (k := 16) (ci := 7) (v := .ref (q 15)) hx hb hts hown hE hS hinX7 0 rfl rfl (by decide) (List.mem_of_getElem? (i := 3) rfl) rfl dX7_findTaking_70 ?_
                        refine lv_bipush (v := nI 20) hx hb dX7_findTaking_73 (by decide) ?_
                        refine lv_aload_n hx hb dX7_findTaking_75 rfl (lv_at hl 0 rfl) ?_
                        refine cx_get (own := RX7) (index := 34) (C := RX7) (T := TX7) (N := 22) (k := 10) (ci := 7) (v := .ref (q 9)) hx hb hts hown hE hS hinX7 0 rfl rfl (by decide) (List.mem_of_getElem? (i := 2) rfl) rfl dX7_findTaking_76 ?_
                        refine lv_iload_n hx hb dX7_findTaking_79 rfl (lv_at hl 2 rfl) ?_
                        refine cx_iald (f := (M 0)) (n := 80) (cA := cI) hx hb hE hS 9 0 rfl rfl (by omega) (by decide) dX7_findTaking_80 ?_
                        have ho80 := (hO i2).2
                        refine cx_topr (z := nI (((M 0) i2).toNatClampNeg)) (hO i2).1 ?_
                        refine lv_imul hx hb dX7_findTaking_81 ?_
                        refine cx_topr (z := nI (20 * (((M 0) i2).toNatClampNeg))) (pk_mul _ _) ?_
                        refine lv_aload_n hx hb dX7_findTaking_82 rfl (lv_at hl 0 rfl) ?_
                        refine cx_get (own := RX7) (index := 34) (C := RX7) (T := TX7) (N := 22) (k := 10) (ci := 7) (v := .ref (q 9)) hx hb hts hown hE hS hinX7 0 rfl rfl (by decide) (List.mem_of_getElem? (i := 2) rfl) rfl dX7_findTaking_83 ?_
                        refine lv_iload_n hx hb dX7_findTaking_86 rfl (lv_at hl 3 rfl) ?_
                        refine cx_iald (f := (M 0)) (n := 80) (cA := cI) hx hb hE hS 9 0 rfl rfl (by omega) (by decide) dX7_findTaking_87 ?_
                        have ho87 := (hO i12).2
                        refine cx_topr (z := nI (((M 0) i12).toNatClampNeg)) (hO i12).1 ?_
                        refine lv_iadd hx hb dX7_findTaking_88 ?_
                        refine cx_topr (z := nI (20 * (((M 0) i2).toNatClampNeg) + ((M 0) i12).toNatClampNeg)) (nI_add _ _) ?_
                        refine cx_zald (f := (Z 0)) (n := 400) (cA := cZ) hx hb hE hS 15 1 rfl rfl (by omega) (by decide) dX7_findTaking_89 ?_
                        refine lv_if_eq (tgt := 97) hx hb dX7_findTaking_90 (by decide) (fun h90 => ?_) (fun h90 => ?_)
                        · skip
                          exact J97  _ _ _  hS (lv_sub hl [0, 1, 2, 3] rfl)
                        · skip
                          refine lv_iconst (v := (1 : Int32)) hx hb dX7_findTaking_93 (by decide) ?_
                          refine lv_goto (tgt := 98) hx hb dX7_findTaking_94 (by decide) ?_
                          exact J98 (1 : Int32) _ _ _  hS (lv_sub hl [0, 1, 2, 3] rfl)
        exact J12 (k - 0 + 1) 0 Z_2_2 _ _ _ (Nat.lt_succ_self _) (by omega) hS (lv_sub hl [1, 2, 3, 0] rfl)
  exact J2 (k - 0 + 1) 0 (Z 2) _ _ _ (Nat.lt_succ_self _) (by omega) hS (lv_sub hl [1, 2, 0] rfl)
set_option maxHeartbeats 4000000 in
set_option maxRecDepth 100000 in
theorem c_X7_call (l : Launch) (D : va_G) (q : Nat → Nat) (cI cZ : ClassId) (n : Nat) (T : Nat → Nat → Int32) (k : Nat) (M : Nat → Nat → Int32) (d : Nat) (Z : Nat → Nat → Int32) (F : Nat → Nat → Int32) (xa : Int32) (xb : Int32) (xe : Int32) (xf : Int32) (hn : n ≤ 20) (hP : cx_P (T 3) 20) (hU : cx_R (T 4) 20) (hV : cx_R (T 5) 4) (hKN : cx_KN n T (Z 0) ((Z 3) 0)) (hQ : cx_R (T 6) 20) (hW : cx_R (T 7) 4) (hO : cx_R (M 0) 20) (hk : k ≤ 80) (hOn : ∀ j, j < k → (M 0 j).toNatClampNeg < n) (hX : cx_R (M 4) 4) (hK0 : cx_R (T 0) 4) (hM5 : cx_R (M 5) 30) (hM1 : cx_R (M 1) 10) (hM2 : cx_R (M 2) 5) : cx_Mi l D vwCl [(cI, .int), (cZ, .boolean)] cx_NW yX7_call wsX7_call ({ frames := 8, cells := 0, slots := 0, locals := 187 } : Room) [.ref (q 0), .int xa, .int xb, .int xe, .int xf] (cyW q cI cZ n T k M d Z F) (fun (r : Int32) (uw : (Nat → Int32) × (Int32) × (Nat) × (Nat → Int32) × (Nat → Int32) × (Nat → Int32)) => cx_KN n T uw.1 uw.2.1 ∧ (True)) (fun uw => (cyW q cI cZ n T k M uw.2.2.1 (cx_u (cx_u (cx_u (cx_u Z 0 uw.1) 3 (fun _ => uw.2.1)) 1 uw.2.2.2.2.1) 2 uw.2.2.2.2.2) (cx_u F 0 uw.2.2.2.1))) := by
  refine cx_Mi.of (cc := cX7_call) (maxL := 9) cx_NW_ok (by decide) rfl (Nat.le_of_ble_eq_true rfl) ?_
  intro p e s m args below meth c Q A ls hx hb hml hown hts hE RET hS hl
  have hl : lv_has ls 9 [(0, .ref (q 0)), (1, .int xa), (2, .int xb), (3, .int xe), (4, .int xf)] := hl
  have hown : s.vm.findClass RX7 = some m.cls := hown
  have hinX7 : ∀ w ∈ u_ws RX7 TX7 22, w ∈ wsX7_call := cx_mem [147, 148, 149, 150, 151, 152, 153, 154, 155, 156, 157, 158, 159, 160, 161, 162, 163, 164, 165, 166, 167, 168] (by decide +kernel)
  refine lv_aload_n hx hb dX7_call_0 rfl (lv_at hl 0 rfl) ?_
  refine lv_iload_n hx hb dX7_call_1 rfl (lv_at hl 1 rfl) ?_
  refine cx_cVi (As := [.int xa]) (rest := []) ⟨hx, hb, hml, hown, hts⟩ hE hS (c_X7_isType l D q cI cZ n T k M d Z F xa (by first | assumption | omega | rfl)) (cwV 1 hts gX7_call_X7_isType rfl rfl rfl (by decide +kernel) ⟨Nat.le_of_ble_eq_true rfl, Nat.le_of_ble_eq_true rfl⟩) 0 7 rfl rfl rfl hl.1 rfl (Nat.le_of_ble_eq_true rfl) ⟨Nat.zero_le _, Nat.zero_le _⟩ dX7_call_2 (fun r_2 u_2 H locs hp_2 hS => ?_)
  have hp_2 : r_2 = cx_b (0 ≤ xa ∧ xa < nI n) := hp_2
  subst hp_2
  have J36 : ∀ (H : Heap) (locs : List Loc) (ls : Array Slot), cx_S D vwCl A s (cyW q cI cZ n T k M d Z F) H locs → lv_has ls 9 [(0, .ref (q 0)), (1, .int xa), (2, .int xb), (3, .int xe), (4, .int xf)] → W p l e ({ frames := 8, cells := 0, slots := 0, locals := 187 } : Room) s m args below meth c H locs 0 0 Q (F0 m 36 ls []) := by
    intro  H locs ls  hS hl
    refine lv_iconst (v := (-1 : Int32)) hx hb dX7_call_36 (by decide) ?_
    exact RET _ (Z 0, (Z 3) 0, d, F 0, Z 1, Z 2) _ _ _ _ dX7_call_37 rfl (⟨(by first | assumption | exact hKN), trivial⟩) hS
  refine lv_if_eq (tgt := 36) hx hb dX7_call_5 (by decide) (fun h5 => ?_) (fun h5 => ?_)
  · skip
    have g5 := cx_b0 h5
    exact J36  _ _ _  hS (lv_sub hl [0, 1, 2, 3, 4] rfl)
  · skip
    have g5 := cx_b1 h5
    have hq5 := (cx_ixT (by omega) g5).2
    refine lv_aload_n hx hb dX7_call_8 rfl (lv_at hl 0 rfl) ?_
    refine lv_iload_n hx hb dX7_call_9 rfl (lv_at hl 2 rfl) ?_
    refine cx_cVi (As := [.int xb]) (rest := []) ⟨hx, hb, hml, hown, hts⟩ hE hS (c_X7_isType l D q cI cZ n T k M d Z F xb (by first | assumption | omega | rfl)) (cwV 1 hts gX7_call_X7_isType rfl rfl rfl (by decide +kernel) ⟨Nat.le_of_ble_eq_true rfl, Nat.le_of_ble_eq_true rfl⟩) 0 7 rfl rfl rfl hl.1 rfl (Nat.le_of_ble_eq_true rfl) ⟨Nat.zero_le _, Nat.zero_le _⟩ dX7_call_10 (fun r_10 u_10 H locs hp_10 hS => ?_)
    have hp_10 : r_10 = cx_b (0 ≤ xb ∧ xb < nI n) := hp_10
    subst hp_10
    refine lv_if_eq (tgt := 36) hx hb dX7_call_13 (by decide) (fun h13 => ?_) (fun h13 => ?_)
    · skip
      have g13 := cx_b0 h13
      exact J36  _ _ _  hS (lv_sub hl [0, 1, 2, 3, 4] rfl)
    · skip
      have g13 := cx_b1 h13
      have hq13 := (cx_ixT (by omega) g13).2
      refine lv_iload_n hx hb dX7_call_16 rfl (lv_at hl 3 rfl) ?_
      refine lv_iconst (v := (0 : Int32)) hx hb dX7_call_17 (by decide) ?_
      refine lv_bipush (v := nI 9) hx hb dX7_call_18 (by decide) ?_
      refine cx_cSi (As := [.int xe, .int (0 : Int32), .int (nI 9)]) (rest := []) ⟨hx, hb, hml, hown, hts⟩ hE hS (c_X7_in l D [(cI, .int), (cZ, .boolean)] (cyW q cI cZ n T k M d Z F) xe (0 : Int32) (nI 9) ) (va_cwS 3 hts gX7_call_X7_in rfl rfl rfl (by decide +kernel) ⟨Nat.le_of_ble_eq_true rfl, Nat.le_of_ble_eq_true rfl⟩) rfl hl.1 rfl (Nat.le_of_ble_eq_true rfl) ⟨Nat.zero_le _, Nat.zero_le _⟩ dX7_call_20 (fun r_20 u_20 H locs hp_20 hS => ?_)
      have hp_20 : r_20 = cx_b ((0 : Int32) ≤ xe ∧ xe ≤ (nI 9)) := hp_20
      subst hp_20
      refine lv_if_eq (tgt := 36) hx hb dX7_call_23 (by decide) (fun h23 => ?_) (fun h23 => ?_)
      · skip
        have g23 := cx_b0 h23
        exact J36  _ _ _  hS (lv_sub hl [0, 1, 2, 3, 4] rfl)
      · skip
        have g23 := cx_b1 h23
        refine lv_iload hx hb dX7_call_26 (lv_at hl 4 rfl) ?_
        refine lv_iconst (v := (0 : Int32)) hx hb dX7_call_28 (by decide) ?_
        refine lv_iconst (v := nI 4) hx hb dX7_call_29 (by decide) ?_
        refine cx_cSi (As := [.int xf, .int (0 : Int32), .int (nI 4)]) (rest := []) ⟨hx, hb, hml, hown, hts⟩ hE hS (c_X7_in l D [(cI, .int), (cZ, .boolean)] (cyW q cI cZ n T k M d Z F) xf (0 : Int32) (nI 4) ) (va_cwS 3 hts gX7_call_X7_in rfl rfl rfl (by decide +kernel) ⟨Nat.le_of_ble_eq_true rfl, Nat.le_of_ble_eq_true rfl⟩) rfl hl.1 rfl (Nat.le_of_ble_eq_true rfl) ⟨Nat.zero_le _, Nat.zero_le _⟩ dX7_call_30 (fun r_30 u_30 H locs hp_30 hS => ?_)
        have hp_30 : r_30 = cx_b ((0 : Int32) ≤ xf ∧ xf ≤ (nI 4)) := hp_30
        subst hp_30
        refine lv_if_ne (tgt := 38) hx hb dX7_call_33 (by decide) (fun h33 => ?_) (fun h33 => ?_)
        · skip
          have g33 := cx_b1 h33
          refine lv_aload_n hx hb dX7_call_38 rfl (lv_at hl 0 rfl) ?_
          refine lv_iload_n hx hb dX7_call_39 rfl (lv_at hl 2 rfl) ?_
          refine cx_topr (z := nI (xb.toNatClampNeg)) (cx_ixT (by omega) g13).1 ?_
          refine cx_cVi (As := [.int (nI (xb.toNatClampNeg))]) (rest := []) ⟨hx, hb, hml, hown, hts⟩ hE hS (c_X7_isWrongType l D q cI cZ n T k M d Z F xb.toNatClampNeg (by first | assumption | omega | rfl) (by first | assumption | omega | rfl) (by first | assumption | omega | rfl) (by first | assumption | omega | rfl) (by first | assumption | omega | rfl) (by first | assumption | omega | rfl) (by first | assumption | omega | rfl) (by first | assumption | omega | rfl) (by first | assumption | omega | rfl) (by first | assumption | omega | rfl) (by first | assumption | omega | rfl) (by first | assumption | omega | rfl) (by first | assumption | omega | rfl) (by first | assumption | omega | rfl) (by first | assumption | omega | rfl) (by first | assumption | omega | rfl)) (cwV 1 hts gX7_call_X7_isWrongType rfl rfl rfl (by decide +kernel) ⟨Nat.le_of_ble_eq_true rfl, Nat.le_of_ble_eq_true rfl⟩) 0 7 rfl rfl rfl hl.1 rfl (Nat.le_of_ble_eq_true rfl) ⟨Nat.zero_le _, Nat.zero_le _⟩ dX7_call_40 (fun r_40 u_40 H locs hp_40 hS => ?_)
          obtain ⟨za_40, kn_40, d1_40, fo_40, zf_40⟩ := u_40
          have hS : cx_S D vwCl A s (cyW q cI cZ n T k M d1_40 (cx_u (cx_u (cx_u Z 0 za_40) 3 (fun _ => kn_40)) 1 zf_40) (cx_u F 0 fo_40)) H locs := hS
          obtain ⟨hKN_40, hp_40⟩ := hp_40
          have hKN_40 : cx_KN n T za_40 kn_40 := hKN_40
          have hp_40 : (r_40 = 0 ∨ r_40 = 1) ∧ (¬ r_40 = 0 ↔ cx_WR n k ((T 0)) ((T 1)) ((T 2)) ((T 3)) M (cx_Ur T) (cx_Wr T) (cx_Vr T) (cx_Ar T n) xb.toNatClampNeg) := hp_40
          have J55 : ∀ (Z_0_55 : Nat → Int32) (Z_3_55 : Nat → Int32) (H : Heap) (locs : List Loc) (ls : Array Slot), (cx_KN n T Z_0_55 (Z_3_55 0)) → cx_S D vwCl A s (cyW q cI cZ n T k M d1_40 (cx_u (cx_u (cx_u Z 1 zf_40) 0 Z_0_55) 3 Z_3_55) (cx_u F 0 fo_40)) H locs → lv_has ls 9 [(0, .ref (q 0)), (1, .int xa), (2, .int xb), (3, .int xe), (4, .int xf)] → W p l e ({ frames := 8, cells := 0, slots := 0, locals := 187 } : Room) s m args below meth c H locs 0 0 Q (F0 m 55 ls []) := by
            intro Z_0_55 Z_3_55 H locs ls hKN55 hS hl
            refine lv_bipush (v := (-4 : Int32)) hx hb dX7_call_55 (by decide) ?_
            exact RET _ (Z_0_55, Z_3_55 0, d1_40, fo_40, zf_40, Z 2) _ _ _ _ dX7_call_57 rfl (⟨(by first | assumption | exact hKN), trivial⟩) hS
          refine lv_if_ne (tgt := 55) hx hb dX7_call_43 (by decide) (fun h43 => ?_) (fun h43 => ?_)
          · skip
            have g43 : cx_WR n k ((T 0)) ((T 1)) ((T 2)) ((T 3)) M (cx_Ur T) (cx_Wr T) (cx_Vr T) (cx_Ar T n) xb.toNatClampNeg := hp_40.2.mp h43
            exact J55 za_40 (fun _ => kn_40) _ _ _ (by first | assumption | exact hKN) hS (lv_sub hl [0, 1, 2, 3, 4] rfl)
          · skip
            have g43 : ¬ (cx_WR n k ((T 0)) ((T 1)) ((T 2)) ((T 3)) M (cx_Ur T) (cx_Wr T) (cx_Vr T) (cx_Ar T n) xb.toNatClampNeg) := fun z => hp_40.2.mpr z h43
            refine lv_aload_n hx hb dX7_call_46 rfl (lv_at hl 0 rfl) ?_
            refine lv_iload_n hx hb dX7_call_47 rfl (lv_at hl 2 rfl) ?_
            refine cx_topr (z := nI (xb.toNatClampNeg)) (cx_ixT (by omega) g13).1 ?_
            refine lv_iload_n hx hb dX7_call_48 rfl (lv_at hl 1 rfl) ?_
            refine cx_topr (z := nI (xa.toNatClampNeg)) (cx_ixT (by omega) g5).1 ?_
            refine cx_cVi (As := [.int (nI (xb.toNatClampNeg)), .int (nI (xa.toNatClampNeg))]) (rest := []) ⟨hx, hb, hml, hown, hts⟩ hE hS (c_X7_isOf l D q cI cZ n T k M d1_40 (cx_u (cx_u (cx_u Z 0 za_40) 3 (fun _ => kn_40)) 1 zf_40) (cx_u F 0 fo_40) xb.toNatClampNeg xa.toNatClampNeg (by first | assumption | omega | rfl) (by first | assumption | omega | rfl) (by first | assumption | omega | rfl) (by first | assumption | omega | rfl) (by first | assumption | omega | rfl) (by first | assumption | omega | rfl) (by first | assumption | omega | rfl)) (cwV 2 hts gX7_call_X7_isOf rfl rfl rfl (by decide +kernel) ⟨Nat.le_of_ble_eq_true rfl, Nat.le_of_ble_eq_true rfl⟩) 0 7 rfl rfl rfl hl.1 rfl (Nat.le_of_ble_eq_true rfl) ⟨Nat.zero_le _, Nat.zero_le _⟩ dX7_call_49 (fun r_49 u_49 H locs hp_49 hS => ?_)
            obtain ⟨za_49, kn_49⟩ := u_49
            have hS : cx_S D vwCl A s (cyW q cI cZ n T k M d1_40 (cx_u (cx_u (cx_u Z 1 zf_40) 0 za_49) 3 (fun _ => kn_49)) (cx_u F 0 fo_40)) H locs := hS
            obtain ⟨hKN_49, hp_49⟩ := hp_49
            have hKN_49 : cx_KN n T za_49 kn_49 := hKN_49
            have hp_49 : ((r_49 = 0 ∨ r_49 = 1) ∧ (¬ r_49 = 0 ↔ cx_is (cx_Ar T n) xb.toNatClampNeg xa.toNatClampNeg)) ∧ (∀ wa wu, wa < n → wu < n → (¬ za_49 (20 * wa + wu) = 0 ↔ (cx_w3 n (cx_Er T n) n) wa wu)) := hp_49
            refine lv_if_ne (tgt := 58) hx hb dX7_call_52 (by decide) (fun h52 => ?_) (fun h52 => ?_)
            · skip
              have g52 : cx_is (cx_Ar T n) xb.toNatClampNeg xa.toNatClampNeg := hp_49.1.2.mp h52
              refine lv_aload_n hx hb dX7_call_58 rfl (lv_at hl 0 rfl) ?_
              refine lv_iload_n hx hb dX7_call_59 rfl (lv_at hl 1 rfl) ?_
              refine cx_topr (z := nI (xa.toNatClampNeg)) (cx_ixT (by omega) g5).1 ?_
              refine lv_iload_n hx hb dX7_call_60 rfl (lv_at hl 3 rfl) ?_
              refine lv_iload hx hb dX7_call_61 (lv_at hl 4 rfl) ?_
              refine cx_cVi (As := [.int (nI (xa.toNatClampNeg)), .int xe, .int xf]) (rest := []) ⟨hx, hb, hml, hown, hts⟩ hE hS (c_X7_classOne l D q cI cZ n T k M d1_40 (cx_u (cx_u (cx_u Z 1 zf_40) 0 za_49) 3 (fun _ => kn_49)) (cx_u F 0 fo_40) xa.toNatClampNeg xe xf (by first | assumption | omega | rfl) (by first | assumption | omega | rfl) (by first | assumption | omega | rfl) (by first | assumption | omega | rfl) (by first | assumption | omega | rfl) (by first | assumption | omega | rfl) (by first | assumption | omega | rfl) (by first | assumption | omega | rfl) (by first | assumption | omega | rfl) (by first | assumption | omega | rfl)) (cwV 3 hts gX7_call_X7_classOne rfl rfl rfl (by decide +kernel) ⟨Nat.le_of_ble_eq_true rfl, Nat.le_of_ble_eq_true rfl⟩) 0 7 rfl rfl rfl hl.1 rfl (Nat.le_of_ble_eq_true rfl) ⟨Nat.zero_le _, Nat.zero_le _⟩ dX7_call_63 (fun r_63 u_63 H locs hp_63 hS => ?_)
              obtain ⟨za_63, kn_63⟩ := u_63
              have hS : cx_S D vwCl A s (cyW q cI cZ n T k M d1_40 (cx_u (cx_u (cx_u Z 1 zf_40) 0 za_63) 3 (fun _ => kn_63)) (cx_u F 0 fo_40)) H locs := hS
              obtain ⟨hKN_63, hp_63⟩ := hp_63
              have hKN_63 : cx_KN n T za_63 kn_63 := hKN_63
              have hp_63 : (cx_co n k ((T 0)) ((T 2)) ((T 3)) M (cx_Ar T n) xa.toNatClampNeg xe xf r_63) ∧ (r_63 = -1 ∨ cx_ix r_63 80) := hp_63
              refine lv_istore (lv' := [(5, .int r_63), (0, .ref (q 0)), (1, .int xa), (2, .int xb), (3, .int xe), (4, .int xf)]) hx hb dX7_call_66 hl (by decide) rfl (fun ls hl => ?_)
              refine lv_iload hx hb dX7_call_68 (lv_at hl 0 rfl) ?_
              have J88 : ∀ (v88_l5 : Int32) (d_88 : Nat) (Z_0_88 : Nat → Int32) (Z_3_88 : Nat → Int32) (F_0_88 : Nat → Int32) (H : Heap) (locs : List Loc) (ls : Array Slot), (cx_KN n T Z_0_88 (Z_3_88 0)) → (v88_l5 = -1 ∨ cx_ix v88_l5 80) → cx_S D vwCl A s (cyW q cI cZ n T k M d_88 (cx_u (cx_u (cx_u Z 1 zf_40) 0 Z_0_88) 3 Z_3_88) (cx_u F 0 F_0_88)) H locs → lv_has ls 9 [(0, .ref (q 0)), (1, .int xa), (2, .int xb), (3, .int xe), (4, .int xf), (5, .int v88_l5)] → W p l e ({ frames := 8, cells := 0, slots := 0, locals := 187 } : Room) s m args below meth c H locs 0 0 Q (F0 m 88 ls []) := by
                intro v88_l5 d_88 Z_0_88 Z_3_88 F_0_88 H locs ls hKN88 hv hS hl
                refine lv_iload hx hb dX7_call_88 (lv_at hl 5 rfl) ?_
                refine lv_if_ge (tgt := 96) hx hb dX7_call_90 (by decide) (fun h90 => ?_) (fun h90 => ?_)
                · skip
                  have hq90 := (cx_pg hv h90).2
                  refine lv_aload_n hx hb dX7_call_96 rfl (lv_at hl 0 rfl) ?_
                  refine cx_get (own := RX7) (index := 46) (C := RX7) (T := TX7) (N := 22) (k := 14) (ci := 7) (v := .ref (q 13)) hx hb hts hown hE hS hinX7 0 rfl rfl (by decide) (List.mem_of_getElem? (i := 1) rfl) rfl dX7_call_97 ?_
                  refine lv_iload hx hb dX7_call_100 (lv_at hl 5 rfl) ?_
                  refine cx_topr (z := nI (v88_l5.toNatClampNeg)) (cx_pg hv h90).1 ?_
                  refine cx_iald (f := (M 4)) (n := 80) (cA := cI) hx hb hE hS 13 0 rfl rfl (by omega) (by decide) dX7_call_102 ?_
                  refine lv_if_ne (tgt := 109) hx hb dX7_call_103 (by decide) (fun h103 => ?_) (fun h103 => ?_)
                  · skip
                    refine lv_aload_n hx hb dX7_call_109 rfl (lv_at hl 0 rfl) ?_
                    refine cx_get (own := RX7) (index := 7) (C := RX7) (T := TX7) (N := 22) (k := 1) (ci := 7) (v := .ref (q 1)) hx hb hts hown hE hS hinX7 0 rfl rfl (by decide) (List.mem_of_getElem? (i := 2) rfl) rfl dX7_call_110 ?_
                    refine lv_aload_n hx hb dX7_call_113 rfl (lv_at hl 0 rfl) ?_
                    refine cx_get (own := RX7) (index := 34) (C := RX7) (T := TX7) (N := 22) (k := 10) (ci := 7) (v := .ref (q 9)) hx hb hts hown hE hS hinX7 0 rfl rfl (by decide) (List.mem_of_getElem? (i := 3) rfl) rfl dX7_call_114 ?_
                    refine lv_iload hx hb dX7_call_117 (lv_at hl 5 rfl) ?_
                    refine cx_topr (z := nI (v88_l5.toNatClampNeg)) (cx_pg hv h90).1 ?_
                    refine cx_iald (f := (M 0)) (n := 80) (cA := cI) hx hb hE hS 9 0 rfl rfl (by omega) (by decide) dX7_call_119 ?_
                    have ho119 := (hO v88_l5.toNatClampNeg).2
                    refine cx_topr (z := nI (((M 0) v88_l5.toNatClampNeg).toNatClampNeg)) (hO v88_l5.toNatClampNeg).1 ?_
                    refine cx_iald (f := (T 0)) (n := 20) (cA := cI) hx hb hE hS 1 0 rfl rfl (by omega) (by decide) dX7_call_120 ?_
                    refine lv_iconst (v := (1 : Int32)) hx hb dX7_call_121 (by decide) ?_
                    refine lv_icmp_ne (tgt := 134) hx hb dX7_call_122 (by decide) (fun h122 => ?_) (fun h122 => ?_)
                    · skip
                      refine lv_aload_n hx hb dX7_call_134 rfl (lv_at hl 0 rfl) ?_
                      refine lv_iload hx hb dX7_call_135 (lv_at hl 5 rfl) ?_
                      refine cx_topr (z := nI (v88_l5.toNatClampNeg)) (cx_pg hv h90).1 ?_
                      refine cx_cVv (As := [.int (nI (v88_l5.toNatClampNeg))]) (rest := []) ⟨hx, hb, hml, hown, hts⟩ hE hS (c_X7_findTaking l D q cI cZ n T k M d_88 (cx_u (cx_u (cx_u Z 1 zf_40) 0 Z_0_88) 3 Z_3_88) (cx_u F 0 F_0_88) v88_l5.toNatClampNeg (by first | assumption | omega | rfl) (by first | assumption | omega | rfl) (by first | assumption | omega | rfl)) (cwV 1 hts gX7_call_X7_findTaking rfl rfl rfl (by decide +kernel) ⟨Nat.le_of_ble_eq_true rfl, Nat.le_of_ble_eq_true rfl⟩) 0 7 rfl rfl rfl hl.1 rfl (Nat.le_of_ble_eq_true rfl) ⟨Nat.zero_le _, Nat.zero_le _⟩ dX7_call_137 (fun u_137 H locs hp_137 hS => ?_)
                      obtain ⟨zt_137, rfl⟩ : ∃ z, z = u_137 := ⟨_, rfl⟩
                      have hS : cx_S D vwCl A s (cyW q cI cZ n T k M d_88 (cx_u (cx_u (cx_u (cx_u Z 1 zf_40) 0 Z_0_88) 3 Z_3_88) 2 zt_137) (cx_u F 0 F_0_88)) H locs := hS
                      refine lv_iload_n hx hb dX7_call_140 rfl (lv_at hl 2 rfl) ?_
                      refine lv_istore (lv' := [(6, .int xb), (0, .ref (q 0)), (1, .int xa), (2, .int xb), (3, .int xe), (4, .int xf), (5, .int v88_l5)]) hx hb dX7_call_141 hl (by decide) rfl (fun ls hl => ?_)
                      refine lv_iconst (v := (0 : Int32)) hx hb dX7_call_143 (by decide) ?_
                      refine cx_topr (z := nI 0) (by decide) ?_
                      refine lv_istore (lv' := [(7, .int (nI 0)), (6, .int xb), (0, .ref (q 0)), (1, .int xa), (2, .int xb), (3, .int xe), (4, .int xf), (5, .int v88_l5)]) hx hb dX7_call_144 hl (by decide) rfl (fun ls hl => ?_)
                      have J146 : ∀ (N : Nat) (v146_l6 : Int32) (i146 : Nat) (H : Heap) (locs : List Loc) (ls : Array Slot), (20 - i146 < N) → (i146 ≤ 20) → cx_S D vwCl A s (cyW q cI cZ n T k M d_88 (cx_u (cx_u (cx_u (cx_u Z 1 zf_40) 0 Z_0_88) 3 Z_3_88) 2 zt_137) (cx_u F 0 F_0_88)) H locs → lv_has ls 9 [(0, .ref (q 0)), (1, .int xa), (2, .int xb), (3, .int xe), (4, .int xf), (5, .int v88_l5), (6, .int v146_l6), (7, .int (nI i146))] → W p l e ({ frames := 8, cells := 0, slots := 0, locals := 187 } : Room) s m args below meth c H locs 0 0 Q (F0 m 146 ls []) := by
                        intro N146
                        induction N146 with
                        | zero => intro v146_l6 i146 H locs ls hN; exact absurd hN (by omega)
                        | succ N146 ih146 =>
                          intro v146_l6 i146 H locs ls hN146 hi146 hS hl
                          refine lv_iload hx hb dX7_call_146 (lv_at hl 7 rfl) ?_
                          refine lv_bipush (v := nI 20) hx hb dX7_call_148 (by decide) ?_
                          have J249 : ∀ (H : Heap) (locs : List Loc) (ls : Array Slot), cx_S D vwCl A s (cyW q cI cZ n T k M d_88 (cx_u (cx_u (cx_u (cx_u Z 1 zf_40) 0 Z_0_88) 3 Z_3_88) 2 zt_137) (cx_u F 0 F_0_88)) H locs → lv_has ls 9 [(0, .ref (q 0)), (1, .int xa), (2, .int xb), (3, .int xe), (4, .int xf), (5, .int v88_l5), (6, .int v146_l6), (7, .int (nI i146))] → W p l e ({ frames := 8, cells := 0, slots := 0, locals := 187 } : Room) s m args below meth c H locs 0 0 Q (F0 m 249 ls []) := by
                            intro  H locs ls  hS hl
                            refine lv_bipush (v := (-3 : Int32)) hx hb dX7_call_249 (by decide) ?_
                            exact RET _ (Z_0_88, Z_3_88 0, d_88, F_0_88, zf_40, zt_137) _ _ _ _ dX7_call_251 rfl (⟨(by first | assumption | exact hKN), trivial⟩) hS
                          refine lv_icmp_ge (tgt := 249) hx hb dX7_call_150 (by decide) (fun h150 => ?_) (fun h150 => ?_)
                          · skip
                            have g150 : 20 ≤ i146 := (nI_leI (a := 20) (b := i146) (by omega) (by omega)).mp h150
                            exact J249  _ _ _  hS (lv_sub hl [0, 1, 2, 3, 4, 5, 6, 7] rfl)
                          · skip
                            have g150 : ¬ (20 ≤ i146) := fun z => h150 ((nI_leI (a := 20) (b := i146) (by omega) (by omega)).mpr z)
                            refine lv_aload_n hx hb dX7_call_153 rfl (lv_at hl 0 rfl) ?_
                            refine lv_iload hx hb dX7_call_154 (lv_at hl 6 rfl) ?_
                            refine cx_cVi (As := [.int v146_l6]) (rest := []) ⟨hx, hb, hml, hown, hts⟩ hE hS (c_X7_isType l D q cI cZ n T k M d_88 (cx_u (cx_u (cx_u (cx_u Z 1 zf_40) 0 Z_0_88) 3 Z_3_88) 2 zt_137) (cx_u F 0 F_0_88) v146_l6 (by first | assumption | omega | rfl)) (cwV 1 hts gX7_call_X7_isType rfl rfl rfl (by decide +kernel) ⟨Nat.le_of_ble_eq_true rfl, Nat.le_of_ble_eq_true rfl⟩) 0 7 rfl rfl rfl hl.1 rfl (Nat.le_of_ble_eq_true rfl) ⟨Nat.zero_le _, Nat.zero_le _⟩ dX7_call_156 (fun r_156 u_156 H locs hp_156 hS => ?_)
                            have hp_156 : r_156 = cx_b (0 ≤ v146_l6 ∧ v146_l6 < nI n) := hp_156
                            subst hp_156
                            refine lv_if_eq (tgt := 249) hx hb dX7_call_159 (by decide) (fun h159 => ?_) (fun h159 => ?_)
                            · skip
                              have g159 := cx_b0 h159
                              exact J249  _ _ _  hS (lv_sub hl [0, 1, 2, 3, 4, 5, 6, 7] rfl)
                            · skip
                              have g159 := cx_b1 h159
                              refine lv_iconst (v := (0 : Int32)) hx hb dX7_call_162 (by decide) ?_
                              refine cx_topr (z := nI 0) (by decide) ?_
                              refine lv_istore (lv' := [(8, .int (nI 0)), (0, .ref (q 0)), (1, .int xa), (2, .int xb), (3, .int xe), (4, .int xf), (5, .int v88_l5), (6, .int v146_l6), (7, .int (nI i146))]) hx hb dX7_call_163 hl (by decide) rfl (fun ls hl => ?_)
                              have J165 : ∀ (N : Nat) (i165 : Nat) (H : Heap) (locs : List Loc) (ls : Array Slot), (k - i165 < N) → (i165 ≤ k) → cx_S D vwCl A s (cyW q cI cZ n T k M d_88 (cx_u (cx_u (cx_u (cx_u Z 1 zf_40) 0 Z_0_88) 3 Z_3_88) 2 zt_137) (cx_u F 0 F_0_88)) H locs → lv_has ls 9 [(0, .ref (q 0)), (1, .int xa), (2, .int xb), (3, .int xe), (4, .int xf), (5, .int v88_l5), (6, .int v146_l6), (7, .int (nI i146)), (8, .int (nI i165))] → W p l e ({ frames := 8, cells := 0, slots := 0, locals := 187 } : Room) s m args below meth c H locs 0 0 Q (F0 m 165 ls []) := by
                                intro N165
                                induction N165 with
                                | zero => intro i165 H locs ls hN; exact absurd hN (by omega)
                                | succ N165 ih165 =>
                                  intro i165 H locs ls hN165 hi165 hS hl
                                  refine lv_iload hx hb dX7_call_165 (lv_at hl 8 rfl) ?_
                                  refine lv_aload_n hx hb dX7_call_167 rfl (lv_at hl 0 rfl) ?_
                                  refine cx_get (own := RX7) (index := 81) (C := RX7) (T := TX7) (N := 22) (k := 9) (ci := 7) (v := .int (nI k)) hx hb hts hown hE hS hinX7 0 rfl rfl (by decide) (List.mem_of_getElem? (i := 4) rfl) rfl dX7_call_168 ?_
                                  refine lv_icmp_ge (tgt := 234) hx hb dX7_call_171 (by decide) (fun h171 => ?_) (fun h171 => ?_)
                                  · skip
                                    have g171 : k ≤ i165 := (nI_leI (a := k) (b := i165) (by omega) (by omega)).mp h171
                                    refine lv_aload_n hx hb dX7_call_234 rfl (lv_at hl 0 rfl) ?_
                                    refine cx_get (own := RX7) (index := 19) (C := RX7) (T := TX7) (N := 22) (k := 4) (ci := 7) (v := .ref (q 4)) hx hb hts hown hE hS hinX7 0 rfl rfl (by decide) (List.mem_of_getElem? (i := 6) rfl) rfl dX7_call_235 ?_
                                    refine lv_iload hx hb dX7_call_238 (lv_at hl 6 rfl) ?_
                                    refine cx_topr (z := nI (v146_l6.toNatClampNeg)) (cx_ixT (by omega) g159).1 ?_
                                    refine cx_iald (f := (T 3)) (n := 20) (cA := cI) hx hb hE hS 4 0 rfl rfl (by have := (cx_ixT (by omega) g159).2; omega) (by decide) dX7_call_240 ?_
                                    refine lv_istore (lv' := [(6, .int ((T 3) v146_l6.toNatClampNeg)), (0, .ref (q 0)), (1, .int xa), (2, .int xb), (3, .int xe), (4, .int xf), (5, .int v88_l5), (7, .int (nI i146)), (8, .int (nI i165))]) hx hb dX7_call_241 hl (by decide) rfl (fun ls hl => ?_)
                                    refine lv_iinc (v := nI (i146 + 1)) (lv' := [(7, .int (nI (i146 + 1))), (6, .int ((T 3) v146_l6.toNatClampNeg)), (0, .ref (q 0)), (1, .int xa), (2, .int xb), (3, .int xe), (4, .int xf), (5, .int v88_l5), (8, .int (nI i165))]) hx hb dX7_call_243 hl (k := 7) rfl (cx_inc _) (by decide) rfl (fun ls hl => ?_)
                                    refine lv_goto (tgt := 146) hx hb dX7_call_246 (by decide) ?_
                                    exact ih146 ((T 3) v146_l6.toNatClampNeg) (i146 + 1) _ _ _ (by (try clear hp_130); (try clear hp_83); omega) (by (try clear hp_130); (try clear hp_83); omega) hS (lv_sub hl [2, 3, 4, 5, 6, 7, 1, 0] rfl)
                                  · skip
                                    have g171 : ¬ (k ≤ i165) := fun z => h171 ((nI_leI (a := k) (b := i165) (by omega) (by omega)).mpr z)
                                    refine lv_aload_n hx hb dX7_call_174 rfl (lv_at hl 0 rfl) ?_
                                    refine cx_get (own := RX7) (index := 34) (C := RX7) (T := TX7) (N := 22) (k := 10) (ci := 7) (v := .ref (q 9)) hx hb hts hown hE hS hinX7 0 rfl rfl (by decide) (List.mem_of_getElem? (i := 3) rfl) rfl dX7_call_175 ?_
                                    refine lv_iload hx hb dX7_call_178 (lv_at hl 8 rfl) ?_
                                    refine cx_iald (f := (M 0)) (n := 80) (cA := cI) hx hb hE hS 9 0 rfl rfl (by omega) (by decide) dX7_call_180 ?_
                                    refine lv_iload hx hb dX7_call_181 (lv_at hl 6 rfl) ?_
                                    have J228 : ∀ (H : Heap) (locs : List Loc) (ls : Array Slot), cx_S D vwCl A s (cyW q cI cZ n T k M d_88 (cx_u (cx_u (cx_u (cx_u Z 1 zf_40) 0 Z_0_88) 3 Z_3_88) 2 zt_137) (cx_u F 0 F_0_88)) H locs → lv_has ls 9 [(0, .ref (q 0)), (1, .int xa), (2, .int xb), (3, .int xe), (4, .int xf), (5, .int v88_l5), (6, .int v146_l6), (7, .int (nI i146)), (8, .int (nI i165))] → W p l e ({ frames := 8, cells := 0, slots := 0, locals := 187 } : Room) s m args below meth c H locs 0 0 Q (F0 m 228 ls []) := by
                                      intro  H locs ls  hS hl
                                      refine lv_iinc (v := nI (i165 + 1)) (lv' := [(8, .int (nI (i165 + 1))), (0, .ref (q 0)), (1, .int xa), (2, .int xb), (3, .int xe), (4, .int xf), (5, .int v88_l5), (6, .int v146_l6), (7, .int (nI i146))]) hx hb dX7_call_228 hl (k := 8) rfl (cx_inc _) (by decide) rfl (fun ls hl => ?_)
                                      refine lv_goto (tgt := 165) hx hb dX7_call_231 (by decide) ?_
                                      exact ih165 (i165 + 1) _ _ _ (by (try clear hp_130); (try clear hp_83); omega) (by (try clear hp_130); (try clear hp_83); omega) hS (lv_sub hl [1, 2, 3, 4, 5, 6, 7, 8, 0] rfl)
                                    refine lv_icmp_ne (tgt := 228) hx hb dX7_call_183 (by decide) (fun h183 => ?_) (fun h183 => ?_)
                                    · skip
                                      exact J228  _ _ _  hS (lv_sub hl [0, 1, 2, 3, 4, 5, 6, 7, 8] rfl)
                                    · skip
                                      refine lv_iload hx hb dX7_call_186 (lv_at hl 8 rfl) ?_
                                      refine lv_iload hx hb dX7_call_188 (lv_at hl 5 rfl) ?_
                                      have J209 : ∀ (H : Heap) (locs : List Loc) (ls : Array Slot), cx_S D vwCl A s (cyW q cI cZ n T k M d_88 (cx_u (cx_u (cx_u (cx_u Z 1 zf_40) 0 Z_0_88) 3 Z_3_88) 2 zt_137) (cx_u F 0 F_0_88)) H locs → lv_has ls 9 [(0, .ref (q 0)), (1, .int xa), (2, .int xb), (3, .int xe), (4, .int xf), (5, .int v88_l5), (6, .int v146_l6), (7, .int (nI i146)), (8, .int (nI i165))] → W p l e ({ frames := 8, cells := 0, slots := 0, locals := 187 } : Room) s m args below meth c H locs 0 0 Q (F0 m 209 ls []) := by
                                        intro  H locs ls  hS hl
                                        refine lv_aload_n hx hb dX7_call_209 rfl (lv_at hl 0 rfl) ?_
                                        refine lv_iload hx hb dX7_call_210 (lv_at hl 8 rfl) ?_
                                        refine lv_iconst (v := (1 : Int32)) hx hb dX7_call_212 (by decide) ?_
                                        refine lv_iconst (v := (1 : Int32)) hx hb dX7_call_213 (by decide) ?_
                                        refine cx_cVi (As := [.int (nI i165), .int (1 : Int32), .int (1 : Int32)]) (rest := []) ⟨hx, hb, hml, hown, hts⟩ hE hS (c_X7_is_at_1 l D q cI cZ n T k M d_88 (cx_u (cx_u (cx_u (cx_u Z 1 zf_40) 0 Z_0_88) 3 Z_3_88) 2 zt_137) (cx_u F 0 F_0_88) i165 (1 : Int32) (1 : Int32) (by first | assumption | omega | rfl) (by first | assumption | omega | rfl)) (cwV 3 hts gX7_call_X7_is rfl rfl rfl (by decide +kernel) ⟨Nat.le_of_ble_eq_true rfl, Nat.le_of_ble_eq_true rfl⟩) 0 7 rfl rfl rfl hl.1 rfl (Nat.le_of_ble_eq_true rfl) ⟨Nat.zero_le _, Nat.zero_le _⟩ dX7_call_214 (fun r_214 u_214 H locs hp_214 hS => ?_)
                                        have hp_214 : (r_214 = 0 ∨ r_214 = 1) ∧ (¬ r_214 = 0 ↔ cx_mk ((M 3)) i165 (1 : Int32)) := hp_214
                                        have J227 : ∀ (v227_s0 : Int32) (H : Heap) (locs : List Loc) (ls : Array Slot), cx_S D vwCl A s (cyW q cI cZ n T k M d_88 (cx_u (cx_u (cx_u (cx_u Z 1 zf_40) 0 Z_0_88) 3 Z_3_88) 2 zt_137) (cx_u F 0 F_0_88)) H locs → lv_has ls 9 [(0, .ref (q 0)), (1, .int xa), (2, .int xb), (3, .int xe), (4, .int xf), (5, .int v88_l5), (6, .int v146_l6), (7, .int (nI i146)), (8, .int (nI i165))] → W p l e ({ frames := 8, cells := 0, slots := 0, locals := 187 } : Room) s m args below meth c H locs 0 0 Q (F0 m 227 ls [.int v227_s0]) := by
                                          intro v227_s0 H locs ls  hS hl
                                          exact RET _ (Z_0_88, Z_3_88 0, d_88, F_0_88, zf_40, zt_137) _ _ _ _ dX7_call_227 rfl (⟨(by first | assumption | exact hKN), trivial⟩) hS
                                        refine lv_if_eq (tgt := 225) hx hb dX7_call_217 (by decide) (fun h217 => ?_) (fun h217 => ?_)
                                        · skip
                                          have g217 : ¬ (cx_mk ((M 3)) i165 (1 : Int32)) := fun z => hp_214.2.mpr z h217
                                          refine lv_iload hx hb dX7_call_225 (lv_at hl 8 rfl) ?_
                                          exact J227 (nI i165) _ _ _  hS (lv_sub hl [0, 1, 2, 3, 4, 5, 6, 7, 8] rfl)
                                        · skip
                                          have g217 : cx_mk ((M 3)) i165 (1 : Int32) := hp_214.2.mp h217
                                          refine lv_bipush (v := (-3 : Int32)) hx hb dX7_call_220 (by decide) ?_
                                          refine lv_goto (tgt := 227) hx hb dX7_call_222 (by decide) ?_
                                          exact J227 (-3 : Int32) _ _ _  hS (lv_sub hl [0, 1, 2, 3, 4, 5, 6, 7, 8] rfl)
                                      refine lv_icmp_eq (tgt := 209) hx hb dX7_call_190 (by decide) (fun h190 => ?_) (fun h190 => ?_)
                                      · skip
                                        exact J209  _ _ _  hS (lv_sub hl [0, 1, 2, 3, 4, 5, 6, 7, 8] rfl)
                                      · skip
                                        refine lv_aload_n hx hb dX7_call_193 rfl (lv_at hl 0 rfl) ?_
                                        refine cx_get (own := RX7) (index := 62) (C := RX7) (T := TX7) (N := 22) (k := 21) (ci := 7) (v := .ref (q 18)) hx hb hts hown hE hS hinX7 0 rfl rfl (by decide) (List.mem_of_getElem? (i := 5) rfl) rfl dX7_call_194 ?_
                                        refine lv_bipush (v := nI 80) hx hb dX7_call_197 (by decide) ?_
                                        refine lv_iload hx hb dX7_call_199 (lv_at hl 8 rfl) ?_
                                        refine lv_imul hx hb dX7_call_201 ?_
                                        refine cx_topr (z := nI (80 * i165)) (pk_mul _ _) ?_
                                        refine lv_iload hx hb dX7_call_202 (lv_at hl 5 rfl) ?_
                                        refine cx_topr (z := nI (v88_l5.toNatClampNeg)) (cx_pg hv h90).1 ?_
                                        refine lv_iadd hx hb dX7_call_204 ?_
                                        refine cx_topr (z := nI (80 * i165 + v88_l5.toNatClampNeg)) (nI_add _ _) ?_
                                        refine cx_zald (f := zt_137) (n := 6400) (cA := cZ) hx hb hE hS 18 1 rfl rfl (by omega) (by decide) dX7_call_205 ?_
                                        refine lv_if_eq (tgt := 228) hx hb dX7_call_206 (by decide) (fun h206 => ?_) (fun h206 => ?_)
                                        · skip
                                          exact J228  _ _ _  hS (lv_sub hl [0, 1, 2, 3, 4, 5, 6, 7, 8] rfl)
                                        · skip
                                          exact J209  _ _ _  hS (lv_sub hl [0, 1, 2, 3, 4, 5, 6, 7, 8] rfl)
                              exact J165 (k - 0 + 1) 0 _ _ _ (Nat.lt_succ_self _) (by (try clear hp_130); (try clear hp_83); omega) hS (lv_sub hl [1, 2, 3, 4, 5, 6, 7, 8, 0] rfl)
                      exact J146 (20 - 0 + 1) xb 0 _ _ _ (Nat.lt_succ_self _) (by (try clear hp_130); (try clear hp_83); omega) hS (lv_sub hl [2, 3, 4, 5, 6, 7, 1, 0] rfl)
                    · skip
                      refine lv_aload_n hx hb dX7_call_125 rfl (lv_at hl 0 rfl) ?_
                      refine lv_iload_n hx hb dX7_call_126 rfl (lv_at hl 2 rfl) ?_
                      refine cx_topr (z := nI (xb.toNatClampNeg)) (cx_ixT (by omega) g13).1 ?_
                      refine lv_iload_n hx hb dX7_call_127 rfl (lv_at hl 3 rfl) ?_
                      refine lv_iload hx hb dX7_call_128 (lv_at hl 4 rfl) ?_
                      refine cx_cVi (As := [.int (nI (xb.toNatClampNeg)), .int xe, .int xf]) (rest := []) ⟨hx, hb, hml, hown, hts⟩ hE hS (c_X7_running l D q cI cZ n T k M d_88 (cx_u (cx_u (cx_u Z 1 zf_40) 0 Z_0_88) 3 Z_3_88) (cx_u F 0 F_0_88) xb.toNatClampNeg xe xf (by first | assumption | omega | rfl) (by first | assumption | omega | rfl) (by first | assumption | omega | rfl) (by first | assumption | omega | rfl) (by first | assumption | omega | rfl) (by first | assumption | omega | rfl) (by first | assumption | omega | rfl) (by first | assumption | omega | rfl) (by first | assumption | omega | rfl) (by first | assumption | omega | rfl)) (cwV 3 hts gX7_call_X7_running rfl rfl rfl (by decide +kernel) ⟨Nat.le_of_ble_eq_true rfl, Nat.le_of_ble_eq_true rfl⟩) 0 7 rfl rfl rfl hl.1 rfl (Nat.le_of_ble_eq_true rfl) ⟨Nat.zero_le _, Nat.zero_le _⟩ dX7_call_130 (fun r_130 u_130 H locs hp_130 hS => ?_)
                      obtain ⟨za_130, kn_130, d1_130, fo_130⟩ := u_130
                      have hS : cx_S D vwCl A s (cyW q cI cZ n T k M d1_130 (cx_u (cx_u (cx_u Z 1 zf_40) 0 za_130) 3 (fun _ => kn_130)) (cx_u F 0 fo_130)) H locs := hS
                      obtain ⟨hKN_130, hp_130⟩ := hp_130
                      have hKN_130 : cx_KN n T za_130 kn_130 := hKN_130
                      have hp_130 : (∀ u, u < n → cx_is (cx_Ar T n) xb.toNatClampNeg u → ¬ (cx_Ar T n) u u) → ∃ r0 : Int32, cx_rn n k ((T 0)) ((T 2)) ((T 3)) M (cx_Ar T n) xb.toNatClampNeg xe xf r0 ∧ ((r0 = -1 ∧ r_130 = (-3 : Int32)) ∨ (¬ r0 = -1 ∧ r_130 = r0)) := hp_130
                      exact RET _ (za_130, kn_130, d1_130, fo_130, zf_40, Z 2) _ _ _ _ dX7_call_133 rfl (⟨(by first | assumption | exact hKN), trivial⟩) hS
                  · skip
                    refine lv_iload hx hb dX7_call_106 (lv_at hl 5 rfl) ?_
                    exact RET _ (Z_0_88, Z_3_88 0, d_88, F_0_88, zf_40, Z 2) _ _ _ _ dX7_call_108 rfl (⟨(by first | assumption | exact hKN), trivial⟩) hS
                · skip
                  refine lv_bipush (v := (-3 : Int32)) hx hb dX7_call_93 (by decide) ?_
                  exact RET _ (Z_0_88, Z_3_88 0, d_88, F_0_88, zf_40, Z 2) _ _ _ _ dX7_call_95 rfl (⟨(by first | assumption | exact hKN), trivial⟩) hS
              refine lv_if_ge (tgt := 88) hx hb dX7_call_70 (by decide) (fun h70 => ?_) (fun h70 => ?_)
              · skip
                exact J88 r_63 d1_40 za_63 (fun _ => kn_63) fo_40 _ _ _ (by first | assumption | exact hKN) (by first | exact hp_63.2 | exact hp_83.1.1) hS (lv_sub hl [1, 2, 3, 4, 5, 0] rfl)
              · skip
                refine lv_aload_n hx hb dX7_call_73 rfl (lv_at hl 1 rfl) ?_
                refine lv_iload_n hx hb dX7_call_74 rfl (lv_at hl 2 rfl) ?_
                refine cx_topr (z := nI (xa.toNatClampNeg)) (cx_ixT (by omega) g5).1 ?_
                refine lv_iload_n hx hb dX7_call_75 rfl (lv_at hl 4 rfl) ?_
                refine lv_iload hx hb dX7_call_76 (lv_at hl 5 rfl) ?_
                refine cx_cVv (As := [.int (nI (xa.toNatClampNeg)), .int xe, .int xf]) (rest := []) ⟨hx, hb, hml, hown, hts⟩ hE hS (c_X7_findFaceOnes l D q cI cZ n T k M d1_40 (cx_u (cx_u (cx_u Z 1 zf_40) 0 za_63) 3 (fun _ => kn_63)) (cx_u F 0 fo_40) xa.toNatClampNeg xe xf (by first | assumption | omega | rfl) (by first | assumption | omega | rfl) (by first | assumption | omega | rfl) (by first | assumption | omega | rfl) (by first | assumption | omega | rfl) (by first | assumption | omega | rfl) (by first | assumption | omega | rfl) (by first | assumption | omega | rfl) (by first | assumption | omega | rfl) (by first | assumption | omega | rfl)) (cwV 3 hts gX7_call_X7_findFaceOnes rfl rfl rfl (by decide +kernel) ⟨Nat.le_of_ble_eq_true rfl, Nat.le_of_ble_eq_true rfl⟩) 0 7 rfl rfl rfl hl.1 rfl (Nat.le_of_ble_eq_true rfl) ⟨Nat.zero_le _, Nat.zero_le _⟩ dX7_call_78 (fun u_78 H locs hp_78 hS => ?_)
                obtain ⟨za_78, kn_78, d1_78, fo_78⟩ := u_78
                have hS : cx_S D vwCl A s (cyW q cI cZ n T k M d1_78 (cx_u (cx_u (cx_u Z 1 zf_40) 0 za_78) 3 (fun _ => kn_78)) (cx_u F 0 fo_78)) H locs := hS
                obtain ⟨hKN_78, hp_78⟩ := hp_78
                have hKN_78 : cx_KN n T za_78 kn_78 := hKN_78
                have hp_78 : (d1_78 ≤ 20 ∧ ∀ j, j < d1_78 → cx_ix (fo_78 j) 80) ∧ ((∀ u, u < n → cx_is (cx_Ar T n) xa.toNatClampNeg u → ¬ (cx_Ar T n) u u) → cx_LI (cx_fo k ((T 0)) M (cx_Ar T n) xa.toNatClampNeg xe xf) fo_78 d1_78) := hp_78
                refine lv_aload_n hx hb dX7_call_81 rfl (lv_at hl 1 rfl) ?_
                refine lv_iconst (v := (0 : Int32)) hx hb dX7_call_82 (by decide) ?_
                refine cx_cVi (As := [.int (0 : Int32)]) (rest := []) ⟨hx, hb, hml, hown, hts⟩ hE hS (c_X7_leastFaceOne l D q cI cZ n T k M d1_78 (cx_u (cx_u (cx_u Z 1 zf_40) 0 za_78) 3 (fun _ => kn_78)) (cx_u F 0 fo_78) (0 : Int32) hp_78.1.1 hp_78.1.2) (cwV 1 hts gX7_call_X7_leastFaceOne rfl rfl rfl (by decide +kernel) ⟨Nat.le_of_ble_eq_true rfl, Nat.le_of_ble_eq_true rfl⟩) 0 7 rfl rfl rfl hl.1 rfl (Nat.le_of_ble_eq_true rfl) ⟨Nat.zero_le _, Nat.zero_le _⟩ dX7_call_83 (fun r_83 u_83 H locs hp_83 hS => ?_)
                have hp_83 : ((r_83 = -1 ∨ cx_ix r_83 80) ∧ ((0 : Int32) = 0 → 0 < d1_78 → cx_ix r_83 80)) ∧ ((0 : Int32) = 1 → (¬ r_83 = -1 ↔ ∃ j, j < d1_78 ∧ cx_mk ((M 3)) ((fo_78) j).toNatClampNeg 1)) := hp_83
                refine lv_istore (lv' := [(5, .int r_83), (0, .ref (q 0)), (1, .int xa), (2, .int xb), (3, .int xe), (4, .int xf)]) hx hb dX7_call_86 hl (by decide) rfl (fun ls hl => ?_)
                exact J88 r_83 d1_78 za_78 (fun _ => kn_78) fo_78 _ _ _ (by first | assumption | exact hKN) (by first | exact hp_63.2 | exact hp_83.1.1) hS (lv_sub hl [1, 2, 3, 4, 5, 0] rfl)
            · skip
              have g52 : ¬ (cx_is (cx_Ar T n) xb.toNatClampNeg xa.toNatClampNeg) := fun z => hp_49.1.2.mpr z h52
              exact J55 za_49 (fun _ => kn_49) _ _ _ (by first | assumption | exact hKN) hS (lv_sub hl [0, 1, 2, 3, 4] rfl)
        · skip
          have g33 := cx_b0 h33
          exact J36  _ _ _  hS (lv_sub hl [0, 1, 2, 3, 4] rfl)
set_option maxHeartbeats 4000000 in
set_option maxRecDepth 100000 in
theorem c_X7_upper (l : Launch) (D : va_G) (q : Nat → Nat) (cI cZ : ClassId) (n : Nat) (T : Nat → Nat → Int32) (k : Nat) (M : Nat → Nat → Int32) (d : Nat) (Z : Nat → Nat → Int32) (F : Nat → Nat → Int32) (xa : Int32) (xb : Int32) (hn : n ≤ 20) (hV : cx_R (T 5) 4) : cx_Mi l D vwCl [(cI, .int), (cZ, .boolean)] cx_NW yX7_upper wsX7_upper ({ frames := 2, cells := 0, slots := 0, locals := 43 } : Room) [.ref (q 0), .int xa, .int xb] (cyW q cI cZ n T k M d Z F) (fun (r : Int32) (uw : (Nat → Nat → Int32) × (Nat → Nat → Int32)) => (¬ ((0 ≤ xa ∧ xa < nI n) ∧ (0 ≤ xb ∧ xb < nI 20)) ∧ r = (-1 : Int32) ∧ uw.1 = T ∧ uw.2 = Z) ∨ (((0 ≤ xa ∧ xa < nI n) ∧ (0 ≤ xb ∧ xb < nI 20)) ∧ (((T 5) (xa.toNatClampNeg)).toNatClampNeg) = 3 ∧ r = (-2 : Int32) ∧ uw.1 = T ∧ uw.2 = Z) ∨ (((0 ≤ xa ∧ xa < nI n) ∧ (0 ≤ xb ∧ xb < nI 20)) ∧ (((T 5) (xa.toNatClampNeg)).toNatClampNeg) < 3 ∧ r = nI ((((T 5) (xa.toNatClampNeg)).toNatClampNeg) + 1) ∧ uw.1 = cx_u (cx_u T 4 (upd (T 4) (3 * (xa.toNatClampNeg) + (((T 5) (xa.toNatClampNeg)).toNatClampNeg)) xb)) 5 (upd (T 5) (xa.toNatClampNeg) (nI ((((T 5) (xa.toNatClampNeg)).toNatClampNeg) + 1))) ∧ uw.2 = cx_u Z 3 (fun _ => (0 : Int32)))) (fun uw => (cyW q cI cZ n uw.1 k M d uw.2 F)) := by
  refine cx_Mi.of (cc := cX7_upper) (maxL := 3) cx_NW_ok (by decide) rfl (Nat.le_of_ble_eq_true rfl) ?_
  intro p e s m args below meth c Q A ls hx hb hml hown hts hE RET hS hl
  have hl : lv_has ls 3 [(0, .ref (q 0)), (1, .int xa), (2, .int xb)] := hl
  have hown : s.vm.findClass RX7 = some m.cls := hown
  have hinX7 : ∀ w ∈ u_ws RX7 TX7 22, w ∈ wsX7_upper := cx_mem [13, 14, 15, 16, 17, 18, 19, 20, 21, 22, 23, 24, 25, 26, 27, 28, 29, 30, 31, 32, 33, 34] (by decide +kernel)
  refine lv_aload_n hx hb dX7_upper_0 rfl (lv_at hl 0 rfl) ?_
  refine lv_iload_n hx hb dX7_upper_1 rfl (lv_at hl 1 rfl) ?_
  refine cx_cVi (As := [.int xa]) (rest := []) ⟨hx, hb, hml, hown, hts⟩ hE hS (c_X7_isType l D q cI cZ n T k M d Z F xa (by first | assumption | omega | rfl)) (cwV 1 hts gX7_upper_X7_isType rfl rfl rfl (by decide +kernel) ⟨Nat.le_of_ble_eq_true rfl, Nat.le_of_ble_eq_true rfl⟩) 0 7 rfl rfl rfl hl.1 rfl (Nat.le_of_ble_eq_true rfl) ⟨Nat.zero_le _, Nat.zero_le _⟩ dX7_upper_2 (fun r_2 u_2 H locs hp_2 hS => ?_)
  have hp_2 : r_2 = cx_b (0 ≤ xa ∧ xa < nI n) := hp_2
  subst hp_2
  have J18 : ∀ (H : Heap) (locs : List Loc) (ls : Array Slot), (¬ ((0 ≤ xa ∧ xa < nI n) ∧ (0 ≤ xb ∧ xb < nI 20))) → cx_S D vwCl A s (cyW q cI cZ n T k M d Z F) H locs → lv_has ls 3 [(0, .ref (q 0)), (1, .int xa), (2, .int xb)] → W p l e ({ frames := 2, cells := 0, slots := 0, locals := 43 } : Room) s m args below meth c H locs 0 0 Q (F0 m 18 ls []) := by
    intro  H locs ls hb18 hS hl
    refine lv_iconst (v := (-1 : Int32)) hx hb dX7_upper_18 (by decide) ?_
    exact RET _ (T, Z) _ _ _ _ dX7_upper_19 rfl (Or.inl ⟨hb18, rfl, rfl, rfl⟩) hS
  refine lv_if_eq (tgt := 18) hx hb dX7_upper_5 (by decide) (fun h5 => ?_) (fun h5 => ?_)
  · skip
    have g5 := cx_b0 h5
    exact J18  _ _ _ (by first | exact fun z => g5 z.1 | exact fun z => g15 ⟨z.2.1, (cx_le19 _).mpr z.2.2⟩) hS (lv_sub hl [0, 1, 2] rfl)
  · skip
    have g5 := cx_b1 h5
    have hq5 := (cx_ixT (by omega) g5).2
    refine lv_iload_n hx hb dX7_upper_8 rfl (lv_at hl 2 rfl) ?_
    refine lv_iconst (v := (0 : Int32)) hx hb dX7_upper_9 (by decide) ?_
    refine lv_bipush (v := nI 19) hx hb dX7_upper_10 (by decide) ?_
    refine cx_cSi (As := [.int xb, .int (0 : Int32), .int (nI 19)]) (rest := []) ⟨hx, hb, hml, hown, hts⟩ hE hS (c_X7_in l D [(cI, .int), (cZ, .boolean)] (cyW q cI cZ n T k M d Z F) xb (0 : Int32) (nI 19) ) (va_cwS 3 hts gX7_upper_X7_in rfl rfl rfl (by decide +kernel) ⟨Nat.le_of_ble_eq_true rfl, Nat.le_of_ble_eq_true rfl⟩) rfl hl.1 rfl (Nat.le_of_ble_eq_true rfl) ⟨Nat.zero_le _, Nat.zero_le _⟩ dX7_upper_12 (fun r_12 u_12 H locs hp_12 hS => ?_)
    have hp_12 : r_12 = cx_b ((0 : Int32) ≤ xb ∧ xb ≤ (nI 19)) := hp_12
    subst hp_12
    refine lv_if_ne (tgt := 20) hx hb dX7_upper_15 (by decide) (fun h15 => ?_) (fun h15 => ?_)
    · skip
      have g15 := cx_b1 h15
      refine lv_aload_n hx hb dX7_upper_20 rfl (lv_at hl 0 rfl) ?_
      refine cx_get (own := RX7) (index := 25) (C := RX7) (T := TX7) (N := 22) (k := 6) (ci := 7) (v := .ref (q 6)) hx hb hts hown hE hS hinX7 0 rfl rfl (by decide) (List.mem_of_getElem? (i := 1) rfl) rfl dX7_upper_21 ?_
      refine lv_iload_n hx hb dX7_upper_24 rfl (lv_at hl 1 rfl) ?_
      refine cx_topr (z := nI (xa.toNatClampNeg)) (cx_ixT (by omega) g5).1 ?_
      refine cx_iald (f := (T 5)) (n := 20) (cA := cI) hx hb hE hS 6 0 rfl rfl (by omega) (by decide) dX7_upper_25 ?_
      have ho25 := (hV xa.toNatClampNeg).2
      refine cx_topr (z := nI (((T 5) xa.toNatClampNeg).toNatClampNeg)) (hV xa.toNatClampNeg).1 ?_
      refine lv_iconst (v := nI 3) hx hb dX7_upper_26 (by decide) ?_
      refine lv_icmp_ne (tgt := 33) hx hb dX7_upper_27 (by decide) (fun h27 => ?_) (fun h27 => ?_)
      · skip
        have g27 : ¬ ((((T 5) xa.toNatClampNeg).toNatClampNeg) = 3) := fun z => h27 ((nI_eq (a := ((T 5) xa.toNatClampNeg).toNatClampNeg) (b := 3) (by omega) (by omega)).mpr z)
        refine lv_aload_n hx hb dX7_upper_33 rfl (lv_at hl 0 rfl) ?_
        refine cx_get (own := RX7) (index := 22) (C := RX7) (T := TX7) (N := 22) (k := 5) (ci := 7) (v := .ref (q 5)) hx hb hts hown hE hS hinX7 0 rfl rfl (by decide) (List.mem_of_getElem? (i := 2) rfl) rfl dX7_upper_34 ?_
        refine lv_iconst (v := nI 3) hx hb dX7_upper_37 (by decide) ?_
        refine lv_iload_n hx hb dX7_upper_38 rfl (lv_at hl 1 rfl) ?_
        refine cx_topr (z := nI (xa.toNatClampNeg)) (cx_ixT (by omega) g5).1 ?_
        refine lv_imul hx hb dX7_upper_39 ?_
        refine cx_topr (z := nI (3 * xa.toNatClampNeg)) (pk_mul _ _) ?_
        refine lv_aload_n hx hb dX7_upper_40 rfl (lv_at hl 0 rfl) ?_
        refine cx_get (own := RX7) (index := 25) (C := RX7) (T := TX7) (N := 22) (k := 6) (ci := 7) (v := .ref (q 6)) hx hb hts hown hE hS hinX7 0 rfl rfl (by decide) (List.mem_of_getElem? (i := 1) rfl) rfl dX7_upper_41 ?_
        refine lv_iload_n hx hb dX7_upper_44 rfl (lv_at hl 1 rfl) ?_
        refine cx_topr (z := nI (xa.toNatClampNeg)) (cx_ixT (by omega) g5).1 ?_
        refine cx_iald (f := (T 5)) (n := 20) (cA := cI) hx hb hE hS 6 0 rfl rfl (by omega) (by decide) dX7_upper_45 ?_
        have ho45 := (hV xa.toNatClampNeg).2
        refine cx_topr (z := nI (((T 5) xa.toNatClampNeg).toNatClampNeg)) (hV xa.toNatClampNeg).1 ?_
        refine lv_iadd hx hb dX7_upper_46 ?_
        refine cx_topr (z := nI (3 * xa.toNatClampNeg + ((T 5) xa.toNatClampNeg).toNatClampNeg)) (nI_add _ _) ?_
        refine lv_iload_n hx hb dX7_upper_47 rfl (lv_at hl 2 rfl) ?_
        refine cx_iast (k := 3 * xa.toNatClampNeg + ((T 5) xa.toNatClampNeg).toNatClampNeg) (f := (T 4)) (n := 60) (cA := cI) (ws' := (cyW q cI cZ n (cx_u T 4 (upd (T 4) (3 * xa.toNatClampNeg + ((T 5) xa.toNatClampNeg).toNatClampNeg) xb)) k M d Z F)) hx hb hE hS 5 0 rfl rfl (by omega) (by decide) rfl dX7_upper_48 (fun H locs hS => ?_)
        refine lv_aload_n hx hb dX7_upper_49 rfl (lv_at hl 0 rfl) ?_
        refine cx_get (own := RX7) (index := 25) (C := RX7) (T := TX7) (N := 22) (k := 6) (ci := 7) (v := .ref (q 6)) hx hb hts hown hE hS hinX7 0 rfl rfl (by decide) (List.mem_of_getElem? (i := 1) rfl) rfl dX7_upper_50 ?_
        refine lv_iload_n hx hb dX7_upper_53 rfl (lv_at hl 1 rfl) ?_
        refine cx_topr (z := nI (xa.toNatClampNeg)) (cx_ixT (by omega) g5).1 ?_
        refine lv_dup2_11 hx hb dX7_upper_54 rfl rfl ?_
        refine cx_iald (f := (T 5)) (n := 20) (cA := cI) hx hb hE hS 6 0 rfl rfl (by omega) (by decide) dX7_upper_55 ?_
        have ho55 := (hV xa.toNatClampNeg).2
        refine cx_topr (z := nI (((T 5) xa.toNatClampNeg).toNatClampNeg)) (hV xa.toNatClampNeg).1 ?_
        refine lv_iconst (v := (1 : Int32)) hx hb dX7_upper_56 (by decide) ?_
        refine lv_iadd hx hb dX7_upper_57 ?_
        refine cx_topr (z := nI (((T 5) xa.toNatClampNeg).toNatClampNeg + 1)) (nI_1 _) ?_
        refine cx_iast (k := xa.toNatClampNeg) (f := (T 5)) (n := 20) (cA := cI) (ws' := (cyW q cI cZ n (cx_u (cx_u T 4 (upd (T 4) (3 * xa.toNatClampNeg + ((T 5) xa.toNatClampNeg).toNatClampNeg) xb)) 5 (upd (T 5) xa.toNatClampNeg (nI (((T 5) xa.toNatClampNeg).toNatClampNeg + 1)))) k M d Z F)) hx hb hE hS 6 0 rfl rfl (by omega) (by decide) rfl dX7_upper_58 (fun H locs hS => ?_)
        refine lv_aload_n hx hb dX7_upper_59 rfl (lv_at hl 0 rfl) ?_
        refine lv_iconst (v := (0 : Int32)) hx hb dX7_upper_60 (by decide) ?_
        refine cx_put (own := RX7) (index := 73) (C := RX7) (T := TX7) (N := 22) (k := 17) (ci := 7) (v := .int (0 : Int32)) (ty := .boolean) (ws' := (cyW q cI cZ n (cx_u (cx_u T 4 (upd (T 4) (3 * xa.toNatClampNeg + ((T 5) xa.toNatClampNeg).toNatClampNeg) xb)) 5 (upd (T 5) xa.toNatClampNeg (nI (((T 5) xa.toNatClampNeg).toNatClampNeg + 1)))) k M d (cx_u Z 3 (fun _ => (0 : Int32))) F)) hx hb hts hown hE hS hinX7 tyX7 tyX7_ok nmX7 0 rfl rfl (by decide) (List.mem_of_getElem? (i := 3) rfl) rfl (by decide +kernel) rfl rfl (Nat.le_of_ble_eq_true rfl) rfl dX7_upper_61 (fun H locs hS => ?_)
        refine lv_aload_n hx hb dX7_upper_64 rfl (lv_at hl 0 rfl) ?_
        refine cx_get (own := RX7) (index := 25) (C := RX7) (T := TX7) (N := 22) (k := 6) (ci := 7) (v := .ref (q 6)) hx hb hts hown hE hS hinX7 0 rfl rfl (by decide) (List.mem_of_getElem? (i := 1) rfl) rfl dX7_upper_65 ?_
        refine lv_iload_n hx hb dX7_upper_68 rfl (lv_at hl 1 rfl) ?_
        refine cx_topr (z := nI (xa.toNatClampNeg)) (cx_ixT (by omega) g5).1 ?_
        refine cx_iald (f := (upd (T 5) xa.toNatClampNeg (nI (((T 5) xa.toNatClampNeg).toNatClampNeg + 1)))) (n := 20) (cA := cI) hx hb hE hS 6 0 rfl rfl (by omega) (by decide) dX7_upper_69 ?_
        exact RET _ (cx_u (cx_u T 4 (upd (T 4) (3 * xa.toNatClampNeg + ((T 5) xa.toNatClampNeg).toNatClampNeg) xb)) 5 (upd (T 5) xa.toNatClampNeg (nI (((T 5) xa.toNatClampNeg).toNatClampNeg + 1))), cx_u Z 3 (fun _ => (0 : Int32))) _ _ _ _ dX7_upper_70 rfl (Or.inr (Or.inr ⟨⟨g5, ⟨g15.1, (cx_le19 _).mp g15.2⟩⟩, by omega, cx_updn, rfl, rfl⟩)) hS
      · skip
        have g27 : (((T 5) xa.toNatClampNeg).toNatClampNeg) = 3 := (nI_eq (a := ((T 5) xa.toNatClampNeg).toNatClampNeg) (b := 3) (by omega) (by omega)).mp h27
        refine lv_bipush (v := (-2 : Int32)) hx hb dX7_upper_30 (by decide) ?_
        exact RET _ (T, Z) _ _ _ _ dX7_upper_32 rfl (Or.inr (Or.inl ⟨⟨g5, ⟨g15.1, (cx_le19 _).mp g15.2⟩⟩, g27, rfl, rfl, rfl⟩)) hS
    · skip
      have g15 := cx_b0 h15
      exact J18  _ _ _ (by first | exact fun z => g5 z.1 | exact fun z => g15 ⟨z.2.1, (cx_le19 _).mpr z.2.2⟩) hS (lv_sub hl [0, 1, 2] rfl)
set_option maxHeartbeats 4000000 in
set_option maxRecDepth 100000 in
theorem c_X7_permit (l : Launch) (D : va_G) (q : Nat → Nat) (cI cZ : ClassId) (n : Nat) (T : Nat → Nat → Int32) (k : Nat) (M : Nat → Nat → Int32) (d : Nat) (Z : Nat → Nat → Int32) (F : Nat → Nat → Int32) (xa : Int32) (xb : Int32) (hn : n ≤ 20) (hW : cx_R (T 7) 4) : cx_Mi l D vwCl [(cI, .int), (cZ, .boolean)] cx_NW yX7_permit wsX7_permit ({ frames := 2, cells := 0, slots := 0, locals := 43 } : Room) [.ref (q 0), .int xa, .int xb] (cyW q cI cZ n T k M d Z F) (fun (r : Int32) (uw : (Nat → Nat → Int32)) => (¬ ((0 ≤ xa ∧ xa < nI n) ∧ (0 ≤ xb ∧ xb < nI 20)) ∧ r = (-1 : Int32) ∧ uw = T) ∨ (((0 ≤ xa ∧ xa < nI n) ∧ (0 ≤ xb ∧ xb < nI 20)) ∧ (((T 7) (xa.toNatClampNeg)).toNatClampNeg) = 3 ∧ r = (-2 : Int32) ∧ uw = T) ∨ (((0 ≤ xa ∧ xa < nI n) ∧ (0 ≤ xb ∧ xb < nI 20)) ∧ (((T 7) (xa.toNatClampNeg)).toNatClampNeg) < 3 ∧ r = nI ((((T 7) (xa.toNatClampNeg)).toNatClampNeg) + 1) ∧ uw = cx_u (cx_u T 6 (upd (T 6) (3 * (xa.toNatClampNeg) + (((T 7) (xa.toNatClampNeg)).toNatClampNeg)) xb)) 7 (upd (T 7) (xa.toNatClampNeg) (nI ((((T 7) (xa.toNatClampNeg)).toNatClampNeg) + 1))))) (fun uw => (cyW q cI cZ n uw k M d Z F)) := by
  refine cx_Mi.of (cc := cX7_permit) (maxL := 3) cx_NW_ok (by decide) rfl (Nat.le_of_ble_eq_true rfl) ?_
  intro p e s m args below meth c Q A ls hx hb hml hown hts hE RET hS hl
  have hl : lv_has ls 3 [(0, .ref (q 0)), (1, .int xa), (2, .int xb)] := hl
  have hown : s.vm.findClass RX7 = some m.cls := hown
  have hinX7 : ∀ w ∈ u_ws RX7 TX7 22, w ∈ wsX7_permit := cx_mem [12, 13, 14, 15, 16, 17, 18, 19, 20, 21, 22, 23, 24, 25, 26, 27, 28, 29, 30, 31, 32, 33] (by decide +kernel)
  refine lv_aload_n hx hb dX7_permit_0 rfl (lv_at hl 0 rfl) ?_
  refine lv_iload_n hx hb dX7_permit_1 rfl (lv_at hl 1 rfl) ?_
  refine cx_cVi (As := [.int xa]) (rest := []) ⟨hx, hb, hml, hown, hts⟩ hE hS (c_X7_isType l D q cI cZ n T k M d Z F xa (by first | assumption | omega | rfl)) (cwV 1 hts gX7_permit_X7_isType rfl rfl rfl (by decide +kernel) ⟨Nat.le_of_ble_eq_true rfl, Nat.le_of_ble_eq_true rfl⟩) 0 7 rfl rfl rfl hl.1 rfl (Nat.le_of_ble_eq_true rfl) ⟨Nat.zero_le _, Nat.zero_le _⟩ dX7_permit_2 (fun r_2 u_2 H locs hp_2 hS => ?_)
  have hp_2 : r_2 = cx_b (0 ≤ xa ∧ xa < nI n) := hp_2
  subst hp_2
  have J18 : ∀ (H : Heap) (locs : List Loc) (ls : Array Slot), (¬ ((0 ≤ xa ∧ xa < nI n) ∧ (0 ≤ xb ∧ xb < nI 20))) → cx_S D vwCl A s (cyW q cI cZ n T k M d Z F) H locs → lv_has ls 3 [(0, .ref (q 0)), (1, .int xa), (2, .int xb)] → W p l e ({ frames := 2, cells := 0, slots := 0, locals := 43 } : Room) s m args below meth c H locs 0 0 Q (F0 m 18 ls []) := by
    intro  H locs ls hb18 hS hl
    refine lv_iconst (v := (-1 : Int32)) hx hb dX7_permit_18 (by decide) ?_
    exact RET _ (T) _ _ _ _ dX7_permit_19 rfl (Or.inl ⟨hb18, rfl, rfl⟩) hS
  refine lv_if_eq (tgt := 18) hx hb dX7_permit_5 (by decide) (fun h5 => ?_) (fun h5 => ?_)
  · skip
    have g5 := cx_b0 h5
    exact J18  _ _ _ (by first | exact fun z => g5 z.1 | exact fun z => g15 ⟨z.2.1, (cx_le19 _).mpr z.2.2⟩) hS (lv_sub hl [0, 1, 2] rfl)
  · skip
    have g5 := cx_b1 h5
    have hq5 := (cx_ixT (by omega) g5).2
    refine lv_iload_n hx hb dX7_permit_8 rfl (lv_at hl 2 rfl) ?_
    refine lv_iconst (v := (0 : Int32)) hx hb dX7_permit_9 (by decide) ?_
    refine lv_bipush (v := nI 19) hx hb dX7_permit_10 (by decide) ?_
    refine cx_cSi (As := [.int xb, .int (0 : Int32), .int (nI 19)]) (rest := []) ⟨hx, hb, hml, hown, hts⟩ hE hS (c_X7_in l D [(cI, .int), (cZ, .boolean)] (cyW q cI cZ n T k M d Z F) xb (0 : Int32) (nI 19) ) (va_cwS 3 hts gX7_permit_X7_in rfl rfl rfl (by decide +kernel) ⟨Nat.le_of_ble_eq_true rfl, Nat.le_of_ble_eq_true rfl⟩) rfl hl.1 rfl (Nat.le_of_ble_eq_true rfl) ⟨Nat.zero_le _, Nat.zero_le _⟩ dX7_permit_12 (fun r_12 u_12 H locs hp_12 hS => ?_)
    have hp_12 : r_12 = cx_b ((0 : Int32) ≤ xb ∧ xb ≤ (nI 19)) := hp_12
    subst hp_12
    refine lv_if_ne (tgt := 20) hx hb dX7_permit_15 (by decide) (fun h15 => ?_) (fun h15 => ?_)
    · skip
      have g15 := cx_b1 h15
      refine lv_aload_n hx hb dX7_permit_20 rfl (lv_at hl 0 rfl) ?_
      refine cx_get (own := RX7) (index := 31) (C := RX7) (T := TX7) (N := 22) (k := 8) (ci := 7) (v := .ref (q 8)) hx hb hts hown hE hS hinX7 0 rfl rfl (by decide) (List.mem_of_getElem? (i := 1) rfl) rfl dX7_permit_21 ?_
      refine lv_iload_n hx hb dX7_permit_24 rfl (lv_at hl 1 rfl) ?_
      refine cx_topr (z := nI (xa.toNatClampNeg)) (cx_ixT (by omega) g5).1 ?_
      refine cx_iald (f := (T 7)) (n := 20) (cA := cI) hx hb hE hS 8 0 rfl rfl (by omega) (by decide) dX7_permit_25 ?_
      have ho25 := (hW xa.toNatClampNeg).2
      refine cx_topr (z := nI (((T 7) xa.toNatClampNeg).toNatClampNeg)) (hW xa.toNatClampNeg).1 ?_
      refine lv_iconst (v := nI 3) hx hb dX7_permit_26 (by decide) ?_
      refine lv_icmp_ne (tgt := 33) hx hb dX7_permit_27 (by decide) (fun h27 => ?_) (fun h27 => ?_)
      · skip
        have g27 : ¬ ((((T 7) xa.toNatClampNeg).toNatClampNeg) = 3) := fun z => h27 ((nI_eq (a := ((T 7) xa.toNatClampNeg).toNatClampNeg) (b := 3) (by omega) (by omega)).mpr z)
        refine lv_aload_n hx hb dX7_permit_33 rfl (lv_at hl 0 rfl) ?_
        refine cx_get (own := RX7) (index := 28) (C := RX7) (T := TX7) (N := 22) (k := 7) (ci := 7) (v := .ref (q 7)) hx hb hts hown hE hS hinX7 0 rfl rfl (by decide) (List.mem_of_getElem? (i := 2) rfl) rfl dX7_permit_34 ?_
        refine lv_iconst (v := nI 3) hx hb dX7_permit_37 (by decide) ?_
        refine lv_iload_n hx hb dX7_permit_38 rfl (lv_at hl 1 rfl) ?_
        refine cx_topr (z := nI (xa.toNatClampNeg)) (cx_ixT (by omega) g5).1 ?_
        refine lv_imul hx hb dX7_permit_39 ?_
        refine cx_topr (z := nI (3 * xa.toNatClampNeg)) (pk_mul _ _) ?_
        refine lv_aload_n hx hb dX7_permit_40 rfl (lv_at hl 0 rfl) ?_
        refine cx_get (own := RX7) (index := 31) (C := RX7) (T := TX7) (N := 22) (k := 8) (ci := 7) (v := .ref (q 8)) hx hb hts hown hE hS hinX7 0 rfl rfl (by decide) (List.mem_of_getElem? (i := 1) rfl) rfl dX7_permit_41 ?_
        refine lv_iload_n hx hb dX7_permit_44 rfl (lv_at hl 1 rfl) ?_
        refine cx_topr (z := nI (xa.toNatClampNeg)) (cx_ixT (by omega) g5).1 ?_
        refine cx_iald (f := (T 7)) (n := 20) (cA := cI) hx hb hE hS 8 0 rfl rfl (by omega) (by decide) dX7_permit_45 ?_
        have ho45 := (hW xa.toNatClampNeg).2
        refine cx_topr (z := nI (((T 7) xa.toNatClampNeg).toNatClampNeg)) (hW xa.toNatClampNeg).1 ?_
        refine lv_iadd hx hb dX7_permit_46 ?_
        refine cx_topr (z := nI (3 * xa.toNatClampNeg + ((T 7) xa.toNatClampNeg).toNatClampNeg)) (nI_add _ _) ?_
        refine lv_iload_n hx hb dX7_permit_47 rfl (lv_at hl 2 rfl) ?_
        refine cx_iast (k := 3 * xa.toNatClampNeg + ((T 7) xa.toNatClampNeg).toNatClampNeg) (f := (T 6)) (n := 60) (cA := cI) (ws' := (cyW q cI cZ n (cx_u T 6 (upd (T 6) (3 * xa.toNatClampNeg + ((T 7) xa.toNatClampNeg).toNatClampNeg) xb)) k M d Z F)) hx hb hE hS 7 0 rfl rfl (by omega) (by decide) rfl dX7_permit_48 (fun H locs hS => ?_)
        refine lv_aload_n hx hb dX7_permit_49 rfl (lv_at hl 0 rfl) ?_
        refine cx_get (own := RX7) (index := 31) (C := RX7) (T := TX7) (N := 22) (k := 8) (ci := 7) (v := .ref (q 8)) hx hb hts hown hE hS hinX7 0 rfl rfl (by decide) (List.mem_of_getElem? (i := 1) rfl) rfl dX7_permit_50 ?_
        refine lv_iload_n hx hb dX7_permit_53 rfl (lv_at hl 1 rfl) ?_
        refine cx_topr (z := nI (xa.toNatClampNeg)) (cx_ixT (by omega) g5).1 ?_
        refine lv_dup2_11 hx hb dX7_permit_54 rfl rfl ?_
        refine cx_iald (f := (T 7)) (n := 20) (cA := cI) hx hb hE hS 8 0 rfl rfl (by omega) (by decide) dX7_permit_55 ?_
        have ho55 := (hW xa.toNatClampNeg).2
        refine cx_topr (z := nI (((T 7) xa.toNatClampNeg).toNatClampNeg)) (hW xa.toNatClampNeg).1 ?_
        refine lv_iconst (v := (1 : Int32)) hx hb dX7_permit_56 (by decide) ?_
        refine lv_iadd hx hb dX7_permit_57 ?_
        refine cx_topr (z := nI (((T 7) xa.toNatClampNeg).toNatClampNeg + 1)) (nI_1 _) ?_
        refine cx_iast (k := xa.toNatClampNeg) (f := (T 7)) (n := 20) (cA := cI) (ws' := (cyW q cI cZ n (cx_u (cx_u T 6 (upd (T 6) (3 * xa.toNatClampNeg + ((T 7) xa.toNatClampNeg).toNatClampNeg) xb)) 7 (upd (T 7) xa.toNatClampNeg (nI (((T 7) xa.toNatClampNeg).toNatClampNeg + 1)))) k M d Z F)) hx hb hE hS 8 0 rfl rfl (by omega) (by decide) rfl dX7_permit_58 (fun H locs hS => ?_)
        refine lv_aload_n hx hb dX7_permit_59 rfl (lv_at hl 0 rfl) ?_
        refine cx_get (own := RX7) (index := 31) (C := RX7) (T := TX7) (N := 22) (k := 8) (ci := 7) (v := .ref (q 8)) hx hb hts hown hE hS hinX7 0 rfl rfl (by decide) (List.mem_of_getElem? (i := 1) rfl) rfl dX7_permit_60 ?_
        refine lv_iload_n hx hb dX7_permit_63 rfl (lv_at hl 1 rfl) ?_
        refine cx_topr (z := nI (xa.toNatClampNeg)) (cx_ixT (by omega) g5).1 ?_
        refine cx_iald (f := (upd (T 7) xa.toNatClampNeg (nI (((T 7) xa.toNatClampNeg).toNatClampNeg + 1)))) (n := 20) (cA := cI) hx hb hE hS 8 0 rfl rfl (by omega) (by decide) dX7_permit_64 ?_
        exact RET _ (cx_u (cx_u T 6 (upd (T 6) (3 * xa.toNatClampNeg + ((T 7) xa.toNatClampNeg).toNatClampNeg) xb)) 7 (upd (T 7) xa.toNatClampNeg (nI (((T 7) xa.toNatClampNeg).toNatClampNeg + 1)))) _ _ _ _ dX7_permit_65 rfl (Or.inr (Or.inr ⟨⟨g5, ⟨g15.1, (cx_le19 _).mp g15.2⟩⟩, by omega, cx_updn, rfl⟩)) hS
      · skip
        have g27 : (((T 7) xa.toNatClampNeg).toNatClampNeg) = 3 := (nI_eq (a := ((T 7) xa.toNatClampNeg).toNatClampNeg) (b := 3) (by omega) (by omega)).mp h27
        refine lv_bipush (v := (-2 : Int32)) hx hb dX7_permit_30 (by decide) ?_
        exact RET _ (T) _ _ _ _ dX7_permit_32 rfl (Or.inr (Or.inl ⟨⟨g5, ⟨g15.1, (cx_le19 _).mp g15.2⟩⟩, g27, rfl, rfl⟩)) hS
    · skip
      have g15 := cx_b0 h15
      exact J18  _ _ _ (by first | exact fun z => g5 z.1 | exact fun z => g15 ⟨z.2.1, (cx_le19 _).mpr z.2.2⟩) hS (lv_sub hl [0, 1, 2] rfl)
set_option maxHeartbeats 4000000 in
set_option maxRecDepth 100000 in
theorem c_X7_member (l : Launch) (D : va_G) (q : Nat → Nat) (cI cZ : ClassId) (n : Nat) (T : Nat → Nat → Int32) (k : Nat) (M : Nat → Nat → Int32) (d : Nat) (Z : Nat → Nat → Int32) (F : Nat → Nat → Int32) (xa : Int32) (xb : Int32) (xe : Int32) (xf : Int32) (xh : Int32) (xi : Int32) (hn : n ≤ 20) (hk : k ≤ 80) : cx_Mi l D vwCl [(cI, .int), (cZ, .boolean)] cx_NW yX7_member wsX7_member ({ frames := 2, cells := 0, slots := 0, locals := 43 } : Room) [.ref (q 0), .int xa, .int xb, .int xe, .int xf, .int xh, .int xi] (cyW q cI cZ n T k M d Z F) (fun (r : Int32) (uw : (Nat) × (Nat → Nat → Int32)) => (¬ ((0 ≤ xa ∧ xa < nI n) ∧ (0 ≤ xb ∧ xb < nI 10) ∧ (0 ≤ xe ∧ xe < nI 5) ∧ (0 ≤ xf ∧ xf < nI 16) ∧ (0 ≤ xh ∧ xh < nI 4) ∧ (0 ≤ xi ∧ xi < nI 30)) ∧ r = (-1 : Int32) ∧ uw.1 = k ∧ uw.2 = M) ∨ (((0 ≤ xa ∧ xa < nI n) ∧ (0 ≤ xb ∧ xb < nI 10) ∧ (0 ≤ xe ∧ xe < nI 5) ∧ (0 ≤ xf ∧ xf < nI 16) ∧ (0 ≤ xh ∧ xh < nI 4) ∧ (0 ≤ xi ∧ xi < nI 30)) ∧ ¬ k < 80 ∧ r = (-2 : Int32) ∧ uw.1 = k ∧ uw.2 = M) ∨ (((0 ≤ xa ∧ xa < nI n) ∧ (0 ≤ xb ∧ xb < nI 10) ∧ (0 ≤ xe ∧ xe < nI 5) ∧ (0 ≤ xf ∧ xf < nI 16) ∧ (0 ≤ xh ∧ xh < nI 4) ∧ (0 ≤ xi ∧ xi < nI 30)) ∧ k < 80 ∧ r = nI k ∧ uw.1 = k + 1 ∧ uw.2 = cx_u (cx_u (cx_u (cx_u (cx_u (cx_u M 0 (upd (M 0) k xa)) 1 (upd (M 1) k xb)) 2 (upd (M 2) k xe)) 3 (upd (M 3) k xf)) 4 (upd (M 4) k xh)) 5 (upd (M 5) k xi))) (fun uw => (cyW q cI cZ n T uw.1 uw.2 d Z F)) := by
  refine cx_Mi.of (cc := cX7_member) (maxL := 7) cx_NW_ok (by decide) rfl (Nat.le_of_ble_eq_true rfl) ?_
  intro p e s m args below meth c Q A ls hx hb hml hown hts hE RET hS hl
  have hl : lv_has ls 7 [(0, .ref (q 0)), (1, .int xa), (2, .int xb), (3, .int xe), (4, .int xf), (5, .int xh), (6, .int xi)] := hl
  have hown : s.vm.findClass RX7 = some m.cls := hown
  have hinX7 : ∀ w ∈ u_ws RX7 TX7 22, w ∈ wsX7_member := cx_mem [17, 18, 19, 20, 21, 22, 23, 24, 25, 26, 27, 28, 29, 30, 31, 32, 33, 34, 35, 36, 37, 38] (by decide +kernel)
  refine lv_aload_n hx hb dX7_member_0 rfl (lv_at hl 0 rfl) ?_
  refine lv_iload_n hx hb dX7_member_1 rfl (lv_at hl 1 rfl) ?_
  refine cx_cVi (As := [.int xa]) (rest := []) ⟨hx, hb, hml, hown, hts⟩ hE hS (c_X7_isType l D q cI cZ n T k M d Z F xa (by first | assumption | omega | rfl)) (cwV 1 hts gX7_member_X7_isType rfl rfl rfl (by decide +kernel) ⟨Nat.le_of_ble_eq_true rfl, Nat.le_of_ble_eq_true rfl⟩) 0 7 rfl rfl rfl hl.1 rfl (Nat.le_of_ble_eq_true rfl) ⟨Nat.zero_le _, Nat.zero_le _⟩ dX7_member_2 (fun r_2 u_2 H locs hp_2 hS => ?_)
  have hp_2 : r_2 = cx_b (0 ≤ xa ∧ xa < nI n) := hp_2
  subst hp_2
  have J59 : ∀ (H : Heap) (locs : List Loc) (ls : Array Slot), (¬ ((0 ≤ xa ∧ xa < nI n) ∧ (0 ≤ xb ∧ xb < nI 10) ∧ (0 ≤ xe ∧ xe < nI 5) ∧ (0 ≤ xf ∧ xf < nI 16) ∧ (0 ≤ xh ∧ xh < nI 4) ∧ (0 ≤ xi ∧ xi < nI 30))) → cx_S D vwCl A s (cyW q cI cZ n T k M d Z F) H locs → lv_has ls 7 [(0, .ref (q 0)), (1, .int xa), (2, .int xb), (3, .int xe), (4, .int xf), (5, .int xh), (6, .int xi)] → W p l e ({ frames := 2, cells := 0, slots := 0, locals := 43 } : Room) s m args below meth c H locs 0 0 Q (F0 m 59 ls []) := by
    intro  H locs ls hb59 hS hl
    refine lv_iconst (v := (-1 : Int32)) hx hb dX7_member_59 (by decide) ?_
    exact RET _ (k, M) _ _ _ _ dX7_member_60 rfl (Or.inl ⟨hb59, rfl, rfl, rfl⟩) hS
  refine lv_if_eq (tgt := 59) hx hb dX7_member_5 (by decide) (fun h5 => ?_) (fun h5 => ?_)
  · skip
    have g5 := cx_b0 h5
    exact J59  _ _ _ (by first | exact fun z => g5 z.1 | exact fun z => g15 ⟨z.2.1.1, (cx_leL _ 9 (by decide)).mpr z.2.1.2⟩ | exact fun z => g24 ⟨z.2.2.1.1, (cx_leL _ 4 (by decide)).mpr z.2.2.1.2⟩ | exact fun z => g35 ⟨z.2.2.2.1.1, (cx_leL _ 15 (by decide)).mpr z.2.2.2.1.2⟩ | exact fun z => g45 ⟨z.2.2.2.2.1.1, (cx_leL _ 3 (by decide)).mpr z.2.2.2.2.1.2⟩ | exact fun z => g56 ⟨z.2.2.2.2.2.1, (cx_leL _ 29 (by decide)).mpr z.2.2.2.2.2.2⟩) hS (lv_sub hl [0, 1, 2, 3, 4, 5, 6] rfl)
  · skip
    have g5 := cx_b1 h5
    refine lv_iload_n hx hb dX7_member_8 rfl (lv_at hl 2 rfl) ?_
    refine lv_iconst (v := (0 : Int32)) hx hb dX7_member_9 (by decide) ?_
    refine lv_bipush (v := nI 9) hx hb dX7_member_10 (by decide) ?_
    refine cx_cSi (As := [.int xb, .int (0 : Int32), .int (nI 9)]) (rest := []) ⟨hx, hb, hml, hown, hts⟩ hE hS (c_X7_in l D [(cI, .int), (cZ, .boolean)] (cyW q cI cZ n T k M d Z F) xb (0 : Int32) (nI 9) ) (va_cwS 3 hts gX7_member_X7_in rfl rfl rfl (by decide +kernel) ⟨Nat.le_of_ble_eq_true rfl, Nat.le_of_ble_eq_true rfl⟩) rfl hl.1 rfl (Nat.le_of_ble_eq_true rfl) ⟨Nat.zero_le _, Nat.zero_le _⟩ dX7_member_12 (fun r_12 u_12 H locs hp_12 hS => ?_)
    have hp_12 : r_12 = cx_b ((0 : Int32) ≤ xb ∧ xb ≤ (nI 9)) := hp_12
    subst hp_12
    refine lv_if_eq (tgt := 59) hx hb dX7_member_15 (by decide) (fun h15 => ?_) (fun h15 => ?_)
    · skip
      have g15 := cx_b0 h15
      exact J59  _ _ _ (by first | exact fun z => g5 z.1 | exact fun z => g15 ⟨z.2.1.1, (cx_leL _ 9 (by decide)).mpr z.2.1.2⟩ | exact fun z => g24 ⟨z.2.2.1.1, (cx_leL _ 4 (by decide)).mpr z.2.2.1.2⟩ | exact fun z => g35 ⟨z.2.2.2.1.1, (cx_leL _ 15 (by decide)).mpr z.2.2.2.1.2⟩ | exact fun z => g45 ⟨z.2.2.2.2.1.1, (cx_leL _ 3 (by decide)).mpr z.2.2.2.2.1.2⟩ | exact fun z => g56 ⟨z.2.2.2.2.2.1, (cx_leL _ 29 (by decide)).mpr z.2.2.2.2.2.2⟩) hS (lv_sub hl [0, 1, 2, 3, 4, 5, 6] rfl)
    · skip
      have g15 := cx_b1 h15
      refine lv_iload_n hx hb dX7_member_18 rfl (lv_at hl 3 rfl) ?_
      refine lv_iconst (v := (0 : Int32)) hx hb dX7_member_19 (by decide) ?_
      refine lv_iconst (v := nI 4) hx hb dX7_member_20 (by decide) ?_
      refine cx_cSi (As := [.int xe, .int (0 : Int32), .int (nI 4)]) (rest := []) ⟨hx, hb, hml, hown, hts⟩ hE hS (c_X7_in l D [(cI, .int), (cZ, .boolean)] (cyW q cI cZ n T k M d Z F) xe (0 : Int32) (nI 4) ) (va_cwS 3 hts gX7_member_X7_in rfl rfl rfl (by decide +kernel) ⟨Nat.le_of_ble_eq_true rfl, Nat.le_of_ble_eq_true rfl⟩) rfl hl.1 rfl (Nat.le_of_ble_eq_true rfl) ⟨Nat.zero_le _, Nat.zero_le _⟩ dX7_member_21 (fun r_21 u_21 H locs hp_21 hS => ?_)
      have hp_21 : r_21 = cx_b ((0 : Int32) ≤ xe ∧ xe ≤ (nI 4)) := hp_21
      subst hp_21
      refine lv_if_eq (tgt := 59) hx hb dX7_member_24 (by decide) (fun h24 => ?_) (fun h24 => ?_)
      · skip
        have g24 := cx_b0 h24
        exact J59  _ _ _ (by first | exact fun z => g5 z.1 | exact fun z => g15 ⟨z.2.1.1, (cx_leL _ 9 (by decide)).mpr z.2.1.2⟩ | exact fun z => g24 ⟨z.2.2.1.1, (cx_leL _ 4 (by decide)).mpr z.2.2.1.2⟩ | exact fun z => g35 ⟨z.2.2.2.1.1, (cx_leL _ 15 (by decide)).mpr z.2.2.2.1.2⟩ | exact fun z => g45 ⟨z.2.2.2.2.1.1, (cx_leL _ 3 (by decide)).mpr z.2.2.2.2.1.2⟩ | exact fun z => g56 ⟨z.2.2.2.2.2.1, (cx_leL _ 29 (by decide)).mpr z.2.2.2.2.2.2⟩) hS (lv_sub hl [0, 1, 2, 3, 4, 5, 6] rfl)
      · skip
        have g24 := cx_b1 h24
        refine lv_iload hx hb dX7_member_27 (lv_at hl 4 rfl) ?_
        refine lv_iconst (v := (0 : Int32)) hx hb dX7_member_29 (by decide) ?_
        refine lv_bipush (v := nI 15) hx hb dX7_member_30 (by decide) ?_
        refine cx_cSi (As := [.int xf, .int (0 : Int32), .int (nI 15)]) (rest := []) ⟨hx, hb, hml, hown, hts⟩ hE hS (c_X7_in l D [(cI, .int), (cZ, .boolean)] (cyW q cI cZ n T k M d Z F) xf (0 : Int32) (nI 15) ) (va_cwS 3 hts gX7_member_X7_in rfl rfl rfl (by decide +kernel) ⟨Nat.le_of_ble_eq_true rfl, Nat.le_of_ble_eq_true rfl⟩) rfl hl.1 rfl (Nat.le_of_ble_eq_true rfl) ⟨Nat.zero_le _, Nat.zero_le _⟩ dX7_member_32 (fun r_32 u_32 H locs hp_32 hS => ?_)
        have hp_32 : r_32 = cx_b ((0 : Int32) ≤ xf ∧ xf ≤ (nI 15)) := hp_32
        subst hp_32
        refine lv_if_eq (tgt := 59) hx hb dX7_member_35 (by decide) (fun h35 => ?_) (fun h35 => ?_)
        · skip
          have g35 := cx_b0 h35
          exact J59  _ _ _ (by first | exact fun z => g5 z.1 | exact fun z => g15 ⟨z.2.1.1, (cx_leL _ 9 (by decide)).mpr z.2.1.2⟩ | exact fun z => g24 ⟨z.2.2.1.1, (cx_leL _ 4 (by decide)).mpr z.2.2.1.2⟩ | exact fun z => g35 ⟨z.2.2.2.1.1, (cx_leL _ 15 (by decide)).mpr z.2.2.2.1.2⟩ | exact fun z => g45 ⟨z.2.2.2.2.1.1, (cx_leL _ 3 (by decide)).mpr z.2.2.2.2.1.2⟩ | exact fun z => g56 ⟨z.2.2.2.2.2.1, (cx_leL _ 29 (by decide)).mpr z.2.2.2.2.2.2⟩) hS (lv_sub hl [0, 1, 2, 3, 4, 5, 6] rfl)
        · skip
          have g35 := cx_b1 h35
          refine lv_iload hx hb dX7_member_38 (lv_at hl 5 rfl) ?_
          refine lv_iconst (v := (0 : Int32)) hx hb dX7_member_40 (by decide) ?_
          refine lv_iconst (v := nI 3) hx hb dX7_member_41 (by decide) ?_
          refine cx_cSi (As := [.int xh, .int (0 : Int32), .int (nI 3)]) (rest := []) ⟨hx, hb, hml, hown, hts⟩ hE hS (c_X7_in l D [(cI, .int), (cZ, .boolean)] (cyW q cI cZ n T k M d Z F) xh (0 : Int32) (nI 3) ) (va_cwS 3 hts gX7_member_X7_in rfl rfl rfl (by decide +kernel) ⟨Nat.le_of_ble_eq_true rfl, Nat.le_of_ble_eq_true rfl⟩) rfl hl.1 rfl (Nat.le_of_ble_eq_true rfl) ⟨Nat.zero_le _, Nat.zero_le _⟩ dX7_member_42 (fun r_42 u_42 H locs hp_42 hS => ?_)
          have hp_42 : r_42 = cx_b ((0 : Int32) ≤ xh ∧ xh ≤ (nI 3)) := hp_42
          subst hp_42
          refine lv_if_eq (tgt := 59) hx hb dX7_member_45 (by decide) (fun h45 => ?_) (fun h45 => ?_)
          · skip
            have g45 := cx_b0 h45
            exact J59  _ _ _ (by first | exact fun z => g5 z.1 | exact fun z => g15 ⟨z.2.1.1, (cx_leL _ 9 (by decide)).mpr z.2.1.2⟩ | exact fun z => g24 ⟨z.2.2.1.1, (cx_leL _ 4 (by decide)).mpr z.2.2.1.2⟩ | exact fun z => g35 ⟨z.2.2.2.1.1, (cx_leL _ 15 (by decide)).mpr z.2.2.2.1.2⟩ | exact fun z => g45 ⟨z.2.2.2.2.1.1, (cx_leL _ 3 (by decide)).mpr z.2.2.2.2.1.2⟩ | exact fun z => g56 ⟨z.2.2.2.2.2.1, (cx_leL _ 29 (by decide)).mpr z.2.2.2.2.2.2⟩) hS (lv_sub hl [0, 1, 2, 3, 4, 5, 6] rfl)
          · skip
            have g45 := cx_b1 h45
            refine lv_iload hx hb dX7_member_48 (lv_at hl 6 rfl) ?_
            refine lv_iconst (v := (0 : Int32)) hx hb dX7_member_50 (by decide) ?_
            refine lv_bipush (v := nI 29) hx hb dX7_member_51 (by decide) ?_
            refine cx_cSi (As := [.int xi, .int (0 : Int32), .int (nI 29)]) (rest := []) ⟨hx, hb, hml, hown, hts⟩ hE hS (c_X7_in l D [(cI, .int), (cZ, .boolean)] (cyW q cI cZ n T k M d Z F) xi (0 : Int32) (nI 29) ) (va_cwS 3 hts gX7_member_X7_in rfl rfl rfl (by decide +kernel) ⟨Nat.le_of_ble_eq_true rfl, Nat.le_of_ble_eq_true rfl⟩) rfl hl.1 rfl (Nat.le_of_ble_eq_true rfl) ⟨Nat.zero_le _, Nat.zero_le _⟩ dX7_member_53 (fun r_53 u_53 H locs hp_53 hS => ?_)
            have hp_53 : r_53 = cx_b ((0 : Int32) ≤ xi ∧ xi ≤ (nI 29)) := hp_53
            subst hp_53
            refine lv_if_ne (tgt := 61) hx hb dX7_member_56 (by decide) (fun h56 => ?_) (fun h56 => ?_)
            · skip
              have g56 := cx_b1 h56
              refine lv_aload_n hx hb dX7_member_61 rfl (lv_at hl 0 rfl) ?_
              refine cx_get (own := RX7) (index := 81) (C := RX7) (T := TX7) (N := 22) (k := 9) (ci := 7) (v := .int (nI k)) hx hb hts hown hE hS hinX7 0 rfl rfl (by decide) (List.mem_of_getElem? (i := 1) rfl) rfl dX7_member_62 ?_
              refine lv_bipush (v := nI 80) hx hb dX7_member_65 (by decide) ?_
              refine lv_icmp_ne (tgt := 73) hx hb dX7_member_67 (by decide) (fun h67 => ?_) (fun h67 => ?_)
              · skip
                have g67 : ¬ (k = 80) := fun z => h67 ((nI_eq (a := k) (b := 80) (by omega) (by omega)).mpr z)
                refine lv_aload_n hx hb dX7_member_73 rfl (lv_at hl 0 rfl) ?_
                refine cx_get (own := RX7) (index := 34) (C := RX7) (T := TX7) (N := 22) (k := 10) (ci := 7) (v := .ref (q 9)) hx hb hts hown hE hS hinX7 0 rfl rfl (by decide) (List.mem_of_getElem? (i := 2) rfl) rfl dX7_member_74 ?_
                refine lv_aload_n hx hb dX7_member_77 rfl (lv_at hl 0 rfl) ?_
                refine cx_get (own := RX7) (index := 81) (C := RX7) (T := TX7) (N := 22) (k := 9) (ci := 7) (v := .int (nI k)) hx hb hts hown hE hS hinX7 0 rfl rfl (by decide) (List.mem_of_getElem? (i := 1) rfl) rfl dX7_member_78 ?_
                refine lv_iload_n hx hb dX7_member_81 rfl (lv_at hl 1 rfl) ?_
                refine cx_iast (k := k) (f := (M 0)) (n := 80) (cA := cI) (ws' := (cyW q cI cZ n T k (cx_u M 0 (upd (M 0) k xa)) d Z F)) hx hb hE hS 9 0 rfl rfl (by omega) (by decide) rfl dX7_member_82 (fun H locs hS => ?_)
                refine lv_aload_n hx hb dX7_member_83 rfl (lv_at hl 0 rfl) ?_
                refine cx_get (own := RX7) (index := 37) (C := RX7) (T := TX7) (N := 22) (k := 11) (ci := 7) (v := .ref (q 10)) hx hb hts hown hE hS hinX7 0 rfl rfl (by decide) (List.mem_of_getElem? (i := 3) rfl) rfl dX7_member_84 ?_
                refine lv_aload_n hx hb dX7_member_87 rfl (lv_at hl 0 rfl) ?_
                refine cx_get (own := RX7) (index := 81) (C := RX7) (T := TX7) (N := 22) (k := 9) (ci := 7) (v := .int (nI k)) hx hb hts hown hE hS hinX7 0 rfl rfl (by decide) (List.mem_of_getElem? (i := 1) rfl) rfl dX7_member_88 ?_
                refine lv_iload_n hx hb dX7_member_91 rfl (lv_at hl 2 rfl) ?_
                refine cx_iast (k := k) (f := (M 1)) (n := 80) (cA := cI) (ws' := (cyW q cI cZ n T k (cx_u (cx_u M 0 (upd (M 0) k xa)) 1 (upd (M 1) k xb)) d Z F)) hx hb hE hS 10 0 rfl rfl (by omega) (by decide) rfl dX7_member_92 (fun H locs hS => ?_)
                refine lv_aload_n hx hb dX7_member_93 rfl (lv_at hl 0 rfl) ?_
                refine cx_get (own := RX7) (index := 40) (C := RX7) (T := TX7) (N := 22) (k := 12) (ci := 7) (v := .ref (q 11)) hx hb hts hown hE hS hinX7 0 rfl rfl (by decide) (List.mem_of_getElem? (i := 4) rfl) rfl dX7_member_94 ?_
                refine lv_aload_n hx hb dX7_member_97 rfl (lv_at hl 0 rfl) ?_
                refine cx_get (own := RX7) (index := 81) (C := RX7) (T := TX7) (N := 22) (k := 9) (ci := 7) (v := .int (nI k)) hx hb hts hown hE hS hinX7 0 rfl rfl (by decide) (List.mem_of_getElem? (i := 1) rfl) rfl dX7_member_98 ?_
                refine lv_iload_n hx hb dX7_member_101 rfl (lv_at hl 3 rfl) ?_
                refine cx_iast (k := k) (f := (M 2)) (n := 80) (cA := cI) (ws' := (cyW q cI cZ n T k (cx_u (cx_u (cx_u M 0 (upd (M 0) k xa)) 1 (upd (M 1) k xb)) 2 (upd (M 2) k xe)) d Z F)) hx hb hE hS 11 0 rfl rfl (by omega) (by decide) rfl dX7_member_102 (fun H locs hS => ?_)
                refine lv_aload_n hx hb dX7_member_103 rfl (lv_at hl 0 rfl) ?_
                refine cx_get (own := RX7) (index := 43) (C := RX7) (T := TX7) (N := 22) (k := 13) (ci := 7) (v := .ref (q 12)) hx hb hts hown hE hS hinX7 0 rfl rfl (by decide) (List.mem_of_getElem? (i := 5) rfl) rfl dX7_member_104 ?_
                refine lv_aload_n hx hb dX7_member_107 rfl (lv_at hl 0 rfl) ?_
                refine cx_get (own := RX7) (index := 81) (C := RX7) (T := TX7) (N := 22) (k := 9) (ci := 7) (v := .int (nI k)) hx hb hts hown hE hS hinX7 0 rfl rfl (by decide) (List.mem_of_getElem? (i := 1) rfl) rfl dX7_member_108 ?_
                refine lv_iload hx hb dX7_member_111 (lv_at hl 4 rfl) ?_
                refine cx_iast (k := k) (f := (M 3)) (n := 80) (cA := cI) (ws' := (cyW q cI cZ n T k (cx_u (cx_u (cx_u (cx_u M 0 (upd (M 0) k xa)) 1 (upd (M 1) k xb)) 2 (upd (M 2) k xe)) 3 (upd (M 3) k xf)) d Z F)) hx hb hE hS 12 0 rfl rfl (by omega) (by decide) rfl dX7_member_113 (fun H locs hS => ?_)
                refine lv_aload_n hx hb dX7_member_114 rfl (lv_at hl 0 rfl) ?_
                refine cx_get (own := RX7) (index := 46) (C := RX7) (T := TX7) (N := 22) (k := 14) (ci := 7) (v := .ref (q 13)) hx hb hts hown hE hS hinX7 0 rfl rfl (by decide) (List.mem_of_getElem? (i := 6) rfl) rfl dX7_member_115 ?_
                refine lv_aload_n hx hb dX7_member_118 rfl (lv_at hl 0 rfl) ?_
                refine cx_get (own := RX7) (index := 81) (C := RX7) (T := TX7) (N := 22) (k := 9) (ci := 7) (v := .int (nI k)) hx hb hts hown hE hS hinX7 0 rfl rfl (by decide) (List.mem_of_getElem? (i := 1) rfl) rfl dX7_member_119 ?_
                refine lv_iload hx hb dX7_member_122 (lv_at hl 5 rfl) ?_
                refine cx_iast (k := k) (f := (M 4)) (n := 80) (cA := cI) (ws' := (cyW q cI cZ n T k (cx_u (cx_u (cx_u (cx_u (cx_u M 0 (upd (M 0) k xa)) 1 (upd (M 1) k xb)) 2 (upd (M 2) k xe)) 3 (upd (M 3) k xf)) 4 (upd (M 4) k xh)) d Z F)) hx hb hE hS 13 0 rfl rfl (by omega) (by decide) rfl dX7_member_124 (fun H locs hS => ?_)
                refine lv_aload_n hx hb dX7_member_125 rfl (lv_at hl 0 rfl) ?_
                refine cx_get (own := RX7) (index := 49) (C := RX7) (T := TX7) (N := 22) (k := 15) (ci := 7) (v := .ref (q 14)) hx hb hts hown hE hS hinX7 0 rfl rfl (by decide) (List.mem_of_getElem? (i := 7) rfl) rfl dX7_member_126 ?_
                refine lv_aload_n hx hb dX7_member_129 rfl (lv_at hl 0 rfl) ?_
                refine cx_get (own := RX7) (index := 81) (C := RX7) (T := TX7) (N := 22) (k := 9) (ci := 7) (v := .int (nI k)) hx hb hts hown hE hS hinX7 0 rfl rfl (by decide) (List.mem_of_getElem? (i := 1) rfl) rfl dX7_member_130 ?_
                refine lv_iload hx hb dX7_member_133 (lv_at hl 6 rfl) ?_
                refine cx_iast (k := k) (f := (M 5)) (n := 80) (cA := cI) (ws' := (cyW q cI cZ n T k (cx_u (cx_u (cx_u (cx_u (cx_u (cx_u M 0 (upd (M 0) k xa)) 1 (upd (M 1) k xb)) 2 (upd (M 2) k xe)) 3 (upd (M 3) k xf)) 4 (upd (M 4) k xh)) 5 (upd (M 5) k xi)) d Z F)) hx hb hE hS 14 0 rfl rfl (by omega) (by decide) rfl dX7_member_135 (fun H locs hS => ?_)
                refine lv_aload_n hx hb dX7_member_136 rfl (lv_at hl 0 rfl) ?_
                refine lv_dup hx hb dX7_member_137 rfl ?_
                refine cx_get (own := RX7) (index := 81) (C := RX7) (T := TX7) (N := 22) (k := 9) (ci := 7) (v := .int (nI k)) hx hb hts hown hE hS hinX7 0 rfl rfl (by decide) (List.mem_of_getElem? (i := 1) rfl) rfl dX7_member_138 ?_
                refine lv_iconst (v := (1 : Int32)) hx hb dX7_member_141 (by decide) ?_
                refine lv_iadd hx hb dX7_member_142 ?_
                refine cx_topr (z := nI (k + 1)) (nI_1 _) ?_
                refine cx_put (own := RX7) (index := 81) (C := RX7) (T := TX7) (N := 22) (k := 9) (ci := 7) (v := .int (nI (k + 1))) (ty := .int) (ws' := (cyW q cI cZ n T (k + 1) (cx_u (cx_u (cx_u (cx_u (cx_u (cx_u M 0 (upd (M 0) k xa)) 1 (upd (M 1) k xb)) 2 (upd (M 2) k xe)) 3 (upd (M 3) k xf)) 4 (upd (M 4) k xh)) 5 (upd (M 5) k xi)) d Z F)) hx hb hts hown hE hS hinX7 tyX7 tyX7_ok nmX7 0 rfl rfl (by decide) (List.mem_of_getElem? (i := 1) rfl) rfl (by decide +kernel) rfl rfl (Nat.le_of_ble_eq_true rfl) rfl dX7_member_143 (fun H locs hS => ?_)
                refine lv_aload_n hx hb dX7_member_146 rfl (lv_at hl 0 rfl) ?_
                refine cx_get (own := RX7) (index := 81) (C := RX7) (T := TX7) (N := 22) (k := 9) (ci := 7) (v := .int (nI (k + 1))) hx hb hts hown hE hS hinX7 0 rfl rfl (by decide) (List.mem_of_getElem? (i := 1) rfl) rfl dX7_member_147 ?_
                refine lv_iconst (v := (1 : Int32)) hx hb dX7_member_150 (by decide) ?_
                refine lv_isub hx hb dX7_member_151 ?_
                refine cx_topr (z := nI k) (nI_pred k) ?_
                exact RET _ (k + 1, cx_u (cx_u (cx_u (cx_u (cx_u (cx_u M 0 (upd (M 0) k xa)) 1 (upd (M 1) k xb)) 2 (upd (M 2) k xe)) 3 (upd (M 3) k xf)) 4 (upd (M 4) k xh)) 5 (upd (M 5) k xi)) _ _ _ _ dX7_member_152 rfl (Or.inr (Or.inr ⟨⟨g5, ⟨g15.1, (cx_leL _ 9 (by decide)).mp g15.2⟩, ⟨g24.1, (cx_leL _ 4 (by decide)).mp g24.2⟩, ⟨g35.1, (cx_leL _ 15 (by decide)).mp g35.2⟩, ⟨g45.1, (cx_leL _ 3 (by decide)).mp g45.2⟩, ⟨g56.1, (cx_leL _ 29 (by decide)).mp g56.2⟩⟩, by omega, rfl, rfl, rfl⟩)) hS
              · skip
                have g67 : k = 80 := (nI_eq (a := k) (b := 80) (by omega) (by omega)).mp h67
                refine lv_bipush (v := (-2 : Int32)) hx hb dX7_member_70 (by decide) ?_
                exact RET _ (k, M) _ _ _ _ dX7_member_72 rfl (Or.inr (Or.inl ⟨⟨g5, ⟨g15.1, (cx_leL _ 9 (by decide)).mp g15.2⟩, ⟨g24.1, (cx_leL _ 4 (by decide)).mp g24.2⟩, ⟨g35.1, (cx_leL _ 15 (by decide)).mp g35.2⟩, ⟨g45.1, (cx_leL _ 3 (by decide)).mp g45.2⟩, ⟨g56.1, (cx_leL _ 29 (by decide)).mp g56.2⟩⟩, by omega, rfl, rfl, rfl⟩)) hS
            · skip
              have g56 := cx_b0 h56
              exact J59  _ _ _ (by first | exact fun z => g5 z.1 | exact fun z => g15 ⟨z.2.1.1, (cx_leL _ 9 (by decide)).mpr z.2.1.2⟩ | exact fun z => g24 ⟨z.2.2.1.1, (cx_leL _ 4 (by decide)).mpr z.2.2.1.2⟩ | exact fun z => g35 ⟨z.2.2.2.1.1, (cx_leL _ 15 (by decide)).mpr z.2.2.2.1.2⟩ | exact fun z => g45 ⟨z.2.2.2.2.1.1, (cx_leL _ 3 (by decide)).mpr z.2.2.2.2.1.2⟩ | exact fun z => g56 ⟨z.2.2.2.2.2.1, (cx_leL _ 29 (by decide)).mpr z.2.2.2.2.2.2⟩) hS (lv_sub hl [0, 1, 2, 3, 4, 5, 6] rfl)
