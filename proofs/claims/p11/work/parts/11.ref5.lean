set_option maxHeartbeats 4000000 in
set_option maxRecDepth 100000 in
theorem c_X7_count (l : Launch) (D : va_G) (q : Nat → Nat) (cI cZ : ClassId) (n : Nat) (T : Nat → Nat → Int32) (k : Nat) (M : Nat → Nat → Int32) (d : Nat) (Z : Nat → Nat → Int32) (F : Nat → Nat → Int32) : cx_Mi l D vwCl [(cI, .int), (cZ, .boolean)] cx_NW yX7_count wsX7_count ({ frames := 0, cells := 0, slots := 0, locals := 0 } : Room) [.ref (q 0)] (cyW q cI cZ n T k M d Z F) (fun (r : Int32) (uw : Unit) => True) (fun _ => (cyW q cI cZ n T k M d Z F)) := by
  refine cx_Mi.of (cc := cX7_count) (maxL := 3) cx_NW_ok (by decide) rfl (Nat.le_of_ble_eq_true rfl) ?_
  intro p e s m args below meth c Q A ls hx hb hml hown hts hE RET hS hl
  have hl : lv_has ls 3 [(0, .ref (q 0))] := hl
  have hown : s.vm.findClass RX7 = some m.cls := hown
  have hinX7 : ∀ w ∈ u_ws RX7 TX7 22, w ∈ wsX7_count := cx_mem [2, 3, 4, 5, 6, 7, 8, 9, 10, 11, 12, 13, 14, 15, 16, 17, 18, 19, 20, 21, 22, 23] (by decide +kernel)
  refine lv_iconst (v := (0 : Int32)) hx hb dX7_count_0 (by decide) ?_
  refine cx_topr (z := nI 0) (by decide) ?_
  refine lv_istore_n (lv' := [(1, .int (nI 0)), (0, .ref (q 0))]) hx hb dX7_count_1 rfl hl (by decide) rfl (fun ls hl => ?_)
  refine lv_iconst (v := (0 : Int32)) hx hb dX7_count_2 (by decide) ?_
  refine cx_topr (z := nI 0) (by decide) ?_
  refine lv_istore_n (lv' := [(2, .int (nI 0)), (1, .int (nI 0)), (0, .ref (q 0))]) hx hb dX7_count_3 rfl hl (by decide) rfl (fun ls hl => ?_)
  have J4 : ∀ (N : Nat) (v4_l1 : Int32) (i4 : Nat) (H : Heap) (locs : List Loc) (ls : Array Slot), (1600 - i4 < N) → (i4 ≤ 1600) → cx_S D vwCl A s (cyW q cI cZ n T k M d Z F) H locs → lv_has ls 3 [(0, .ref (q 0)), (1, .int v4_l1), (2, .int (nI i4))] → W p l e ({ frames := 0, cells := 0, slots := 0, locals := 0 } : Room) s m args below meth c H locs 0 0 Q (F0 m 4 ls []) := by
    intro N4
    induction N4 with
    | zero => intro v4_l1 i4 H locs ls hN; exact absurd hN (by omega)
    | succ N4 ih4 =>
      intro v4_l1 i4 H locs ls hN4 hi4 hS hl
      refine lv_iload_n hx hb dX7_count_4 rfl (lv_at hl 2 rfl) ?_
      refine lv_sipush (v := nI 1600) hx hb dX7_count_5 (by decide) ?_
      refine lv_icmp_ge (tgt := 34) hx hb dX7_count_8 (by decide) (fun h8 => ?_) (fun h8 => ?_)
      · skip
        have g8 : 1600 ≤ i4 := (nI_leI (a := 1600) (b := i4) (by omega) (by omega)).mp h8
        refine lv_iload_n hx hb dX7_count_34 rfl (lv_at hl 1 rfl) ?_
        exact RET _ () _ _ _ _ dX7_count_35 rfl trivial hS
      · skip
        have g8 : ¬ (1600 ≤ i4) := fun z => h8 ((nI_leI (a := 1600) (b := i4) (by omega) (by omega)).mpr z)
        refine lv_iload_n hx hb dX7_count_11 rfl (lv_at hl 1 rfl) ?_
        refine lv_aload_n hx hb dX7_count_12 rfl (lv_at hl 0 rfl) ?_
        refine cx_get (own := RX7) (index := 56) (C := RX7) (T := TX7) (N := 22) (k := 18) (ci := 7) (v := .ref (q 16)) hx hb hts hown hE hS hinX7 0 rfl rfl (by decide) (List.mem_of_getElem? (i := 1) rfl) rfl dX7_count_13 ?_
        refine lv_iload_n hx hb dX7_count_16 rfl (lv_at hl 2 rfl) ?_
        refine cx_zald (f := (Z 1)) (n := 1600) (cA := cZ) hx hb hE hS 16 1 rfl rfl (by omega) (by decide) dX7_count_17 ?_
        have J26 : ∀ (v26_s0 : Int32) (H : Heap) (locs : List Loc) (ls : Array Slot), cx_S D vwCl A s (cyW q cI cZ n T k M d Z F) H locs → lv_has ls 3 [(0, .ref (q 0)), (1, .int v4_l1), (2, .int (nI i4))] → W p l e ({ frames := 0, cells := 0, slots := 0, locals := 0 } : Room) s m args below meth c H locs 0 0 Q (F0 m 26 ls [.int v26_s0, .int v4_l1]) := by
          intro v26_s0 H locs ls  hS hl
          refine lv_iadd hx hb dX7_count_26 ?_
          refine lv_istore_n (lv' := [(1, .int (v4_l1 + v26_s0)), (0, .ref (q 0)), (2, .int (nI i4))]) hx hb dX7_count_27 rfl hl (by decide) rfl (fun ls hl => ?_)
          refine lv_iinc (v := nI (i4 + 1)) (lv' := [(2, .int (nI (i4 + 1))), (1, .int (v4_l1 + v26_s0)), (0, .ref (q 0))]) hx hb dX7_count_28 hl (k := 2) rfl (cx_inc _) (by decide) rfl (fun ls hl => ?_)
          refine lv_goto (tgt := 4) hx hb dX7_count_31 (by decide) ?_
          exact ih4 (v4_l1 + v26_s0) (i4 + 1) _ _ _ (by omega) (by omega) hS (lv_sub hl [2, 1, 0] rfl)
        refine lv_if_eq (tgt := 25) hx hb dX7_count_18 (by decide) (fun h18 => ?_) (fun h18 => ?_)
        · skip
          refine lv_iconst (v := (0 : Int32)) hx hb dX7_count_25 (by decide) ?_
          exact J26 (0 : Int32) _ _ _  hS (lv_sub hl [0, 1, 2] rfl)
        · skip
          refine lv_iconst (v := (1 : Int32)) hx hb dX7_count_21 (by decide) ?_
          refine lv_goto (tgt := 26) hx hb dX7_count_22 (by decide) ?_
          exact J26 (1 : Int32) _ _ _  hS (lv_sub hl [0, 1, 2] rfl)
  exact J4 (1600 - 0 + 1) (nI 0) 0 _ _ _ (Nat.lt_succ_self _) (by omega) hS (lv_sub hl [2, 1, 0] rfl)
set_option maxHeartbeats 4000000 in
set_option maxRecDepth 100000 in
theorem c_X7_faults (l : Launch) (D : va_G) (q : Nat → Nat) (cI cZ : ClassId) (n : Nat) (T : Nat → Nat → Int32) (k : Nat) (M : Nat → Nat → Int32) (d : Nat) (Z : Nat → Nat → Int32) (F : Nat → Nat → Int32) (xa : Int32) (hn : n ≤ 20) (hP : cx_P (T 3) 20) (hU : cx_R (T 4) 20) (hV : cx_R (T 5) 4) (hKN : cx_KN n T (Z 0) ((Z 3) 0)) (hQ : cx_R (T 6) 20) (hW : cx_R (T 7) 4) (hO : cx_R (M 0) 20) (hk : k ≤ 80) (hOn : ∀ j, j < k → (M 0 j).toNatClampNeg < n) (hX : cx_R (M 4) 4) (hK0 : cx_R (T 0) 4) (hM5 : cx_R (M 5) 30) (hM1 : cx_R (M 1) 10) (hM2 : cx_R (M 2) 5) : cx_Mi l D vwCl [(cI, .int), (cZ, .boolean)] cx_NW yX7_faults wsX7_faults ({ frames := 7, cells := 0, slots := 0, locals := 164 } : Room) [.ref (q 0), .int xa] (cyW q cI cZ n T k M d Z F) (fun (r : Int32) (uw : (Nat → Int32) × (Int32) × (Nat) × (Nat → Int32) × (Nat → Int32)) => cx_KN n T uw.1 uw.2.1 ∧ (True)) (fun uw => (cyW q cI cZ n T k M uw.2.2.1 (cx_u (cx_u (cx_u Z 0 uw.1) 3 (fun _ => uw.2.1)) 1 uw.2.2.2.2) (cx_u F 0 uw.2.2.2.1))) := by
  refine cx_Mi.of (cc := cX7_faults) (maxL := 2) cx_NW_ok (by decide) rfl (Nat.le_of_ble_eq_true rfl) ?_
  intro p e s m args below meth c Q A ls hx hb hml hown hts hE RET hS hl
  have hl : lv_has ls 2 [(0, .ref (q 0)), (1, .int xa)] := hl
  have hown : s.vm.findClass RX7 = some m.cls := hown
  refine lv_aload_n hx hb dX7_faults_0 rfl (lv_at hl 0 rfl) ?_
  refine lv_iload_n hx hb dX7_faults_1 rfl (lv_at hl 1 rfl) ?_
  refine cx_cVi (As := [.int xa]) (rest := []) ⟨hx, hb, hml, hown, hts⟩ hE hS (c_X7_isType l D q cI cZ n T k M d Z F xa (by first | assumption | omega | rfl)) (cwV 1 hts gX7_faults_X7_isType rfl rfl rfl (by decide +kernel) ⟨Nat.le_of_ble_eq_true rfl, Nat.le_of_ble_eq_true rfl⟩) 0 7 rfl rfl rfl hl.1 rfl (Nat.le_of_ble_eq_true rfl) ⟨Nat.zero_le _, Nat.zero_le _⟩ dX7_faults_2 (fun r_2 u_2 H locs hp_2 hS => ?_)
  have hp_2 : r_2 = cx_b (0 ≤ xa ∧ xa < nI n) := hp_2
  subst hp_2
  refine lv_if_ne (tgt := 10) hx hb dX7_faults_5 (by decide) (fun h5 => ?_) (fun h5 => ?_)
  · skip
    have g5 := cx_b1 h5
    have hq5 := (cx_ixT (by omega) g5).2
    refine lv_aload_n hx hb dX7_faults_10 rfl (lv_at hl 0 rfl) ?_
    refine lv_iload_n hx hb dX7_faults_11 rfl (lv_at hl 1 rfl) ?_
    refine cx_topr (z := nI (xa.toNatClampNeg)) (cx_ixT (by omega) g5).1 ?_
    refine cx_cVv (As := [.int (nI (xa.toNatClampNeg))]) (rest := []) ⟨hx, hb, hml, hown, hts⟩ hE hS (c_X7_faultsOf l D q cI cZ n T k M d Z F xa.toNatClampNeg (by first | assumption | omega | rfl) (by first | assumption | omega | rfl) (by first | assumption | omega | rfl) (by first | assumption | omega | rfl) (by first | assumption | omega | rfl) (by first | assumption | omega | rfl) (by first | assumption | omega | rfl) (by first | assumption | omega | rfl) (by first | assumption | omega | rfl) (by first | assumption | omega | rfl) (by first | assumption | omega | rfl) (by first | assumption | omega | rfl) (by first | assumption | omega | rfl) (by first | assumption | omega | rfl) (by first | assumption | omega | rfl) (by first | assumption | omega | rfl)) (cwV 1 hts gX7_faults_X7_faultsOf rfl rfl rfl (by decide +kernel) ⟨Nat.le_of_ble_eq_true rfl, Nat.le_of_ble_eq_true rfl⟩) 0 7 rfl rfl rfl hl.1 rfl (Nat.le_of_ble_eq_true rfl) ⟨Nat.zero_le _, Nat.zero_le _⟩ dX7_faults_12 (fun u_12 H locs hp_12 hS => ?_)
    obtain ⟨za_12, kn_12, d1_12, fo_12, zf_12⟩ := u_12
    have hS : cx_S D vwCl A s (cyW q cI cZ n T k M d1_12 (cx_u (cx_u (cx_u Z 0 za_12) 3 (fun _ => kn_12)) 1 zf_12) (cx_u F 0 fo_12)) H locs := hS
    obtain ⟨hKN_12, hp_12⟩ := hp_12
    have hKN_12 : cx_KN n T za_12 kn_12 := hKN_12
    have hp_12 : cx_EE zf_12 ↔ cx_AF n k ((T 0)) ((T 1)) ((T 2)) ((T 3)) M (cx_Ur T) (cx_Wr T) (cx_Vr T) (cx_Ar T n) xa.toNatClampNeg := hp_12
    refine lv_aload_n hx hb dX7_faults_15 rfl (lv_at hl 0 rfl) ?_
    refine cx_cVi (As := []) (rest := []) ⟨hx, hb, hml, hown, hts⟩ hE hS (c_X7_count l D q cI cZ n T k M d1_12 (cx_u (cx_u (cx_u Z 0 za_12) 3 (fun _ => kn_12)) 1 zf_12) (cx_u F 0 fo_12)  ) (cwV 0 hts gX7_faults_X7_count rfl rfl rfl (by decide +kernel) ⟨Nat.le_of_ble_eq_true rfl, Nat.le_of_ble_eq_true rfl⟩) 0 7 rfl rfl rfl hl.1 rfl (Nat.le_of_ble_eq_true rfl) ⟨Nat.zero_le _, Nat.zero_le _⟩ dX7_faults_16 (fun r_16 u_16 H locs hp_16 hS => ?_)
    exact RET _ (za_12, kn_12, d1_12, fo_12, zf_12) _ _ _ _ dX7_faults_19 rfl (⟨(by first | assumption | exact hKN), trivial⟩) hS
  · skip
    have g5 := cx_b0 h5
    refine lv_iconst (v := (-1 : Int32)) hx hb dX7_faults_8 (by decide) ?_
    exact RET _ (Z 0, (Z 3) 0, d, F 0, Z 1) _ _ _ _ dX7_faults_9 rfl (⟨(by first | assumption | exact hKN), trivial⟩) hS
set_option maxHeartbeats 4000000 in
set_option maxRecDepth 100000 in
theorem c_X7_fault (l : Launch) (D : va_G) (q : Nat → Nat) (cI cZ : ClassId) (n : Nat) (T : Nat → Nat → Int32) (k : Nat) (M : Nat → Nat → Int32) (d : Nat) (Z : Nat → Nat → Int32) (F : Nat → Nat → Int32) (xa : Int32) (xb : Int32) (xe : Int32) (hn : n ≤ 20) (hP : cx_P (T 3) 20) (hU : cx_R (T 4) 20) (hV : cx_R (T 5) 4) (hKN : cx_KN n T (Z 0) ((Z 3) 0)) (hQ : cx_R (T 6) 20) (hW : cx_R (T 7) 4) (hO : cx_R (M 0) 20) (hk : k ≤ 80) (hOn : ∀ j, j < k → (M 0 j).toNatClampNeg < n) (hX : cx_R (M 4) 4) (hK0 : cx_R (T 0) 4) (hM5 : cx_R (M 5) 30) (hM1 : cx_R (M 1) 10) (hM2 : cx_R (M 2) 5) : cx_Mi l D vwCl [(cI, .int), (cZ, .boolean)] cx_NW yX7_fault wsX7_fault ({ frames := 7, cells := 0, slots := 0, locals := 164 } : Room) [.ref (q 0), .int xa, .int xb, .int xe] (cyW q cI cZ n T k M d Z F) (fun (r : Int32) (uw : (Nat → Int32) × (Int32) × (Nat) × (Nat → Int32) × (Nat → Int32)) => cx_KN n T uw.1 uw.2.1 ∧ (True)) (fun uw => (cyW q cI cZ n T k M uw.2.2.1 (cx_u (cx_u (cx_u Z 0 uw.1) 3 (fun _ => uw.2.1)) 1 uw.2.2.2.2) (cx_u F 0 uw.2.2.2.1))) := by
  refine cx_Mi.of (cc := cX7_fault) (maxL := 6) cx_NW_ok (by decide) rfl (Nat.le_of_ble_eq_true rfl) ?_
  intro p e s m args below meth c Q A ls hx hb hml hown hts hE RET hS hl
  have hl : lv_has ls 6 [(0, .ref (q 0)), (1, .int xa), (2, .int xb), (3, .int xe)] := hl
  have hown : s.vm.findClass RX7 = some m.cls := hown
  have hinX7 : ∀ w ∈ u_ws RX7 TX7 22, w ∈ wsX7_fault := cx_mem [130, 131, 132, 133, 134, 135, 136, 137, 138, 139, 140, 141, 142, 143, 144, 145, 146, 147, 148, 149, 150, 151] (by decide +kernel)
  refine lv_aload_n hx hb dX7_fault_0 rfl (lv_at hl 0 rfl) ?_
  refine lv_iload_n hx hb dX7_fault_1 rfl (lv_at hl 1 rfl) ?_
  refine cx_cVi (As := [.int xa]) (rest := []) ⟨hx, hb, hml, hown, hts⟩ hE hS (c_X7_isType l D q cI cZ n T k M d Z F xa (by first | assumption | omega | rfl)) (cwV 1 hts gX7_fault_X7_isType rfl rfl rfl (by decide +kernel) ⟨Nat.le_of_ble_eq_true rfl, Nat.le_of_ble_eq_true rfl⟩) 0 7 rfl rfl rfl hl.1 rfl (Nat.le_of_ble_eq_true rfl) ⟨Nat.zero_le _, Nat.zero_le _⟩ dX7_fault_2 (fun r_2 u_2 H locs hp_2 hS => ?_)
  have hp_2 : r_2 = cx_b (0 ≤ xa ∧ xa < nI n) := hp_2
  subst hp_2
  have J21 : ∀ (H : Heap) (locs : List Loc) (ls : Array Slot), cx_S D vwCl A s (cyW q cI cZ n T k M d Z F) H locs → lv_has ls 6 [(0, .ref (q 0)), (1, .int xa), (2, .int xb), (3, .int xe)] → W p l e ({ frames := 7, cells := 0, slots := 0, locals := 164 } : Room) s m args below meth c H locs 0 0 Q (F0 m 21 ls []) := by
    intro  H locs ls  hS hl
    refine lv_iconst (v := (-1 : Int32)) hx hb dX7_fault_21 (by decide) ?_
    exact RET _ (Z 0, (Z 3) 0, d, F 0, Z 1) _ _ _ _ dX7_fault_22 rfl (⟨(by first | assumption | exact hKN), trivial⟩) hS
  refine lv_if_eq (tgt := 21) hx hb dX7_fault_5 (by decide) (fun h5 => ?_) (fun h5 => ?_)
  · skip
    have g5 := cx_b0 h5
    exact J21  _ _ _  hS (lv_sub hl [0, 1, 2, 3] rfl)
  · skip
    have g5 := cx_b1 h5
    have hq5 := (cx_ixT (by omega) g5).2
    refine lv_iload_n hx hb dX7_fault_8 rfl (lv_at hl 3 rfl) ?_
    refine lv_iconst (v := (0 : Int32)) hx hb dX7_fault_9 (by decide) ?_
    refine lv_iconst (v := (1 : Int32)) hx hb dX7_fault_10 (by decide) ?_
    refine cx_cSi (As := [.int xe, .int (0 : Int32), .int (1 : Int32)]) (rest := []) ⟨hx, hb, hml, hown, hts⟩ hE hS (c_X7_in l D [(cI, .int), (cZ, .boolean)] (cyW q cI cZ n T k M d Z F) xe (0 : Int32) (1 : Int32) ) (va_cwS 3 hts gX7_fault_X7_in rfl rfl rfl (by decide +kernel) ⟨Nat.le_of_ble_eq_true rfl, Nat.le_of_ble_eq_true rfl⟩) rfl hl.1 rfl (Nat.le_of_ble_eq_true rfl) ⟨Nat.zero_le _, Nat.zero_le _⟩ dX7_fault_11 (fun r_11 u_11 H locs hp_11 hS => ?_)
    have hp_11 : r_11 = cx_b ((0 : Int32) ≤ xe ∧ xe ≤ (1 : Int32)) := hp_11
    subst hp_11
    refine lv_if_eq (tgt := 21) hx hb dX7_fault_14 (by decide) (fun h14 => ?_) (fun h14 => ?_)
    · skip
      have g14 := cx_b0 h14
      exact J21  _ _ _  hS (lv_sub hl [0, 1, 2, 3] rfl)
    · skip
      have g14 := cx_b1 h14
      refine lv_iload_n hx hb dX7_fault_17 rfl (lv_at hl 2 rfl) ?_
      refine lv_if_ge (tgt := 23) hx hb dX7_fault_18 (by decide) (fun h18 => ?_) (fun h18 => ?_)
      · skip
        refine lv_aload_n hx hb dX7_fault_23 rfl (lv_at hl 0 rfl) ?_
        refine lv_iload_n hx hb dX7_fault_24 rfl (lv_at hl 1 rfl) ?_
        refine cx_topr (z := nI (xa.toNatClampNeg)) (cx_ixT (by omega) g5).1 ?_
        refine cx_cVv (As := [.int (nI (xa.toNatClampNeg))]) (rest := []) ⟨hx, hb, hml, hown, hts⟩ hE hS (c_X7_faultsOf l D q cI cZ n T k M d Z F xa.toNatClampNeg (by first | assumption | omega | rfl) (by first | assumption | omega | rfl) (by first | assumption | omega | rfl) (by first | assumption | omega | rfl) (by first | assumption | omega | rfl) (by first | assumption | omega | rfl) (by first | assumption | omega | rfl) (by first | assumption | omega | rfl) (by first | assumption | omega | rfl) (by first | assumption | omega | rfl) (by first | assumption | omega | rfl) (by first | assumption | omega | rfl) (by first | assumption | omega | rfl) (by first | assumption | omega | rfl) (by first | assumption | omega | rfl) (by first | assumption | omega | rfl)) (cwV 1 hts gX7_fault_X7_faultsOf rfl rfl rfl (by decide +kernel) ⟨Nat.le_of_ble_eq_true rfl, Nat.le_of_ble_eq_true rfl⟩) 0 7 rfl rfl rfl hl.1 rfl (Nat.le_of_ble_eq_true rfl) ⟨Nat.zero_le _, Nat.zero_le _⟩ dX7_fault_25 (fun u_25 H locs hp_25 hS => ?_)
        obtain ⟨za_25, kn_25, d1_25, fo_25, zf_25⟩ := u_25
        have hS : cx_S D vwCl A s (cyW q cI cZ n T k M d1_25 (cx_u (cx_u (cx_u Z 0 za_25) 3 (fun _ => kn_25)) 1 zf_25) (cx_u F 0 fo_25)) H locs := hS
        obtain ⟨hKN_25, hp_25⟩ := hp_25
        have hKN_25 : cx_KN n T za_25 kn_25 := hKN_25
        have hp_25 : cx_EE zf_25 ↔ cx_AF n k ((T 0)) ((T 1)) ((T 2)) ((T 3)) M (cx_Ur T) (cx_Wr T) (cx_Vr T) (cx_Ar T n) xa.toNatClampNeg := hp_25
        refine lv_iload_n hx hb dX7_fault_28 rfl (lv_at hl 2 rfl) ?_
        refine lv_istore (lv' := [(4, .int xb), (0, .ref (q 0)), (1, .int xa), (2, .int xb), (3, .int xe)]) hx hb dX7_fault_29 hl (by decide) rfl (fun ls hl => ?_)
        refine lv_iconst (v := (0 : Int32)) hx hb dX7_fault_31 (by decide) ?_
        refine cx_topr (z := nI 0) (by decide) ?_
        refine lv_istore (lv' := [(5, .int (nI 0)), (4, .int xb), (0, .ref (q 0)), (1, .int xa), (2, .int xb), (3, .int xe)]) hx hb dX7_fault_32 hl (by decide) rfl (fun ls hl => ?_)
        have J34 : ∀ (N : Nat) (v34_l4 : Int32) (i34 : Nat) (H : Heap) (locs : List Loc) (ls : Array Slot), (1600 - i34 < N) → (i34 ≤ 1600) → cx_S D vwCl A s (cyW q cI cZ n T k M d1_25 (cx_u (cx_u (cx_u Z 0 za_25) 3 (fun _ => kn_25)) 1 zf_25) (cx_u F 0 fo_25)) H locs → lv_has ls 6 [(0, .ref (q 0)), (1, .int xa), (2, .int xb), (3, .int xe), (4, .int v34_l4), (5, .int (nI i34))] → W p l e ({ frames := 7, cells := 0, slots := 0, locals := 164 } : Room) s m args below meth c H locs 0 0 Q (F0 m 34 ls []) := by
          intro N34
          induction N34 with
          | zero => intro v34_l4 i34 H locs ls hN; exact absurd hN (by omega)
          | succ N34 ih34 =>
            intro v34_l4 i34 H locs ls hN34 hi34 hS hl
            refine lv_iload hx hb dX7_fault_34 (lv_at hl 5 rfl) ?_
            refine lv_sipush (v := nI 1600) hx hb dX7_fault_36 (by decide) ?_
            refine lv_icmp_ge (tgt := 101) hx hb dX7_fault_39 (by decide) (fun h39 => ?_) (fun h39 => ?_)
            · skip
              have g39 : 1600 ≤ i34 := (nI_leI (a := 1600) (b := i34) (by omega) (by omega)).mp h39
              refine lv_iconst (v := (-1 : Int32)) hx hb dX7_fault_101 (by decide) ?_
              exact RET _ (za_25, kn_25, d1_25, fo_25, zf_25) _ _ _ _ dX7_fault_102 rfl (⟨(by first | assumption | exact hKN), trivial⟩) hS
            · skip
              have g39 : ¬ (1600 ≤ i34) := fun z => h39 ((nI_leI (a := 1600) (b := i34) (by omega) (by omega)).mpr z)
              refine lv_aload_n hx hb dX7_fault_42 rfl (lv_at hl 0 rfl) ?_
              refine cx_get (own := RX7) (index := 56) (C := RX7) (T := TX7) (N := 22) (k := 18) (ci := 7) (v := .ref (q 16)) hx hb hts hown hE hS hinX7 0 rfl rfl (by decide) (List.mem_of_getElem? (i := 1) rfl) rfl dX7_fault_43 ?_
              refine lv_iload hx hb dX7_fault_46 (lv_at hl 5 rfl) ?_
              refine cx_zald (f := zf_25) (n := 1600) (cA := cZ) hx hb hE hS 16 1 rfl rfl (by omega) (by decide) dX7_fault_48 ?_
              have J75 : ∀ (H : Heap) (locs : List Loc) (ls : Array Slot), cx_S D vwCl A s (cyW q cI cZ n T k M d1_25 (cx_u (cx_u (cx_u Z 0 za_25) 3 (fun _ => kn_25)) 1 zf_25) (cx_u F 0 fo_25)) H locs → lv_has ls 6 [(0, .ref (q 0)), (1, .int xa), (2, .int xb), (3, .int xe), (4, .int v34_l4), (5, .int (nI i34))] → W p l e ({ frames := 7, cells := 0, slots := 0, locals := 164 } : Room) s m args below meth c H locs 0 0 Q (F0 m 75 ls []) := by
                intro  H locs ls  hS hl
                refine lv_iload hx hb dX7_fault_75 (lv_at hl 4 rfl) ?_
                refine lv_aload_n hx hb dX7_fault_77 rfl (lv_at hl 0 rfl) ?_
                refine cx_get (own := RX7) (index := 56) (C := RX7) (T := TX7) (N := 22) (k := 18) (ci := 7) (v := .ref (q 16)) hx hb hts hown hE hS hinX7 0 rfl rfl (by decide) (List.mem_of_getElem? (i := 1) rfl) rfl dX7_fault_78 ?_
                refine lv_iload hx hb dX7_fault_81 (lv_at hl 5 rfl) ?_
                refine cx_zald (f := zf_25) (n := 1600) (cA := cZ) hx hb hE hS 16 1 rfl rfl (by omega) (by decide) dX7_fault_83 ?_
                have J92 : ∀ (v92_s0 : Int32) (H : Heap) (locs : List Loc) (ls : Array Slot), cx_S D vwCl A s (cyW q cI cZ n T k M d1_25 (cx_u (cx_u (cx_u Z 0 za_25) 3 (fun _ => kn_25)) 1 zf_25) (cx_u F 0 fo_25)) H locs → lv_has ls 6 [(0, .ref (q 0)), (1, .int xa), (2, .int xb), (3, .int xe), (4, .int v34_l4), (5, .int (nI i34))] → W p l e ({ frames := 7, cells := 0, slots := 0, locals := 164 } : Room) s m args below meth c H locs 0 0 Q (F0 m 92 ls [.int v92_s0, .int v34_l4]) := by
                  intro v92_s0 H locs ls  hS hl
                  refine lv_isub hx hb dX7_fault_92 ?_
                  refine lv_istore (lv' := [(4, .int (v34_l4 - v92_s0)), (0, .ref (q 0)), (1, .int xa), (2, .int xb), (3, .int xe), (5, .int (nI i34))]) hx hb dX7_fault_93 hl (by decide) rfl (fun ls hl => ?_)
                  refine lv_iinc (v := nI (i34 + 1)) (lv' := [(5, .int (nI (i34 + 1))), (4, .int (v34_l4 - v92_s0)), (0, .ref (q 0)), (1, .int xa), (2, .int xb), (3, .int xe)]) hx hb dX7_fault_95 hl (k := 5) rfl (cx_inc _) (by decide) rfl (fun ls hl => ?_)
                  refine lv_goto (tgt := 34) hx hb dX7_fault_98 (by decide) ?_
                  exact ih34 (v34_l4 - v92_s0) (i34 + 1) _ _ _ (by omega) (by omega) hS (lv_sub hl [2, 3, 4, 5, 1, 0] rfl)
                refine lv_if_eq (tgt := 91) hx hb dX7_fault_84 (by decide) (fun h84 => ?_) (fun h84 => ?_)
                · skip
                  refine lv_iconst (v := (0 : Int32)) hx hb dX7_fault_91 (by decide) ?_
                  exact J92 (0 : Int32) _ _ _  hS (lv_sub hl [0, 1, 2, 3, 4, 5] rfl)
                · skip
                  refine lv_iconst (v := (1 : Int32)) hx hb dX7_fault_87 (by decide) ?_
                  refine lv_goto (tgt := 92) hx hb dX7_fault_88 (by decide) ?_
                  exact J92 (1 : Int32) _ _ _  hS (lv_sub hl [0, 1, 2, 3, 4, 5] rfl)
              refine lv_if_eq (tgt := 75) hx hb dX7_fault_49 (by decide) (fun h49 => ?_) (fun h49 => ?_)
              · skip
                exact J75  _ _ _  hS (lv_sub hl [0, 1, 2, 3, 4, 5] rfl)
              · skip
                refine lv_iload hx hb dX7_fault_52 (lv_at hl 4 rfl) ?_
                refine lv_if_ne (tgt := 75) hx hb dX7_fault_54 (by decide) (fun h54 => ?_) (fun h54 => ?_)
                · skip
                  exact J75  _ _ _  hS (lv_sub hl [0, 1, 2, 3, 4, 5] rfl)
                · skip
                  refine lv_iload_n hx hb dX7_fault_57 rfl (lv_at hl 3 rfl) ?_
                  have J74 : ∀ (v74_s0 : Int32) (H : Heap) (locs : List Loc) (ls : Array Slot), cx_S D vwCl A s (cyW q cI cZ n T k M d1_25 (cx_u (cx_u (cx_u Z 0 za_25) 3 (fun _ => kn_25)) 1 zf_25) (cx_u F 0 fo_25)) H locs → lv_has ls 6 [(0, .ref (q 0)), (1, .int xa), (2, .int xb), (3, .int xe), (4, .int v34_l4), (5, .int (nI i34))] → W p l e ({ frames := 7, cells := 0, slots := 0, locals := 164 } : Room) s m args below meth c H locs 0 0 Q (F0 m 74 ls [.int v74_s0]) := by
                    intro v74_s0 H locs ls  hS hl
                    exact RET _ (za_25, kn_25, d1_25, fo_25, zf_25) _ _ _ _ dX7_fault_74 rfl (⟨(by first | assumption | exact hKN), trivial⟩) hS
                  refine lv_if_ne (tgt := 69) hx hb dX7_fault_58 (by decide) (fun h58 => ?_) (fun h58 => ?_)
                  · skip
                    refine lv_iload hx hb dX7_fault_69 (lv_at hl 5 rfl) ?_
                    refine lv_bipush (v := nI 80) hx hb dX7_fault_71 (by decide) ?_
                    refine lv_irem hx hb dX7_fault_73 (by decide) ?_
                    exact J74 ((nI i34) - (nI i34) / (nI 80) * (nI 80)) _ _ _  hS (lv_sub hl [0, 1, 2, 3, 4, 5] rfl)
                  · skip
                    refine lv_iload hx hb dX7_fault_61 (lv_at hl 5 rfl) ?_
                    refine lv_bipush (v := nI 80) hx hb dX7_fault_63 (by decide) ?_
                    refine lv_idiv hx hb dX7_fault_65 (by decide) ?_
                    refine cx_topr (z := nI (i34 / 80)) (pk_div (by omega) (by decide) (by decide)) ?_
                    refine lv_goto (tgt := 74) hx hb dX7_fault_66 (by decide) ?_
                    exact J74 (nI (i34 / 80)) _ _ _  hS (lv_sub hl [0, 1, 2, 3, 4, 5] rfl)
        exact J34 (1600 - 0 + 1) xb 0 _ _ _ (Nat.lt_succ_self _) (by omega) hS (lv_sub hl [2, 3, 4, 5, 1, 0] rfl)
      · skip
        exact J21  _ _ _  hS (lv_sub hl [0, 1, 2, 3] rfl)
set_option maxHeartbeats 4000000 in
set_option maxRecDepth 100000 in
theorem c_X7_all (l : Launch) (D : va_G) (q : Nat → Nat) (cI cZ : ClassId) (n : Nat) (T : Nat → Nat → Int32) (k : Nat) (M : Nat → Nat → Int32) (d : Nat) (Z : Nat → Nat → Int32) (F : Nat → Nat → Int32) (hn : n ≤ 20) (hP : cx_P (T 3) 20) (hU : cx_R (T 4) 20) (hV : cx_R (T 5) 4) (hKN : cx_KN n T (Z 0) ((Z 3) 0)) (hQ : cx_R (T 6) 20) (hW : cx_R (T 7) 4) (hO : cx_R (M 0) 20) (hk : k ≤ 80) (hOn : ∀ j, j < k → (M 0 j).toNatClampNeg < n) (hX : cx_R (M 4) 4) (hK0 : cx_R (T 0) 4) (hM5 : cx_R (M 5) 30) (hM1 : cx_R (M 1) 10) (hM2 : cx_R (M 2) 5) : cx_Mi l D vwCl [(cI, .int), (cZ, .boolean)] cx_NW yX7_all wsX7_all ({ frames := 8, cells := 0, slots := 0, locals := 185 } : Room) [.ref (q 0)] (cyW q cI cZ n T k M d Z F) (fun (r : Int32) (uw : (Nat → Int32) × (Int32) × (Nat) × (Nat → Int32) × (Nat → Int32)) => cx_KN n T uw.1 uw.2.1 ∧ (True)) (fun uw => (cyW q cI cZ n T k M uw.2.2.1 (cx_u (cx_u (cx_u Z 0 uw.1) 3 (fun _ => uw.2.1)) 1 uw.2.2.2.2) (cx_u F 0 uw.2.2.2.1))) := by
  refine cx_Mi.of (cc := cX7_all) (maxL := 3) cx_NW_ok (by decide) rfl (Nat.le_of_ble_eq_true rfl) ?_
  intro p e s m args below meth c Q A ls hx hb hml hown hts hE RET hS hl
  have hl : lv_has ls 3 [(0, .ref (q 0))] := hl
  have hown : s.vm.findClass RX7 = some m.cls := hown
  have hinX7 : ∀ w ∈ u_ws RX7 TX7 22, w ∈ wsX7_all := cx_mem [138, 139, 140, 141, 142, 143, 144, 145, 146, 147, 148, 149, 150, 151, 152, 153, 154, 155, 156, 157, 158, 159] (by decide +kernel)
  refine lv_iconst (v := (0 : Int32)) hx hb dX7_all_0 (by decide) ?_
  refine cx_topr (z := nI 0) (by decide) ?_
  refine lv_istore_n (lv' := [(1, .int (nI 0)), (0, .ref (q 0))]) hx hb dX7_all_1 rfl hl (by decide) rfl (fun ls hl => ?_)
  refine lv_iconst (v := (0 : Int32)) hx hb dX7_all_2 (by decide) ?_
  refine cx_topr (z := nI 0) (by decide) ?_
  refine lv_istore_n (lv' := [(2, .int (nI 0)), (1, .int (nI 0)), (0, .ref (q 0))]) hx hb dX7_all_3 rfl hl (by decide) rfl (fun ls hl => ?_)
  have J4 : ∀ (N : Nat) (v4_l1 : Int32) (i4 : Nat) (d_4 : Nat) (Z_0_4 : Nat → Int32) (Z_1_4 : Nat → Int32) (Z_3_4 : Nat → Int32) (F_0_4 : Nat → Int32) (H : Heap) (locs : List Loc) (ls : Array Slot), (n - i4 < N) → (i4 ≤ n) → (cx_KN n T Z_0_4 (Z_3_4 0)) → cx_S D vwCl A s (cyW q cI cZ n T k M d_4 (cx_u (cx_u (cx_u Z 0 Z_0_4) 1 Z_1_4) 3 Z_3_4) (cx_u F 0 F_0_4)) H locs → lv_has ls 3 [(0, .ref (q 0)), (1, .int v4_l1), (2, .int (nI i4))] → W p l e ({ frames := 8, cells := 0, slots := 0, locals := 185 } : Room) s m args below meth c H locs 0 0 Q (F0 m 4 ls []) := by
    intro N4
    induction N4 with
    | zero => intro v4_l1 i4 d_4 Z_0_4 Z_1_4 Z_3_4 F_0_4 H locs ls hN; exact absurd hN (by omega)
    | succ N4 ih4 =>
      intro v4_l1 i4 d_4 Z_0_4 Z_1_4 Z_3_4 F_0_4 H locs ls hN4 hi4 hKN4 hS hl
      refine lv_iload_n hx hb dX7_all_4 rfl (lv_at hl 2 rfl) ?_
      refine lv_aload_n hx hb dX7_all_5 rfl (lv_at hl 0 rfl) ?_
      refine cx_get (own := RX7) (index := 65) (C := RX7) (T := TX7) (N := 22) (k := 0) (ci := 7) (v := .int (nI n)) hx hb hts hown hE hS hinX7 0 rfl rfl (by decide) (List.mem_of_getElem? (i := 1) rfl) rfl dX7_all_6 ?_
      refine lv_icmp_ge (tgt := 26) hx hb dX7_all_9 (by decide) (fun h9 => ?_) (fun h9 => ?_)
      · skip
        have g9 : n ≤ i4 := (nI_leI (a := n) (b := i4) (by omega) (by omega)).mp h9
        refine lv_iload_n hx hb dX7_all_26 rfl (lv_at hl 1 rfl) ?_
        exact RET _ (Z_0_4, Z_3_4 0, d_4, F_0_4, Z_1_4) _ _ _ _ dX7_all_27 rfl (⟨(by first | assumption | exact hKN), trivial⟩) hS
      · skip
        have g9 : ¬ (n ≤ i4) := fun z => h9 ((nI_leI (a := n) (b := i4) (by omega) (by omega)).mpr z)
        refine lv_iload_n hx hb dX7_all_12 rfl (lv_at hl 1 rfl) ?_
        refine lv_aload_n hx hb dX7_all_13 rfl (lv_at hl 0 rfl) ?_
        refine lv_iload_n hx hb dX7_all_14 rfl (lv_at hl 2 rfl) ?_
        refine cx_cVi (As := [.int (nI i4)]) (rest := [.int v4_l1]) ⟨hx, hb, hml, hown, hts⟩ hE hS (c_X7_faults l D q cI cZ n T k M d_4 (cx_u (cx_u (cx_u Z 0 Z_0_4) 1 Z_1_4) 3 Z_3_4) (cx_u F 0 F_0_4) (nI i4) (by first | assumption | omega | rfl) (by first | assumption | omega | rfl) (by first | assumption | omega | rfl) (by first | assumption | omega | rfl) (by first | assumption | omega | rfl) (by first | assumption | omega | rfl) (by first | assumption | omega | rfl) (by first | assumption | omega | rfl) (by first | assumption | omega | rfl) (by first | assumption | omega | rfl) (by first | assumption | omega | rfl) (by first | assumption | omega | rfl) (by first | assumption | omega | rfl) (by first | assumption | omega | rfl) (by first | assumption | omega | rfl)) (cwV 1 hts gX7_all_X7_faults rfl rfl rfl (by decide +kernel) ⟨Nat.le_of_ble_eq_true rfl, Nat.le_of_ble_eq_true rfl⟩) 0 7 rfl rfl rfl hl.1 rfl (Nat.le_of_ble_eq_true rfl) ⟨Nat.zero_le _, Nat.zero_le _⟩ dX7_all_15 (fun r_15 u_15 H locs hp_15 hS => ?_)
        obtain ⟨za_15, kn_15, d1_15, fo_15, zf_15⟩ := u_15
        have hS : cx_S D vwCl A s (cyW q cI cZ n T k M d1_15 (cx_u (cx_u (cx_u Z 0 za_15) 3 (fun _ => kn_15)) 1 zf_15) (cx_u F 0 fo_15)) H locs := hS
        obtain ⟨hKN_15, hp_15⟩ := hp_15
        have hKN_15 : cx_KN n T za_15 kn_15 := hKN_15
        refine lv_iadd hx hb dX7_all_18 ?_
        refine lv_istore_n (lv' := [(1, .int (v4_l1 + r_15)), (0, .ref (q 0)), (2, .int (nI i4))]) hx hb dX7_all_19 rfl hl (by decide) rfl (fun ls hl => ?_)
        refine lv_iinc (v := nI (i4 + 1)) (lv' := [(2, .int (nI (i4 + 1))), (1, .int (v4_l1 + r_15)), (0, .ref (q 0))]) hx hb dX7_all_20 hl (k := 2) rfl (cx_inc _) (by decide) rfl (fun ls hl => ?_)
        refine lv_goto (tgt := 4) hx hb dX7_all_23 (by decide) ?_
        exact ih4 (v4_l1 + r_15) (i4 + 1) d1_15 za_15 zf_15 (fun _ => kn_15) fo_15 _ _ _ (by omega) (by omega) (by first | assumption | exact hKN) hS (lv_sub hl [2, 1, 0] rfl)
  exact J4 (n - 0 + 1) (nI 0) 0 d (Z 0) (Z 1) (Z 3) (F 0) _ _ _ (Nat.lt_succ_self _) (by omega) (by first | assumption | exact hKN) hS (lv_sub hl [2, 1, 0] rfl)
set_option maxHeartbeats 4000000 in
set_option maxRecDepth 100000 in
theorem c_X7_is_ (l : Launch) (D : va_G) (q : Nat → Nat) (cI cZ : ClassId) (n : Nat) (T : Nat → Nat → Int32) (k : Nat) (M : Nat → Nat → Int32) (d : Nat) (Z : Nat → Nat → Int32) (F : Nat → Nat → Int32) (xa : Int32) (xb : Int32) (hn : n ≤ 20) (hP : cx_P (T 3) 20) (hU : cx_R (T 4) 20) (hV : cx_R (T 5) 4) (hKN : cx_KN n T (Z 0) ((Z 3) 0)) : cx_Mi l D vwCl [(cI, .int), (cZ, .boolean)] cx_NW yX7_is_ wsX7_is_ ({ frames := 4, cells := 0, slots := 0, locals := 88 } : Room) [.ref (q 0), .int xa, .int xb] (cyW q cI cZ n T k M d Z F) (fun (r : Int32) (uw : (Nat → Int32) × (Int32)) => cx_KN n T uw.1 uw.2 ∧ ((¬ ((0 ≤ xa ∧ xa < nI n) ∧ (0 ≤ xb ∧ xb < nI n)) ∧ r = (-1 : Int32)) ∨ (((0 ≤ xa ∧ xa < nI n) ∧ (0 ≤ xb ∧ xb < nI n)) ∧ (r = 0 ∨ r = 1) ∧ (¬ r = 0 ↔ cx_is (cx_Ar T n) (xa.toNatClampNeg) (xb.toNatClampNeg))))) (fun uw => (cyW q cI cZ n T k M d (cx_u (cx_u Z 0 uw.1) 3 (fun _ => uw.2)) F)) := by
  refine cx_Mi.of (cc := cX7_is_) (maxL := 3) cx_NW_ok (by decide) rfl (Nat.le_of_ble_eq_true rfl) ?_
  intro p e s m args below meth c Q A ls hx hb hml hown hts hE RET hS hl
  have hl : lv_has ls 3 [(0, .ref (q 0)), (1, .int xa), (2, .int xb)] := hl
  have hown : s.vm.findClass RX7 = some m.cls := hown
  refine lv_aload_n hx hb dX7_is__0 rfl (lv_at hl 0 rfl) ?_
  refine lv_iload_n hx hb dX7_is__1 rfl (lv_at hl 1 rfl) ?_
  refine cx_cVi (As := [.int xa]) (rest := []) ⟨hx, hb, hml, hown, hts⟩ hE hS (c_X7_isType l D q cI cZ n T k M d Z F xa (by first | assumption | omega | rfl)) (cwV 1 hts gX7_is__X7_isType rfl rfl rfl (by decide +kernel) ⟨Nat.le_of_ble_eq_true rfl, Nat.le_of_ble_eq_true rfl⟩) 0 7 rfl rfl rfl hl.1 rfl (Nat.le_of_ble_eq_true rfl) ⟨Nat.zero_le _, Nat.zero_le _⟩ dX7_is__2 (fun r_2 u_2 H locs hp_2 hS => ?_)
  have hp_2 : r_2 = cx_b (0 ≤ xa ∧ xa < nI n) := hp_2
  subst hp_2
  have J34 : ∀ (v34_s0 : Int32) (Z_0_34 : Nat → Int32) (Z_3_34 : Nat → Int32) (H : Heap) (locs : List Loc) (ls : Array Slot), (cx_KN n T Z_0_34 (Z_3_34 0)) → ((¬ ((0 ≤ xa ∧ xa < nI n) ∧ (0 ≤ xb ∧ xb < nI n)) ∧ v34_s0 = (-1 : Int32)) ∨ (((0 ≤ xa ∧ xa < nI n) ∧ (0 ≤ xb ∧ xb < nI n)) ∧ (v34_s0 = 0 ∨ v34_s0 = 1) ∧ (¬ v34_s0 = 0 ↔ cx_is (cx_Ar T n) (xa.toNatClampNeg) (xb.toNatClampNeg)))) → cx_S D vwCl A s (cyW q cI cZ n T k M d (cx_u (cx_u Z 0 Z_0_34) 3 Z_3_34) F) H locs → lv_has ls 3 [(0, .ref (q 0)), (1, .int xa), (2, .int xb)] → W p l e ({ frames := 4, cells := 0, slots := 0, locals := 88 } : Room) s m args below meth c H locs 0 0 Q (F0 m 34 ls [.int v34_s0]) := by
    intro v34_s0 Z_0_34 Z_3_34 H locs ls hKN34 h34 hS hl
    exact RET _ (Z_0_34, Z_3_34 0) _ _ _ _ dX7_is__34 rfl (⟨(by first | assumption | exact hKN), h34⟩) hS
  have J33 : ∀ (H : Heap) (locs : List Loc) (ls : Array Slot), (¬ ((0 ≤ xa ∧ xa < nI n) ∧ (0 ≤ xb ∧ xb < nI n))) → cx_S D vwCl A s (cyW q cI cZ n T k M d Z F) H locs → lv_has ls 3 [(0, .ref (q 0)), (1, .int xa), (2, .int xb)] → W p l e ({ frames := 4, cells := 0, slots := 0, locals := 88 } : Room) s m args below meth c H locs 0 0 Q (F0 m 33 ls []) := by
    intro  H locs ls hb33 hS hl
    refine lv_iconst (v := (-1 : Int32)) hx hb dX7_is__33 (by decide) ?_
    exact J34 (-1 : Int32) (Z 0) (Z 3) _ _ _ (by first | assumption | exact hKN) (by first | exact Or.inl ⟨hb33, rfl⟩ | exact Or.inr ⟨⟨g5, g13⟩, cx_e1 g22⟩ | exact Or.inr ⟨⟨g5, g13⟩, cx_e0 g22⟩) hS (lv_sub hl [0, 1, 2] rfl)
  refine lv_if_eq (tgt := 33) hx hb dX7_is__5 (by decide) (fun h5 => ?_) (fun h5 => ?_)
  · skip
    have g5 := cx_b0 h5
    exact J33  _ _ _ (by first | exact fun z => g5 z.1 | exact fun z => g13 z.2) hS (lv_sub hl [0, 1, 2] rfl)
  · skip
    have g5 := cx_b1 h5
    refine lv_aload_n hx hb dX7_is__8 rfl (lv_at hl 0 rfl) ?_
    refine lv_iload_n hx hb dX7_is__9 rfl (lv_at hl 2 rfl) ?_
    refine cx_cVi (As := [.int xb]) (rest := []) ⟨hx, hb, hml, hown, hts⟩ hE hS (c_X7_isType l D q cI cZ n T k M d Z F xb (by first | assumption | omega | rfl)) (cwV 1 hts gX7_is__X7_isType rfl rfl rfl (by decide +kernel) ⟨Nat.le_of_ble_eq_true rfl, Nat.le_of_ble_eq_true rfl⟩) 0 7 rfl rfl rfl hl.1 rfl (Nat.le_of_ble_eq_true rfl) ⟨Nat.zero_le _, Nat.zero_le _⟩ dX7_is__10 (fun r_10 u_10 H locs hp_10 hS => ?_)
    have hp_10 : r_10 = cx_b (0 ≤ xb ∧ xb < nI n) := hp_10
    subst hp_10
    refine lv_if_eq (tgt := 33) hx hb dX7_is__13 (by decide) (fun h13 => ?_) (fun h13 => ?_)
    · skip
      have g13 := cx_b0 h13
      exact J33  _ _ _ (by first | exact fun z => g5 z.1 | exact fun z => g13 z.2) hS (lv_sub hl [0, 1, 2] rfl)
    · skip
      have g13 := cx_b1 h13
      refine lv_aload_n hx hb dX7_is__16 rfl (lv_at hl 0 rfl) ?_
      refine lv_iload_n hx hb dX7_is__17 rfl (lv_at hl 1 rfl) ?_
      refine cx_topr (z := nI (xa.toNatClampNeg)) (cx_ixT (by omega) g5).1 ?_
      refine lv_iload_n hx hb dX7_is__18 rfl (lv_at hl 2 rfl) ?_
      refine cx_topr (z := nI (xb.toNatClampNeg)) (cx_ixT (by omega) g13).1 ?_
      refine cx_cVi (As := [.int (nI (xa.toNatClampNeg)), .int (nI (xb.toNatClampNeg))]) (rest := []) ⟨hx, hb, hml, hown, hts⟩ hE hS (c_X7_isOf l D q cI cZ n T k M d Z F xa.toNatClampNeg xb.toNatClampNeg (by first | assumption | omega | rfl) (by first | assumption | omega | rfl) (by first | assumption | omega | rfl) (by first | assumption | omega | rfl) (by first | assumption | omega | rfl) ((cx_ixT (by omega) g5).2) ((cx_ixT (by omega) g13).2)) (cwV 2 hts gX7_is__X7_isOf rfl rfl rfl (by decide +kernel) ⟨Nat.le_of_ble_eq_true rfl, Nat.le_of_ble_eq_true rfl⟩) 0 7 rfl rfl rfl hl.1 rfl (Nat.le_of_ble_eq_true rfl) ⟨Nat.zero_le _, Nat.zero_le _⟩ dX7_is__19 (fun r_19 u_19 H locs hp_19 hS => ?_)
      obtain ⟨za_19, kn_19⟩ := u_19
      have hS : cx_S D vwCl A s (cyW q cI cZ n T k M d (cx_u (cx_u Z 0 za_19) 3 (fun _ => kn_19)) F) H locs := hS
      obtain ⟨hKN_19, hp_19⟩ := hp_19
      have hKN_19 : cx_KN n T za_19 kn_19 := hKN_19
      have hp_19 : ((r_19 = 0 ∨ r_19 = 1) ∧ (¬ r_19 = 0 ↔ cx_is (cx_Ar T n) xa.toNatClampNeg xb.toNatClampNeg)) ∧ ((∀ wa wu, wa < n → wu < n → (¬ za_19 (20 * wa + wu) = 0 ↔ (cx_w3 n (cx_Er T n) n) wa wu)) ∧ ¬ kn_19 = 0) := hp_19
      refine lv_if_eq (tgt := 29) hx hb dX7_is__22 (by decide) (fun h22 => ?_) (fun h22 => ?_)
      · skip
        have g22 : ¬ (cx_is (cx_Ar T n) xa.toNatClampNeg xb.toNatClampNeg) := fun z => hp_19.1.2.mpr z h22
        refine lv_iconst (v := (0 : Int32)) hx hb dX7_is__29 (by decide) ?_
        refine lv_goto (tgt := 34) hx hb dX7_is__30 (by decide) ?_
        exact J34 (0 : Int32) za_19 (fun _ => kn_19) _ _ _ (by first | assumption | exact hKN) (by first | exact Or.inl ⟨hb33, rfl⟩ | exact Or.inr ⟨⟨g5, g13⟩, cx_e1 g22⟩ | exact Or.inr ⟨⟨g5, g13⟩, cx_e0 g22⟩) hS (lv_sub hl [0, 1, 2] rfl)
      · skip
        have g22 : cx_is (cx_Ar T n) xa.toNatClampNeg xb.toNatClampNeg := hp_19.1.2.mp h22
        refine lv_iconst (v := (1 : Int32)) hx hb dX7_is__25 (by decide) ?_
        refine lv_goto (tgt := 34) hx hb dX7_is__26 (by decide) ?_
        exact J34 (1 : Int32) za_19 (fun _ => kn_19) _ _ _ (by first | assumption | exact hKN) (by first | exact Or.inl ⟨hb33, rfl⟩ | exact Or.inr ⟨⟨g5, g13⟩, cx_e1 g22⟩ | exact Or.inr ⟨⟨g5, g13⟩, cx_e0 g22⟩) hS (lv_sub hl [0, 1, 2] rfl)
set_option maxHeartbeats 4000000 in
set_option maxRecDepth 100000 in
theorem c_X7_isWrongType (l : Launch) (D : va_G) (q : Nat → Nat) (cI cZ : ClassId) (n : Nat) (T : Nat → Nat → Int32) (k : Nat) (M : Nat → Nat → Int32) (d : Nat) (Z : Nat → Nat → Int32) (F : Nat → Nat → Int32) (t : Nat) (hn : n ≤ 20) (hP : cx_P (T 3) 20) (hU : cx_R (T 4) 20) (hV : cx_R (T 5) 4) (hKN : cx_KN n T (Z 0) ((Z 3) 0)) (hQ : cx_R (T 6) 20) (hW : cx_R (T 7) 4) (hO : cx_R (M 0) 20) (hk : k ≤ 80) (hOn : ∀ j, j < k → (M 0 j).toNatClampNeg < n) (hX : cx_R (M 4) 4) (hK0 : cx_R (T 0) 4) (hM5 : cx_R (M 5) 30) (hM1 : cx_R (M 1) 10) (hM2 : cx_R (M 2) 5) (ht : t < n) : cx_Mi l D vwCl [(cI, .int), (cZ, .boolean)] cx_NW yX7_isWrongType wsX7_isWrongType ({ frames := 7, cells := 0, slots := 0, locals := 164 } : Room) [.ref (q 0), .int (nI t)] (cyW q cI cZ n T k M d Z F) (fun (r : Int32) (uw : (Nat → Int32) × (Int32) × (Nat) × (Nat → Int32) × (Nat → Int32)) => cx_KN n T uw.1 uw.2.1 ∧ ((r = 0 ∨ r = 1) ∧ (¬ r = 0 ↔ cx_WR n k (T 0) (T 1) (T 2) (T 3) M (cx_Ur T) (cx_Wr T) (cx_Vr T) (cx_Ar T n) t))) (fun uw => (cyW q cI cZ n T k M uw.2.2.1 (cx_u (cx_u (cx_u Z 0 uw.1) 3 (fun _ => uw.2.1)) 1 uw.2.2.2.2) (cx_u F 0 uw.2.2.2.1))) := by
  refine cx_Mi.of (cc := cX7_isWrongType) (maxL := 4) cx_NW_ok (by decide) rfl (Nat.le_of_ble_eq_true rfl) ?_
  intro p e s m args below meth c Q A ls hx hb hml hown hts hE RET hS hl
  have hl : lv_has ls 4 [(0, .ref (q 0)), (1, .int (nI t))] := hl
  have hown : s.vm.findClass RX7 = some m.cls := hown
  have hinX7 : ∀ w ∈ u_ws RX7 TX7 22, w ∈ wsX7_isWrongType := cx_mem [130, 131, 132, 133, 134, 135, 136, 137, 138, 139, 140, 141, 142, 143, 144, 145, 146, 147, 148, 149, 150, 151] (by decide +kernel)
  refine lv_aload_n hx hb dX7_isWrongType_0 rfl (lv_at hl 0 rfl) ?_
  refine cx_get (own := RX7) (index := 7) (C := RX7) (T := TX7) (N := 22) (k := 1) (ci := 7) (v := .ref (q 1)) hx hb hts hown hE hS hinX7 0 rfl rfl (by decide) (List.mem_of_getElem? (i := 1) rfl) rfl dX7_isWrongType_1 ?_
  refine lv_iload_n hx hb dX7_isWrongType_4 rfl (lv_at hl 1 rfl) ?_
  refine cx_iald (f := (T 0)) (n := 20) (cA := cI) hx hb hE hS 1 0 rfl rfl (by omega) (by decide) dX7_isWrongType_5 ?_
  refine lv_iconst (v := (1 : Int32)) hx hb dX7_isWrongType_6 (by decide) ?_
  have J24 : ∀ (v24_s0 : Int32) (H : Heap) (locs : List Loc) (ls : Array Slot), ((v24_s0 = 0 ∨ v24_s0 = 1) ∧ (¬ v24_s0 = 0 ↔ T 0 t = 1 ∨ cx_mk (T 1) t 1)) → cx_S D vwCl A s (cyW q cI cZ n T k M d Z F) H locs → lv_has ls 4 [(0, .ref (q 0)), (1, .int (nI t))] → W p l e ({ frames := 7, cells := 0, slots := 0, locals := 164 } : Room) s m args below meth c H locs 0 0 Q (F0 m 24 ls [.int v24_s0]) := by
    intro v24_s0 H locs ls b24 hS hl
    refine lv_istore_n (lv' := [(2, .int v24_s0), (0, .ref (q 0)), (1, .int (nI t))]) hx hb dX7_isWrongType_24 rfl hl (by decide) rfl (fun ls hl => ?_)
    refine lv_iconst (v := (0 : Int32)) hx hb dX7_isWrongType_25 (by decide) ?_
    refine cx_topr (z := nI 0) (by decide) ?_
    refine lv_istore_n (lv' := [(3, .int (nI 0)), (2, .int v24_s0), (0, .ref (q 0)), (1, .int (nI t))]) hx hb dX7_isWrongType_26 rfl hl (by decide) rfl (fun ls hl => ?_)
    have J27 : ∀ (N : Nat) (v27_l2 : Int32) (i27 : Nat) (d_27 : Nat) (Z_0_27 : Nat → Int32) (Z_1_27 : Nat → Int32) (Z_3_27 : Nat → Int32) (F_0_27 : Nat → Int32) (H : Heap) (locs : List Loc) (ls : Array Slot), (n - i27 < N) → (i27 ≤ n) → (cx_KN n T Z_0_27 (Z_3_27 0)) → ((v27_l2 = 0 ∨ v27_l2 = 1) ∧ (¬ v27_l2 = 0 ↔ T 0 t = 1 ∨ cx_mk (T 1) t 1 ∨ ∃ u, u < i27 ∧ (cx_is (cx_Ar T n) t u ∧ cx_AF n k (T 0) (T 1) (T 2) (T 3) M (cx_Ur T) (cx_Wr T) (cx_Vr T) (cx_Ar T n) u))) → cx_S D vwCl A s (cyW q cI cZ n T k M d_27 (cx_u (cx_u (cx_u Z 0 Z_0_27) 1 Z_1_27) 3 Z_3_27) (cx_u F 0 F_0_27)) H locs → lv_has ls 4 [(0, .ref (q 0)), (1, .int (nI t)), (2, .int v27_l2), (3, .int (nI i27))] → W p l e ({ frames := 7, cells := 0, slots := 0, locals := 164 } : Room) s m args below meth c H locs 0 0 Q (F0 m 27 ls []) := by
      intro N27
      induction N27 with
      | zero => intro v27_l2 i27 d_27 Z_0_27 Z_1_27 Z_3_27 F_0_27 H locs ls hN; exact absurd hN (by omega)
      | succ N27 ih27 =>
        intro v27_l2 i27 d_27 Z_0_27 Z_1_27 Z_3_27 F_0_27 H locs ls hN27 hi27 hKN27 b27_2 hS hl
        refine lv_iload_n hx hb dX7_isWrongType_27 rfl (lv_at hl 3 rfl) ?_
        refine lv_aload_n hx hb dX7_isWrongType_28 rfl (lv_at hl 0 rfl) ?_
        refine cx_get (own := RX7) (index := 65) (C := RX7) (T := TX7) (N := 22) (k := 0) (ci := 7) (v := .int (nI n)) hx hb hts hown hE hS hinX7 0 rfl rfl (by decide) (List.mem_of_getElem? (i := 2) rfl) rfl dX7_isWrongType_29 ?_
        have J64 : ∀ (H : Heap) (locs : List Loc) (ls : Array Slot), ((v27_l2 = 0 ∨ v27_l2 = 1) ∧ (¬ v27_l2 = 0 ↔ cx_WR n k (T 0) (T 1) (T 2) (T 3) M (cx_Ur T) (cx_Wr T) (cx_Vr T) (cx_Ar T n) t)) → cx_S D vwCl A s (cyW q cI cZ n T k M d_27 (cx_u (cx_u (cx_u Z 0 Z_0_27) 1 Z_1_27) 3 Z_3_27) (cx_u F 0 F_0_27)) H locs → lv_has ls 4 [(0, .ref (q 0)), (1, .int (nI t)), (2, .int v27_l2), (3, .int (nI i27))] → W p l e ({ frames := 7, cells := 0, slots := 0, locals := 164 } : Room) s m args below meth c H locs 0 0 Q (F0 m 64 ls []) := by
          intro  H locs ls h64 hS hl
          refine lv_iload_n hx hb dX7_isWrongType_64 rfl (lv_at hl 2 rfl) ?_
          exact RET _ (Z_0_27, Z_3_27 0, d_27, F_0_27, Z_1_27) _ _ _ _ dX7_isWrongType_65 (cx_nb h64.1) (⟨(by first | assumption | exact hKN), h64⟩) hS
        refine lv_icmp_ge (tgt := 64) hx hb dX7_isWrongType_32 (by decide) (fun h32 => ?_) (fun h32 => ?_)
        · skip
          have g32 : n ≤ i27 := (nI_leI (a := n) (b := i27) (by omega) (by omega)).mp h32
          exact J64  _ _ _ (by first | exact cx_wr9 b27_2 h36 (by omega) | (have e : i27 = n := (by omega); rw [e] at b27_2; exact b27_2)) hS (lv_sub hl [0, 1, 2, 3] rfl)
        · skip
          have g32 : ¬ (n ≤ i27) := fun z => h32 ((nI_leI (a := n) (b := i27) (by omega) (by omega)).mpr z)
          refine lv_iload_n hx hb dX7_isWrongType_35 rfl (lv_at hl 2 rfl) ?_
          refine lv_if_ne (tgt := 64) hx hb dX7_isWrongType_36 (by decide) (fun h36 => ?_) (fun h36 => ?_)
          · skip
            have g36 : T 0 t = 1 ∨ cx_mk (T 1) t 1 ∨ ∃ u, u < i27 ∧ (cx_is (cx_Ar T n) t u ∧ cx_AF n k (T 0) (T 1) (T 2) (T 3) M (cx_Ur T) (cx_Wr T) (cx_Vr T) (cx_Ar T n) u) := b27_2.2.mp h36
            exact J64  _ _ _ (by first | exact cx_wr9 b27_2 h36 (by omega) | (have e : i27 = n := (by omega); rw [e] at b27_2; exact b27_2)) hS (lv_sub hl [0, 1, 2, 3] rfl)
          · skip
            have g36 : ¬ (T 0 t = 1 ∨ cx_mk (T 1) t 1 ∨ ∃ u, u < i27 ∧ (cx_is (cx_Ar T n) t u ∧ cx_AF n k (T 0) (T 1) (T 2) (T 3) M (cx_Ur T) (cx_Wr T) (cx_Vr T) (cx_Ar T n) u)) := fun z => b27_2.2.mpr z h36
            refine lv_aload_n hx hb dX7_isWrongType_39 rfl (lv_at hl 0 rfl) ?_
            refine lv_iload_n hx hb dX7_isWrongType_40 rfl (lv_at hl 1 rfl) ?_
            refine lv_iload_n hx hb dX7_isWrongType_41 rfl (lv_at hl 3 rfl) ?_
            refine cx_cVi (As := [.int (nI t), .int (nI i27)]) (rest := []) ⟨hx, hb, hml, hown, hts⟩ hE hS (c_X7_isOf l D q cI cZ n T k M d_27 (cx_u (cx_u (cx_u Z 0 Z_0_27) 1 Z_1_27) 3 Z_3_27) (cx_u F 0 F_0_27) t i27 (by first | assumption | omega | rfl) (by first | assumption | omega | rfl) (by first | assumption | omega | rfl) (by first | assumption | omega | rfl) (by first | assumption | omega | rfl) (by first | assumption | omega | rfl) (by first | assumption | omega | rfl)) (cwV 2 hts gX7_isWrongType_X7_isOf rfl rfl rfl (by decide +kernel) ⟨Nat.le_of_ble_eq_true rfl, Nat.le_of_ble_eq_true rfl⟩) 0 7 rfl rfl rfl hl.1 rfl (Nat.le_of_ble_eq_true rfl) ⟨Nat.zero_le _, Nat.zero_le _⟩ dX7_isWrongType_42 (fun r_42 u_42 H locs hp_42 hS => ?_)
            obtain ⟨za_42, kn_42⟩ := u_42
            have hS : cx_S D vwCl A s (cyW q cI cZ n T k M d_27 (cx_u (cx_u (cx_u Z 1 Z_1_27) 0 za_42) 3 (fun _ => kn_42)) (cx_u F 0 F_0_27)) H locs := hS
            obtain ⟨hKN_42, hp_42⟩ := hp_42
            have hKN_42 : cx_KN n T za_42 kn_42 := hKN_42
            have hp_42 : ((r_42 = 0 ∨ r_42 = 1) ∧ (¬ r_42 = 0 ↔ cx_is (cx_Ar T n) t i27)) ∧ ((∀ wa wu, wa < n → wu < n → (¬ za_42 (20 * wa + wu) = 0 ↔ (cx_w3 n (cx_Er T n) n) wa wu)) ∧ ¬ kn_42 = 0) := hp_42
            have J58 : ∀ (v58_l2 : Int32) (d_58 : Nat) (Z_0_58 : Nat → Int32) (Z_1_58 : Nat → Int32) (Z_3_58 : Nat → Int32) (F_0_58 : Nat → Int32) (H : Heap) (locs : List Loc) (ls : Array Slot), (cx_KN n T Z_0_58 (Z_3_58 0)) → ((v58_l2 = 0 ∨ v58_l2 = 1) ∧ (¬ v58_l2 = 0 ↔ T 0 t = 1 ∨ cx_mk (T 1) t 1 ∨ ∃ u, u < (i27 + 1) ∧ (cx_is (cx_Ar T n) t u ∧ cx_AF n k (T 0) (T 1) (T 2) (T 3) M (cx_Ur T) (cx_Wr T) (cx_Vr T) (cx_Ar T n) u))) → cx_S D vwCl A s (cyW q cI cZ n T k M d_58 (cx_u (cx_u (cx_u Z 0 Z_0_58) 1 Z_1_58) 3 Z_3_58) (cx_u F 0 F_0_58)) H locs → lv_has ls 4 [(0, .ref (q 0)), (1, .int (nI t)), (2, .int v58_l2), (3, .int (nI i27))] → W p l e ({ frames := 7, cells := 0, slots := 0, locals := 164 } : Room) s m args below meth c H locs 0 0 Q (F0 m 58 ls []) := by
              intro v58_l2 d_58 Z_0_58 Z_1_58 Z_3_58 F_0_58 H locs ls hKN58 b58_2 hS hl
              refine lv_iinc (v := nI (i27 + 1)) (lv' := [(3, .int (nI (i27 + 1))), (0, .ref (q 0)), (1, .int (nI t)), (2, .int v58_l2)]) hx hb dX7_isWrongType_58 hl (k := 3) rfl (cx_inc _) (by decide) rfl (fun ls hl => ?_)
              refine lv_goto (tgt := 27) hx hb dX7_isWrongType_61 (by decide) ?_
              exact ih27 v58_l2 (i27 + 1) d_58 Z_0_58 Z_1_58 Z_3_58 F_0_58 _ _ _ (by (try clear g36); (try clear b58_2); (try clear b27_2); omega) (by (try clear g36); (try clear b58_2); (try clear b27_2); omega) (by first | assumption | exact hKN) (by first | exact b58_2 | (try clear RET); (try clear hS); (try clear hl); (try clear hE); (try clear hts); (try clear hb); (try clear hx); (try clear hml); (try clear hown); (try clear hinX7); (try clear J24); (try clear J27); (try clear ih27); (try clear hN27); (try clear J64); (try clear J58); have y10 : ¬ (1 : Int32) = 0 := (by decide); first | assumption | ((try rw [cx_exS (P := fun u => cx_is (cx_Ar T n) t u ∧ cx_AF n k (T 0) (T 1) (T 2) (T 3) M (cx_Ur T) (cx_Wr T) (cx_Vr T) (cx_Ar T n) u)]); (try have y0 := @cx_ex0 (fun u => cx_is (cx_Ar T n) t u ∧ cx_AF n k (T 0) (T 1) (T 2) (T 3) M (cx_Ur T) (cx_Wr T) (cx_Vr T) (cx_Ar T n) u)); grind)) hS (lv_sub hl [1, 2, 3, 0] rfl)
            refine lv_if_eq (tgt := 58) hx hb dX7_isWrongType_45 (by decide) (fun h45 => ?_) (fun h45 => ?_)
            · skip
              have g45 : ¬ (cx_is (cx_Ar T n) t i27) := fun z => hp_42.1.2.mpr z h45
              exact J58 v27_l2 d_27 za_42 Z_1_27 (fun _ => kn_42) F_0_27 _ _ _ (by first | assumption | exact hKN) (by first | exact b27_2 | (try clear RET); (try clear hS); (try clear hl); (try clear hE); (try clear hts); (try clear hb); (try clear hx); (try clear hml); (try clear hown); (try clear hinX7); (try clear J24); (try clear J27); (try clear ih27); (try clear hN27); (try clear J64); (try clear J58); have y10 : ¬ (1 : Int32) = 0 := (by decide); first | assumption | ((try rw [cx_exS (P := fun u => cx_is (cx_Ar T n) t u ∧ cx_AF n k (T 0) (T 1) (T 2) (T 3) M (cx_Ur T) (cx_Wr T) (cx_Vr T) (cx_Ar T n) u)]); (try have y0 := @cx_ex0 (fun u => cx_is (cx_Ar T n) t u ∧ cx_AF n k (T 0) (T 1) (T 2) (T 3) M (cx_Ur T) (cx_Wr T) (cx_Vr T) (cx_Ar T n) u)); grind)) hS (lv_sub hl [0, 1, 2, 3] rfl)
            · skip
              have g45 : cx_is (cx_Ar T n) t i27 := hp_42.1.2.mp h45
              refine lv_aload_n hx hb dX7_isWrongType_48 rfl (lv_at hl 0 rfl) ?_
              refine lv_iload_n hx hb dX7_isWrongType_49 rfl (lv_at hl 3 rfl) ?_
              refine cx_cVv (As := [.int (nI i27)]) (rest := []) ⟨hx, hb, hml, hown, hts⟩ hE hS (c_X7_faultsOf l D q cI cZ n T k M d_27 (cx_u (cx_u (cx_u Z 1 Z_1_27) 0 za_42) 3 (fun _ => kn_42)) (cx_u F 0 F_0_27) i27 (by first | assumption | omega | rfl) (by first | assumption | omega | rfl) (by first | assumption | omega | rfl) (by first | assumption | omega | rfl) (by first | assumption | omega | rfl) (by first | assumption | omega | rfl) (by first | assumption | omega | rfl) (by first | assumption | omega | rfl) (by first | assumption | omega | rfl) (by first | assumption | omega | rfl) (by first | assumption | omega | rfl) (by first | assumption | omega | rfl) (by first | assumption | omega | rfl) (by first | assumption | omega | rfl) (by first | assumption | omega | rfl) (by first | assumption | omega | rfl)) (cwV 1 hts gX7_isWrongType_X7_faultsOf rfl rfl rfl (by decide +kernel) ⟨Nat.le_of_ble_eq_true rfl, Nat.le_of_ble_eq_true rfl⟩) 0 7 rfl rfl rfl hl.1 rfl (Nat.le_of_ble_eq_true rfl) ⟨Nat.zero_le _, Nat.zero_le _⟩ dX7_isWrongType_50 (fun u_50 H locs hp_50 hS => ?_)
              obtain ⟨za_50, kn_50, d1_50, fo_50, zf_50⟩ := u_50
              have hS : cx_S D vwCl A s (cyW q cI cZ n T k M d1_50 (cx_u (cx_u (cx_u Z 0 za_50) 3 (fun _ => kn_50)) 1 zf_50) (cx_u F 0 fo_50)) H locs := hS
              obtain ⟨hKN_50, hp_50⟩ := hp_50
              have hKN_50 : cx_KN n T za_50 kn_50 := hKN_50
              have hp_50 : cx_EE zf_50 ↔ cx_AF n k ((T 0)) ((T 1)) ((T 2)) ((T 3)) M (cx_Ur T) (cx_Wr T) (cx_Vr T) (cx_Ar T n) i27 := hp_50
              refine lv_aload_n hx hb dX7_isWrongType_53 rfl (lv_at hl 0 rfl) ?_
              refine cx_cVi (As := []) (rest := []) ⟨hx, hb, hml, hown, hts⟩ hE hS (c_X7_haveAny l D q cI cZ n T k M d1_50 (cx_u (cx_u (cx_u Z 0 za_50) 3 (fun _ => kn_50)) 1 zf_50) (cx_u F 0 fo_50)  ) (cwV 0 hts gX7_isWrongType_X7_haveAny rfl rfl rfl (by decide +kernel) ⟨Nat.le_of_ble_eq_true rfl, Nat.le_of_ble_eq_true rfl⟩) 0 7 rfl rfl rfl hl.1 rfl (Nat.le_of_ble_eq_true rfl) ⟨Nat.zero_le _, Nat.zero_le _⟩ dX7_isWrongType_54 (fun r_54 u_54 H locs hp_54 hS => ?_)
              have hp_54 : (r_54 = 0 ∨ r_54 = 1) ∧ (¬ r_54 = 0 ↔ cx_EE (zf_50)) := hp_54
              refine lv_istore_n (lv' := [(2, .int r_54), (0, .ref (q 0)), (1, .int (nI t)), (3, .int (nI i27))]) hx hb dX7_isWrongType_57 rfl hl (by decide) rfl (fun ls hl => ?_)
              exact J58 r_54 d1_50 za_50 zf_50 (fun _ => kn_50) fo_50 _ _ _ (by first | assumption | exact hKN) (by first | exact hp_54 | (try clear RET); (try clear hS); (try clear hl); (try clear hE); (try clear hts); (try clear hb); (try clear hx); (try clear hml); (try clear hown); (try clear hinX7); (try clear J24); (try clear J27); (try clear ih27); (try clear hN27); (try clear J64); (try clear J58); have y10 : ¬ (1 : Int32) = 0 := (by decide); first | assumption | ((try rw [cx_exS (P := fun u => cx_is (cx_Ar T n) t u ∧ cx_AF n k (T 0) (T 1) (T 2) (T 3) M (cx_Ur T) (cx_Wr T) (cx_Vr T) (cx_Ar T n) u)]); (try have y0 := @cx_ex0 (fun u => cx_is (cx_Ar T n) t u ∧ cx_AF n k (T 0) (T 1) (T 2) (T 3) M (cx_Ur T) (cx_Wr T) (cx_Vr T) (cx_Ar T n) u)); grind)) hS (lv_sub hl [1, 2, 0, 3] rfl)
    exact J27 (n - 0 + 1) v24_s0 0 d (Z 0) (Z 1) (Z 3) (F 0) _ _ _ (Nat.lt_succ_self _) (by (try clear g36); (try clear b27_2); omega) (by first | assumption | exact hKN) (by first | exact b24 | (try clear RET); (try clear hS); (try clear hl); (try clear hE); (try clear hts); (try clear hb); (try clear hx); (try clear hml); (try clear hown); (try clear hinX7); (try clear J24); (try clear J27); (try clear ih27); (try clear hN27); have y10 : ¬ (1 : Int32) = 0 := (by decide); first | assumption | ((try rw [cx_exS (P := fun u => cx_is (cx_Ar T n) t u ∧ cx_AF n k (T 0) (T 1) (T 2) (T 3) M (cx_Ur T) (cx_Wr T) (cx_Vr T) (cx_Ar T n) u)]); (try have y0 := @cx_ex0 (fun u => cx_is (cx_Ar T n) t u ∧ cx_AF n k (T 0) (T 1) (T 2) (T 3) M (cx_Ur T) (cx_Wr T) (cx_Vr T) (cx_Ar T n) u)); grind)) hS (lv_sub hl [2, 3, 1, 0] rfl)
  have J19 : ∀ (H : Heap) (locs : List Loc) (ls : Array Slot), (T 0 t = 1 ∨ cx_mk (T 1) t 1) → cx_S D vwCl A s (cyW q cI cZ n T k M d Z F) H locs → lv_has ls 4 [(0, .ref (q 0)), (1, .int (nI t))] → W p l e ({ frames := 7, cells := 0, slots := 0, locals := 164 } : Room) s m args below meth c H locs 0 0 Q (F0 m 19 ls []) := by
    intro  H locs ls f19 hS hl
    refine lv_iconst (v := (1 : Int32)) hx hb dX7_isWrongType_19 (by decide) ?_
    refine lv_goto (tgt := 24) hx hb dX7_isWrongType_20 (by decide) ?_
    exact J24 (1 : Int32) _ _ _ (cx_e1 (by (try clear RET); (try clear hS); (try clear hl); (try clear hE); (try clear hts); (try clear hb); (try clear hx); (try clear hml); (try clear hown); (try clear hinX7); (try clear J24); (try clear J19); have y10 : ¬ (1 : Int32) = 0 := (by decide); first | assumption | ((try rw [cx_exS (P := fun u => cx_is (cx_Ar T n) t u ∧ cx_AF n k (T 0) (T 1) (T 2) (T 3) M (cx_Ur T) (cx_Wr T) (cx_Vr T) (cx_Ar T n) u)]); (try have y0 := @cx_ex0 (fun u => cx_is (cx_Ar T n) t u ∧ cx_AF n k (T 0) (T 1) (T 2) (T 3) M (cx_Ur T) (cx_Wr T) (cx_Vr T) (cx_Ar T n) u)); grind))) hS (lv_sub hl [0, 1] rfl)
  refine lv_icmp_eq (tgt := 19) hx hb dX7_isWrongType_7 (by decide) (fun h7 => ?_) (fun h7 => ?_)
  · skip
    exact J19  _ _ _ (by (try clear RET); (try clear hS); (try clear hl); (try clear hE); (try clear hts); (try clear hb); (try clear hx); (try clear hml); (try clear hown); (try clear hinX7); (try clear J24); (try clear J19); have y10 : ¬ (1 : Int32) = 0 := (by decide); first | assumption | ((try rw [cx_exS (P := fun u => cx_is (cx_Ar T n) t u ∧ cx_AF n k (T 0) (T 1) (T 2) (T 3) M (cx_Ur T) (cx_Wr T) (cx_Vr T) (cx_Ar T n) u)]); (try have y0 := @cx_ex0 (fun u => cx_is (cx_Ar T n) t u ∧ cx_AF n k (T 0) (T 1) (T 2) (T 3) M (cx_Ur T) (cx_Wr T) (cx_Vr T) (cx_Ar T n) u)); grind)) hS (lv_sub hl [0, 1] rfl)
  · skip
    refine lv_aload_n hx hb dX7_isWrongType_10 rfl (lv_at hl 0 rfl) ?_
    refine lv_iload_n hx hb dX7_isWrongType_11 rfl (lv_at hl 1 rfl) ?_
    refine lv_iconst (v := (1 : Int32)) hx hb dX7_isWrongType_12 (by decide) ?_
    refine cx_cVi (As := [.int (nI t), .int (1 : Int32)]) (rest := []) ⟨hx, hb, hml, hown, hts⟩ hE hS (c_X7_marked l D q cI cZ n T k M d Z F t (1 : Int32) (by first | assumption | omega | rfl)) (cwV 2 hts gX7_isWrongType_X7_marked rfl rfl rfl (by decide +kernel) ⟨Nat.le_of_ble_eq_true rfl, Nat.le_of_ble_eq_true rfl⟩) 0 7 rfl rfl rfl hl.1 rfl (Nat.le_of_ble_eq_true rfl) ⟨Nat.zero_le _, Nat.zero_le _⟩ dX7_isWrongType_13 (fun r_13 u_13 H locs hp_13 hS => ?_)
    have hp_13 : (r_13 = 0 ∨ r_13 = 1) ∧ (¬ r_13 = 0 ↔ cx_mk ((T 1)) t (1 : Int32)) := hp_13
    refine lv_if_eq (tgt := 23) hx hb dX7_isWrongType_16 (by decide) (fun h16 => ?_) (fun h16 => ?_)
    · skip
      have g16 : ¬ (cx_mk ((T 1)) t (1 : Int32)) := fun z => hp_13.2.mpr z h16
      refine lv_iconst (v := (0 : Int32)) hx hb dX7_isWrongType_23 (by decide) ?_
      exact J24 (0 : Int32) _ _ _ (cx_e0 (by (try clear RET); (try clear hS); (try clear hl); (try clear hE); (try clear hts); (try clear hb); (try clear hx); (try clear hml); (try clear hown); (try clear hinX7); (try clear J24); (try clear J19); have y10 : ¬ (1 : Int32) = 0 := (by decide); first | assumption | ((try rw [cx_exS (P := fun u => cx_is (cx_Ar T n) t u ∧ cx_AF n k (T 0) (T 1) (T 2) (T 3) M (cx_Ur T) (cx_Wr T) (cx_Vr T) (cx_Ar T n) u)]); (try have y0 := @cx_ex0 (fun u => cx_is (cx_Ar T n) t u ∧ cx_AF n k (T 0) (T 1) (T 2) (T 3) M (cx_Ur T) (cx_Wr T) (cx_Vr T) (cx_Ar T n) u)); grind))) hS (lv_sub hl [0, 1] rfl)
    · skip
      have g16 : cx_mk ((T 1)) t (1 : Int32) := hp_13.2.mp h16
      exact J19  _ _ _ (by (try clear RET); (try clear hS); (try clear hl); (try clear hE); (try clear hts); (try clear hb); (try clear hx); (try clear hml); (try clear hown); (try clear hinX7); (try clear J24); (try clear J19); have y10 : ¬ (1 : Int32) = 0 := (by decide); first | assumption | ((try rw [cx_exS (P := fun u => cx_is (cx_Ar T n) t u ∧ cx_AF n k (T 0) (T 1) (T 2) (T 3) M (cx_Ur T) (cx_Wr T) (cx_Vr T) (cx_Ar T n) u)]); (try have y0 := @cx_ex0 (fun u => cx_is (cx_Ar T n) t u ∧ cx_AF n k (T 0) (T 1) (T 2) (T 3) M (cx_Ur T) (cx_Wr T) (cx_Vr T) (cx_Ar T n) u)); grind)) hS (lv_sub hl [0, 1] rfl)
set_option maxHeartbeats 4000000 in
set_option maxRecDepth 100000 in
theorem c_X7_running (l : Launch) (D : va_G) (q : Nat → Nat) (cI cZ : ClassId) (n : Nat) (T : Nat → Nat → Int32) (k : Nat) (M : Nat → Nat → Int32) (d : Nat) (Z : Nat → Nat → Int32) (F : Nat → Nat → Int32) (t : Nat) (nm : Int32) (pm : Int32) (hn : n ≤ 20) (hP : cx_P (T 3) 20) (hU : cx_R (T 4) 20) (hV : cx_R (T 5) 4) (hKN : cx_KN n T (Z 0) ((Z 3) 0)) (hO : cx_R (M 0) 20) (hk : k ≤ 80) (hOn : ∀ j, j < k → (M 0 j).toNatClampNeg < n) (hX : cx_R (M 4) 4) (ht : t < n) : cx_Mi l D vwCl [(cI, .int), (cZ, .boolean)] cx_NW yX7_running wsX7_running ({ frames := 5, cells := 0, slots := 0, locals := 115 } : Room) [.ref (q 0), .int (nI t), .int nm, .int pm] (cyW q cI cZ n T k M d Z F) (fun (r : Int32) (uw : (Nat → Int32) × (Int32) × (Nat) × (Nat → Int32)) => cx_KN n T uw.1 uw.2.1 ∧ ((∀ u, u < n → cx_is (cx_Ar T n) t u → ¬ (cx_Ar T n) u u) → ∃ r0 : Int32, cx_rn n k (T 0) (T 2) (T 3) M (cx_Ar T n) t nm pm r0 ∧ ((r0 = -1 ∧ r = (-3 : Int32)) ∨ (¬ r0 = -1 ∧ r = r0)))) (fun uw => (cyW q cI cZ n T k M uw.2.2.1 (cx_u (cx_u Z 0 uw.1) 3 (fun _ => uw.2.1)) (cx_u F 0 uw.2.2.2))) := by
  refine cx_Mi.of (cc := cX7_running) (maxL := 5) cx_NW_ok (by decide) rfl (Nat.le_of_ble_eq_true rfl) ?_
  intro p e s m args below meth c Q A ls hx hb hml hown hts hE RET hS hl
  have hl : lv_has ls 5 [(0, .ref (q 0)), (1, .int (nI t)), (2, .int nm), (3, .int pm)] := hl
  have hown : s.vm.findClass RX7 = some m.cls := hown
  have hinX7 : ∀ w ∈ u_ws RX7 TX7 22, w ∈ wsX7_running := cx_mem [53, 54, 55, 56, 57, 58, 59, 60, 61, 62, 63, 64, 65, 66, 67, 68, 69, 70, 71, 72, 73, 74] (by decide +kernel)
  refine lv_aload_n hx hb dX7_running_0 rfl (lv_at hl 0 rfl) ?_
  refine lv_iload_n hx hb dX7_running_1 rfl (lv_at hl 1 rfl) ?_
  refine lv_iload_n hx hb dX7_running_2 rfl (lv_at hl 2 rfl) ?_
  refine lv_iload_n hx hb dX7_running_3 rfl (lv_at hl 3 rfl) ?_
  refine cx_cVi (As := [.int (nI t), .int nm, .int pm]) (rest := []) ⟨hx, hb, hml, hown, hts⟩ hE hS (c_X7_classOne l D q cI cZ n T k M d Z F t nm pm (by first | assumption | omega | rfl) (by first | assumption | omega | rfl) (by first | assumption | omega | rfl) (by first | assumption | omega | rfl) (by first | assumption | omega | rfl) (by first | assumption | omega | rfl) (by first | assumption | omega | rfl) (by first | assumption | omega | rfl) (by first | assumption | omega | rfl) (by first | assumption | omega | rfl)) (cwV 3 hts gX7_running_X7_classOne rfl rfl rfl (by decide +kernel) ⟨Nat.le_of_ble_eq_true rfl, Nat.le_of_ble_eq_true rfl⟩) 0 7 rfl rfl rfl hl.1 rfl (Nat.le_of_ble_eq_true rfl) ⟨Nat.zero_le _, Nat.zero_le _⟩ dX7_running_4 (fun r_4 u_4 H locs hp_4 hS => ?_)
  obtain ⟨za_4, kn_4⟩ := u_4
  have hS : cx_S D vwCl A s (cyW q cI cZ n T k M d (cx_u (cx_u Z 0 za_4) 3 (fun _ => kn_4)) F) H locs := hS
  obtain ⟨hKN_4, hp_4⟩ := hp_4
  have hKN_4 : cx_KN n T za_4 kn_4 := hKN_4
  have hp_4 : (cx_co n k ((T 0)) ((T 2)) ((T 3)) M (cx_Ar T n) t nm pm r_4) ∧ (r_4 = -1 ∨ cx_ix r_4 80) := hp_4
  refine lv_istore (lv' := [(4, .int r_4), (0, .ref (q 0)), (1, .int (nI t)), (2, .int nm), (3, .int pm)]) hx hb dX7_running_7 hl (by decide) rfl (fun ls hl => ?_)
  refine lv_iload hx hb dX7_running_9 (lv_at hl 0 rfl) ?_
  refine lv_if_lt (tgt := 33) hx hb dX7_running_11 (by decide) (fun h11 => ?_) (fun h11 => ?_)
  · skip
    refine lv_aload_n hx hb dX7_running_33 rfl (lv_at hl 1 rfl) ?_
    refine lv_iload_n hx hb dX7_running_34 rfl (lv_at hl 2 rfl) ?_
    refine lv_iload_n hx hb dX7_running_35 rfl (lv_at hl 3 rfl) ?_
    refine lv_iload_n hx hb dX7_running_36 rfl (lv_at hl 4 rfl) ?_
    refine cx_cVv (As := [.int (nI t), .int nm, .int pm]) (rest := []) ⟨hx, hb, hml, hown, hts⟩ hE hS (c_X7_findFaceOnes l D q cI cZ n T k M d (cx_u (cx_u Z 0 za_4) 3 (fun _ => kn_4)) F t nm pm (by first | assumption | omega | rfl) (by first | assumption | omega | rfl) (by first | assumption | omega | rfl) (by first | assumption | omega | rfl) (by first | assumption | omega | rfl) (by first | assumption | omega | rfl) (by first | assumption | omega | rfl) (by first | assumption | omega | rfl) (by first | assumption | omega | rfl) (by first | assumption | omega | rfl)) (cwV 3 hts gX7_running_X7_findFaceOnes rfl rfl rfl (by decide +kernel) ⟨Nat.le_of_ble_eq_true rfl, Nat.le_of_ble_eq_true rfl⟩) 0 7 rfl rfl rfl hl.1 rfl (Nat.le_of_ble_eq_true rfl) ⟨Nat.zero_le _, Nat.zero_le _⟩ dX7_running_37 (fun u_37 H locs hp_37 hS => ?_)
    obtain ⟨za_37, kn_37, d1_37, fo_37⟩ := u_37
    have hS : cx_S D vwCl A s (cyW q cI cZ n T k M d1_37 (cx_u (cx_u Z 0 za_37) 3 (fun _ => kn_37)) (cx_u F 0 fo_37)) H locs := hS
    obtain ⟨hKN_37, hp_37⟩ := hp_37
    have hKN_37 : cx_KN n T za_37 kn_37 := hKN_37
    have hp_37 : (d1_37 ≤ 20 ∧ ∀ j, j < d1_37 → cx_ix (fo_37 j) 80) ∧ ((∀ u, u < n → cx_is (cx_Ar T n) t u → ¬ (cx_Ar T n) u u) → cx_LI (cx_fo k ((T 0)) M (cx_Ar T n) t nm pm) fo_37 d1_37) := hp_37
    have hd_37 := hp_37.1.1
    refine lv_aload_n hx hb dX7_running_40 rfl (lv_at hl 1 rfl) ?_
    refine cx_get (own := RX7) (index := 127) (C := RX7) (T := TX7) (N := 22) (k := 20) (ci := 7) (v := .int (nI d1_37)) hx hb hts hown hE hS hinX7 0 rfl rfl (by decide) (List.mem_of_getElem? (i := 1) rfl) rfl dX7_running_41 ?_
    refine lv_iconst (v := (1 : Int32)) hx hb dX7_running_44 (by decide) ?_
    have J75 : ∀ (v75_s0 : Int32) (H : Heap) (locs : List Loc) (ls : Array Slot), ((∀ u, u < n → cx_is (cx_Ar T n) t u → ¬ (cx_Ar T n) u u) → ∃ r0 : Int32, cx_rn n k (T 0) (T 2) (T 3) M (cx_Ar T n) t nm pm r0 ∧ ((r0 = -1 ∧ v75_s0 = (-3 : Int32)) ∨ (¬ r0 = -1 ∧ v75_s0 = r0))) → cx_S D vwCl A s (cyW q cI cZ n T k M d1_37 (cx_u (cx_u Z 0 za_37) 3 (fun _ => kn_37)) (cx_u F 0 fo_37)) H locs → lv_has ls 5 [(0, .ref (q 0)), (1, .int (nI t)), (2, .int nm), (3, .int pm), (4, .int r_4)] → W p l e ({ frames := 5, cells := 0, slots := 0, locals := 115 } : Room) s m args below meth c H locs 0 0 Q (F0 m 75 ls [.int v75_s0]) := by
      intro v75_s0 H locs ls h75 hS hl
      exact RET _ (za_37, kn_37, d1_37, fo_37) _ _ _ _ dX7_running_75 rfl (⟨(by first | assumption | exact hKN), h75⟩) hS
    have J73 : ∀ (H : Heap) (locs : List Loc) (ls : Array Slot), ((∀ u, u < n → cx_is (cx_Ar T n) t u → ¬ (cx_Ar T n) u u) → ∃ r0 : Int32, cx_rn n k (T 0) (T 2) (T 3) M (cx_Ar T n) t nm pm r0 ∧ ((r0 = -1 ∧ (-3 : Int32) = (-3 : Int32)) ∨ (¬ r0 = -1 ∧ (-3 : Int32) = r0))) → cx_S D vwCl A s (cyW q cI cZ n T k M d1_37 (cx_u (cx_u Z 0 za_37) 3 (fun _ => kn_37)) (cx_u F 0 fo_37)) H locs → lv_has ls 5 [(0, .ref (q 0)), (1, .int (nI t)), (2, .int nm), (3, .int pm), (4, .int r_4)] → W p l e ({ frames := 5, cells := 0, slots := 0, locals := 115 } : Room) s m args below meth c H locs 0 0 Q (F0 m 73 ls []) := by
      intro  H locs ls h73 hS hl
      refine lv_bipush (v := (-3 : Int32)) hx hb dX7_running_73 (by decide) ?_
      exact J75 (-3 : Int32) _ _ _ (by first | exact h73 | exact fun z => cx_rr4 hp_4 h11 (hp_37.2 z) g45 g61) hS (lv_sub hl [0, 1, 2, 3, 4] rfl)
    refine lv_icmp_ne (tgt := 73) hx hb dX7_running_45 (by decide) (fun h45 => ?_) (fun h45 => ?_)
    · skip
      have g45 : ¬ (d1_37 = 1) := fun z => h45 ((nI_eq (a := d1_37) (b := 1) (by omega) (by omega)).mpr z)
      exact J73  _ _ _ (by first | exact fun z => cx_rr3 hp_4 h11 (hp_37.2 z) (fun y => absurd y g45) | exact fun z => cx_rr3 hp_4 h11 (hp_37.2 z) (fun _ => g61)) hS (lv_sub hl [1, 2, 3, 4, 0] rfl)
    · skip
      have g45 : d1_37 = 1 := (nI_eq (a := d1_37) (b := 1) (by omega) (by omega)).mp h45
      refine lv_aload_n hx hb dX7_running_48 rfl (lv_at hl 1 rfl) ?_
      refine lv_aload_n hx hb dX7_running_49 rfl (lv_at hl 1 rfl) ?_
      refine cx_get (own := RX7) (index := 59) (C := RX7) (T := TX7) (N := 22) (k := 19) (ci := 7) (v := .ref (q 17)) hx hb hts hown hE hS hinX7 0 rfl rfl (by decide) (List.mem_of_getElem? (i := 2) rfl) rfl dX7_running_50 ?_
      refine lv_iconst (v := (0 : Int32)) hx hb dX7_running_53 (by decide) ?_
      refine cx_topr (z := nI 0) (by decide) ?_
      refine cx_iald (f := fo_37) (n := 20) (cA := cI) hx hb hE hS 17 0 rfl rfl (by omega) (by decide) dX7_running_54 ?_
      refine cx_topr (z := nI ((fo_37 0).toNatClampNeg)) (hp_37.1.2 _ (by omega)).1 ?_
      refine lv_iconst (v := (1 : Int32)) hx hb dX7_running_55 (by decide) ?_
      refine lv_bipush (v := nI 8) hx hb dX7_running_56 (by decide) ?_
      refine cx_cVi (As := [.int (nI ((fo_37 0).toNatClampNeg)), .int (1 : Int32), .int (nI 8)]) (rest := []) ⟨hx, hb, hml, hown, hts⟩ hE hS (c_X7_is_at_1 l D q cI cZ n T k M d1_37 (cx_u (cx_u Z 0 za_37) 3 (fun _ => kn_37)) (cx_u F 0 fo_37) ((fo_37 0).toNatClampNeg) (1 : Int32) (nI 8) ((hp_37.1.2 _ (by omega)).2) (by first | assumption | omega | rfl)) (cwV 3 hts gX7_running_X7_is rfl rfl rfl (by decide +kernel) ⟨Nat.le_of_ble_eq_true rfl, Nat.le_of_ble_eq_true rfl⟩) 0 7 rfl rfl rfl hl.1 rfl (Nat.le_of_ble_eq_true rfl) ⟨Nat.zero_le _, Nat.zero_le _⟩ dX7_running_58 (fun r_58 u_58 H locs hp_58 hS => ?_)
      have hp_58 : (r_58 = 0 ∨ r_58 = 1) ∧ (¬ r_58 = 0 ↔ cx_mk ((M 3)) ((fo_37 0).toNatClampNeg) (nI 8)) := hp_58
      refine lv_if_eq (tgt := 73) hx hb dX7_running_61 (by decide) (fun h61 => ?_) (fun h61 => ?_)
      · skip
        have g61 : ¬ (cx_mk ((M 3)) ((fo_37 0).toNatClampNeg) (nI 8)) := fun z => hp_58.2.mpr z h61
        exact J73  _ _ _ (by first | exact fun z => cx_rr3 hp_4 h11 (hp_37.2 z) (fun y => absurd y g45) | exact fun z => cx_rr3 hp_4 h11 (hp_37.2 z) (fun _ => g61)) hS (lv_sub hl [1, 2, 3, 4, 0] rfl)
      · skip
        have g61 : cx_mk ((M 3)) ((fo_37 0).toNatClampNeg) (nI 8) := hp_58.2.mp h61
        refine lv_aload_n hx hb dX7_running_64 rfl (lv_at hl 1 rfl) ?_
        refine cx_get (own := RX7) (index := 59) (C := RX7) (T := TX7) (N := 22) (k := 19) (ci := 7) (v := .ref (q 17)) hx hb hts hown hE hS hinX7 0 rfl rfl (by decide) (List.mem_of_getElem? (i := 2) rfl) rfl dX7_running_65 ?_
        refine lv_iconst (v := (0 : Int32)) hx hb dX7_running_68 (by decide) ?_
        refine cx_topr (z := nI 0) (by decide) ?_
        refine cx_iald (f := fo_37) (n := 20) (cA := cI) hx hb hE hS 17 0 rfl rfl (by omega) (by decide) dX7_running_69 ?_
        refine lv_goto (tgt := 75) hx hb dX7_running_70 (by decide) ?_
        exact J75 (fo_37 0) _ _ _ (by first | exact h73 | exact fun z => cx_rr4 hp_4 h11 (hp_37.2 z) g45 g61) hS (lv_sub hl [1, 2, 3, 4, 0] rfl)
  · skip
    refine lv_aload_n hx hb dX7_running_14 rfl (lv_at hl 1 rfl) ?_
    refine lv_iload hx hb dX7_running_15 (lv_at hl 0 rfl) ?_
    refine cx_topr (z := nI (r_4.toNatClampNeg)) (cx_pp hp_4.2 h11).1 ?_
    refine lv_iconst (v := (1 : Int32)) hx hb dX7_running_17 (by decide) ?_
    refine lv_iconst (v := (1 : Int32)) hx hb dX7_running_18 (by decide) ?_
    refine cx_cVi (As := [.int (nI (r_4.toNatClampNeg)), .int (1 : Int32), .int (1 : Int32)]) (rest := []) ⟨hx, hb, hml, hown, hts⟩ hE hS (c_X7_is_at_1 l D q cI cZ n T k M d (cx_u (cx_u Z 0 za_4) 3 (fun _ => kn_4)) F r_4.toNatClampNeg (1 : Int32) (1 : Int32) ((cx_pp hp_4.2 h11).2) (by first | assumption | omega | rfl)) (cwV 3 hts gX7_running_X7_is rfl rfl rfl (by decide +kernel) ⟨Nat.le_of_ble_eq_true rfl, Nat.le_of_ble_eq_true rfl⟩) 0 7 rfl rfl rfl hl.1 rfl (Nat.le_of_ble_eq_true rfl) ⟨Nat.zero_le _, Nat.zero_le _⟩ dX7_running_19 (fun r_19 u_19 H locs hp_19 hS => ?_)
    have hp_19 : (r_19 = 0 ∨ r_19 = 1) ∧ (¬ r_19 = 0 ↔ cx_mk ((M 3)) r_4.toNatClampNeg (1 : Int32)) := hp_19
    have J32 : ∀ (v32_s0 : Int32) (H : Heap) (locs : List Loc) (ls : Array Slot), (∃ r0 : Int32, cx_rn n k (T 0) (T 2) (T 3) M (cx_Ar T n) t nm pm r0 ∧ ((r0 = -1 ∧ v32_s0 = (-3 : Int32)) ∨ (¬ r0 = -1 ∧ v32_s0 = r0))) → cx_S D vwCl A s (cyW q cI cZ n T k M d (cx_u (cx_u Z 0 za_4) 3 (fun _ => kn_4)) F) H locs → lv_has ls 5 [(0, .ref (q 0)), (1, .int (nI t)), (2, .int nm), (3, .int pm), (4, .int r_4)] → W p l e ({ frames := 5, cells := 0, slots := 0, locals := 115 } : Room) s m args below meth c H locs 0 0 Q (F0 m 32 ls [.int v32_s0]) := by
      intro v32_s0 H locs ls h32 hS hl
      exact RET _ (za_4, kn_4, d, F 0) _ _ _ _ dX7_running_32 rfl (⟨(by first | assumption | exact hKN), (fun _ => h32)⟩) hS
    refine lv_if_eq (tgt := 30) hx hb dX7_running_22 (by decide) (fun h22 => ?_) (fun h22 => ?_)
    · skip
      have g22 : ¬ (cx_mk ((M 3)) r_4.toNatClampNeg (1 : Int32)) := fun z => hp_19.2.mpr z h22
      refine lv_iload hx hb dX7_running_30 (lv_at hl 0 rfl) ?_
      exact J32 r_4 _ _ _ (by first | exact cx_rr1 hp_4 h11 g22 | exact cx_rr2 hp_4 h11 g22) hS (lv_sub hl [1, 2, 3, 4, 0] rfl)
    · skip
      have g22 : cx_mk ((M 3)) r_4.toNatClampNeg (1 : Int32) := hp_19.2.mp h22
      refine lv_bipush (v := (-3 : Int32)) hx hb dX7_running_25 (by decide) ?_
      refine lv_goto (tgt := 32) hx hb dX7_running_27 (by decide) ?_
      exact J32 (-3 : Int32) _ _ _ (by first | exact cx_rr1 hp_4 h11 g22 | exact cx_rr2 hp_4 h11 g22) hS (lv_sub hl [1, 2, 3, 4, 0] rfl)
set_option maxHeartbeats 4000000 in
set_option maxRecDepth 100000 in
theorem c_X7_runs (l : Launch) (D : va_G) (q : Nat → Nat) (cI cZ : ClassId) (n : Nat) (T : Nat → Nat → Int32) (k : Nat) (M : Nat → Nat → Int32) (d : Nat) (Z : Nat → Nat → Int32) (F : Nat → Nat → Int32) (xa : Int32) (xb : Int32) (xe : Int32) (hn : n ≤ 20) (hP : cx_P (T 3) 20) (hU : cx_R (T 4) 20) (hV : cx_R (T 5) 4) (hKN : cx_KN n T (Z 0) ((Z 3) 0)) (hQ : cx_R (T 6) 20) (hW : cx_R (T 7) 4) (hO : cx_R (M 0) 20) (hk : k ≤ 80) (hOn : ∀ j, j < k → (M 0 j).toNatClampNeg < n) (hX : cx_R (M 4) 4) (hK0 : cx_R (T 0) 4) (hM5 : cx_R (M 5) 30) (hM1 : cx_R (M 1) 10) (hM2 : cx_R (M 2) 5) : cx_Mi l D vwCl [(cI, .int), (cZ, .boolean)] cx_NW yX7_runs wsX7_runs ({ frames := 8, cells := 0, slots := 0, locals := 187 } : Room) [.ref (q 0), .int xa, .int xb, .int xe] (cyW q cI cZ n T k M d Z F) (fun (r : Int32) (uw : (Nat → Int32) × (Int32) × (Nat) × (Nat → Int32) × (Nat → Int32)) => cx_KN n T uw.1 uw.2.1 ∧ ((¬ ((0 ≤ xa ∧ xa < nI n) ∧ (0 ≤ xb ∧ xb < nI 10) ∧ (0 ≤ xe ∧ xe < nI 5)) ∧ r = (-1 : Int32)) ∨ (((0 ≤ xa ∧ xa < nI n) ∧ (0 ≤ xb ∧ xb < nI 10) ∧ (0 ≤ xe ∧ xe < nI 5)) ∧ cx_WR n k (T 0) (T 1) (T 2) (T 3) M (cx_Ur T) (cx_Wr T) (cx_Vr T) (cx_Ar T n) (xa.toNatClampNeg) ∧ r = (-4 : Int32)) ∨ (((0 ≤ xa ∧ xa < nI n) ∧ (0 ≤ xb ∧ xb < nI 10) ∧ (0 ≤ xe ∧ xe < nI 5)) ∧ ¬ cx_WR n k (T 0) (T 1) (T 2) (T 3) M (cx_Ur T) (cx_Wr T) (cx_Vr T) (cx_Ar T n) (xa.toNatClampNeg) ∧ ∃ r0 : Int32, cx_rn n k (T 0) (T 2) (T 3) M (cx_Ar T n) (xa.toNatClampNeg) xb xe r0 ∧ ((r0 = -1 ∧ r = (-3 : Int32)) ∨ (¬ r0 = -1 ∧ r = r0))))) (fun uw => (cyW q cI cZ n T k M uw.2.2.1 (cx_u (cx_u (cx_u Z 0 uw.1) 3 (fun _ => uw.2.1)) 1 uw.2.2.2.2) (cx_u F 0 uw.2.2.2.1))) := by
  refine cx_Mi.of (cc := cX7_runs) (maxL := 4) cx_NW_ok (by decide) rfl (Nat.le_of_ble_eq_true rfl) ?_
  intro p e s m args below meth c Q A ls hx hb hml hown hts hE RET hS hl
  have hl : lv_has ls 4 [(0, .ref (q 0)), (1, .int xa), (2, .int xb), (3, .int xe)] := hl
  have hown : s.vm.findClass RX7 = some m.cls := hown
  refine lv_aload_n hx hb dX7_runs_0 rfl (lv_at hl 0 rfl) ?_
  refine lv_iload_n hx hb dX7_runs_1 rfl (lv_at hl 1 rfl) ?_
  refine cx_cVi (As := [.int xa]) (rest := []) ⟨hx, hb, hml, hown, hts⟩ hE hS (c_X7_isType l D q cI cZ n T k M d Z F xa (by first | assumption | omega | rfl)) (cwV 1 hts gX7_runs_X7_isType rfl rfl rfl (by decide +kernel) ⟨Nat.le_of_ble_eq_true rfl, Nat.le_of_ble_eq_true rfl⟩) 0 7 rfl rfl rfl hl.1 rfl (Nat.le_of_ble_eq_true rfl) ⟨Nat.zero_le _, Nat.zero_le _⟩ dX7_runs_2 (fun r_2 u_2 H locs hp_2 hS => ?_)
  have hp_2 : r_2 = cx_b (0 ≤ xa ∧ xa < nI n) := hp_2
  subst hp_2
  have J27 : ∀ (H : Heap) (locs : List Loc) (ls : Array Slot), (¬ ((0 ≤ xa ∧ xa < nI n) ∧ (0 ≤ xb ∧ xb < nI 10) ∧ (0 ≤ xe ∧ xe < nI 5))) → cx_S D vwCl A s (cyW q cI cZ n T k M d Z F) H locs → lv_has ls 4 [(0, .ref (q 0)), (1, .int xa), (2, .int xb), (3, .int xe)] → W p l e ({ frames := 8, cells := 0, slots := 0, locals := 187 } : Room) s m args below meth c H locs 0 0 Q (F0 m 27 ls []) := by
    intro  H locs ls hb27 hS hl
    refine lv_iconst (v := (-1 : Int32)) hx hb dX7_runs_27 (by decide) ?_
    exact RET _ (Z 0, (Z 3) 0, d, F 0, Z 1) _ _ _ _ dX7_runs_28 rfl (⟨(by first | assumption | exact hKN), Or.inl ⟨hb27, rfl⟩⟩) hS
  refine lv_if_eq (tgt := 27) hx hb dX7_runs_5 (by decide) (fun h5 => ?_) (fun h5 => ?_)
  · skip
    have g5 := cx_b0 h5
    exact J27  _ _ _ (by first | exact fun z => g5 z.1 | exact fun z => g15 ⟨z.2.1.1, (cx_leL _ 9 (by decide)).mpr z.2.1.2⟩ | exact fun z => g24 ⟨z.2.2.1, (cx_leL _ 4 (by decide)).mpr z.2.2.2⟩) hS (lv_sub hl [0, 1, 2, 3] rfl)
  · skip
    have g5 := cx_b1 h5
    have hq5 := (cx_ixT (by omega) g5).2
    refine lv_iload_n hx hb dX7_runs_8 rfl (lv_at hl 2 rfl) ?_
    refine lv_iconst (v := (0 : Int32)) hx hb dX7_runs_9 (by decide) ?_
    refine lv_bipush (v := nI 9) hx hb dX7_runs_10 (by decide) ?_
    refine cx_cSi (As := [.int xb, .int (0 : Int32), .int (nI 9)]) (rest := []) ⟨hx, hb, hml, hown, hts⟩ hE hS (c_X7_in l D [(cI, .int), (cZ, .boolean)] (cyW q cI cZ n T k M d Z F) xb (0 : Int32) (nI 9) ) (va_cwS 3 hts gX7_runs_X7_in rfl rfl rfl (by decide +kernel) ⟨Nat.le_of_ble_eq_true rfl, Nat.le_of_ble_eq_true rfl⟩) rfl hl.1 rfl (Nat.le_of_ble_eq_true rfl) ⟨Nat.zero_le _, Nat.zero_le _⟩ dX7_runs_12 (fun r_12 u_12 H locs hp_12 hS => ?_)
    have hp_12 : r_12 = cx_b ((0 : Int32) ≤ xb ∧ xb ≤ (nI 9)) := hp_12
    subst hp_12
    refine lv_if_eq (tgt := 27) hx hb dX7_runs_15 (by decide) (fun h15 => ?_) (fun h15 => ?_)
    · skip
      have g15 := cx_b0 h15
      exact J27  _ _ _ (by first | exact fun z => g5 z.1 | exact fun z => g15 ⟨z.2.1.1, (cx_leL _ 9 (by decide)).mpr z.2.1.2⟩ | exact fun z => g24 ⟨z.2.2.1, (cx_leL _ 4 (by decide)).mpr z.2.2.2⟩) hS (lv_sub hl [0, 1, 2, 3] rfl)
    · skip
      have g15 := cx_b1 h15
      refine lv_iload_n hx hb dX7_runs_18 rfl (lv_at hl 3 rfl) ?_
      refine lv_iconst (v := (0 : Int32)) hx hb dX7_runs_19 (by decide) ?_
      refine lv_iconst (v := nI 4) hx hb dX7_runs_20 (by decide) ?_
      refine cx_cSi (As := [.int xe, .int (0 : Int32), .int (nI 4)]) (rest := []) ⟨hx, hb, hml, hown, hts⟩ hE hS (c_X7_in l D [(cI, .int), (cZ, .boolean)] (cyW q cI cZ n T k M d Z F) xe (0 : Int32) (nI 4) ) (va_cwS 3 hts gX7_runs_X7_in rfl rfl rfl (by decide +kernel) ⟨Nat.le_of_ble_eq_true rfl, Nat.le_of_ble_eq_true rfl⟩) rfl hl.1 rfl (Nat.le_of_ble_eq_true rfl) ⟨Nat.zero_le _, Nat.zero_le _⟩ dX7_runs_21 (fun r_21 u_21 H locs hp_21 hS => ?_)
      have hp_21 : r_21 = cx_b ((0 : Int32) ≤ xe ∧ xe ≤ (nI 4)) := hp_21
      subst hp_21
      refine lv_if_ne (tgt := 29) hx hb dX7_runs_24 (by decide) (fun h24 => ?_) (fun h24 => ?_)
      · skip
        have g24 := cx_b1 h24
        refine lv_aload_n hx hb dX7_runs_29 rfl (lv_at hl 0 rfl) ?_
        refine lv_iload_n hx hb dX7_runs_30 rfl (lv_at hl 1 rfl) ?_
        refine cx_topr (z := nI (xa.toNatClampNeg)) (cx_ixT (by omega) g5).1 ?_
        refine cx_cVi (As := [.int (nI (xa.toNatClampNeg))]) (rest := []) ⟨hx, hb, hml, hown, hts⟩ hE hS (c_X7_isWrongType l D q cI cZ n T k M d Z F xa.toNatClampNeg (by first | assumption | omega | rfl) (by first | assumption | omega | rfl) (by first | assumption | omega | rfl) (by first | assumption | omega | rfl) (by first | assumption | omega | rfl) (by first | assumption | omega | rfl) (by first | assumption | omega | rfl) (by first | assumption | omega | rfl) (by first | assumption | omega | rfl) (by first | assumption | omega | rfl) (by first | assumption | omega | rfl) (by first | assumption | omega | rfl) (by first | assumption | omega | rfl) (by first | assumption | omega | rfl) (by first | assumption | omega | rfl) hq5) (cwV 1 hts gX7_runs_X7_isWrongType rfl rfl rfl (by decide +kernel) ⟨Nat.le_of_ble_eq_true rfl, Nat.le_of_ble_eq_true rfl⟩) 0 7 rfl rfl rfl hl.1 rfl (Nat.le_of_ble_eq_true rfl) ⟨Nat.zero_le _, Nat.zero_le _⟩ dX7_runs_31 (fun r_31 u_31 H locs hp_31 hS => ?_)
        obtain ⟨za_31, kn_31, d1_31, fo_31, zf_31⟩ := u_31
        have hS : cx_S D vwCl A s (cyW q cI cZ n T k M d1_31 (cx_u (cx_u (cx_u Z 0 za_31) 3 (fun _ => kn_31)) 1 zf_31) (cx_u F 0 fo_31)) H locs := hS
        obtain ⟨hKN_31, hp_31⟩ := hp_31
        have hKN_31 : cx_KN n T za_31 kn_31 := hKN_31
        have hp_31 : (r_31 = 0 ∨ r_31 = 1) ∧ (¬ r_31 = 0 ↔ cx_WR n k ((T 0)) ((T 1)) ((T 2)) ((T 3)) M (cx_Ur T) (cx_Wr T) (cx_Vr T) (cx_Ar T n) xa.toNatClampNeg) := hp_31
        have J49 : ∀ (v49_s0 : Int32) (d_49 : Nat) (Z_0_49 : Nat → Int32) (Z_3_49 : Nat → Int32) (F_0_49 : Nat → Int32) (H : Heap) (locs : List Loc) (ls : Array Slot), (cx_KN n T Z_0_49 (Z_3_49 0)) → ((¬ ((0 ≤ xa ∧ xa < nI n) ∧ (0 ≤ xb ∧ xb < nI 10) ∧ (0 ≤ xe ∧ xe < nI 5)) ∧ v49_s0 = (-1 : Int32)) ∨ (((0 ≤ xa ∧ xa < nI n) ∧ (0 ≤ xb ∧ xb < nI 10) ∧ (0 ≤ xe ∧ xe < nI 5)) ∧ cx_WR n k (T 0) (T 1) (T 2) (T 3) M (cx_Ur T) (cx_Wr T) (cx_Vr T) (cx_Ar T n) (xa.toNatClampNeg) ∧ v49_s0 = (-4 : Int32)) ∨ (((0 ≤ xa ∧ xa < nI n) ∧ (0 ≤ xb ∧ xb < nI 10) ∧ (0 ≤ xe ∧ xe < nI 5)) ∧ ¬ cx_WR n k (T 0) (T 1) (T 2) (T 3) M (cx_Ur T) (cx_Wr T) (cx_Vr T) (cx_Ar T n) (xa.toNatClampNeg) ∧ ∃ r0 : Int32, cx_rn n k (T 0) (T 2) (T 3) M (cx_Ar T n) (xa.toNatClampNeg) xb xe r0 ∧ ((r0 = -1 ∧ v49_s0 = (-3 : Int32)) ∨ (¬ r0 = -1 ∧ v49_s0 = r0)))) → cx_S D vwCl A s (cyW q cI cZ n T k M d_49 (cx_u (cx_u (cx_u Z 1 zf_31) 0 Z_0_49) 3 Z_3_49) (cx_u F 0 F_0_49)) H locs → lv_has ls 4 [(0, .ref (q 0)), (1, .int xa), (2, .int xb), (3, .int xe)] → W p l e ({ frames := 8, cells := 0, slots := 0, locals := 187 } : Room) s m args below meth c H locs 0 0 Q (F0 m 49 ls [.int v49_s0]) := by
          intro v49_s0 d_49 Z_0_49 Z_3_49 F_0_49 H locs ls hKN49 h49 hS hl
          exact RET _ (Z_0_49, Z_3_49 0, d_49, F_0_49, zf_31) _ _ _ _ dX7_runs_49 rfl (⟨(by first | assumption | exact hKN), h49⟩) hS
        refine lv_if_eq (tgt := 42) hx hb dX7_runs_34 (by decide) (fun h34 => ?_) (fun h34 => ?_)
        · skip
          have g34 : ¬ (cx_WR n k ((T 0)) ((T 1)) ((T 2)) ((T 3)) M (cx_Ur T) (cx_Wr T) (cx_Vr T) (cx_Ar T n) xa.toNatClampNeg) := fun z => hp_31.2.mpr z h34
          refine lv_aload_n hx hb dX7_runs_42 rfl (lv_at hl 0 rfl) ?_
          refine lv_iload_n hx hb dX7_runs_43 rfl (lv_at hl 1 rfl) ?_
          refine cx_topr (z := nI (xa.toNatClampNeg)) (cx_ixT (by omega) g5).1 ?_
          refine lv_iload_n hx hb dX7_runs_44 rfl (lv_at hl 2 rfl) ?_
          refine lv_iload_n hx hb dX7_runs_45 rfl (lv_at hl 3 rfl) ?_
          refine cx_cVi (As := [.int (nI (xa.toNatClampNeg)), .int xb, .int xe]) (rest := []) ⟨hx, hb, hml, hown, hts⟩ hE hS (c_X7_running l D q cI cZ n T k M d1_31 (cx_u (cx_u (cx_u Z 0 za_31) 3 (fun _ => kn_31)) 1 zf_31) (cx_u F 0 fo_31) xa.toNatClampNeg xb xe (by first | assumption | omega | rfl) (by first | assumption | omega | rfl) (by first | assumption | omega | rfl) (by first | assumption | omega | rfl) (by first | assumption | omega | rfl) (by first | assumption | omega | rfl) (by first | assumption | omega | rfl) (by first | assumption | omega | rfl) (by first | assumption | omega | rfl) hq5) (cwV 3 hts gX7_runs_X7_running rfl rfl rfl (by decide +kernel) ⟨Nat.le_of_ble_eq_true rfl, Nat.le_of_ble_eq_true rfl⟩) 0 7 rfl rfl rfl hl.1 rfl (Nat.le_of_ble_eq_true rfl) ⟨Nat.zero_le _, Nat.zero_le _⟩ dX7_runs_46 (fun r_46 u_46 H locs hp_46 hS => ?_)
          obtain ⟨za_46, kn_46, d1_46, fo_46⟩ := u_46
          have hS : cx_S D vwCl A s (cyW q cI cZ n T k M d1_46 (cx_u (cx_u (cx_u Z 1 zf_31) 0 za_46) 3 (fun _ => kn_46)) (cx_u F 0 fo_46)) H locs := hS
          obtain ⟨hKN_46, hp_46⟩ := hp_46
          have hKN_46 : cx_KN n T za_46 kn_46 := hKN_46
          have hp_46 : (∀ u, u < n → cx_is (cx_Ar T n) xa.toNatClampNeg u → ¬ (cx_Ar T n) u u) → ∃ r0 : Int32, cx_rn n k ((T 0)) ((T 2)) ((T 3)) M (cx_Ar T n) xa.toNatClampNeg xb xe r0 ∧ ((r0 = -1 ∧ r_46 = (-3 : Int32)) ∨ (¬ r0 = -1 ∧ r_46 = r0)) := hp_46
          exact J49 r_46 d1_46 za_46 (fun _ => kn_46) fo_46 _ _ _ (by first | assumption | exact hKN) (by first | exact Or.inr (Or.inl ⟨⟨g5, ⟨g15.1, (cx_leL _ 9 (by decide)).mp g15.2⟩, ⟨g24.1, (cx_leL _ 4 (by decide)).mp g24.2⟩⟩, g34, rfl⟩) | exact Or.inr (Or.inr ⟨⟨g5, ⟨g15.1, (cx_leL _ 9 (by decide)).mp g15.2⟩, ⟨g24.1, (cx_leL _ 4 (by decide)).mp g24.2⟩⟩, g34, hp_46 (cx_nrW g34)⟩)) hS (lv_sub hl [0, 1, 2, 3] rfl)
        · skip
          have g34 : cx_WR n k ((T 0)) ((T 1)) ((T 2)) ((T 3)) M (cx_Ur T) (cx_Wr T) (cx_Vr T) (cx_Ar T n) xa.toNatClampNeg := hp_31.2.mp h34
          refine lv_bipush (v := (-4 : Int32)) hx hb dX7_runs_37 (by decide) ?_
          refine lv_goto (tgt := 49) hx hb dX7_runs_39 (by decide) ?_
          exact J49 (-4 : Int32) d1_31 za_31 (fun _ => kn_31) fo_31 _ _ _ (by first | assumption | exact hKN) (by first | exact Or.inr (Or.inl ⟨⟨g5, ⟨g15.1, (cx_leL _ 9 (by decide)).mp g15.2⟩, ⟨g24.1, (cx_leL _ 4 (by decide)).mp g24.2⟩⟩, g34, rfl⟩) | exact Or.inr (Or.inr ⟨⟨g5, ⟨g15.1, (cx_leL _ 9 (by decide)).mp g15.2⟩, ⟨g24.1, (cx_leL _ 4 (by decide)).mp g24.2⟩⟩, g34, hp_46 (cx_nrW g34)⟩)) hS (lv_sub hl [0, 1, 2, 3] rfl)
      · skip
        have g24 := cx_b0 h24
        exact J27  _ _ _ (by first | exact fun z => g5 z.1 | exact fun z => g15 ⟨z.2.1.1, (cx_leL _ 9 (by decide)).mpr z.2.1.2⟩ | exact fun z => g24 ⟨z.2.2.1, (cx_leL _ 4 (by decide)).mpr z.2.2.2⟩) hS (lv_sub hl [0, 1, 2, 3] rfl)
