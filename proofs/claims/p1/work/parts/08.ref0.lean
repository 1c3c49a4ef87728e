set_option maxHeartbeats 4000000 in
set_option maxRecDepth 100000 in
/-- in(v, a, b) -/
theorem c_X7_in (l : Launch) (D : va_G) (tys : List (ClassId × FieldType)) (ws : va_W) (v : Int32) (a : Int32) (b : Int32) : cx_Mi l D vwCl tys cx_NW yX7_in wsX7_in ({ frames := 0, cells := 0, slots := 0, locals := 0 } : Room) [.int v, .int a, .int b] ws (fun (r : Int32) (u : Unit) => r = cx_b (a ≤ v ∧ v ≤ b)) (fun _ => ws) := by
  refine cx_Mi.of (cc := cX7_in) (maxL := 3) cx_NW_ok (by decide) rfl (Nat.le_of_ble_eq_true rfl) ?_
  intro p e s m args below meth c Q A ls hx hb hml hown hts hE RET hS hl
  have hl : lv_has ls 3 [(0, .int v), (1, .int a), (2, .int b)] := hl
  have hown : s.vm.findClass RX7 = some m.cls := hown
  refine lv_iload_n hx hb dX7_in_0 rfl (lv_at hl 0 rfl) ?_
  refine lv_iload_n hx hb dX7_in_1 rfl (lv_at hl 1 rfl) ?_
  refine lv_icmp_lt (tgt := 14) hx hb dX7_in_2 (by decide) (fun h2 => ?_) (fun h2 => ?_)
  · skip
    refine lv_iconst (v := (0 : Int32)) hx hb dX7_in_14 (by decide) ?_
    exact RET _ () _ _ _ _ dX7_in_15 rfl (by first | exact cx_bt ⟨Int32.not_lt.mp h2, Int32.not_lt.mp h7⟩ | exact cx_bf (fun z => absurd z.2 (Int32.not_le.mpr h7)) | exact cx_bf (fun z => absurd z.1 (Int32.not_le.mpr h2))) hS
  · skip
    refine lv_iload_n hx hb dX7_in_5 rfl (lv_at hl 0 rfl) ?_
    refine lv_iload_n hx hb dX7_in_6 rfl (lv_at hl 2 rfl) ?_
    refine lv_icmp_gt (tgt := 14) hx hb dX7_in_7 (by decide) (fun h7 => ?_) (fun h7 => ?_)
    · skip
      refine lv_iconst (v := (0 : Int32)) hx hb dX7_in_14 (by decide) ?_
      exact RET _ () _ _ _ _ dX7_in_15 rfl (by first | exact cx_bt ⟨Int32.not_lt.mp h2, Int32.not_lt.mp h7⟩ | exact cx_bf (fun z => absurd z.2 (Int32.not_le.mpr h7)) | exact cx_bf (fun z => absurd z.1 (Int32.not_le.mpr h2))) hS
    · skip
      refine lv_iconst (v := (1 : Int32)) hx hb dX7_in_10 (by decide) ?_
      refine lv_goto (tgt := 15) hx hb dX7_in_11 (by decide) ?_
      exact RET _ () _ _ _ _ dX7_in_15 rfl (by first | exact cx_bt ⟨Int32.not_lt.mp h2, Int32.not_lt.mp h7⟩ | exact cx_bf (fun z => absurd z.2 (Int32.not_le.mpr h7)) | exact cx_bf (fun z => absurd z.1 (Int32.not_le.mpr h2))) hS
set_option maxHeartbeats 4000000 in
set_option maxRecDepth 100000 in
/-- isType(t) -/
theorem c_X7_isType (l : Launch) (D : va_G) (q : Nat → Nat) (cI cZ : ClassId) (n : Nat) (T : Nat → Nat → Int32) (k : Nat) (M : Nat → Nat → Int32) (Z : Nat → Nat → Int32) (F : Nat → Nat → Int32) (t : Int32) (hn : n ≤ 20) : cx_Mi l D vwCl [(cI, .int), (cZ, .boolean)] cx_NW yX7_isType wsX7_isType ({ frames := 1, cells := 0, slots := 0, locals := 22 } : Room) [.ref (q 0), .int t] (cyW q cI cZ n T k M Z F) (fun (r : Int32) (u : Unit) => r = cx_b (0 ≤ t ∧ t < nI n)) (fun _ => (cyW q cI cZ n T k M Z F)) := by
  refine cx_Mi.of (cc := cX7_isType) (maxL := 2) cx_NW_ok (by decide) rfl (Nat.le_of_ble_eq_true rfl) ?_
  intro p e s m args below meth c Q A ls hx hb hml hown hts hE RET hS hl
  have hl : lv_has ls 2 [(0, .ref (q 0)), (1, .int t)] := hl
  have hown : s.vm.findClass RX7 = some m.cls := hown
  have hinX7 : ∀ w ∈ u_ws RX7 TX7 22, w ∈ wsX7_isType := cx_mem [6, 7, 8, 9, 10, 11, 12, 13, 14, 15, 16, 17, 18, 19, 20, 21, 22, 23, 24, 25, 26, 27] (by decide +kernel)
  refine lv_iload_n hx hb dX7_isType_0 rfl (lv_at hl 1 rfl) ?_
  refine lv_iconst (v := (0 : Int32)) hx hb dX7_isType_1 (by decide) ?_
  refine lv_aload_n hx hb dX7_isType_2 rfl (lv_at hl 0 rfl) ?_
  refine cx_get (own := RX7) (index := 65) (C := RX7) (T := TX7) (N := 22) (k := 0) (ci := 7) (v := .int (nI n)) hx hb hts hown hE hS hinX7 0 rfl rfl (by decide) (List.mem_of_getElem? (i := 1) rfl) rfl dX7_isType_3 ?_
  refine lv_iconst (v := (1 : Int32)) hx hb dX7_isType_6 (by decide) ?_
  refine lv_isub hx hb dX7_isType_7 ?_
  refine cx_cSi (As := [.int t, .int (0 : Int32), .int ((nI n) - (1 : Int32))]) (rest := []) ⟨hx, hb, hml, hown, hts⟩ hE hS (c_X7_in l D [(cI, .int), (cZ, .boolean)] (cyW q cI cZ n T k M Z F) t (0 : Int32) ((nI n) - (1 : Int32)) ) (va_cwS 3 hts gX7_isType_X7_in rfl rfl rfl (by decide +kernel) ⟨Nat.le_of_ble_eq_true rfl, Nat.le_of_ble_eq_true rfl⟩) rfl hl.1 rfl (Nat.le_of_ble_eq_true rfl) ⟨Nat.zero_le _, Nat.zero_le _⟩ dX7_isType_8 (fun r_8 u_8 H locs hp_8 hS => ?_)
  have hp_8 : r_8 = cx_b ((0 : Int32) ≤ t ∧ t ≤ ((nI n) - (1 : Int32))) := hp_8
  subst hp_8
  exact RET _ () _ _ _ _ dX7_isType_11 cx_bn (cx_bc (cx_m1 n (by omega) t)) hS
set_option maxHeartbeats 4000000 in
set_option maxRecDepth 100000 in
/-- upper() of the reference where nothing is told -/
theorem c_X7_upper_at_0 (l : Launch) (D : va_G) (q : Nat → Nat) (cI cZ : ClassId) (n : Nat) (T : Nat → Nat → Int32) (k : Nat) (M : Nat → Nat → Int32) (Z : Nat → Nat → Int32) (F : Nat → Nat → Int32) (a : Int32) (b : Int32) (hn0 : n = 0) : cx_Mi l D vwCl [(cI, .int), (cZ, .boolean)] cx_NW yX7_upper wsX7_upper ({ frames := 2, cells := 0, slots := 0, locals := 43 } : Room) [.ref (q 0), .int a, .int b] (cyW q cI cZ n T k M Z F) (fun (r : Int32) (u : Unit) => r = (-1 : Int32)) (fun _ => (cyW q cI cZ n T k M Z F)) := by
  refine cx_Mi.of (cc := cX7_upper) (maxL := 3) cx_NW_ok (by decide) rfl (Nat.le_of_ble_eq_true rfl) ?_
  intro p e s m args below meth c Q A ls hx hb hml hown hts hE RET hS hl
  have hl : lv_has ls 3 [(0, .ref (q 0)), (1, .int a), (2, .int b)] := hl
  have hown : s.vm.findClass RX7 = some m.cls := hown
  have hinX7 : ∀ w ∈ u_ws RX7 TX7 22, w ∈ wsX7_upper := cx_mem [13, 14, 15, 16, 17, 18, 19, 20, 21, 22, 23, 24, 25, 26, 27, 28, 29, 30, 31, 32, 33, 34] (by decide +kernel)
  refine lv_aload_n hx hb dX7_upper_0 rfl (lv_at hl 0 rfl) ?_
  refine lv_iload_n hx hb dX7_upper_1 rfl (lv_at hl 1 rfl) ?_
  refine cx_cVi (As := [.int a]) (rest := []) ⟨hx, hb, hml, hown, hts⟩ hE hS (c_X7_isType l D q cI cZ n T k M Z F a (by first | assumption | omega)) (cwV 1 hts gX7_upper_X7_isType rfl rfl rfl (by decide +kernel) ⟨Nat.le_of_ble_eq_true rfl, Nat.le_of_ble_eq_true rfl⟩) 0 7 rfl rfl rfl hl.1 rfl (Nat.le_of_ble_eq_true rfl) ⟨Nat.zero_le _, Nat.zero_le _⟩ dX7_upper_2 (fun r_2 u_2 H locs hp_2 hS => ?_)
  have hp_2 : r_2 = cx_b (0 ≤ a ∧ a < nI n) := hp_2
  subst hp_2
  refine lv_if_eq (tgt := 18) hx hb dX7_upper_5 (by decide) (fun h5 => ?_) (fun h5 => ?_)
  · skip
    have g5 := cx_b0 h5
    refine lv_iconst (v := (-1 : Int32)) hx hb dX7_upper_18 (by decide) ?_
    exact RET _ () _ _ _ _ dX7_upper_19 rfl rfl hS
  · skip
    have g5 := cx_b1 h5
    exact (cx_no0 hn0 g5).elim
set_option maxHeartbeats 4000000 in
set_option maxRecDepth 100000 in
/-- permit() of the reference where nothing is told -/
theorem c_X7_permit_at_0 (l : Launch) (D : va_G) (q : Nat → Nat) (cI cZ : ClassId) (n : Nat) (T : Nat → Nat → Int32) (k : Nat) (M : Nat → Nat → Int32) (Z : Nat → Nat → Int32) (F : Nat → Nat → Int32) (a : Int32) (b : Int32) (hn0 : n = 0) : cx_Mi l D vwCl [(cI, .int), (cZ, .boolean)] cx_NW yX7_permit wsX7_permit ({ frames := 2, cells := 0, slots := 0, locals := 43 } : Room) [.ref (q 0), .int a, .int b] (cyW q cI cZ n T k M Z F) (fun (r : Int32) (u : Unit) => r = (-1 : Int32)) (fun _ => (cyW q cI cZ n T k M Z F)) := by
  refine cx_Mi.of (cc := cX7_permit) (maxL := 3) cx_NW_ok (by decide) rfl (Nat.le_of_ble_eq_true rfl) ?_
  intro p e s m args below meth c Q A ls hx hb hml hown hts hE RET hS hl
  have hl : lv_has ls 3 [(0, .ref (q 0)), (1, .int a), (2, .int b)] := hl
  have hown : s.vm.findClass RX7 = some m.cls := hown
  have hinX7 : ∀ w ∈ u_ws RX7 TX7 22, w ∈ wsX7_permit := cx_mem [12, 13, 14, 15, 16, 17, 18, 19, 20, 21, 22, 23, 24, 25, 26, 27, 28, 29, 30, 31, 32, 33] (by decide +kernel)
  refine lv_aload_n hx hb dX7_permit_0 rfl (lv_at hl 0 rfl) ?_
  refine lv_iload_n hx hb dX7_permit_1 rfl (lv_at hl 1 rfl) ?_
  refine cx_cVi (As := [.int a]) (rest := []) ⟨hx, hb, hml, hown, hts⟩ hE hS (c_X7_isType l D q cI cZ n T k M Z F a (by first | assumption | omega)) (cwV 1 hts gX7_permit_X7_isType rfl rfl rfl (by decide +kernel) ⟨Nat.le_of_ble_eq_true rfl, Nat.le_of_ble_eq_true rfl⟩) 0 7 rfl rfl rfl hl.1 rfl (Nat.le_of_ble_eq_true rfl) ⟨Nat.zero_le _, Nat.zero_le _⟩ dX7_permit_2 (fun r_2 u_2 H locs hp_2 hS => ?_)
  have hp_2 : r_2 = cx_b (0 ≤ a ∧ a < nI n) := hp_2
  subst hp_2
  refine lv_if_eq (tgt := 18) hx hb dX7_permit_5 (by decide) (fun h5 => ?_) (fun h5 => ?_)
  · skip
    have g5 := cx_b0 h5
    refine lv_iconst (v := (-1 : Int32)) hx hb dX7_permit_18 (by decide) ?_
    exact RET _ () _ _ _ _ dX7_permit_19 rfl rfl hS
  · skip
    have g5 := cx_b1 h5
    exact (cx_no0 hn0 g5).elim
set_option maxHeartbeats 4000000 in
set_option maxRecDepth 100000 in
/-- member() of the reference where nothing is told -/
theorem c_X7_member_at_0 (l : Launch) (D : va_G) (q : Nat → Nat) (cI cZ : ClassId) (n : Nat) (T : Nat → Nat → Int32) (k : Nat) (M : Nat → Nat → Int32) (Z : Nat → Nat → Int32) (F : Nat → Nat → Int32) (a : Int32) (b : Int32) (d : Int32) (e2 : Int32) (f2 : Int32) (h2 : Int32) (hn0 : n = 0) : cx_Mi l D vwCl [(cI, .int), (cZ, .boolean)] cx_NW yX7_member wsX7_member ({ frames := 2, cells := 0, slots := 0, locals := 43 } : Room) [.ref (q 0), .int a, .int b, .int d, .int e2, .int f2, .int h2] (cyW q cI cZ n T k M Z F) (fun (r : Int32) (u : Unit) => r = (-1 : Int32)) (fun _ => (cyW q cI cZ n T k M Z F)) := by
  refine cx_Mi.of (cc := cX7_member) (maxL := 7) cx_NW_ok (by decide) rfl (Nat.le_of_ble_eq_true rfl) ?_
  intro p e s m args below meth c Q A ls hx hb hml hown hts hE RET hS hl
  have hl : lv_has ls 7 [(0, .ref (q 0)), (1, .int a), (2, .int b), (3, .int d), (4, .int e2), (5, .int f2), (6, .int h2)] := hl
  have hown : s.vm.findClass RX7 = some m.cls := hown
  have hinX7 : ∀ w ∈ u_ws RX7 TX7 22, w ∈ wsX7_member := cx_mem [17, 18, 19, 20, 21, 22, 23, 24, 25, 26, 27, 28, 29, 30, 31, 32, 33, 34, 35, 36, 37, 38] (by decide +kernel)
  refine lv_aload_n hx hb dX7_member_0 rfl (lv_at hl 0 rfl) ?_
  refine lv_iload_n hx hb dX7_member_1 rfl (lv_at hl 1 rfl) ?_
  refine cx_cVi (As := [.int a]) (rest := []) ⟨hx, hb, hml, hown, hts⟩ hE hS (c_X7_isType l D q cI cZ n T k M Z F a (by first | assumption | omega)) (cwV 1 hts gX7_member_X7_isType rfl rfl rfl (by decide +kernel) ⟨Nat.le_of_ble_eq_true rfl, Nat.le_of_ble_eq_true rfl⟩) 0 7 rfl rfl rfl hl.1 rfl (Nat.le_of_ble_eq_true rfl) ⟨Nat.zero_le _, Nat.zero_le _⟩ dX7_member_2 (fun r_2 u_2 H locs hp_2 hS => ?_)
  have hp_2 : r_2 = cx_b (0 ≤ a ∧ a < nI n) := hp_2
  subst hp_2
  refine lv_if_eq (tgt := 59) hx hb dX7_member_5 (by decide) (fun h5 => ?_) (fun h5 => ?_)
  · skip
    have g5 := cx_b0 h5
    refine lv_iconst (v := (-1 : Int32)) hx hb dX7_member_59 (by decide) ?_
    exact RET _ () _ _ _ _ dX7_member_60 rfl rfl hS
  · skip
    have g5 := cx_b1 h5
    exact (cx_no0 hn0 g5).elim
set_option maxHeartbeats 4000000 in
set_option maxRecDepth 100000 in
/-- faults() of the reference where nothing is told -/
theorem c_X7_faults_at_0 (l : Launch) (D : va_G) (q : Nat → Nat) (cI cZ : ClassId) (n : Nat) (T : Nat → Nat → Int32) (k : Nat) (M : Nat → Nat → Int32) (Z : Nat → Nat → Int32) (F : Nat → Nat → Int32) (a : Int32) (hn0 : n = 0) : cx_Mi l D vwCl [(cI, .int), (cZ, .boolean)] cx_NW yX7_faults wsX7_faults ({ frames := 2, cells := 0, slots := 0, locals := 43 } : Room) [.ref (q 0), .int a] (cyW q cI cZ n T k M Z F) (fun (r : Int32) (u : Unit) => r = (-1 : Int32)) (fun _ => (cyW q cI cZ n T k M Z F)) := by
  refine cx_Mi.of (cc := cX7_faults) (maxL := 2) cx_NW_ok (by decide) rfl (Nat.le_of_ble_eq_true rfl) ?_
  intro p e s m args below meth c Q A ls hx hb hml hown hts hE RET hS hl
  have hl : lv_has ls 2 [(0, .ref (q 0)), (1, .int a)] := hl
  have hown : s.vm.findClass RX7 = some m.cls := hown
  refine lv_aload_n hx hb dX7_faults_0 rfl (lv_at hl 0 rfl) ?_
  refine lv_iload_n hx hb dX7_faults_1 rfl (lv_at hl 1 rfl) ?_
  refine cx_cVi (As := [.int a]) (rest := []) ⟨hx, hb, hml, hown, hts⟩ hE hS (c_X7_isType l D q cI cZ n T k M Z F a (by first | assumption | omega)) (cwV 1 hts gX7_faults_X7_isType rfl rfl rfl (by decide +kernel) ⟨Nat.le_of_ble_eq_true rfl, Nat.le_of_ble_eq_true rfl⟩) 0 7 rfl rfl rfl hl.1 rfl (Nat.le_of_ble_eq_true rfl) ⟨Nat.zero_le _, Nat.zero_le _⟩ dX7_faults_2 (fun r_2 u_2 H locs hp_2 hS => ?_)
  have hp_2 : r_2 = cx_b (0 ≤ a ∧ a < nI n) := hp_2
  subst hp_2
  refine lv_if_ne (tgt := 10) hx hb dX7_faults_5 (by decide) (fun h5 => ?_) (fun h5 => ?_)
  · skip
    have g5 := cx_b1 h5
    exact (cx_no0 hn0 g5).elim
  · skip
    have g5 := cx_b0 h5
    refine lv_iconst (v := (-1 : Int32)) hx hb dX7_faults_8 (by decide) ?_
    exact RET _ () _ _ _ _ dX7_faults_9 rfl rfl hS
set_option maxHeartbeats 4000000 in
set_option maxRecDepth 100000 in
/-- fault() of the reference where nothing is told -/
theorem c_X7_fault_at_0 (l : Launch) (D : va_G) (q : Nat → Nat) (cI cZ : ClassId) (n : Nat) (T : Nat → Nat → Int32) (k : Nat) (M : Nat → Nat → Int32) (Z : Nat → Nat → Int32) (F : Nat → Nat → Int32) (a : Int32) (b : Int32) (d : Int32) (hn0 : n = 0) : cx_Mi l D vwCl [(cI, .int), (cZ, .boolean)] cx_NW yX7_fault wsX7_fault ({ frames := 2, cells := 0, slots := 0, locals := 43 } : Room) [.ref (q 0), .int a, .int b, .int d] (cyW q cI cZ n T k M Z F) (fun (r : Int32) (u : Unit) => r = (-1 : Int32)) (fun _ => (cyW q cI cZ n T k M Z F)) := by
  refine cx_Mi.of (cc := cX7_fault) (maxL := 6) cx_NW_ok (by decide) rfl (Nat.le_of_ble_eq_true rfl) ?_
  intro p e s m args below meth c Q A ls hx hb hml hown hts hE RET hS hl
  have hl : lv_has ls 6 [(0, .ref (q 0)), (1, .int a), (2, .int b), (3, .int d)] := hl
  have hown : s.vm.findClass RX7 = some m.cls := hown
  have hinX7 : ∀ w ∈ u_ws RX7 TX7 22, w ∈ wsX7_fault := cx_mem [130, 131, 132, 133, 134, 135, 136, 137, 138, 139, 140, 141, 142, 143, 144, 145, 146, 147, 148, 149, 150, 151] (by decide +kernel)
  refine lv_aload_n hx hb dX7_fault_0 rfl (lv_at hl 0 rfl) ?_
  refine lv_iload_n hx hb dX7_fault_1 rfl (lv_at hl 1 rfl) ?_
  refine cx_cVi (As := [.int a]) (rest := []) ⟨hx, hb, hml, hown, hts⟩ hE hS (c_X7_isType l D q cI cZ n T k M Z F a (by first | assumption | omega)) (cwV 1 hts gX7_fault_X7_isType rfl rfl rfl (by decide +kernel) ⟨Nat.le_of_ble_eq_true rfl, Nat.le_of_ble_eq_true rfl⟩) 0 7 rfl rfl rfl hl.1 rfl (Nat.le_of_ble_eq_true rfl) ⟨Nat.zero_le _, Nat.zero_le _⟩ dX7_fault_2 (fun r_2 u_2 H locs hp_2 hS => ?_)
  have hp_2 : r_2 = cx_b (0 ≤ a ∧ a < nI n) := hp_2
  subst hp_2
  refine lv_if_eq (tgt := 21) hx hb dX7_fault_5 (by decide) (fun h5 => ?_) (fun h5 => ?_)
  · skip
    have g5 := cx_b0 h5
    refine lv_iconst (v := (-1 : Int32)) hx hb dX7_fault_21 (by decide) ?_
    exact RET _ () _ _ _ _ dX7_fault_22 rfl rfl hS
  · skip
    have g5 := cx_b1 h5
    exact (cx_no0 hn0 g5).elim
set_option maxHeartbeats 4000000 in
set_option maxRecDepth 100000 in
/-- is_() of the reference where nothing is told -/
theorem c_X7_is__at_0 (l : Launch) (D : va_G) (q : Nat → Nat) (cI cZ : ClassId) (n : Nat) (T : Nat → Nat → Int32) (k : Nat) (M : Nat → Nat → Int32) (Z : Nat → Nat → Int32) (F : Nat → Nat → Int32) (a : Int32) (b : Int32) (hn0 : n = 0) : cx_Mi l D vwCl [(cI, .int), (cZ, .boolean)] cx_NW yX7_is_ wsX7_is_ ({ frames := 2, cells := 0, slots := 0, locals := 43 } : Room) [.ref (q 0), .int a, .int b] (cyW q cI cZ n T k M Z F) (fun (r : Int32) (u : Unit) => r = (-1 : Int32)) (fun _ => (cyW q cI cZ n T k M Z F)) := by
  refine cx_Mi.of (cc := cX7_is_) (maxL := 3) cx_NW_ok (by decide) rfl (Nat.le_of_ble_eq_true rfl) ?_
  intro p e s m args below meth c Q A ls hx hb hml hown hts hE RET hS hl
  have hl : lv_has ls 3 [(0, .ref (q 0)), (1, .int a), (2, .int b)] := hl
  have hown : s.vm.findClass RX7 = some m.cls := hown
  refine lv_aload_n hx hb dX7_is__0 rfl (lv_at hl 0 rfl) ?_
  refine lv_iload_n hx hb dX7_is__1 rfl (lv_at hl 1 rfl) ?_
  refine cx_cVi (As := [.int a]) (rest := []) ⟨hx, hb, hml, hown, hts⟩ hE hS (c_X7_isType l D q cI cZ n T k M Z F a (by first | assumption | omega)) (cwV 1 hts gX7_is__X7_isType rfl rfl rfl (by decide +kernel) ⟨Nat.le_of_ble_eq_true rfl, Nat.le_of_ble_eq_true rfl⟩) 0 7 rfl rfl rfl hl.1 rfl (Nat.le_of_ble_eq_true rfl) ⟨Nat.zero_le _, Nat.zero_le _⟩ dX7_is__2 (fun r_2 u_2 H locs hp_2 hS => ?_)
  have hp_2 : r_2 = cx_b (0 ≤ a ∧ a < nI n) := hp_2
  subst hp_2
  refine lv_if_eq (tgt := 33) hx hb dX7_is__5 (by decide) (fun h5 => ?_) (fun h5 => ?_)
  · skip
    have g5 := cx_b0 h5
    refine lv_iconst (v := (-1 : Int32)) hx hb dX7_is__33 (by decide) ?_
    exact RET _ () _ _ _ _ dX7_is__34 rfl rfl hS
  · skip
    have g5 := cx_b1 h5
    exact (cx_no0 hn0 g5).elim
set_option maxHeartbeats 4000000 in
set_option maxRecDepth 100000 in
/-- runs() of the reference where nothing is told -/
theorem c_X7_runs_at_0 (l : Launch) (D : va_G) (q : Nat → Nat) (cI cZ : ClassId) (n : Nat) (T : Nat → Nat → Int32) (k : Nat) (M : Nat → Nat → Int32) (Z : Nat → Nat → Int32) (F : Nat → Nat → Int32) (a : Int32) (b : Int32) (d : Int32) (hn0 : n = 0) : cx_Mi l D vwCl [(cI, .int), (cZ, .boolean)] cx_NW yX7_runs wsX7_runs ({ frames := 2, cells := 0, slots := 0, locals := 43 } : Room) [.ref (q 0), .int a, .int b, .int d] (cyW q cI cZ n T k M Z F) (fun (r : Int32) (u : Unit) => r = (-1 : Int32)) (fun _ => (cyW q cI cZ n T k M Z F)) := by
  refine cx_Mi.of (cc := cX7_runs) (maxL := 4) cx_NW_ok (by decide) rfl (Nat.le_of_ble_eq_true rfl) ?_
  intro p e s m args below meth c Q A ls hx hb hml hown hts hE RET hS hl
  have hl : lv_has ls 4 [(0, .ref (q 0)), (1, .int a), (2, .int b), (3, .int d)] := hl
  have hown : s.vm.findClass RX7 = some m.cls := hown
  refine lv_aload_n hx hb dX7_runs_0 rfl (lv_at hl 0 rfl) ?_
  refine lv_iload_n hx hb dX7_runs_1 rfl (lv_at hl 1 rfl) ?_
  refine cx_cVi (As := [.int a]) (rest := []) ⟨hx, hb, hml, hown, hts⟩ hE hS (c_X7_isType l D q cI cZ n T k M Z F a (by first | assumption | omega)) (cwV 1 hts gX7_runs_X7_isType rfl rfl rfl (by decide +kernel) ⟨Nat.le_of_ble_eq_true rfl, Nat.le_of_ble_eq_true rfl⟩) 0 7 rfl rfl rfl hl.1 rfl (Nat.le_of_ble_eq_true rfl) ⟨Nat.zero_le _, Nat.zero_le _⟩ dX7_runs_2 (fun r_2 u_2 H locs hp_2 hS => ?_)
  have hp_2 : r_2 = cx_b (0 ≤ a ∧ a < nI n) := hp_2
  subst hp_2
  refine lv_if_eq (tgt := 27) hx hb dX7_runs_5 (by decide) (fun h5 => ?_) (fun h5 => ?_)
  · skip
    have g5 := cx_b0 h5
    refine lv_iconst (v := (-1 : Int32)) hx hb dX7_runs_27 (by decide) ?_
    exact RET _ () _ _ _ _ dX7_runs_28 rfl rfl hS
  · skip
    have g5 := cx_b1 h5
    exact (cx_no0 hn0 g5).elim
set_option maxHeartbeats 4000000 in
set_option maxRecDepth 100000 in
/-- call() of the reference where nothing is told -/
theorem c_X7_call_at_0 (l : Launch) (D : va_G) (q : Nat → Nat) (cI cZ : ClassId) (n : Nat) (T : Nat → Nat → Int32) (k : Nat) (M : Nat → Nat → Int32) (Z : Nat → Nat → Int32) (F : Nat → Nat → Int32) (a : Int32) (b : Int32) (d : Int32) (e2 : Int32) (hn0 : n = 0) : cx_Mi l D vwCl [(cI, .int), (cZ, .boolean)] cx_NW yX7_call wsX7_call ({ frames := 2, cells := 0, slots := 0, locals := 43 } : Room) [.ref (q 0), .int a, .int b, .int d, .int e2] (cyW q cI cZ n T k M Z F) (fun (r : Int32) (u : Unit) => r = (-1 : Int32)) (fun _ => (cyW q cI cZ n T k M Z F)) := by
  refine cx_Mi.of (cc := cX7_call) (maxL := 9) cx_NW_ok (by decide) rfl (Nat.le_of_ble_eq_true rfl) ?_
  intro p e s m args below meth c Q A ls hx hb hml hown hts hE RET hS hl
  have hl : lv_has ls 9 [(0, .ref (q 0)), (1, .int a), (2, .int b), (3, .int d), (4, .int e2)] := hl
  have hown : s.vm.findClass RX7 = some m.cls := hown
  have hinX7 : ∀ w ∈ u_ws RX7 TX7 22, w ∈ wsX7_call := cx_mem [147, 148, 149, 150, 151, 152, 153, 154, 155, 156, 157, 158, 159, 160, 161, 162, 163, 164, 165, 166, 167, 168] (by decide +kernel)
  refine lv_aload_n hx hb dX7_call_0 rfl (lv_at hl 0 rfl) ?_
  refine lv_iload_n hx hb dX7_call_1 rfl (lv_at hl 1 rfl) ?_
  refine cx_cVi (As := [.int a]) (rest := []) ⟨hx, hb, hml, hown, hts⟩ hE hS (c_X7_isType l D q cI cZ n T k M Z F a (by first | assumption | omega)) (cwV 1 hts gX7_call_X7_isType rfl rfl rfl (by decide +kernel) ⟨Nat.le_of_ble_eq_true rfl, Nat.le_of_ble_eq_true rfl⟩) 0 7 rfl rfl rfl hl.1 rfl (Nat.le_of_ble_eq_true rfl) ⟨Nat.zero_le _, Nat.zero_le _⟩ dX7_call_2 (fun r_2 u_2 H locs hp_2 hS => ?_)
  have hp_2 : r_2 = cx_b (0 ≤ a ∧ a < nI n) := hp_2
  subst hp_2
  refine lv_if_eq (tgt := 36) hx hb dX7_call_5 (by decide) (fun h5 => ?_) (fun h5 => ?_)
  · skip
    have g5 := cx_b0 h5
    refine lv_iconst (v := (-1 : Int32)) hx hb dX7_call_36 (by decide) ?_
    exact RET _ () _ _ _ _ dX7_call_37 rfl rfl hS
  · skip
    have g5 := cx_b1 h5
    exact (cx_no0 hn0 g5).elim
set_option maxHeartbeats 4000000 in
set_option maxRecDepth 100000 in
/-- all() of the reference where nothing is told -/
theorem c_X7_all_at_0 (l : Launch) (D : va_G) (q : Nat → Nat) (cI cZ : ClassId) (n : Nat) (T : Nat → Nat → Int32) (k : Nat) (M : Nat → Nat → Int32) (Z : Nat → Nat → Int32) (F : Nat → Nat → Int32) (hn0 : n = 0) : cx_Mi l D vwCl [(cI, .int), (cZ, .boolean)] cx_NW yX7_all wsX7_all ({ frames := 0, cells := 0, slots := 0, locals := 0 } : Room) [.ref (q 0)] (cyW q cI cZ n T k M Z F) (fun (r : Int32) (u : Unit) => r = nI 0) (fun _ => (cyW q cI cZ n T k M Z F)) := by
  refine cx_Mi.of (cc := cX7_all) (maxL := 3) cx_NW_ok (by decide) rfl (Nat.le_of_ble_eq_true rfl) ?_
  intro p e s m args below meth c Q A ls hx hb hml hown hts hE RET hS hl
  have hl : lv_has ls 3 [(0, .ref (q 0))] := hl
  have hown : s.vm.findClass RX7 = some m.cls := hown
  have hinX7 : ∀ w ∈ u_ws RX7 TX7 22, w ∈ wsX7_all := cx_mem [138, 139, 140, 141, 142, 143, 144, 145, 146, 147, 148, 149, 150, 151, 152, 153, 154, 155, 156, 157, 158, 159] (by decide +kernel)
  refine lv_iconst (v := (0 : Int32)) hx hb dX7_all_0 (by decide) ?_
  refine cx_topr (z := nI 0) cx_n0 ?_
  refine lv_istore_n (lv' := [(1, .int (nI 0)), (0, .ref (q 0))]) hx hb dX7_all_1 rfl hl (by decide) rfl (fun ls hl => ?_)
  refine lv_iconst (v := (0 : Int32)) hx hb dX7_all_2 (by decide) ?_
  refine cx_topr (z := nI 0) cx_n0 ?_
  refine lv_istore_n (lv' := [(2, .int (nI 0)), (1, .int (nI 0)), (0, .ref (q 0))]) hx hb dX7_all_3 rfl hl (by decide) rfl (fun ls hl => ?_)
  refine lv_iload_n hx hb dX7_all_4 rfl (lv_at hl 0 rfl) ?_
  refine lv_aload_n hx hb dX7_all_5 rfl (lv_at hl 2 rfl) ?_
  refine cx_get (own := RX7) (index := 65) (C := RX7) (T := TX7) (N := 22) (k := 0) (ci := 7) (v := .int (nI n)) hx hb hts hown hE hS hinX7 0 rfl rfl (by decide) (List.mem_of_getElem? (i := 1) rfl) rfl dX7_all_6 ?_
  refine lv_icmp_ge (tgt := 26) hx hb dX7_all_9 (by decide) (fun h9 => ?_) (fun h9 => ?_)
  · skip
    have g9 : n ≤ 0 := (nI_leI (by omega) (by omega)).mp h9
    refine lv_iload_n hx hb dX7_all_26 rfl (lv_at hl 1 rfl) ?_
    exact RET _ () _ _ _ _ dX7_all_27 rfl rfl hS
  · skip
    have g9 : ¬ (n ≤ 0) := fun z => h9 ((nI_leI (by omega) (by omega)).mpr z)
    exact absurd (show nI n ≤ nI 0 from by rw [hn0]; exact Int32.le_refl _) h9
set_option maxHeartbeats 4000000 in
set_option maxRecDepth 100000 in
/-- told(a) of the reference -/
theorem c_X7_told (l : Launch) (D : va_G) (q : Nat → Nat) (cI cZ : ClassId) (n : Nat) (T : Nat → Nat → Int32) (k : Nat) (M : Nat → Nat → Int32) (Z : Nat → Nat → Int32) (F : Nat → Nat → Int32) (a : Int32) : cx_Mi l D vwCl [(cI, .int), (cZ, .boolean)] cx_NW yX7_told wsX7_told ({ frames := 0, cells := 0, slots := 0, locals := 0 } : Room) [.ref (q 0), .int a] (cyW q cI cZ n T k M Z F) (fun (r : Int32) (u : Unit) => r = (if a = 0 then nI n else if a = 1 then nI k else (-1 : Int32))) (fun _ => (cyW q cI cZ n T k M Z F)) := by
  refine cx_Mi.of (cc := cX7_told) (maxL := 2) cx_NW_ok (by decide) rfl (Nat.le_of_ble_eq_true rfl) ?_
  intro p e s m args below meth c Q A ls hx hb hml hown hts hE RET hS hl
  have hl : lv_has ls 2 [(0, .ref (q 0)), (1, .int a)] := hl
  have hown : s.vm.findClass RX7 = some m.cls := hown
  have hinX7 : ∀ w ∈ u_ws RX7 TX7 22, w ∈ wsX7_told := cx_mem [3, 4, 5, 6, 7, 8, 9, 10, 11, 12, 13, 14, 15, 16, 17, 18, 19, 20, 21, 22, 23, 24] (by decide +kernel)
  refine lv_iload_n hx hb dX7_told_0 rfl (lv_at hl 1 rfl) ?_
  refine lv_if_ne (tgt := 11) hx hb dX7_told_1 (by decide) (fun h1 => ?_) (fun h1 => ?_)
  · skip
    refine lv_iload_n hx hb dX7_told_11 rfl (lv_at hl 1 rfl) ?_
    refine lv_iconst (v := (1 : Int32)) hx hb dX7_told_12 (by decide) ?_
    refine lv_icmp_ne (tgt := 23) hx hb dX7_told_13 (by decide) (fun h13 => ?_) (fun h13 => ?_)
    · skip
      refine lv_iconst (v := (-1 : Int32)) hx hb dX7_told_23 (by decide) ?_
      exact RET _ () _ _ _ _ dX7_told_24 rfl (by first | rw [if_pos h1] | rw [if_neg h1, if_pos h13] | rw [if_neg h1, if_neg h13]) hS
    · skip
      refine lv_aload_n hx hb dX7_told_16 rfl (lv_at hl 0 rfl) ?_
      refine cx_get (own := RX7) (index := 81) (C := RX7) (T := TX7) (N := 22) (k := 9) (ci := 7) (v := .int (nI k)) hx hb hts hown hE hS hinX7 0 rfl rfl (by decide) (List.mem_of_getElem? (i := 2) rfl) rfl dX7_told_17 ?_
      refine lv_goto (tgt := 24) hx hb dX7_told_20 (by decide) ?_
      exact RET _ () _ _ _ _ dX7_told_24 rfl (by first | rw [if_pos h1] | rw [if_neg h1, if_pos h13] | rw [if_neg h1, if_neg h13]) hS
  · skip
    refine lv_aload_n hx hb dX7_told_4 rfl (lv_at hl 0 rfl) ?_
    refine cx_get (own := RX7) (index := 65) (C := RX7) (T := TX7) (N := 22) (k := 0) (ci := 7) (v := .int (nI n)) hx hb hts hown hE hS hinX7 0 rfl rfl (by decide) (List.mem_of_getElem? (i := 1) rfl) rfl dX7_told_5 ?_
    refine lv_goto (tgt := 24) hx hb dX7_told_8 (by decide) ?_
    exact RET _ () _ _ _ _ dX7_told_24 rfl (by first | rw [if_pos h1] | rw [if_neg h1, if_pos h13] | rw [if_neg h1, if_neg h13]) hS
set_option maxHeartbeats 4000000 in
set_option maxRecDepth 100000 in
/-- type(kd, mk, pk, pr) of the reference -/
theorem c_X7_type (l : Launch) (D : va_G) (q : Nat → Nat) (cI cZ : ClassId) (n : Nat) (T : Nat → Nat → Int32) (k : Nat) (M : Nat → Nat → Int32) (Z : Nat → Nat → Int32) (F : Nat → Nat → Int32) (kd : Int32) (mk : Int32) (pk : Int32) (pr : Int32) (hn : n ≤ 20) : cx_Mi l D vwCl [(cI, .int), (cZ, .boolean)] cx_NW yX7_type wsX7_type ({ frames := 1, cells := 0, slots := 0, locals := 22 } : Room) [.ref (q 0), .int kd, .int mk, .int pk, .int pr] (cyW q cI cZ n T k M Z F) (fun (r : Int32) (u : (Nat) × (Nat → Nat → Int32) × (Nat → Nat → Int32)) => (¬ cx_okT kd mk pk pr ∧ r = (-1 : Int32) ∧ u.1 = n ∧ u.2.1 = T ∧ u.2.2 = Z) ∨ (cx_okT kd mk pk pr ∧ ¬ n < 20 ∧ r = (-2 : Int32) ∧ u.1 = n ∧ u.2.1 = T ∧ u.2.2 = Z) ∨ (cx_okT kd mk pk pr ∧ n < 20 ∧ r = nI n ∧ u.1 = n + 1 ∧ u.2.1 = cx_u (cx_u (cx_u (cx_u T 0 (upd (T 0) n kd)) 1 (upd (T 1) n mk)) 2 (upd (T 2) n pk)) 3 (upd (T 3) n pr) ∧ u.2.2 = cx_u Z 3 (fun _ => (0 : Int32)))) (fun u => (cyW q cI cZ u.1 u.2.1 k M u.2.2 F)) := by
  refine cx_Mi.of (cc := cX7_type) (maxL := 5) cx_NW_ok (by decide) rfl (Nat.le_of_ble_eq_true rfl) ?_
  intro p e s m args below meth c Q A ls hx hb hml hown hts hE RET hS hl
  have hl : lv_has ls 5 [(0, .ref (q 0)), (1, .int kd), (2, .int mk), (3, .int pk), (4, .int pr)] := hl
  have hown : s.vm.findClass RX7 = some m.cls := hown
  have hinX7 : ∀ w ∈ u_ws RX7 TX7 22, w ∈ wsX7_type := cx_mem [11, 12, 13, 14, 15, 16, 17, 18, 19, 20, 21, 22, 23, 24, 25, 26, 27, 28, 29, 30, 31, 32] (by decide +kernel)
  refine lv_iload_n hx hb dX7_type_0 rfl (lv_at hl 1 rfl) ?_
  refine lv_iconst (v := (0 : Int32)) hx hb dX7_type_1 (by decide) ?_
  refine lv_iconst (v := nI 3) hx hb dX7_type_2 (by decide) ?_
  refine cx_cSi (As := [.int kd, .int (0 : Int32), .int (nI 3)]) (rest := []) ⟨hx, hb, hml, hown, hts⟩ hE hS (c_X7_in l D [(cI, .int), (cZ, .boolean)] (cyW q cI cZ n T k M Z F) kd (0 : Int32) (nI 3) ) (va_cwS 3 hts gX7_type_X7_in rfl rfl rfl (by decide +kernel) ⟨Nat.le_of_ble_eq_true rfl, Nat.le_of_ble_eq_true rfl⟩) rfl hl.1 rfl (Nat.le_of_ble_eq_true rfl) ⟨Nat.zero_le _, Nat.zero_le _⟩ dX7_type_3 (fun r_3 u_3 H locs hp_3 hS => ?_)
  have hp_3 : r_3 = cx_b ((0 : Int32) ≤ kd ∧ kd ≤ (nI 3)) := hp_3
  subst hp_3
  refine lv_if_eq (tgt := 39) hx hb dX7_type_6 (by decide) (fun h6 => ?_) (fun h6 => ?_)
  · skip
    have g6 := cx_b0 h6
    refine lv_iconst (v := (-1 : Int32)) hx hb dX7_type_39 (by decide) ?_
    exact RET _ (n, T, Z) _ _ _ _ dX7_type_40 rfl (by first | exact Or.inl ⟨fun z => g6 ⟨z.1.1, (cx_le3 _).mpr z.1.2⟩, rfl, rfl, rfl, rfl⟩ | exact Or.inl ⟨fun z => g16 ⟨z.2.1.1, (cx_le15 _).mpr z.2.1.2⟩, rfl, rfl, rfl, rfl⟩ | exact Or.inl ⟨fun z => g25 ⟨z.2.2.1.1, (cx_le3 _).mpr z.2.2.1.2⟩, rfl, rfl, rfl, rfl⟩ | exact Or.inl ⟨fun z => g36 ((cx_pr _).mpr z.2.2.2), rfl, rfl, rfl, rfl⟩) hS
  · skip
    have g6 := cx_b1 h6
    refine lv_iload_n hx hb dX7_type_9 rfl (lv_at hl 2 rfl) ?_
    refine lv_iconst (v := (0 : Int32)) hx hb dX7_type_10 (by decide) ?_
    refine lv_bipush (v := nI 15) hx hb dX7_type_11 (by decide) ?_
    refine cx_cSi (As := [.int mk, .int (0 : Int32), .int (nI 15)]) (rest := []) ⟨hx, hb, hml, hown, hts⟩ hE hS (c_X7_in l D [(cI, .int), (cZ, .boolean)] (cyW q cI cZ n T k M Z F) mk (0 : Int32) (nI 15) ) (va_cwS 3 hts gX7_type_X7_in rfl rfl rfl (by decide +kernel) ⟨Nat.le_of_ble_eq_true rfl, Nat.le_of_ble_eq_true rfl⟩) rfl hl.1 rfl (Nat.le_of_ble_eq_true rfl) ⟨Nat.zero_le _, Nat.zero_le _⟩ dX7_type_13 (fun r_13 u_13 H locs hp_13 hS => ?_)
    have hp_13 : r_13 = cx_b ((0 : Int32) ≤ mk ∧ mk ≤ (nI 15)) := hp_13
    subst hp_13
    refine lv_if_eq (tgt := 39) hx hb dX7_type_16 (by decide) (fun h16 => ?_) (fun h16 => ?_)
    · skip
      have g16 := cx_b0 h16
      refine lv_iconst (v := (-1 : Int32)) hx hb dX7_type_39 (by decide) ?_
      exact RET _ (n, T, Z) _ _ _ _ dX7_type_40 rfl (by first | exact Or.inl ⟨fun z => g6 ⟨z.1.1, (cx_le3 _).mpr z.1.2⟩, rfl, rfl, rfl, rfl⟩ | exact Or.inl ⟨fun z => g16 ⟨z.2.1.1, (cx_le15 _).mpr z.2.1.2⟩, rfl, rfl, rfl, rfl⟩ | exact Or.inl ⟨fun z => g25 ⟨z.2.2.1.1, (cx_le3 _).mpr z.2.2.1.2⟩, rfl, rfl, rfl, rfl⟩ | exact Or.inl ⟨fun z => g36 ((cx_pr _).mpr z.2.2.2), rfl, rfl, rfl, rfl⟩) hS
    · skip
      have g16 := cx_b1 h16
      refine lv_iload_n hx hb dX7_type_19 rfl (lv_at hl 3 rfl) ?_
      refine lv_iconst (v := (0 : Int32)) hx hb dX7_type_20 (by decide) ?_
      refine lv_iconst (v := nI 3) hx hb dX7_type_21 (by decide) ?_
      refine cx_cSi (As := [.int pk, .int (0 : Int32), .int (nI 3)]) (rest := []) ⟨hx, hb, hml, hown, hts⟩ hE hS (c_X7_in l D [(cI, .int), (cZ, .boolean)] (cyW q cI cZ n T k M Z F) pk (0 : Int32) (nI 3) ) (va_cwS 3 hts gX7_type_X7_in rfl rfl rfl (by decide +kernel) ⟨Nat.le_of_ble_eq_true rfl, Nat.le_of_ble_eq_true rfl⟩) rfl hl.1 rfl (Nat.le_of_ble_eq_true rfl) ⟨Nat.zero_le _, Nat.zero_le _⟩ dX7_type_22 (fun r_22 u_22 H locs hp_22 hS => ?_)
      have hp_22 : r_22 = cx_b ((0 : Int32) ≤ pk ∧ pk ≤ (nI 3)) := hp_22
      subst hp_22
      refine lv_if_eq (tgt := 39) hx hb dX7_type_25 (by decide) (fun h25 => ?_) (fun h25 => ?_)
      · skip
        have g25 := cx_b0 h25
        refine lv_iconst (v := (-1 : Int32)) hx hb dX7_type_39 (by decide) ?_
        exact RET _ (n, T, Z) _ _ _ _ dX7_type_40 rfl (by first | exact Or.inl ⟨fun z => g6 ⟨z.1.1, (cx_le3 _).mpr z.1.2⟩, rfl, rfl, rfl, rfl⟩ | exact Or.inl ⟨fun z => g16 ⟨z.2.1.1, (cx_le15 _).mpr z.2.1.2⟩, rfl, rfl, rfl, rfl⟩ | exact Or.inl ⟨fun z => g25 ⟨z.2.2.1.1, (cx_le3 _).mpr z.2.2.1.2⟩, rfl, rfl, rfl, rfl⟩ | exact Or.inl ⟨fun z => g36 ((cx_pr _).mpr z.2.2.2), rfl, rfl, rfl, rfl⟩) hS
      · skip
        have g25 := cx_b1 h25
        refine lv_iload hx hb dX7_type_28 (lv_at hl 4 rfl) ?_
        refine lv_iconst (v := (-1 : Int32)) hx hb dX7_type_30 (by decide) ?_
        refine lv_bipush (v := nI 19) hx hb dX7_type_31 (by decide) ?_
        refine cx_cSi (As := [.int pr, .int (-1 : Int32), .int (nI 19)]) (rest := []) ⟨hx, hb, hml, hown, hts⟩ hE hS (c_X7_in l D [(cI, .int), (cZ, .boolean)] (cyW q cI cZ n T k M Z F) pr (-1 : Int32) (nI 19) ) (va_cwS 3 hts gX7_type_X7_in rfl rfl rfl (by decide +kernel) ⟨Nat.le_of_ble_eq_true rfl, Nat.le_of_ble_eq_true rfl⟩) rfl hl.1 rfl (Nat.le_of_ble_eq_true rfl) ⟨Nat.zero_le _, Nat.zero_le _⟩ dX7_type_33 (fun r_33 u_33 H locs hp_33 hS => ?_)
        have hp_33 : r_33 = cx_b ((-1 : Int32) ≤ pr ∧ pr ≤ (nI 19)) := hp_33
        subst hp_33
        refine lv_if_ne (tgt := 41) hx hb dX7_type_36 (by decide) (fun h36 => ?_) (fun h36 => ?_)
        · skip
          have g36 := cx_b1 h36
          refine lv_aload_n hx hb dX7_type_41 rfl (lv_at hl 0 rfl) ?_
          refine cx_get (own := RX7) (index := 65) (C := RX7) (T := TX7) (N := 22) (k := 0) (ci := 7) (v := .int (nI n)) hx hb hts hown hE hS hinX7 0 rfl rfl (by decide) (List.mem_of_getElem? (i := 1) rfl) rfl dX7_type_42 ?_
          refine lv_bipush (v := nI 20) hx hb dX7_type_45 (by decide) ?_
          refine lv_icmp_ne (tgt := 53) hx hb dX7_type_47 (by decide) (fun h47 => ?_) (fun h47 => ?_)
          · skip
            have g47 : ¬ (n = 20) := fun z => h47 ((nI_eq (by omega) (by omega)).mpr z)
            refine lv_aload_n hx hb dX7_type_53 rfl (lv_at hl 0 rfl) ?_
            refine cx_get (own := RX7) (index := 7) (C := RX7) (T := TX7) (N := 22) (k := 1) (ci := 7) (v := .ref (q 1)) hx hb hts hown hE hS hinX7 0 rfl rfl (by decide) (List.mem_of_getElem? (i := 2) rfl) rfl dX7_type_54 ?_
            refine lv_aload_n hx hb dX7_type_57 rfl (lv_at hl 0 rfl) ?_
            refine cx_get (own := RX7) (index := 65) (C := RX7) (T := TX7) (N := 22) (k := 0) (ci := 7) (v := .int (nI n)) hx hb hts hown hE hS hinX7 0 rfl rfl (by decide) (List.mem_of_getElem? (i := 1) rfl) rfl dX7_type_58 ?_
            refine lv_iload_n hx hb dX7_type_61 rfl (lv_at hl 1 rfl) ?_
            refine cx_iast (f := (T 0)) (n := 20) (cA := cI) (ws' := (cyW q cI cZ n (cx_u T 0 (upd (T 0) n kd)) k M Z F)) hx hb hE hS 1 0 rfl rfl (by omega) (by decide) rfl dX7_type_62 (fun H locs hS => ?_)
            refine lv_aload_n hx hb dX7_type_63 rfl (lv_at hl 0 rfl) ?_
            refine cx_get (own := RX7) (index := 13) (C := RX7) (T := TX7) (N := 22) (k := 2) (ci := 7) (v := .ref (q 2)) hx hb hts hown hE hS hinX7 0 rfl rfl (by decide) (List.mem_of_getElem? (i := 3) rfl) rfl dX7_type_64 ?_
            refine lv_aload_n hx hb dX7_type_67 rfl (lv_at hl 0 rfl) ?_
            refine cx_get (own := RX7) (index := 65) (C := RX7) (T := TX7) (N := 22) (k := 0) (ci := 7) (v := .int (nI n)) hx hb hts hown hE hS hinX7 0 rfl rfl (by decide) (List.mem_of_getElem? (i := 1) rfl) rfl dX7_type_68 ?_
            refine lv_iload_n hx hb dX7_type_71 rfl (lv_at hl 2 rfl) ?_
            refine cx_iast (f := (T 1)) (n := 20) (cA := cI) (ws' := (cyW q cI cZ n (cx_u (cx_u T 0 (upd (T 0) n kd)) 1 (upd (T 1) n mk)) k M Z F)) hx hb hE hS 2 0 rfl rfl (by omega) (by decide) rfl dX7_type_72 (fun H locs hS => ?_)
            refine lv_aload_n hx hb dX7_type_73 rfl (lv_at hl 0 rfl) ?_
            refine cx_get (own := RX7) (index := 16) (C := RX7) (T := TX7) (N := 22) (k := 3) (ci := 7) (v := .ref (q 3)) hx hb hts hown hE hS hinX7 0 rfl rfl (by decide) (List.mem_of_getElem? (i := 4) rfl) rfl dX7_type_74 ?_
            refine lv_aload_n hx hb dX7_type_77 rfl (lv_at hl 0 rfl) ?_
            refine cx_get (own := RX7) (index := 65) (C := RX7) (T := TX7) (N := 22) (k := 0) (ci := 7) (v := .int (nI n)) hx hb hts hown hE hS hinX7 0 rfl rfl (by decide) (List.mem_of_getElem? (i := 1) rfl) rfl dX7_type_78 ?_
            refine lv_iload_n hx hb dX7_type_81 rfl (lv_at hl 3 rfl) ?_
            refine cx_iast (f := (T 2)) (n := 20) (cA := cI) (ws' := (cyW q cI cZ n (cx_u (cx_u (cx_u T 0 (upd (T 0) n kd)) 1 (upd (T 1) n mk)) 2 (upd (T 2) n pk)) k M Z F)) hx hb hE hS 3 0 rfl rfl (by omega) (by decide) rfl dX7_type_82 (fun H locs hS => ?_)
            refine lv_aload_n hx hb dX7_type_83 rfl (lv_at hl 0 rfl) ?_
            refine cx_get (own := RX7) (index := 19) (C := RX7) (T := TX7) (N := 22) (k := 4) (ci := 7) (v := .ref (q 4)) hx hb hts hown hE hS hinX7 0 rfl rfl (by decide) (List.mem_of_getElem? (i := 5) rfl) rfl dX7_type_84 ?_
            refine lv_aload_n hx hb dX7_type_87 rfl (lv_at hl 0 rfl) ?_
            refine cx_get (own := RX7) (index := 65) (C := RX7) (T := TX7) (N := 22) (k := 0) (ci := 7) (v := .int (nI n)) hx hb hts hown hE hS hinX7 0 rfl rfl (by decide) (List.mem_of_getElem? (i := 1) rfl) rfl dX7_type_88 ?_
            refine lv_iload hx hb dX7_type_91 (lv_at hl 4 rfl) ?_
            refine cx_iast (f := (T 3)) (n := 20) (cA := cI) (ws' := (cyW q cI cZ n (cx_u (cx_u (cx_u (cx_u T 0 (upd (T 0) n kd)) 1 (upd (T 1) n mk)) 2 (upd (T 2) n pk)) 3 (upd (T 3) n pr)) k M Z F)) hx hb hE hS 4 0 rfl rfl (by omega) (by decide) rfl dX7_type_93 (fun H locs hS => ?_)
            refine lv_aload_n hx hb dX7_type_94 rfl (lv_at hl 0 rfl) ?_
            refine lv_dup hx hb dX7_type_95 rfl ?_
            refine cx_get (own := RX7) (index := 65) (C := RX7) (T := TX7) (N := 22) (k := 0) (ci := 7) (v := .int (nI n)) hx hb hts hown hE hS hinX7 0 rfl rfl (by decide) (List.mem_of_getElem? (i := 1) rfl) rfl dX7_type_96 ?_
            refine lv_iconst (v := (1 : Int32)) hx hb dX7_type_99 (by decide) ?_
            refine lv_iadd hx hb dX7_type_100 ?_
            refine cx_topr (z := nI (n + 1)) (nI_1 _) ?_
            refine cx_put (own := RX7) (index := 65) (C := RX7) (T := TX7) (N := 22) (k := 0) (ci := 7) (v := .int (nI (n + 1))) (ty := .int) (ws' := (cyW q cI cZ (n + 1) (cx_u (cx_u (cx_u (cx_u T 0 (upd (T 0) n kd)) 1 (upd (T 1) n mk)) 2 (upd (T 2) n pk)) 3 (upd (T 3) n pr)) k M Z F)) hx hb hts hown hE hS hinX7 tyX7 tyX7_ok nmX7 0 rfl rfl (by decide) (List.mem_of_getElem? (i := 1) rfl) rfl (by decide +kernel) rfl rfl (Nat.le_of_ble_eq_true rfl) rfl dX7_type_101 (fun H locs hS => ?_)
            refine lv_aload_n hx hb dX7_type_104 rfl (lv_at hl 0 rfl) ?_
            refine lv_iconst (v := (0 : Int32)) hx hb dX7_type_105 (by decide) ?_
            refine cx_put (own := RX7) (index := 73) (C := RX7) (T := TX7) (N := 22) (k := 17) (ci := 7) (v := .int (0 : Int32)) (ty := .boolean) (ws' := (cyW q cI cZ (n + 1) (cx_u (cx_u (cx_u (cx_u T 0 (upd (T 0) n kd)) 1 (upd (T 1) n mk)) 2 (upd (T 2) n pk)) 3 (upd (T 3) n pr)) k M (cx_u Z 3 (fun _ => (0 : Int32))) F)) hx hb hts hown hE hS hinX7 tyX7 tyX7_ok nmX7 0 rfl rfl (by decide) (List.mem_of_getElem? (i := 6) rfl) rfl (by decide +kernel) rfl rfl (Nat.le_of_ble_eq_true rfl) rfl dX7_type_106 (fun H locs hS => ?_)
            refine lv_aload_n hx hb dX7_type_109 rfl (lv_at hl 0 rfl) ?_
            refine cx_get (own := RX7) (index := 65) (C := RX7) (T := TX7) (N := 22) (k := 0) (ci := 7) (v := .int (nI (n + 1))) hx hb hts hown hE hS hinX7 0 rfl rfl (by decide) (List.mem_of_getElem? (i := 1) rfl) rfl dX7_type_110 ?_
            refine lv_iconst (v := (1 : Int32)) hx hb dX7_type_113 (by decide) ?_
            refine lv_isub hx hb dX7_type_114 ?_
            refine cx_topr (z := nI n) (nI_pred n) ?_
            exact RET _ (n + 1, cx_u (cx_u (cx_u (cx_u T 0 (upd (T 0) n kd)) 1 (upd (T 1) n mk)) 2 (upd (T 2) n pk)) 3 (upd (T 3) n pr), cx_u Z 3 (fun _ => (0 : Int32))) _ _ _ _ dX7_type_115 rfl (Or.inr (Or.inr ⟨⟨⟨g6.1, (cx_le3 _).mp g6.2⟩, ⟨g16.1, (cx_le15 _).mp g16.2⟩, ⟨g25.1, (cx_le3 _).mp g25.2⟩, (cx_pr _).mp g36⟩, by omega, rfl, rfl, rfl, rfl⟩)) hS
          · skip
            have g47 : n = 20 := (nI_eq (by omega) (by omega)).mp h47
            refine lv_bipush (v := (-2 : Int32)) hx hb dX7_type_50 (by decide) ?_
            exact RET _ (n, T, Z) _ _ _ _ dX7_type_52 rfl (Or.inr (Or.inl ⟨⟨⟨g6.1, (cx_le3 _).mp g6.2⟩, ⟨g16.1, (cx_le15 _).mp g16.2⟩, ⟨g25.1, (cx_le3 _).mp g25.2⟩, (cx_pr _).mp g36⟩, by omega, rfl, rfl, rfl, rfl⟩)) hS
        · skip
          have g36 := cx_b0 h36
          refine lv_iconst (v := (-1 : Int32)) hx hb dX7_type_39 (by decide) ?_
          exact RET _ (n, T, Z) _ _ _ _ dX7_type_40 rfl (by first | exact Or.inl ⟨fun z => g6 ⟨z.1.1, (cx_le3 _).mpr z.1.2⟩, rfl, rfl, rfl, rfl⟩ | exact Or.inl ⟨fun z => g16 ⟨z.2.1.1, (cx_le15 _).mpr z.2.1.2⟩, rfl, rfl, rfl, rfl⟩ | exact Or.inl ⟨fun z => g25 ⟨z.2.2.1.1, (cx_le3 _).mpr z.2.2.1.2⟩, rfl, rfl, rfl, rfl⟩ | exact Or.inl ⟨fun z => g36 ((cx_pr _).mpr z.2.2.2), rfl, rfl, rfl, rfl⟩) hS
