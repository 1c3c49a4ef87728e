set_option maxHeartbeats 4000000 in
set_option maxRecDepth 100000 in
/-- upper() where nothing is told -/
theorem c_X6_upper_at_0 (l : Launch) (D : va_G) (q : Nat → Nat) (cI cJ : ClassId) (n : Nat) (T : Nat → Nat → Int32) (k : Nat) (M : Nat → Nat → Int32) (C : Nat → Nat → Int32) (J : Nat → Nat → Int32) (g : Nat → Int64) (a : Int32) (b : Int32) (hn0 : n = 0) : cx_Mi l D vwCl [(cI, .int), (cJ, .long)] cx_NW yX6_upper wsX6_upper ({ frames := 1, cells := 0, slots := 0, locals := 21 } : Room) [.ref (q 0), .int a, .int b] (cxW q cI cJ n T k M C J g) (fun (r : Int32) (u : Unit) => r = (-1 : Int32)) (fun _ => (cxW q cI cJ n T k M C J g)) := by
  refine cx_Mi.of (cc := cX6_upper) (maxL := 3) cx_NW_ok (by decide) rfl (Nat.le_of_ble_eq_true rfl) ?_
  intro p e s m args below meth c Q A ls hx hb hml hown hts hE RET hS hl
  have hl : lv_has ls 3 [(0, .ref (q 0)), (1, .int a), (2, .int b)] := hl
  have hown : s.vm.findClass RX6 = some m.cls := hown
  have hinX5 : ∀ w ∈ u_ws RX5 TX5 12, w ∈ wsX6_upper := cx_mem [49, 50, 51, 52, 53, 54, 55, 56, 57, 58, 59, 60] (by decide +kernel)
  have hinX6 : ∀ w ∈ u_ws RX6 TX6 4, w ∈ wsX6_upper := cx_mem [45, 46, 47, 48] (by decide +kernel)
  refine lv_aload_n hx hb dX6_upper_0 rfl (lv_at hl 0 rfl) ?_
  refine cx_get (own := RX6) (index := 12) (C := RX6) (T := TX6) (N := 4) (k := 0) (ci := 6) (v := .ref (q 1)) hx hb hts hown hE hS hinX6 0 rfl rfl (by decide) (List.mem_of_getElem? (i := 1) rfl) rfl dX6_upper_1 ?_
  refine lv_iload_n hx hb dX6_upper_4 rfl (lv_at hl 1 rfl) ?_
  refine cx_cVi (As := [.int a]) (rest := []) ⟨hx, hb, hml, hown, hts⟩ hE hS (c_X5_there l D q cI cJ n T k M C J g a ) (cwV 1 hts gX6_upper_X5_there rfl rfl rfl (by decide +kernel) ⟨Nat.le_of_ble_eq_true rfl, Nat.le_of_ble_eq_true rfl⟩) 1 5 rfl rfl rfl hl.1 rfl (Nat.le_of_ble_eq_true rfl) ⟨Nat.zero_le _, Nat.zero_le _⟩ dX6_upper_5 (fun r_5 u_5 H locs hp_5 hS => ?_)
  have hp_5 : r_5 = cx_b (0 ≤ a ∧ a < nI n) := hp_5
  subst hp_5
  refine lv_if_eq (tgt := 20) hx hb dX6_upper_8 (by decide) (fun h8 => ?_) (fun h8 => ?_)
  · skip
    have g8 := cx_b0 h8
    refine lv_iconst (v := (-1 : Int32)) hx hb dX6_upper_20 (by decide) ?_
    exact RET _ () _ _ _ _ dX6_upper_21 rfl rfl hS
  · skip
    have g8 := cx_b1 h8
    exact (cx_no0 hn0 g8).elim
set_option maxHeartbeats 4000000 in
set_option maxRecDepth 100000 in
/-- permit() where nothing is told -/
theorem c_X6_permit_at_0 (l : Launch) (D : va_G) (q : Nat → Nat) (cI cJ : ClassId) (n : Nat) (T : Nat → Nat → Int32) (k : Nat) (M : Nat → Nat → Int32) (C : Nat → Nat → Int32) (J : Nat → Nat → Int32) (g : Nat → Int64) (a : Int32) (b : Int32) (hn0 : n = 0) : cx_Mi l D vwCl [(cI, .int), (cJ, .long)] cx_NW yX6_permit wsX6_permit ({ frames := 1, cells := 0, slots := 0, locals := 21 } : Room) [.ref (q 0), .int a, .int b] (cxW q cI cJ n T k M C J g) (fun (r : Int32) (u : Unit) => r = (-1 : Int32)) (fun _ => (cxW q cI cJ n T k M C J g)) := by
  refine cx_Mi.of (cc := cX6_permit) (maxL := 3) cx_NW_ok (by decide) rfl (Nat.le_of_ble_eq_true rfl) ?_
  intro p e s m args below meth c Q A ls hx hb hml hown hts hE RET hS hl
  have hl : lv_has ls 3 [(0, .ref (q 0)), (1, .int a), (2, .int b)] := hl
  have hown : s.vm.findClass RX6 = some m.cls := hown
  have hinX5 : ∀ w ∈ u_ws RX5 TX5 12, w ∈ wsX6_permit := cx_mem [32, 33, 34, 35, 36, 37, 38, 39, 40, 41, 42, 43] (by decide +kernel)
  have hinX6 : ∀ w ∈ u_ws RX6 TX6 4, w ∈ wsX6_permit := cx_mem [28, 29, 30, 31] (by decide +kernel)
  refine lv_aload_n hx hb dX6_permit_0 rfl (lv_at hl 0 rfl) ?_
  refine cx_get (own := RX6) (index := 12) (C := RX6) (T := TX6) (N := 4) (k := 0) (ci := 6) (v := .ref (q 1)) hx hb hts hown hE hS hinX6 0 rfl rfl (by decide) (List.mem_of_getElem? (i := 1) rfl) rfl dX6_permit_1 ?_
  refine lv_iload_n hx hb dX6_permit_4 rfl (lv_at hl 1 rfl) ?_
  refine cx_cVi (As := [.int a]) (rest := []) ⟨hx, hb, hml, hown, hts⟩ hE hS (c_X5_there l D q cI cJ n T k M C J g a ) (cwV 1 hts gX6_permit_X5_there rfl rfl rfl (by decide +kernel) ⟨Nat.le_of_ble_eq_true rfl, Nat.le_of_ble_eq_true rfl⟩) 1 5 rfl rfl rfl hl.1 rfl (Nat.le_of_ble_eq_true rfl) ⟨Nat.zero_le _, Nat.zero_le _⟩ dX6_permit_5 (fun r_5 u_5 H locs hp_5 hS => ?_)
  have hp_5 : r_5 = cx_b (0 ≤ a ∧ a < nI n) := hp_5
  subst hp_5
  refine lv_if_eq (tgt := 20) hx hb dX6_permit_8 (by decide) (fun h8 => ?_) (fun h8 => ?_)
  · skip
    have g8 := cx_b0 h8
    refine lv_iconst (v := (-1 : Int32)) hx hb dX6_permit_20 (by decide) ?_
    exact RET _ () _ _ _ _ dX6_permit_21 rfl rfl hS
  · skip
    have g8 := cx_b1 h8
    exact (cx_no0 hn0 g8).elim
set_option maxHeartbeats 4000000 in
set_option maxRecDepth 100000 in
/-- member() where nothing is told -/
theorem c_X6_member_at_0 (l : Launch) (D : va_G) (q : Nat → Nat) (cI cJ : ClassId) (n : Nat) (T : Nat → Nat → Int32) (k : Nat) (M : Nat → Nat → Int32) (C : Nat → Nat → Int32) (J : Nat → Nat → Int32) (g : Nat → Int64) (a : Int32) (b : Int32) (d : Int32) (e2 : Int32) (f2 : Int32) (h2 : Int32) (hn0 : n = 0) : cx_Mi l D vwCl [(cI, .int), (cJ, .long)] cx_NW yX6_member wsX6_member ({ frames := 1, cells := 0, slots := 0, locals := 21 } : Room) [.ref (q 0), .int a, .int b, .int d, .int e2, .int f2, .int h2] (cxW q cI cJ n T k M C J g) (fun (r : Int32) (u : Unit) => r = (-1 : Int32)) (fun _ => (cxW q cI cJ n T k M C J g)) := by
  refine cx_Mi.of (cc := cX6_member) (maxL := 7) cx_NW_ok (by decide) rfl (Nat.le_of_ble_eq_true rfl) ?_
  intro p e s m args below meth c Q A ls hx hb hml hown hts hE RET hS hl
  have hl : lv_has ls 7 [(0, .ref (q 0)), (1, .int a), (2, .int b), (3, .int d), (4, .int e2), (5, .int f2), (6, .int h2)] := hl
  have hown : s.vm.findClass RX6 = some m.cls := hown
  have hinX3 : ∀ w ∈ u_ws RX3 TX3 8, w ∈ wsX6_member := cx_mem [37, 38, 39, 40, 41, 42, 43, 44] (by decide +kernel)
  have hinX6 : ∀ w ∈ u_ws RX6 TX6 4, w ∈ wsX6_member := cx_mem [33, 34, 35, 36] (by decide +kernel)
  refine lv_aload_n hx hb dX6_member_0 rfl (lv_at hl 0 rfl) ?_
  refine cx_get (own := RX6) (index := 12) (C := RX6) (T := TX6) (N := 4) (k := 0) (ci := 6) (v := .ref (q 1)) hx hb hts hown hE hS hinX6 0 rfl rfl (by decide) (List.mem_of_getElem? (i := 1) rfl) rfl dX6_member_1 ?_
  refine lv_iload_n hx hb dX6_member_4 rfl (lv_at hl 1 rfl) ?_
  refine cx_cVi (As := [.int a]) (rest := []) ⟨hx, hb, hml, hown, hts⟩ hE hS (c_X5_there l D q cI cJ n T k M C J g a ) (cwV 1 hts gX6_member_X5_there rfl rfl rfl (by decide +kernel) ⟨Nat.le_of_ble_eq_true rfl, Nat.le_of_ble_eq_true rfl⟩) 1 5 rfl rfl rfl hl.1 rfl (Nat.le_of_ble_eq_true rfl) ⟨Nat.zero_le _, Nat.zero_le _⟩ dX6_member_5 (fun r_5 u_5 H locs hp_5 hS => ?_)
  have hp_5 : r_5 = cx_b (0 ≤ a ∧ a < nI n) := hp_5
  subst hp_5
  refine lv_if_eq (tgt := 28) hx hb dX6_member_8 (by decide) (fun h8 => ?_) (fun h8 => ?_)
  · skip
    have g8 := cx_b0 h8
    refine lv_iconst (v := (-1 : Int32)) hx hb dX6_member_28 (by decide) ?_
    exact RET _ () _ _ _ _ dX6_member_29 rfl rfl hS
  · skip
    have g8 := cx_b1 h8
    exact (cx_no0 hn0 g8).elim
set_option maxHeartbeats 4000000 in
set_option maxRecDepth 100000 in
/-- faults() where nothing is told -/
theorem c_X6_faults_at_0 (l : Launch) (D : va_G) (q : Nat → Nat) (cI cJ : ClassId) (n : Nat) (T : Nat → Nat → Int32) (k : Nat) (M : Nat → Nat → Int32) (C : Nat → Nat → Int32) (J : Nat → Nat → Int32) (g : Nat → Int64) (a : Int32) (hn0 : n = 0) : cx_Mi l D vwCl [(cI, .int), (cJ, .long)] cx_NW yX6_faults wsX6_faults ({ frames := 1, cells := 0, slots := 0, locals := 21 } : Room) [.ref (q 0), .int a] (cxW q cI cJ n T k M C J g) (fun (r : Int32) (u : Unit) => r = (-1 : Int32)) (fun _ => (cxW q cI cJ n T k M C J g)) := by
  refine cx_Mi.of (cc := cX6_faults) (maxL := 2) cx_NW_ok (by decide) rfl (Nat.le_of_ble_eq_true rfl) ?_
  intro p e s m args below meth c Q A ls hx hb hml hown hts hE RET hS hl
  have hl : lv_has ls 2 [(0, .ref (q 0)), (1, .int a)] := hl
  have hown : s.vm.findClass RX6 = some m.cls := hown
  have hinX6 : ∀ w ∈ u_ws RX6 TX6 4, w ∈ wsX6_faults := cx_mem [261, 262, 263, 264] (by decide +kernel)
  refine lv_aload_n hx hb dX6_faults_0 rfl (lv_at hl 0 rfl) ?_
  refine cx_get (own := RX6) (index := 12) (C := RX6) (T := TX6) (N := 4) (k := 0) (ci := 6) (v := .ref (q 1)) hx hb hts hown hE hS hinX6 0 rfl rfl (by decide) (List.mem_of_getElem? (i := 1) rfl) rfl dX6_faults_1 ?_
  refine lv_iload_n hx hb dX6_faults_4 rfl (lv_at hl 1 rfl) ?_
  refine cx_cVi (As := [.int a]) (rest := []) ⟨hx, hb, hml, hown, hts⟩ hE hS (c_X5_there l D q cI cJ n T k M C J g a ) (cwV 1 hts gX6_faults_X5_there rfl rfl rfl (by decide +kernel) ⟨Nat.le_of_ble_eq_true rfl, Nat.le_of_ble_eq_true rfl⟩) 1 5 rfl rfl rfl hl.1 rfl (Nat.le_of_ble_eq_true rfl) ⟨Nat.zero_le _, Nat.zero_le _⟩ dX6_faults_5 (fun r_5 u_5 H locs hp_5 hS => ?_)
  have hp_5 : r_5 = cx_b (0 ≤ a ∧ a < nI n) := hp_5
  subst hp_5
  refine lv_if_eq (tgt := 22) hx hb dX6_faults_8 (by decide) (fun h8 => ?_) (fun h8 => ?_)
  · skip
    have g8 := cx_b0 h8
    refine lv_iconst (v := (-1 : Int32)) hx hb dX6_faults_22 (by decide) ?_
    exact RET _ () _ _ _ _ dX6_faults_23 rfl rfl hS
  · skip
    have g8 := cx_b1 h8
    exact (cx_no0 hn0 g8).elim
set_option maxHeartbeats 4000000 in
set_option maxRecDepth 100000 in
/-- fault() where nothing is told -/
theorem c_X6_fault_at_0 (l : Launch) (D : va_G) (q : Nat → Nat) (cI cJ : ClassId) (n : Nat) (T : Nat → Nat → Int32) (k : Nat) (M : Nat → Nat → Int32) (C : Nat → Nat → Int32) (J : Nat → Nat → Int32) (g : Nat → Int64) (a : Int32) (b : Int32) (d : Int32) (hn0 : n = 0) : cx_Mi l D vwCl [(cI, .int), (cJ, .long)] cx_NW yX6_fault wsX6_fault ({ frames := 1, cells := 0, slots := 0, locals := 21 } : Room) [.ref (q 0), .int a, .int b, .int d] (cxW q cI cJ n T k M C J g) (fun (r : Int32) (u : Unit) => r = (-1 : Int32)) (fun _ => (cxW q cI cJ n T k M C J g)) := by
  refine cx_Mi.of (cc := cX6_fault) (maxL := 4) cx_NW_ok (by decide) rfl (Nat.le_of_ble_eq_true rfl) ?_
  intro p e s m args below meth c Q A ls hx hb hml hown hts hE RET hS hl
  have hl : lv_has ls 4 [(0, .ref (q 0)), (1, .int a), (2, .int b), (3, .int d)] := hl
  have hown : s.vm.findClass RX6 = some m.cls := hown
  have hinX6 : ∀ w ∈ u_ws RX6 TX6 4, w ∈ wsX6_fault := cx_mem [280, 281, 282, 283] (by decide +kernel)
  refine lv_aload_n hx hb dX6_fault_0 rfl (lv_at hl 0 rfl) ?_
  refine cx_get (own := RX6) (index := 12) (C := RX6) (T := TX6) (N := 4) (k := 0) (ci := 6) (v := .ref (q 1)) hx hb hts hown hE hS hinX6 0 rfl rfl (by decide) (List.mem_of_getElem? (i := 1) rfl) rfl dX6_fault_1 ?_
  refine lv_iload_n hx hb dX6_fault_4 rfl (lv_at hl 1 rfl) ?_
  refine cx_cVi (As := [.int a]) (rest := []) ⟨hx, hb, hml, hown, hts⟩ hE hS (c_X5_there l D q cI cJ n T k M C J g a ) (cwV 1 hts gX6_fault_X5_there rfl rfl rfl (by decide +kernel) ⟨Nat.le_of_ble_eq_true rfl, Nat.le_of_ble_eq_true rfl⟩) 1 5 rfl rfl rfl hl.1 rfl (Nat.le_of_ble_eq_true rfl) ⟨Nat.zero_le _, Nat.zero_le _⟩ dX6_fault_5 (fun r_5 u_5 H locs hp_5 hS => ?_)
  have hp_5 : r_5 = cx_b (0 ≤ a ∧ a < nI n) := hp_5
  subst hp_5
  refine lv_if_eq (tgt := 34) hx hb dX6_fault_8 (by decide) (fun h8 => ?_) (fun h8 => ?_)
  · skip
    have g8 := cx_b0 h8
    refine lv_iconst (v := (-1 : Int32)) hx hb dX6_fault_34 (by decide) ?_
    exact RET _ () _ _ _ _ dX6_fault_35 rfl rfl hS
  · skip
    have g8 := cx_b1 h8
    exact (cx_no0 hn0 g8).elim
set_option maxHeartbeats 4000000 in
set_option maxRecDepth 100000 in
/-- is() where nothing is told -/
theorem c_X6_is_at_0 (l : Launch) (D : va_G) (q : Nat → Nat) (cI cJ : ClassId) (n : Nat) (T : Nat → Nat → Int32) (k : Nat) (M : Nat → Nat → Int32) (C : Nat → Nat → Int32) (J : Nat → Nat → Int32) (g : Nat → Int64) (a : Int32) (b : Int32) (hn0 : n = 0) : cx_Mi l D vwCl [(cI, .int), (cJ, .long)] cx_NW yX6_is wsX6_is ({ frames := 1, cells := 0, slots := 0, locals := 21 } : Room) [.ref (q 0), .int a, .int b] (cxW q cI cJ n T k M C J g) (fun (r : Int32) (u : Unit) => r = (-1 : Int32)) (fun _ => (cxW q cI cJ n T k M C J g)) := by
  refine cx_Mi.of (cc := cX6_is) (maxL := 3) cx_NW_ok (by decide) rfl (Nat.le_of_ble_eq_true rfl) ?_
  intro p e s m args below meth c Q A ls hx hb hml hown hts hE RET hS hl
  have hl : lv_has ls 3 [(0, .ref (q 0)), (1, .int a), (2, .int b)] := hl
  have hown : s.vm.findClass RX6 = some m.cls := hown
  have hinX6 : ∀ w ∈ u_ws RX6 TX6 4, w ∈ wsX6_is := cx_mem [13, 14, 15, 16] (by decide +kernel)
  refine lv_aload_n hx hb dX6_is_0 rfl (lv_at hl 0 rfl) ?_
  refine cx_get (own := RX6) (index := 12) (C := RX6) (T := TX6) (N := 4) (k := 0) (ci := 6) (v := .ref (q 1)) hx hb hts hown hE hS hinX6 0 rfl rfl (by decide) (List.mem_of_getElem? (i := 1) rfl) rfl dX6_is_1 ?_
  refine lv_iload_n hx hb dX6_is_4 rfl (lv_at hl 1 rfl) ?_
  refine cx_cVi (As := [.int a]) (rest := []) ⟨hx, hb, hml, hown, hts⟩ hE hS (c_X5_there l D q cI cJ n T k M C J g a ) (cwV 1 hts gX6_is_X5_there rfl rfl rfl (by decide +kernel) ⟨Nat.le_of_ble_eq_true rfl, Nat.le_of_ble_eq_true rfl⟩) 1 5 rfl rfl rfl hl.1 rfl (Nat.le_of_ble_eq_true rfl) ⟨Nat.zero_le _, Nat.zero_le _⟩ dX6_is_5 (fun r_5 u_5 H locs hp_5 hS => ?_)
  have hp_5 : r_5 = cx_b (0 ≤ a ∧ a < nI n) := hp_5
  subst hp_5
  refine lv_if_eq (tgt := 22) hx hb dX6_is_8 (by decide) (fun h8 => ?_) (fun h8 => ?_)
  · skip
    have g8 := cx_b0 h8
    refine lv_iconst (v := (-1 : Int32)) hx hb dX6_is_22 (by decide) ?_
    exact RET _ () _ _ _ _ dX6_is_23 rfl rfl hS
  · skip
    have g8 := cx_b1 h8
    exact (cx_no0 hn0 g8).elim
set_option maxHeartbeats 4000000 in
set_option maxRecDepth 100000 in
/-- runs() where nothing is told -/
theorem c_X6_runs_at_0 (l : Launch) (D : va_G) (q : Nat → Nat) (cI cJ : ClassId) (n : Nat) (T : Nat → Nat → Int32) (k : Nat) (M : Nat → Nat → Int32) (C : Nat → Nat → Int32) (J : Nat → Nat → Int32) (g : Nat → Int64) (a : Int32) (b : Int32) (d : Int32) (hn0 : n = 0) : cx_Mi l D vwCl [(cI, .int), (cJ, .long)] cx_NW yX6_runs wsX6_runs ({ frames := 1, cells := 0, slots := 0, locals := 21 } : Room) [.ref (q 0), .int a, .int b, .int d] (cxW q cI cJ n T k M C J g) (fun (r : Int32) (u : Unit) => r = (-1 : Int32)) (fun _ => (cxW q cI cJ n T k M C J g)) := by
  refine cx_Mi.of (cc := cX6_runs) (maxL := 4) cx_NW_ok (by decide) rfl (Nat.le_of_ble_eq_true rfl) ?_
  intro p e s m args below meth c Q A ls hx hb hml hown hts hE RET hS hl
  have hl : lv_has ls 4 [(0, .ref (q 0)), (1, .int a), (2, .int b), (3, .int d)] := hl
  have hown : s.vm.findClass RX6 = some m.cls := hown
  have hinX6 : ∀ w ∈ u_ws RX6 TX6 4, w ∈ wsX6_runs := cx_mem [284, 285, 286, 287] (by decide +kernel)
  refine lv_aload_n hx hb dX6_runs_0 rfl (lv_at hl 0 rfl) ?_
  refine cx_get (own := RX6) (index := 12) (C := RX6) (T := TX6) (N := 4) (k := 0) (ci := 6) (v := .ref (q 1)) hx hb hts hown hE hS hinX6 0 rfl rfl (by decide) (List.mem_of_getElem? (i := 1) rfl) rfl dX6_runs_1 ?_
  refine lv_iload_n hx hb dX6_runs_4 rfl (lv_at hl 1 rfl) ?_
  refine cx_cVi (As := [.int a]) (rest := []) ⟨hx, hb, hml, hown, hts⟩ hE hS (c_X5_there l D q cI cJ n T k M C J g a ) (cwV 1 hts gX6_runs_X5_there rfl rfl rfl (by decide +kernel) ⟨Nat.le_of_ble_eq_true rfl, Nat.le_of_ble_eq_true rfl⟩) 1 5 rfl rfl rfl hl.1 rfl (Nat.le_of_ble_eq_true rfl) ⟨Nat.zero_le _, Nat.zero_le _⟩ dX6_runs_5 (fun r_5 u_5 H locs hp_5 hS => ?_)
  have hp_5 : r_5 = cx_b (0 ≤ a ∧ a < nI n) := hp_5
  subst hp_5
  refine lv_if_eq (tgt := 28) hx hb dX6_runs_8 (by decide) (fun h8 => ?_) (fun h8 => ?_)
  · skip
    have g8 := cx_b0 h8
    refine lv_iconst (v := (-1 : Int32)) hx hb dX6_runs_28 (by decide) ?_
    exact RET _ () _ _ _ _ dX6_runs_29 rfl rfl hS
  · skip
    have g8 := cx_b1 h8
    exact (cx_no0 hn0 g8).elim
set_option maxHeartbeats 4000000 in
set_option maxRecDepth 100000 in
/-- call() where nothing is told -/
theorem c_X6_call_at_0 (l : Launch) (D : va_G) (q : Nat → Nat) (cI cJ : ClassId) (n : Nat) (T : Nat → Nat → Int32) (k : Nat) (M : Nat → Nat → Int32) (C : Nat → Nat → Int32) (J : Nat → Nat → Int32) (g : Nat → Int64) (a : Int32) (b : Int32) (d : Int32) (e2 : Int32) (hn0 : n = 0) : cx_Mi l D vwCl [(cI, .int), (cJ, .long)] cx_NW yX6_call wsX6_call ({ frames := 1, cells := 0, slots := 0, locals := 21 } : Room) [.ref (q 0), .int a, .int b, .int d, .int e2] (cxW q cI cJ n T k M C J g) (fun (r : Int32) (u : Unit) => r = (-1 : Int32)) (fun _ => (cxW q cI cJ n T k M C J g)) := by
  refine cx_Mi.of (cc := cX6_call) (maxL := 5) cx_NW_ok (by decide) rfl (Nat.le_of_ble_eq_true rfl) ?_
  intro p e s m args below meth c Q A ls hx hb hml hown hts hE RET hS hl
  have hl : lv_has ls 5 [(0, .ref (q 0)), (1, .int a), (2, .int b), (3, .int d), (4, .int e2)] := hl
  have hown : s.vm.findClass RX6 = some m.cls := hown
  have hinX6 : ∀ w ∈ u_ws RX6 TX6 4, w ∈ wsX6_call := cx_mem [312, 313, 314, 315] (by decide +kernel)
  refine lv_aload_n hx hb dX6_call_0 rfl (lv_at hl 0 rfl) ?_
  refine cx_get (own := RX6) (index := 12) (C := RX6) (T := TX6) (N := 4) (k := 0) (ci := 6) (v := .ref (q 1)) hx hb hts hown hE hS hinX6 0 rfl rfl (by decide) (List.mem_of_getElem? (i := 1) rfl) rfl dX6_call_1 ?_
  refine lv_iload_n hx hb dX6_call_4 rfl (lv_at hl 1 rfl) ?_
  refine cx_cVi (As := [.int a]) (rest := []) ⟨hx, hb, hml, hown, hts⟩ hE hS (c_X5_there l D q cI cJ n T k M C J g a ) (cwV 1 hts gX6_call_X5_there rfl rfl rfl (by decide +kernel) ⟨Nat.le_of_ble_eq_true rfl, Nat.le_of_ble_eq_true rfl⟩) 1 5 rfl rfl rfl hl.1 rfl (Nat.le_of_ble_eq_true rfl) ⟨Nat.zero_le _, Nat.zero_le _⟩ dX6_call_5 (fun r_5 u_5 H locs hp_5 hS => ?_)
  have hp_5 : r_5 = cx_b (0 ≤ a ∧ a < nI n) := hp_5
  subst hp_5
  refine lv_if_eq (tgt := 40) hx hb dX6_call_8 (by decide) (fun h8 => ?_) (fun h8 => ?_)
  · skip
    have g8 := cx_b0 h8
    refine lv_iconst (v := (-1 : Int32)) hx hb dX6_call_40 (by decide) ?_
    exact RET _ () _ _ _ _ dX6_call_41 rfl rfl hS
  · skip
    have g8 := cx_b1 h8
    exact (cx_no0 hn0 g8).elim
set_option maxHeartbeats 4000000 in
set_option maxRecDepth 100000 in
/-- all() where nothing is told -/
theorem c_X6_all_at_0 (l : Launch) (D : va_G) (q : Nat → Nat) (cI cJ : ClassId) (n : Nat) (T : Nat → Nat → Int32) (k : Nat) (M : Nat → Nat → Int32) (C : Nat → Nat → Int32) (J : Nat → Nat → Int32) (g : Nat → Int64) (hn0 : n = 0) : cx_Mi l D vwCl [(cI, .int), (cJ, .long)] cx_NW yX6_all wsX6_all ({ frames := 0, cells := 0, slots := 0, locals := 0 } : Room) [.ref (q 0)] (cxW q cI cJ n T k M C J g) (fun (r : Int32) (u : Unit) => r = nI 0) (fun _ => (cxW q cI cJ n T k M C J g)) := by
  refine cx_Mi.of (cc := cX6_all) (maxL := 3) cx_NW_ok (by decide) rfl (Nat.le_of_ble_eq_true rfl) ?_
  intro p e s m args below meth c Q A ls hx hb hml hown hts hE RET hS hl
  have hl : lv_has ls 3 [(0, .ref (q 0))] := hl
  have hown : s.vm.findClass RX6 = some m.cls := hown
  have hinX5 : ∀ w ∈ u_ws RX5 TX5 12, w ∈ wsX6_all := cx_mem [264, 265, 266, 267, 268, 269, 270, 271, 272, 273, 274, 275] (by decide +kernel)
  have hinX6 : ∀ w ∈ u_ws RX6 TX6 4, w ∈ wsX6_all := cx_mem [260, 261, 262, 263] (by decide +kernel)
  refine lv_iconst (v := (0 : Int32)) hx hb dX6_all_0 (by decide) ?_
  refine cx_topr (z := nI 0) cx_n0 ?_
  refine lv_istore_n (lv' := [(1, .int (nI 0)), (0, .ref (q 0))]) hx hb dX6_all_1 rfl hl (by decide) rfl (fun ls hl => ?_)
  refine lv_iconst (v := (0 : Int32)) hx hb dX6_all_2 (by decide) ?_
  refine cx_topr (z := nI 0) cx_n0 ?_
  refine lv_istore_n (lv' := [(2, .int (nI 0)), (1, .int (nI 0)), (0, .ref (q 0))]) hx hb dX6_all_3 rfl hl (by decide) rfl (fun ls hl => ?_)
  refine lv_iload_n hx hb dX6_all_4 rfl (lv_at hl 0 rfl) ?_
  refine lv_aload_n hx hb dX6_all_5 rfl (lv_at hl 2 rfl) ?_
  refine cx_get (own := RX6) (index := 12) (C := RX6) (T := TX6) (N := 4) (k := 0) (ci := 6) (v := .ref (q 1)) hx hb hts hown hE hS hinX6 0 rfl rfl (by decide) (List.mem_of_getElem? (i := 1) rfl) rfl dX6_all_6 ?_
  refine cx_getN (own := RX6) (index := 47) (C := RX5) (T := TX5) (N := 12) (k := 11) (ci := 5) (host := "ClassRules") (v := .int (nI n)) hx hb hts hown hE hS hinX5 1 rfl rfl (by decide) (List.mem_of_getElem? (i := 17) rfl) rfl dX6_all_9 ?_
  refine lv_icmp_ge (tgt := 32) hx hb dX6_all_12 (by decide) (fun h12 => ?_) (fun h12 => ?_)
  · skip
    have g12 : n ≤ 0 := (nI_leI (by omega) (by omega)).mp h12
    refine lv_iload_n hx hb dX6_all_32 rfl (lv_at hl 1 rfl) ?_
    exact RET _ () _ _ _ _ dX6_all_33 rfl rfl hS
  · skip
    have g12 : ¬ (n ≤ 0) := fun z => h12 ((nI_leI (by omega) (by omega)).mpr z)
    exact absurd (show nI n ≤ nI 0 from by rw [hn0]; exact Int32.le_refl _) h12
set_option maxHeartbeats 4000000 in
set_option maxRecDepth 100000 in
/-- told(a) -/
theorem c_X6_told (l : Launch) (D : va_G) (q : Nat → Nat) (cI cJ : ClassId) (n : Nat) (T : Nat → Nat → Int32) (k : Nat) (M : Nat → Nat → Int32) (C : Nat → Nat → Int32) (J : Nat → Nat → Int32) (g : Nat → Int64) (a : Int32) : cx_Mi l D vwCl [(cI, .int), (cJ, .long)] cx_NW yX6_told wsX6_told ({ frames := 0, cells := 0, slots := 0, locals := 0 } : Room) [.ref (q 0), .int a] (cxW q cI cJ n T k M C J g) (fun (r : Int32) (u : Unit) => r = (if a = 0 then nI n else if a = 1 then nI k else (-1 : Int32))) (fun _ => (cxW q cI cJ n T k M C J g)) := by
  refine cx_Mi.of (cc := cX6_told) (maxL := 2) cx_NW_ok (by decide) rfl (Nat.le_of_ble_eq_true rfl) ?_
  intro p e s m args below meth c Q A ls hx hb hml hown hts hE RET hS hl
  have hl : lv_has ls 2 [(0, .ref (q 0)), (1, .int a)] := hl
  have hown : s.vm.findClass RX6 = some m.cls := hown
  have hinX3 : ∀ w ∈ u_ws RX3 TX3 8, w ∈ wsX6_told := cx_mem [19, 20, 21, 22, 23, 24, 25, 26] (by decide +kernel)
  have hinX5 : ∀ w ∈ u_ws RX5 TX5 12, w ∈ wsX6_told := cx_mem [7, 8, 9, 10, 11, 12, 13, 14, 15, 16, 17, 18] (by decide +kernel)
  have hinX6 : ∀ w ∈ u_ws RX6 TX6 4, w ∈ wsX6_told := cx_mem [3, 4, 5, 6] (by decide +kernel)
  refine lv_iload_n hx hb dX6_told_0 rfl (lv_at hl 1 rfl) ?_
  refine lv_if_ne (tgt := 12) hx hb dX6_told_1 (by decide) (fun h1 => ?_) (fun h1 => ?_)
  · skip
    refine lv_iload_n hx hb dX6_told_12 rfl (lv_at hl 1 rfl) ?_
    refine lv_iconst (v := (1 : Int32)) hx hb dX6_told_13 (by decide) ?_
    refine lv_icmp_ne (tgt := 27) hx hb dX6_told_14 (by decide) (fun h14 => ?_) (fun h14 => ?_)
    · skip
      refine lv_iconst (v := (-1 : Int32)) hx hb dX6_told_27 (by decide) ?_
      exact RET _ () _ _ _ _ dX6_told_28 rfl (by first | rw [if_neg h1, if_pos h14] | rw [if_neg h1, if_neg h14]) hS
    · skip
      refine lv_aload_n hx hb dX6_told_17 rfl (lv_at hl 0 rfl) ?_
      refine cx_get (own := RX6) (index := 21) (C := RX6) (T := TX6) (N := 4) (k := 1) (ci := 6) (v := .ref (q 2)) hx hb hts hown hE hS hinX6 0 rfl rfl (by decide) (List.mem_of_getElem? (i := 2) rfl) rfl dX6_told_18 ?_
      refine cx_getN (own := RX6) (index := 76) (C := RX3) (T := TX3) (N := 8) (k := 7) (ci := 3) (host := "ClassRules") (v := .int (nI k)) hx hb hts hown hE hS hinX3 2 rfl rfl (by decide) (List.mem_of_getElem? (i := 30) rfl) rfl dX6_told_21 ?_
      refine lv_goto (tgt := 28) hx hb dX6_told_24 (by decide) ?_
      exact RET _ () _ _ _ _ dX6_told_28 rfl (by first | rw [if_neg h1, if_pos h14] | rw [if_neg h1, if_neg h14]) hS
  · skip
    refine lv_aload_n hx hb dX6_told_4 rfl (lv_at hl 0 rfl) ?_
    refine cx_get (own := RX6) (index := 12) (C := RX6) (T := TX6) (N := 4) (k := 0) (ci := 6) (v := .ref (q 1)) hx hb hts hown hE hS hinX6 0 rfl rfl (by decide) (List.mem_of_getElem? (i := 1) rfl) rfl dX6_told_5 ?_
    refine cx_getN (own := RX6) (index := 47) (C := RX5) (T := TX5) (N := 12) (k := 11) (ci := 5) (host := "ClassRules") (v := .int (nI n)) hx hb hts hown hE hS hinX5 1 rfl rfl (by decide) (List.mem_of_getElem? (i := 17) rfl) rfl dX6_told_8 ?_
    exact RET _ () _ _ _ _ dX6_told_11 rfl (by rw [if_pos h1]) hS
set_option maxHeartbeats 4000000 in
set_option maxRecDepth 100000 in
/-- type(kd, mk, pk, pr) -/
theorem c_X6_type (l : Launch) (D : va_G) (q : Nat → Nat) (cI cJ : ClassId) (n : Nat) (T : Nat → Nat → Int32) (k : Nat) (M : Nat → Nat → Int32) (C : Nat → Nat → Int32) (J : Nat → Nat → Int32) (g : Nat → Int64) (kd : Int32) (mk : Int32) (pk : Int32) (pr : Int32) (hn : n ≤ 20) : cx_Mi l D vwCl [(cI, .int), (cJ, .long)] cx_NW yX6_type wsX6_type ({ frames := 4, cells := 0, slots := 0, locals := 87 } : Room) [.ref (q 0), .int kd, .int mk, .int pk, .int pr] (cxW q cI cJ n T k M C J g) (fun (r : Int32) (u : (Nat) × (Nat → Nat → Int32) × (Nat → Nat → Int32)) => (¬ cx_okT kd mk pk pr ∧ r = (-1 : Int32) ∧ u.1 = n ∧ u.2.1 = T) ∨ (cx_okT kd mk pk pr ∧ ¬ n < 20 ∧ r = (-2 : Int32) ∧ u.1 = n ∧ u.2.1 = T) ∨ (cx_okT kd mk pk pr ∧ n < 20 ∧ r = nI n ∧ u.1 = n + 1 ∧ ∃ (f : Nat → Int32) (b : Int32), u.2.1 = cx_u (cx_u (cx_u (cx_u (cx_u (cx_u T 0 (upd (T 0) n kd)) 1 (upd (T 1) n mk)) 2 (upd (T 2) n pk)) 3 (upd (T 3) n pr)) 4 (upd (T 4) n b)) 10 f)) (fun u => (cxW q cI cJ u.1 u.2.1 k M C u.2.2 g)) := by
  refine cx_Mi.of (cc := cX6_type) (maxL := 5) cx_NW_ok (by decide) rfl (Nat.le_of_ble_eq_true rfl) ?_
  intro p e s m args below meth c Q A ls hx hb hml hown hts hE RET hS hl
  have hl : lv_has ls 5 [(0, .ref (q 0)), (1, .int kd), (2, .int mk), (3, .int pk), (4, .int pr)] := hl
  have hown : s.vm.findClass RX6 = some m.cls := hown
  have hinX5 : ∀ w ∈ u_ws RX5 TX5 12, w ∈ wsX6_type := cx_mem [47, 48, 49, 50, 51, 52, 53, 54, 55, 56, 57, 58] (by decide +kernel)
  have hinX6 : ∀ w ∈ u_ws RX6 TX6 4, w ∈ wsX6_type := cx_mem [43, 44, 45, 46] (by decide +kernel)
  refine lv_iload_n hx hb dX6_type_0 rfl (lv_at hl 1 rfl) ?_
  refine lv_iconst (v := nI 4) hx hb dX6_type_1 (by decide) ?_
  refine cx_cSi (As := [.int kd, .int (nI 4)]) (rest := []) ⟨hx, hb, hml, hown, hts⟩ hE hS (c_X6_within l D [(cI, .int), (cJ, .long)] (cxW q cI cJ n T k M C J g) kd (nI 4) ) (va_cwS 2 hts gX6_type_X6_within rfl rfl rfl (by decide +kernel) ⟨Nat.le_of_ble_eq_true rfl, Nat.le_of_ble_eq_true rfl⟩) rfl hl.1 rfl (Nat.le_of_ble_eq_true rfl) ⟨Nat.zero_le _, Nat.zero_le _⟩ dX6_type_2 (fun r_2 u_2 H locs hp_2 hS => ?_)
  have hp_2 : r_2 = cx_b (0 ≤ kd ∧ kd < (nI 4)) := hp_2
  subst hp_2
  refine lv_if_eq (tgt := 25) hx hb dX6_type_5 (by decide) (fun h5 => ?_) (fun h5 => ?_)
  · skip
    have g5 := cx_b0 h5
    refine lv_iconst (v := (-1 : Int32)) hx hb dX6_type_25 (by decide) ?_
    exact RET _ (n, T, J) _ _ _ _ dX6_type_26 rfl (by first | exact Or.inl ⟨fun z => g5 z.1, rfl, rfl, rfl⟩ | exact Or.inl ⟨fun z => g14 z.2.1, rfl, rfl, rfl⟩ | exact Or.inl ⟨fun z => g22 z.2.2.1, rfl, rfl, rfl⟩) hS
  · skip
    have g5 := cx_b1 h5
    refine lv_iload_n hx hb dX6_type_8 rfl (lv_at hl 2 rfl) ?_
    refine lv_bipush (v := nI 16) hx hb dX6_type_9 (by decide) ?_
    refine cx_cSi (As := [.int mk, .int (nI 16)]) (rest := []) ⟨hx, hb, hml, hown, hts⟩ hE hS (c_X6_within l D [(cI, .int), (cJ, .long)] (cxW q cI cJ n T k M C J g) mk (nI 16) ) (va_cwS 2 hts gX6_type_X6_within rfl rfl rfl (by decide +kernel) ⟨Nat.le_of_ble_eq_true rfl, Nat.le_of_ble_eq_true rfl⟩) rfl hl.1 rfl (Nat.le_of_ble_eq_true rfl) ⟨Nat.zero_le _, Nat.zero_le _⟩ dX6_type_11 (fun r_11 u_11 H locs hp_11 hS => ?_)
    have hp_11 : r_11 = cx_b (0 ≤ mk ∧ mk < (nI 16)) := hp_11
    subst hp_11
    refine lv_if_eq (tgt := 25) hx hb dX6_type_14 (by decide) (fun h14 => ?_) (fun h14 => ?_)
    · skip
      have g14 := cx_b0 h14
      refine lv_iconst (v := (-1 : Int32)) hx hb dX6_type_25 (by decide) ?_
      exact RET _ (n, T, J) _ _ _ _ dX6_type_26 rfl (by first | exact Or.inl ⟨fun z => g5 z.1, rfl, rfl, rfl⟩ | exact Or.inl ⟨fun z => g14 z.2.1, rfl, rfl, rfl⟩ | exact Or.inl ⟨fun z => g22 z.2.2.1, rfl, rfl, rfl⟩) hS
    · skip
      have g14 := cx_b1 h14
      refine lv_iload_n hx hb dX6_type_17 rfl (lv_at hl 3 rfl) ?_
      refine lv_iconst (v := nI 4) hx hb dX6_type_18 (by decide) ?_
      refine cx_cSi (As := [.int pk, .int (nI 4)]) (rest := []) ⟨hx, hb, hml, hown, hts⟩ hE hS (c_X6_within l D [(cI, .int), (cJ, .long)] (cxW q cI cJ n T k M C J g) pk (nI 4) ) (va_cwS 2 hts gX6_type_X6_within rfl rfl rfl (by decide +kernel) ⟨Nat.le_of_ble_eq_true rfl, Nat.le_of_ble_eq_true rfl⟩) rfl hl.1 rfl (Nat.le_of_ble_eq_true rfl) ⟨Nat.zero_le _, Nat.zero_le _⟩ dX6_type_19 (fun r_19 u_19 H locs hp_19 hS => ?_)
      have hp_19 : r_19 = cx_b (0 ≤ pk ∧ pk < (nI 4)) := hp_19
      subst hp_19
      refine lv_if_ne (tgt := 27) hx hb dX6_type_22 (by decide) (fun h22 => ?_) (fun h22 => ?_)
      · skip
        have g22 := cx_b1 h22
        refine lv_iload hx hb dX6_type_27 (lv_at hl 4 rfl) ?_
        refine lv_iconst (v := (-1 : Int32)) hx hb dX6_type_29 (by decide) ?_
        refine lv_icmp_eq (tgt := 45) hx hb dX6_type_30 (by decide) (fun h30 => ?_) (fun h30 => ?_)
        · skip
          refine lv_aload_n hx hb dX6_type_45 rfl (lv_at hl 0 rfl) ?_
          refine cx_get (own := RX6) (index := 12) (C := RX6) (T := TX6) (N := 4) (k := 0) (ci := 6) (v := .ref (q 1)) hx hb hts hown hE hS hinX6 0 rfl rfl (by decide) (List.mem_of_getElem? (i := 1) rfl) rfl dX6_type_46 ?_
          refine cx_getN (own := RX6) (index := 47) (C := RX5) (T := TX5) (N := 12) (k := 11) (ci := 5) (host := "ClassRules") (v := .int (nI n)) hx hb hts hown hE hS hinX5 1 rfl rfl (by decide) (List.mem_of_getElem? (i := 17) rfl) rfl dX6_type_49 ?_
          refine lv_bipush (v := nI 20) hx hb dX6_type_52 (by decide) ?_
          refine lv_icmp_lt (tgt := 60) hx hb dX6_type_54 (by decide) (fun h54 => ?_) (fun h54 => ?_)
          · skip
            have g54 : n < 20 := (nI_ltI (by omega) (by omega)).mp h54
            refine lv_aload_n hx hb dX6_type_60 rfl (lv_at hl 0 rfl) ?_
            refine cx_get (own := RX6) (index := 39) (C := RX6) (T := TX6) (N := 4) (k := 3) (ci := 6) (v := .ref (q 4)) hx hb hts hown hE hS hinX6 0 rfl rfl (by decide) (List.mem_of_getElem? (i := 2) rfl) rfl dX6_type_61 ?_
            refine cx_cVv (As := []) (rest := []) ⟨hx, hb, hml, hown, hts⟩ hE hS (c_X1_forget l D q cI cJ n T k M C J g  ) (cwV 0 hts gX6_type_X1_forget rfl rfl rfl (by decide +kernel) ⟨Nat.le_of_ble_eq_true rfl, Nat.le_of_ble_eq_true rfl⟩) 4 1 rfl rfl rfl hl.1 rfl (Nat.le_of_ble_eq_true rfl) ⟨Nat.zero_le _, Nat.zero_le _⟩ dX6_type_64 (fun u_64 H locs hp_64 hS => ?_)
            have hS : cx_S D vwCl A s (cxW q cI cJ n T k M C (cx_u (cx_u J 1 (fun _ => (0 : Int32))) 2 (fun _ => (-1 : Int32))) g) H locs := hS
            refine lv_aload_n hx hb dX6_type_67 rfl (lv_at hl 0 rfl) ?_
            refine cx_get (own := RX6) (index := 12) (C := RX6) (T := TX6) (N := 4) (k := 0) (ci := 6) (v := .ref (q 1)) hx hb hts hown hE hS hinX6 0 rfl rfl (by decide) (List.mem_of_getElem? (i := 1) rfl) rfl dX6_type_68 ?_
            refine lv_iload_n hx hb dX6_type_71 rfl (lv_at hl 1 rfl) ?_
            refine lv_iload_n hx hb dX6_type_72 rfl (lv_at hl 2 rfl) ?_
            refine lv_iload_n hx hb dX6_type_73 rfl (lv_at hl 3 rfl) ?_
            refine lv_iload hx hb dX6_type_74 (lv_at hl 4 rfl) ?_
            refine cx_cVi (As := [.int kd, .int mk, .int pk, .int pr]) (rest := []) ⟨hx, hb, hml, hown, hts⟩ hE hS (c_X5_addType l D q cI cJ n T k M C (cx_u (cx_u J 1 (fun _ => (0 : Int32))) 2 (fun _ => (-1 : Int32))) g kd mk pk pr (by first | assumption | omega)) (cwV 4 hts gX6_type_X5_addType rfl rfl rfl (by decide +kernel) ⟨Nat.le_of_ble_eq_true rfl, Nat.le_of_ble_eq_true rfl⟩) 1 5 rfl rfl rfl hl.1 rfl (Nat.le_of_ble_eq_true rfl) ⟨Nat.zero_le _, Nat.zero_le _⟩ dX6_type_76 (fun r_76 u_76 H locs hp_76 hS => ?_)
            obtain ⟨f_76, b_76⟩ := u_76
            have hS : cx_S D vwCl A s (cxW q cI cJ (n + 1) (cx_u (cx_u (cx_u (cx_u (cx_u (cx_u T 0 (upd (T 0) n kd)) 1 (upd (T 1) n mk)) 2 (upd (T 2) n pk)) 3 (upd (T 3) n pr)) 4 (upd (T 4) n b_76)) 10 f_76) k M C (cx_u (cx_u J 1 (fun _ => (0 : Int32))) 2 (fun _ => (-1 : Int32))) g) H locs := hS
            obtain ⟨hr_76, hp_76⟩ := hp_76
            have hp_76 : True := hp_76
            have hr_76 : r_76 = nI n := hr_76
            subst hr_76
            exact RET _ (n + 1, cx_u (cx_u (cx_u (cx_u (cx_u (cx_u T 0 (upd (T 0) n kd)) 1 (upd (T 1) n mk)) 2 (upd (T 2) n pk)) 3 (upd (T 3) n pr)) 4 (upd (T 4) n b_76)) 10 f_76, cx_u (cx_u J 1 (fun _ => (0 : Int32))) 2 (fun _ => (-1 : Int32))) _ _ _ _ dX6_type_79 rfl (by first | exact Or.inr (Or.inr ⟨⟨g5, g14, g22, Or.inl h30⟩, g54, rfl, rfl, _, _, rfl⟩) | exact Or.inr (Or.inr ⟨⟨g5, g14, g22, Or.inr g40⟩, g54, rfl, rfl, _, _, rfl⟩)) hS
          · skip
            have g54 : ¬ (n < 20) := fun z => h54 ((nI_ltI (by omega) (by omega)).mpr z)
            refine lv_bipush (v := (-2 : Int32)) hx hb dX6_type_57 (by decide) ?_
            exact RET _ (n, T, J) _ _ _ _ dX6_type_59 rfl (by first | exact Or.inr (Or.inl ⟨⟨g5, g14, g22, Or.inl h30⟩, g54, rfl, rfl, rfl⟩) | exact Or.inr (Or.inl ⟨⟨g5, g14, g22, Or.inr g40⟩, g54, rfl, rfl, rfl⟩)) hS
        · skip
          refine lv_iload hx hb dX6_type_33 (lv_at hl 4 rfl) ?_
          refine lv_bipush (v := nI 20) hx hb dX6_type_35 (by decide) ?_
          refine cx_cSi (As := [.int pr, .int (nI 20)]) (rest := []) ⟨hx, hb, hml, hown, hts⟩ hE hS (c_X6_within l D [(cI, .int), (cJ, .long)] (cxW q cI cJ n T k M C J g) pr (nI 20) ) (va_cwS 2 hts gX6_type_X6_within rfl rfl rfl (by decide +kernel) ⟨Nat.le_of_ble_eq_true rfl, Nat.le_of_ble_eq_true rfl⟩) rfl hl.1 rfl (Nat.le_of_ble_eq_true rfl) ⟨Nat.zero_le _, Nat.zero_le _⟩ dX6_type_37 (fun r_37 u_37 H locs hp_37 hS => ?_)
          have hp_37 : r_37 = cx_b (0 ≤ pr ∧ pr < (nI 20)) := hp_37
          subst hp_37
          refine lv_if_ne (tgt := 45) hx hb dX6_type_40 (by decide) (fun h40 => ?_) (fun h40 => ?_)
          · skip
            have g40 := cx_b1 h40
            refine lv_aload_n hx hb dX6_type_45 rfl (lv_at hl 0 rfl) ?_
            refine cx_get (own := RX6) (index := 12) (C := RX6) (T := TX6) (N := 4) (k := 0) (ci := 6) (v := .ref (q 1)) hx hb hts hown hE hS hinX6 0 rfl rfl (by decide) (List.mem_of_getElem? (i := 1) rfl) rfl dX6_type_46 ?_
            refine cx_getN (own := RX6) (index := 47) (C := RX5) (T := TX5) (N := 12) (k := 11) (ci := 5) (host := "ClassRules") (v := .int (nI n)) hx hb hts hown hE hS hinX5 1 rfl rfl (by decide) (List.mem_of_getElem? (i := 17) rfl) rfl dX6_type_49 ?_
            refine lv_bipush (v := nI 20) hx hb dX6_type_52 (by decide) ?_
            refine lv_icmp_lt (tgt := 60) hx hb dX6_type_54 (by decide) (fun h54 => ?_) (fun h54 => ?_)
            · skip
              have g54 : n < 20 := (nI_ltI (by omega) (by omega)).mp h54
              refine lv_aload_n hx hb dX6_type_60 rfl (lv_at hl 0 rfl) ?_
              refine cx_get (own := RX6) (index := 39) (C := RX6) (T := TX6) (N := 4) (k := 3) (ci := 6) (v := .ref (q 4)) hx hb hts hown hE hS hinX6 0 rfl rfl (by decide) (List.mem_of_getElem? (i := 2) rfl) rfl dX6_type_61 ?_
              refine cx_cVv (As := []) (rest := []) ⟨hx, hb, hml, hown, hts⟩ hE hS (c_X1_forget l D q cI cJ n T k M C J g  ) (cwV 0 hts gX6_type_X1_forget rfl rfl rfl (by decide +kernel) ⟨Nat.le_of_ble_eq_true rfl, Nat.le_of_ble_eq_true rfl⟩) 4 1 rfl rfl rfl hl.1 rfl (Nat.le_of_ble_eq_true rfl) ⟨Nat.zero_le _, Nat.zero_le _⟩ dX6_type_64 (fun u_64 H locs hp_64 hS => ?_)
              have hS : cx_S D vwCl A s (cxW q cI cJ n T k M C (cx_u (cx_u J 1 (fun _ => (0 : Int32))) 2 (fun _ => (-1 : Int32))) g) H locs := hS
              refine lv_aload_n hx hb dX6_type_67 rfl (lv_at hl 0 rfl) ?_
              refine cx_get (own := RX6) (index := 12) (C := RX6) (T := TX6) (N := 4) (k := 0) (ci := 6) (v := .ref (q 1)) hx hb hts hown hE hS hinX6 0 rfl rfl (by decide) (List.mem_of_getElem? (i := 1) rfl) rfl dX6_type_68 ?_
              refine lv_iload_n hx hb dX6_type_71 rfl (lv_at hl 1 rfl) ?_
              refine lv_iload_n hx hb dX6_type_72 rfl (lv_at hl 2 rfl) ?_
              refine lv_iload_n hx hb dX6_type_73 rfl (lv_at hl 3 rfl) ?_
              refine lv_iload hx hb dX6_type_74 (lv_at hl 4 rfl) ?_
              refine cx_cVi (As := [.int kd, .int mk, .int pk, .int pr]) (rest := []) ⟨hx, hb, hml, hown, hts⟩ hE hS (c_X5_addType l D q cI cJ n T k M C (cx_u (cx_u J 1 (fun _ => (0 : Int32))) 2 (fun _ => (-1 : Int32))) g kd mk pk pr (by first | assumption | omega)) (cwV 4 hts gX6_type_X5_addType rfl rfl rfl (by decide +kernel) ⟨Nat.le_of_ble_eq_true rfl, Nat.le_of_ble_eq_true rfl⟩) 1 5 rfl rfl rfl hl.1 rfl (Nat.le_of_ble_eq_true rfl) ⟨Nat.zero_le _, Nat.zero_le _⟩ dX6_type_76 (fun r_76 u_76 H locs hp_76 hS => ?_)
              obtain ⟨f_76, b_76⟩ := u_76
              have hS : cx_S D vwCl A s (cxW q cI cJ (n + 1) (cx_u (cx_u (cx_u (cx_u (cx_u (cx_u T 0 (upd (T 0) n kd)) 1 (upd (T 1) n mk)) 2 (upd (T 2) n pk)) 3 (upd (T 3) n pr)) 4 (upd (T 4) n b_76)) 10 f_76) k M C (cx_u (cx_u J 1 (fun _ => (0 : Int32))) 2 (fun _ => (-1 : Int32))) g) H locs := hS
              obtain ⟨hr_76, hp_76⟩ := hp_76
              have hp_76 : True := hp_76
              have hr_76 : r_76 = nI n := hr_76
              subst hr_76
              exact RET _ (n + 1, cx_u (cx_u (cx_u (cx_u (cx_u (cx_u T 0 (upd (T 0) n kd)) 1 (upd (T 1) n mk)) 2 (upd (T 2) n pk)) 3 (upd (T 3) n pr)) 4 (upd (T 4) n b_76)) 10 f_76, cx_u (cx_u J 1 (fun _ => (0 : Int32))) 2 (fun _ => (-1 : Int32))) _ _ _ _ dX6_type_79 rfl (by first | exact Or.inr (Or.inr ⟨⟨g5, g14, g22, Or.inl h30⟩, g54, rfl, rfl, _, _, rfl⟩) | exact Or.inr (Or.inr ⟨⟨g5, g14, g22, Or.inr g40⟩, g54, rfl, rfl, _, _, rfl⟩)) hS
            · skip
              have g54 : ¬ (n < 20) := fun z => h54 ((nI_ltI (by omega) (by omega)).mpr z)
              refine lv_bipush (v := (-2 : Int32)) hx hb dX6_type_57 (by decide) ?_
              exact RET _ (n, T, J) _ _ _ _ dX6_type_59 rfl (by first | exact Or.inr (Or.inl ⟨⟨g5, g14, g22, Or.inl h30⟩, g54, rfl, rfl, rfl⟩) | exact Or.inr (Or.inl ⟨⟨g5, g14, g22, Or.inr g40⟩, g54, rfl, rfl, rfl⟩)) hS
          · skip
            have g40 := cx_b0 h40
            refine lv_iconst (v := (-1 : Int32)) hx hb dX6_type_43 (by decide) ?_
            exact RET _ (n, T, J) _ _ _ _ dX6_type_44 rfl (Or.inl ⟨fun z => z.2.2.2.elim h30 g40, rfl, rfl, rfl⟩) hS
      · skip
        have g22 := cx_b0 h22
        refine lv_iconst (v := (-1 : Int32)) hx hb dX6_type_25 (by decide) ?_
        exact RET _ (n, T, J) _ _ _ _ dX6_type_26 rfl (by first | exact Or.inl ⟨fun z => g5 z.1, rfl, rfl, rfl⟩ | exact Or.inl ⟨fun z => g14 z.2.1, rfl, rfl, rfl⟩ | exact Or.inl ⟨fun z => g22 z.2.2.1, rfl, rfl, rfl⟩) hS
