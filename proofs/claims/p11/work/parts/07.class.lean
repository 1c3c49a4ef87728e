set_option maxHeartbeats 4000000 in
set_option maxRecDepth 100000 in
theorem c_X5_addUpper (l : Launch) (D : va_G) (q : Nat → Nat) (cI cJ : ClassId) (n : Nat) (T : Nat → Nat → Int32) (k : Nat) (M : Nat → Nat → Int32) (d : Nat) (C : Nat → Nat → Int32) (J : Nat → Nat → Int32) (g : Nat → Int64) (t : Nat) (o : Int32) (hn : n ≤ 20) (ht : t < 20) : cx_Mi l D vwCl [(cI, .int), (cJ, .long)] cx_NW yX5_addUpper wsX5_addUpper ({ frames := 3, cells := 0, slots := 0, locals := 62 } : Room) [.ref (q 1), .int (nI t), .int o] (cxW q cI cJ n T k M d C J g) (fun (r : Int32) (uw : (Nat → Int32)) => r = ((T 7) t + 1) ∧ (cx_CL (cx_u (cx_u (cx_u T 6 (upd (T 6) t (((T 6) t) ||| (((T 5) t) &&& ((1 : Int32) <<< (o &&& 31)))))) 5 (upd (T 5) t (((T 5) t) ||| ((1 : Int32) <<< (o &&& 31))))) 7 (upd (T 7) t ((T 7) t + 1))) n uw)) (fun uw => (cxW q cI cJ n (cx_u (cx_u (cx_u (cx_u T 6 (upd (T 6) t (((T 6) t) ||| (((T 5) t) &&& ((1 : Int32) <<< (o &&& 31)))))) 5 (upd (T 5) t (((T 5) t) ||| ((1 : Int32) <<< (o &&& 31))))) 7 (upd (T 7) t ((T 7) t + 1))) 10 uw) k M d C J g)) := by
  refine cx_Mi.of (cc := cX5_addUpper) (maxL := 3) cx_NW_ok (by decide) rfl (Nat.le_of_ble_eq_true rfl) ?_
  intro p e s m args below meth c Q A ls hx hb hml hown hts hE RET hS hl
  have hl : lv_has ls 3 [(0, .ref (q 1)), (1, .int (nI t)), (2, .int o)] := hl
  have hown : s.vm.findClass RX5 = some m.cls := hown
  have hinX5 : ∀ w ∈ u_ws RX5 TX5 12, w ∈ wsX5_addUpper := cx_mem [25, 26, 27, 28, 29, 30, 31, 32, 33, 34, 35, 36] (by decide +kernel)
  refine lv_aload_n hx hb dX5_addUpper_0 rfl (lv_at hl 0 rfl) ?_
  refine cx_get (own := RX5) (index := 30) (C := RX5) (T := TX5) (N := 12) (k := 6) (ci := 5) (v := .ref (q 13)) hx hb hts hown hE hS hinX5 1 rfl rfl (by decide) (List.mem_of_getElem? (i := 1) rfl) rfl dX5_addUpper_1 ?_
  refine lv_iload_n hx hb dX5_addUpper_4 rfl (lv_at hl 1 rfl) ?_
  refine lv_dup2_11 hx hb dX5_addUpper_5 rfl rfl ?_
  refine cx_iald (f := (T 6)) (n := 20) (cA := cI) hx hb hE hS 13 0 rfl rfl (by omega) (by decide) dX5_addUpper_6 ?_
  refine lv_aload_n hx hb dX5_addUpper_7 rfl (lv_at hl 0 rfl) ?_
  refine cx_get (own := RX5) (index := 27) (C := RX5) (T := TX5) (N := 12) (k := 5) (ci := 5) (v := .ref (q 12)) hx hb hts hown hE hS hinX5 1 rfl rfl (by decide) (List.mem_of_getElem? (i := 2) rfl) rfl dX5_addUpper_8 ?_
  refine lv_iload_n hx hb dX5_addUpper_11 rfl (lv_at hl 1 rfl) ?_
  refine cx_iald (f := (T 5)) (n := 20) (cA := cI) hx hb hE hS 12 0 rfl rfl (by omega) (by decide) dX5_addUpper_12 ?_
  refine lv_iload_n hx hb dX5_addUpper_13 rfl (lv_at hl 2 rfl) ?_
  refine cx_cNi (As := [.int o]) (rest := [.int ((T 5) t), .int ((T 6) t), .int (nI t), .ref (q 13)]) ⟨hx, hb, hml, hown, hts⟩ hE hS (c_X6_bit l D [(cI, .int), (cJ, .long)] (cxW q cI cJ n T k M d C J g) o ) ⟨va_cnB (own := RX5) (index := 49) (host := "ClassRules") 1 hts gX5_addUpper_X6_bit_n49 rfl rfl rfl (hE.2.1 _ (List.mem_of_getElem? (i := 33) rfl)) (hts (.initialized RX6) (List.mem_of_getElem? (i := 5) rfl)) (by decide +kernel) ⟨Nat.le_of_ble_eq_true rfl, Nat.le_of_ble_eq_true rfl⟩, hts (.static yX6_bit) (List.mem_of_getElem? (i := 4) rfl), trivial⟩ rfl hl.1 rfl (Nat.le_of_ble_eq_true rfl) ⟨Nat.zero_le _, Nat.zero_le _⟩ dX5_addUpper_14 (fun r_14 u_14 H locs hp_14 hS => ?_)
  have hp_14 : r_14 = ((1 : Int32) <<< (o &&& 31)) := hp_14
  subst hp_14
  refine lv_iand hx hb dX5_addUpper_17 ?_
  refine lv_ior hx hb dX5_addUpper_18 ?_
  refine cx_iast (k := t) (f := (T 6)) (n := 20) (cA := cI) (ws' := (cxW q cI cJ n (cx_u T 6 (upd (T 6) t (((T 6) t) ||| (((T 5) t) &&& (((1 : Int32) <<< (o &&& 31))))))) k M d C J g)) hx hb hE hS 13 0 rfl rfl (by omega) (by decide) rfl dX5_addUpper_19 (fun H locs hS => ?_)
  refine lv_aload_n hx hb dX5_addUpper_20 rfl (lv_at hl 0 rfl) ?_
  refine cx_get (own := RX5) (index := 27) (C := RX5) (T := TX5) (N := 12) (k := 5) (ci := 5) (v := .ref (q 12)) hx hb hts hown hE hS hinX5 1 rfl rfl (by decide) (List.mem_of_getElem? (i := 2) rfl) rfl dX5_addUpper_21 ?_
  refine lv_iload_n hx hb dX5_addUpper_24 rfl (lv_at hl 1 rfl) ?_
  refine lv_dup2_11 hx hb dX5_addUpper_25 rfl rfl ?_
  refine cx_iald (f := (T 5)) (n := 20) (cA := cI) hx hb hE hS 12 0 rfl rfl (by omega) (by decide) dX5_addUpper_26 ?_
  refine lv_iload_n hx hb dX5_addUpper_27 rfl (lv_at hl 2 rfl) ?_
  refine cx_cNi (As := [.int o]) (rest := [.int ((T 5) t), .int (nI t), .ref (q 12)]) ⟨hx, hb, hml, hown, hts⟩ hE hS (c_X6_bit l D [(cI, .int), (cJ, .long)] (cxW q cI cJ n (cx_u T 6 (upd (T 6) t (((T 6) t) ||| (((T 5) t) &&& (((1 : Int32) <<< (o &&& 31))))))) k M d C J g) o ) ⟨va_cnB (own := RX5) (index := 49) (host := "ClassRules") 1 hts gX5_addUpper_X6_bit_n49 rfl rfl rfl (hE.2.1 _ (List.mem_of_getElem? (i := 33) rfl)) (hts (.initialized RX6) (List.mem_of_getElem? (i := 5) rfl)) (by decide +kernel) ⟨Nat.le_of_ble_eq_true rfl, Nat.le_of_ble_eq_true rfl⟩, hts (.static yX6_bit) (List.mem_of_getElem? (i := 4) rfl), trivial⟩ rfl hl.1 rfl (Nat.le_of_ble_eq_true rfl) ⟨Nat.zero_le _, Nat.zero_le _⟩ dX5_addUpper_28 (fun r_28 u_28 H locs hp_28 hS => ?_)
  have hp_28 : r_28 = ((1 : Int32) <<< (o &&& 31)) := hp_28
  subst hp_28
  refine lv_ior hx hb dX5_addUpper_31 ?_
  refine cx_iast (k := t) (f := (T 5)) (n := 20) (cA := cI) (ws' := (cxW q cI cJ n (cx_u (cx_u T 6 (upd (T 6) t (((T 6) t) ||| (((T 5) t) &&& (((1 : Int32) <<< (o &&& 31))))))) 5 (upd (T 5) t (((T 5) t) ||| (((1 : Int32) <<< (o &&& 31)))))) k M d C J g)) hx hb hE hS 12 0 rfl rfl (by omega) (by decide) rfl dX5_addUpper_32 (fun H locs hS => ?_)
  refine lv_aload_n hx hb dX5_addUpper_33 rfl (lv_at hl 0 rfl) ?_
  refine cx_get (own := RX5) (index := 33) (C := RX5) (T := TX5) (N := 12) (k := 7) (ci := 5) (v := .ref (q 14)) hx hb hts hown hE hS hinX5 1 rfl rfl (by decide) (List.mem_of_getElem? (i := 3) rfl) rfl dX5_addUpper_34 ?_
  refine lv_iload_n hx hb dX5_addUpper_37 rfl (lv_at hl 1 rfl) ?_
  refine lv_dup2_11 hx hb dX5_addUpper_38 rfl rfl ?_
  refine cx_iald (f := (T 7)) (n := 20) (cA := cI) hx hb hE hS 14 0 rfl rfl (by omega) (by decide) dX5_addUpper_39 ?_
  refine lv_iconst (v := (1 : Int32)) hx hb dX5_addUpper_40 (by decide) ?_
  refine lv_iadd hx hb dX5_addUpper_41 ?_
  refine cx_iast (k := t) (f := (T 7)) (n := 20) (cA := cI) (ws' := (cxW q cI cJ n (cx_u (cx_u (cx_u T 6 (upd (T 6) t (((T 6) t) ||| (((T 5) t) &&& (((1 : Int32) <<< (o &&& 31))))))) 5 (upd (T 5) t (((T 5) t) ||| (((1 : Int32) <<< (o &&& 31)))))) 7 (upd (T 7) t (((T 7) t) + (1 : Int32)))) k M d C J g)) hx hb hE hS 14 0 rfl rfl (by omega) (by decide) rfl dX5_addUpper_42 (fun H locs hS => ?_)
  refine lv_aload_n hx hb dX5_addUpper_43 rfl (lv_at hl 0 rfl) ?_
  refine cx_cVv (As := []) (rest := []) ⟨hx, hb, hml, hown, hts⟩ hE hS (c_X5_settleAbove l D q cI cJ n (cx_u (cx_u (cx_u T 6 (upd (T 6) t (((T 6) t) ||| (((T 5) t) &&& (((1 : Int32) <<< (o &&& 31))))))) 5 (upd (T 5) t (((T 5) t) ||| (((1 : Int32) <<< (o &&& 31)))))) 7 (upd (T 7) t (((T 7) t) + (1 : Int32)))) k M d C J g  (by first | assumption | omega | rfl)) (cwV 0 hts gX5_addUpper_X5_settleAbove rfl rfl rfl (by decide +kernel) ⟨Nat.le_of_ble_eq_true rfl, Nat.le_of_ble_eq_true rfl⟩) 1 5 rfl rfl rfl hl.1 rfl (Nat.le_of_ble_eq_true rfl) ⟨Nat.zero_le _, Nat.zero_le _⟩ dX5_addUpper_44 (fun u_44 H locs hp_44 hS => ?_)
  obtain ⟨f_44, rfl⟩ : ∃ z, z = u_44 := ⟨_, rfl⟩
  have hS : cx_S D vwCl A s (cxW q cI cJ n (cx_u (cx_u (cx_u (cx_u T 6 (upd (T 6) t (((T 6) t) ||| (((T 5) t) &&& (((1 : Int32) <<< (o &&& 31))))))) 5 (upd (T 5) t (((T 5) t) ||| (((1 : Int32) <<< (o &&& 31)))))) 7 (upd (T 7) t (((T 7) t) + (1 : Int32)))) 10 f_44) k M d C J g) H locs := hS
  have hp_44 : cx_CL (cx_u (cx_u (cx_u T 6 (upd (T 6) t (((T 6) t) ||| (((T 5) t) &&& (((1 : Int32) <<< (o &&& 31))))))) 5 (upd (T 5) t (((T 5) t) ||| (((1 : Int32) <<< (o &&& 31)))))) 7 (upd (T 7) t (((T 7) t) + (1 : Int32)))) n f_44 := hp_44
  refine lv_aload_n hx hb dX5_addUpper_47 rfl (lv_at hl 0 rfl) ?_
  refine cx_get (own := RX5) (index := 33) (C := RX5) (T := TX5) (N := 12) (k := 7) (ci := 5) (v := .ref (q 14)) hx hb hts hown hE hS hinX5 1 rfl rfl (by decide) (List.mem_of_getElem? (i := 3) rfl) rfl dX5_addUpper_48 ?_
  refine lv_iload_n hx hb dX5_addUpper_51 rfl (lv_at hl 1 rfl) ?_
  refine cx_iald (f := (upd (T 7) t (((T 7) t) + (1 : Int32)))) (n := 20) (cA := cI) hx hb hE hS 14 0 rfl rfl (by omega) (by decide) dX5_addUpper_52 ?_
  exact RET _ (f_44) _ _ _ _ dX5_addUpper_53 rfl (⟨by simp [upd], hp_44⟩) hS
set_option maxHeartbeats 4000000 in
set_option maxRecDepth 100000 in
theorem c_X5_addPermitted (l : Launch) (D : va_G) (q : Nat → Nat) (cI cJ : ClassId) (n : Nat) (T : Nat → Nat → Int32) (k : Nat) (M : Nat → Nat → Int32) (d : Nat) (C : Nat → Nat → Int32) (J : Nat → Nat → Int32) (g : Nat → Int64) (t : Nat) (o : Int32) (ht : t < 20) : cx_Mi l D vwCl [(cI, .int), (cJ, .long)] cx_NW yX5_addPermitted wsX5_addPermitted ({ frames := 1, cells := 0, slots := 0, locals := 20 } : Room) [.ref (q 1), .int (nI t), .int o] (cxW q cI cJ n T k M d C J g) (fun (r : Int32) (uw : Unit) => r = ((T 9) t + 1)) (fun _ => (cxW q cI cJ n (cx_u (cx_u T 8 (upd (T 8) t (((T 8) t) ||| ((1 : Int32) <<< (o &&& 31))))) 9 (upd (T 9) t ((T 9) t + 1))) k M d C J g)) := by
  refine cx_Mi.of (cc := cX5_addPermitted) (maxL := 3) cx_NW_ok (by decide) rfl (Nat.le_of_ble_eq_true rfl) ?_
  intro p e s m args below meth c Q A ls hx hb hml hown hts hE RET hS hl
  have hl : lv_has ls 3 [(0, .ref (q 1)), (1, .int (nI t)), (2, .int o)] := hl
  have hown : s.vm.findClass RX5 = some m.cls := hown
  have hinX5 : ∀ w ∈ u_ws RX5 TX5 12, w ∈ wsX5_addPermitted := cx_mem [6, 7, 8, 9, 10, 11, 12, 13, 14, 15, 16, 17] (by decide +kernel)
  refine lv_aload_n hx hb dX5_addPermitted_0 rfl (lv_at hl 0 rfl) ?_
  refine cx_get (own := RX5) (index := 36) (C := RX5) (T := TX5) (N := 12) (k := 8) (ci := 5) (v := .ref (q 15)) hx hb hts hown hE hS hinX5 1 rfl rfl (by decide) (List.mem_of_getElem? (i := 1) rfl) rfl dX5_addPermitted_1 ?_
  refine lv_iload_n hx hb dX5_addPermitted_4 rfl (lv_at hl 1 rfl) ?_
  refine lv_dup2_11 hx hb dX5_addPermitted_5 rfl rfl ?_
  refine cx_iald (f := (T 8)) (n := 20) (cA := cI) hx hb hE hS 15 0 rfl rfl (by omega) (by decide) dX5_addPermitted_6 ?_
  refine lv_iload_n hx hb dX5_addPermitted_7 rfl (lv_at hl 2 rfl) ?_
  refine cx_cNi (As := [.int o]) (rest := [.int ((T 8) t), .int (nI t), .ref (q 15)]) ⟨hx, hb, hml, hown, hts⟩ hE hS (c_X6_bit l D [(cI, .int), (cJ, .long)] (cxW q cI cJ n T k M d C J g) o ) ⟨va_cnB (own := RX5) (index := 49) (host := "ClassRules") 1 hts gX5_addPermitted_X6_bit_n49 rfl rfl rfl (hE.2.1 _ (List.mem_of_getElem? (i := 33) rfl)) (hts (.initialized RX6) (List.mem_of_getElem? (i := 4) rfl)) (by decide +kernel) ⟨Nat.le_of_ble_eq_true rfl, Nat.le_of_ble_eq_true rfl⟩, hts (.static yX6_bit) (List.mem_of_getElem? (i := 3) rfl), trivial⟩ rfl hl.1 rfl (Nat.le_of_ble_eq_true rfl) ⟨Nat.zero_le _, Nat.zero_le _⟩ dX5_addPermitted_8 (fun r_8 u_8 H locs hp_8 hS => ?_)
  have hp_8 : r_8 = ((1 : Int32) <<< (o &&& 31)) := hp_8
  subst hp_8
  refine lv_ior hx hb dX5_addPermitted_11 ?_
  refine cx_iast (k := t) (f := (T 8)) (n := 20) (cA := cI) (ws' := (cxW q cI cJ n (cx_u T 8 (upd (T 8) t (((T 8) t) ||| (((1 : Int32) <<< (o &&& 31)))))) k M d C J g)) hx hb hE hS 15 0 rfl rfl (by omega) (by decide) rfl dX5_addPermitted_12 (fun H locs hS => ?_)
  refine lv_aload_n hx hb dX5_addPermitted_13 rfl (lv_at hl 0 rfl) ?_
  refine cx_get (own := RX5) (index := 39) (C := RX5) (T := TX5) (N := 12) (k := 9) (ci := 5) (v := .ref (q 16)) hx hb hts hown hE hS hinX5 1 rfl rfl (by decide) (List.mem_of_getElem? (i := 2) rfl) rfl dX5_addPermitted_14 ?_
  refine lv_iload_n hx hb dX5_addPermitted_17 rfl (lv_at hl 1 rfl) ?_
  refine lv_dup2_11 hx hb dX5_addPermitted_18 rfl rfl ?_
  refine cx_iald (f := (T 9)) (n := 20) (cA := cI) hx hb hE hS 16 0 rfl rfl (by omega) (by decide) dX5_addPermitted_19 ?_
  refine lv_iconst (v := (1 : Int32)) hx hb dX5_addPermitted_20 (by decide) ?_
  refine lv_iadd hx hb dX5_addPermitted_21 ?_
  refine cx_iast (k := t) (f := (T 9)) (n := 20) (cA := cI) (ws' := (cxW q cI cJ n (cx_u (cx_u T 8 (upd (T 8) t (((T 8) t) ||| (((1 : Int32) <<< (o &&& 31)))))) 9 (upd (T 9) t (((T 9) t) + (1 : Int32)))) k M d C J g)) hx hb hE hS 16 0 rfl rfl (by omega) (by decide) rfl dX5_addPermitted_22 (fun H locs hS => ?_)
  refine lv_aload_n hx hb dX5_addPermitted_23 rfl (lv_at hl 0 rfl) ?_
  refine cx_get (own := RX5) (index := 39) (C := RX5) (T := TX5) (N := 12) (k := 9) (ci := 5) (v := .ref (q 16)) hx hb hts hown hE hS hinX5 1 rfl rfl (by decide) (List.mem_of_getElem? (i := 2) rfl) rfl dX5_addPermitted_24 ?_
  refine lv_iload_n hx hb dX5_addPermitted_27 rfl (lv_at hl 1 rfl) ?_
  refine cx_iald (f := (upd (T 9) t (((T 9) t) + (1 : Int32)))) (n := 20) (cA := cI) hx hb hE hS 16 0 rfl rfl (by omega) (by decide) dX5_addPermitted_28 ?_
  exact RET _ () _ _ _ _ dX5_addPermitted_29 rfl (by simp [upd]) hS
set_option maxHeartbeats 4000000 in
set_option maxRecDepth 100000 in
theorem c_X5_marked (l : Launch) (D : va_G) (q : Nat → Nat) (cI cJ : ClassId) (n : Nat) (T : Nat → Nat → Int32) (k : Nat) (M : Nat → Nat → Int32) (d : Nat) (C : Nat → Nat → Int32) (J : Nat → Nat → Int32) (g : Nat → Int64) (t : Nat) (mk : Int32) (ht : t < 20) : cx_Mi l D vwCl [(cI, .int), (cJ, .long)] cx_NW yX5_marked wsX5_marked ({ frames := 0, cells := 0, slots := 0, locals := 0 } : Room) [.ref (q 1), .int (nI t), .int mk] (cxW q cI cJ n T k M d C J g) (fun (r : Int32) (uw : Unit) => (r = 0 ∨ r = 1) ∧ (¬ r = 0 ↔ cx_mk (T 1) t mk)) (fun _ => (cxW q cI cJ n T k M d C J g)) := by
  refine cx_Mi.of (cc := cX5_marked) (maxL := 3) cx_NW_ok (by decide) rfl (Nat.le_of_ble_eq_true rfl) ?_
  intro p e s m args below meth c Q A ls hx hb hml hown hts hE RET hS hl
  have hl : lv_has ls 3 [(0, .ref (q 1)), (1, .int (nI t)), (2, .int mk)] := hl
  have hown : s.vm.findClass RX5 = some m.cls := hown
  have hinX5 : ∀ w ∈ u_ws RX5 TX5 12, w ∈ wsX5_marked := cx_mem [2, 3, 4, 5, 6, 7, 8, 9, 10, 11, 12, 13] (by decide +kernel)
  refine lv_aload_n hx hb dX5_marked_0 rfl (lv_at hl 0 rfl) ?_
  refine cx_get (own := RX5) (index := 15) (C := RX5) (T := TX5) (N := 12) (k := 1) (ci := 5) (v := .ref (q 8)) hx hb hts hown hE hS hinX5 1 rfl rfl (by decide) (List.mem_of_getElem? (i := 1) rfl) rfl dX5_marked_1 ?_
  refine lv_iload_n hx hb dX5_marked_4 rfl (lv_at hl 1 rfl) ?_
  refine cx_iald (f := (T 1)) (n := 20) (cA := cI) hx hb hE hS 8 0 rfl rfl (by omega) (by decide) dX5_marked_5 ?_
  refine lv_iload_n hx hb dX5_marked_6 rfl (lv_at hl 2 rfl) ?_
  refine lv_iand hx hb dX5_marked_7 ?_
  have J16 : ∀ (v16_s0 : Int32) (H : Heap) (locs : List Loc) (ls : Array Slot), ((v16_s0 = 0 ∨ v16_s0 = 1) ∧ (¬ v16_s0 = 0 ↔ cx_mk (T 1) t mk)) → cx_S D vwCl A s (cxW q cI cJ n T k M d C J g) H locs → lv_has ls 3 [(0, .ref (q 1)), (1, .int (nI t)), (2, .int mk)] → W p l e ({ frames := 0, cells := 0, slots := 0, locals := 0 } : Room) s m args below meth c H locs 0 0 Q (F0 m 16 ls [.int v16_s0]) := by
    intro v16_s0 H locs ls b16 hS hl
    exact RET _ () _ _ _ _ dX5_marked_16 (cx_nb b16.1) (by first | exact b16 | (try clear RET); (try clear hS); (try clear hl); (try clear hE); (try clear hts); (try clear hb); (try clear hx); (try clear hml); (try clear hown); (try clear hinX5); (try clear J16); have y10 : ¬ (1 : Int32) = 0 := (by decide); first | assumption | (grind)) hS
  refine lv_if_eq (tgt := 15) hx hb dX5_marked_8 (by decide) (fun h8 => ?_) (fun h8 => ?_)
  · skip
    refine lv_iconst (v := (0 : Int32)) hx hb dX5_marked_15 (by decide) ?_
    exact J16 (0 : Int32) _ _ _ (cx_e0 (by (try clear RET); (try clear hS); (try clear hl); (try clear hE); (try clear hts); (try clear hb); (try clear hx); (try clear hml); (try clear hown); (try clear hinX5); (try clear J16); have y10 : ¬ (1 : Int32) = 0 := (by decide); first | assumption | (grind))) hS (lv_sub hl [0, 1, 2] rfl)
  · skip
    refine lv_iconst (v := (1 : Int32)) hx hb dX5_marked_11 (by decide) ?_
    refine lv_goto (tgt := 16) hx hb dX5_marked_12 (by decide) ?_
    exact J16 (1 : Int32) _ _ _ (cx_e1 (by (try clear RET); (try clear hS); (try clear hl); (try clear hE); (try clear hts); (try clear hb); (try clear hx); (try clear hml); (try clear hown); (try clear hinX5); (try clear J16); have y10 : ¬ (1 : Int32) = 0 := (by decide); first | assumption | (grind))) hS (lv_sub hl [0, 1, 2] rfl)
set_option maxHeartbeats 4000000 in
set_option maxRecDepth 100000 in
theorem c_X5_parentThere (l : Launch) (D : va_G) (q : Nat → Nat) (cI cJ : ClassId) (n : Nat) (T : Nat → Nat → Int32) (k : Nat) (M : Nat → Nat → Int32) (d : Nat) (C : Nat → Nat → Int32) (J : Nat → Nat → Int32) (g : Nat → Int64) (t : Nat) (hn : n ≤ 20) (ht : t < 20) (hP : cx_P (T 3) 20) : cx_Mi l D vwCl [(cI, .int), (cJ, .long)] cx_NW yX5_parentThere wsX5_parentThere ({ frames := 0, cells := 0, slots := 0, locals := 0 } : Room) [.ref (q 1), .int (nI t)] (cxW q cI cJ n T k M d C J g) (fun (r : Int32) (uw : Unit) => (T 3 t < nI n ∧ r = T 3 t) ∨ (¬ T 3 t < nI n ∧ r = -1)) (fun _ => (cxW q cI cJ n T k M d C J g)) := by
  refine cx_Mi.of (cc := cX5_parentThere) (maxL := 2) cx_NW_ok (by decide) rfl (Nat.le_of_ble_eq_true rfl) ?_
  intro p e s m args below meth c Q A ls hx hb hml hown hts hE RET hS hl
  have hl : lv_has ls 2 [(0, .ref (q 1)), (1, .int (nI t))] := hl
  have hown : s.vm.findClass RX5 = some m.cls := hown
  have hinX5 : ∀ w ∈ u_ws RX5 TX5 12, w ∈ wsX5_parentThere := cx_mem [3, 4, 5, 6, 7, 8, 9, 10, 11, 12, 13, 14] (by decide +kernel)
  refine lv_aload_n hx hb dX5_parentThere_0 rfl (lv_at hl 0 rfl) ?_
  refine cx_get (own := RX5) (index := 21) (C := RX5) (T := TX5) (N := 12) (k := 3) (ci := 5) (v := .ref (q 10)) hx hb hts hown hE hS hinX5 1 rfl rfl (by decide) (List.mem_of_getElem? (i := 1) rfl) rfl dX5_parentThere_1 ?_
  refine lv_iload_n hx hb dX5_parentThere_4 rfl (lv_at hl 1 rfl) ?_
  refine cx_iald (f := (T 3)) (n := 20) (cA := cI) hx hb hE hS 10 0 rfl rfl (by omega) (by decide) dX5_parentThere_5 ?_
  refine lv_aload_n hx hb dX5_parentThere_6 rfl (lv_at hl 0 rfl) ?_
  refine cx_get (own := RX5) (index := 45) (C := RX5) (T := TX5) (N := 12) (k := 11) (ci := 5) (v := .int (nI n)) hx hb hts hown hE hS hinX5 1 rfl rfl (by decide) (List.mem_of_getElem? (i := 2) rfl) rfl dX5_parentThere_7 ?_
  have J23 : ∀ (v23_s0 : Int32) (H : Heap) (locs : List Loc) (ls : Array Slot), ((T 3 t < nI n ∧ v23_s0 = T 3 t) ∨ (¬ T 3 t < nI n ∧ v23_s0 = -1)) → cx_S D vwCl A s (cxW q cI cJ n T k M d C J g) H locs → lv_has ls 2 [(0, .ref (q 1)), (1, .int (nI t))] → W p l e ({ frames := 0, cells := 0, slots := 0, locals := 0 } : Room) s m args below meth c H locs 0 0 Q (F0 m 23 ls [.int v23_s0]) := by
    intro v23_s0 H locs ls hv hS hl
    exact RET _ () _ _ _ _ dX5_parentThere_23 rfl hv hS
  refine lv_icmp_ge (tgt := 22) hx hb dX5_parentThere_10 (by decide) (fun h10 => ?_) (fun h10 => ?_)
  · skip
    refine lv_iconst (v := (-1 : Int32)) hx hb dX5_parentThere_22 (by decide) ?_
    exact J23 (-1 : Int32) _ _ _ (by first | exact Or.inl ⟨Int32.not_le.mp h10, rfl⟩ | exact Or.inr ⟨Int32.not_lt.mpr h10, rfl⟩) hS (lv_sub hl [0, 1] rfl)
  · skip
    refine lv_aload_n hx hb dX5_parentThere_13 rfl (lv_at hl 0 rfl) ?_
    refine cx_get (own := RX5) (index := 21) (C := RX5) (T := TX5) (N := 12) (k := 3) (ci := 5) (v := .ref (q 10)) hx hb hts hown hE hS hinX5 1 rfl rfl (by decide) (List.mem_of_getElem? (i := 1) rfl) rfl dX5_parentThere_14 ?_
    refine lv_iload_n hx hb dX5_parentThere_17 rfl (lv_at hl 1 rfl) ?_
    refine cx_iald (f := (T 3)) (n := 20) (cA := cI) hx hb hE hS 10 0 rfl rfl (by omega) (by decide) dX5_parentThere_18 ?_
    refine lv_goto (tgt := 23) hx hb dX5_parentThere_19 (by decide) ?_
    exact J23 ((T 3) t) _ _ _ (by first | exact Or.inl ⟨Int32.not_le.mp h10, rfl⟩ | exact Or.inr ⟨Int32.not_lt.mpr h10, rfl⟩) hS (lv_sub hl [0, 1] rfl)
set_option maxHeartbeats 4000000 in
set_option maxRecDepth 100000 in
theorem c_X5_stands (l : Launch) (D : va_G) (q : Nat → Nat) (cI cJ : ClassId) (n : Nat) (T : Nat → Nat → Int32) (k : Nat) (M : Nat → Nat → Int32) (d : Nat) (C : Nat → Nat → Int32) (J : Nat → Nat → Int32) (g : Nat → Int64) (t : Nat) (o : Int32) (ht : t < 20) : cx_Mi l D vwCl [(cI, .int), (cJ, .long)] cx_NW yX5_stands wsX5_stands ({ frames := 0, cells := 0, slots := 0, locals := 0 } : Room) [.ref (q 1), .int (nI t), .int o] (cxW q cI cJ n T k M d C J g) (fun (r : Int32) (uw : Unit) => r = cx_b (nI t = o ∨ ¬ ((((T 10) t) >>> (o &&& 31)) &&& (1 : Int32)) = 0)) (fun _ => (cxW q cI cJ n T k M d C J g)) := by
  refine cx_Mi.of (cc := cX5_stands) (maxL := 3) cx_NW_ok (by decide) rfl (Nat.le_of_ble_eq_true rfl) ?_
  intro p e s m args below meth c Q A ls hx hb hml hown hts hE RET hS hl
  have hl : lv_has ls 3 [(0, .ref (q 1)), (1, .int (nI t)), (2, .int o)] := hl
  have hown : s.vm.findClass RX5 = some m.cls := hown
  have hinX5 : ∀ w ∈ u_ws RX5 TX5 12, w ∈ wsX5_stands := cx_mem [2, 3, 4, 5, 6, 7, 8, 9, 10, 11, 12, 13] (by decide +kernel)
  refine lv_iload_n hx hb dX5_stands_0 rfl (lv_at hl 1 rfl) ?_
  refine lv_iload_n hx hb dX5_stands_1 rfl (lv_at hl 2 rfl) ?_
  have J23 : ∀ (v23_s0 : Int32) (H : Heap) (locs : List Loc) (ls : Array Slot), (v23_s0 = cx_b (nI t = o ∨ ¬ ((((T 10) t) >>> (o &&& 31)) &&& (1 : Int32)) = 0)) → cx_S D vwCl A s (cxW q cI cJ n T k M d C J g) H locs → lv_has ls 3 [(0, .ref (q 1)), (1, .int (nI t)), (2, .int o)] → W p l e ({ frames := 0, cells := 0, slots := 0, locals := 0 } : Room) s m args below meth c H locs 0 0 Q (F0 m 23 ls [.int v23_s0]) := by
    intro v23_s0 H locs ls h23 hS hl
    exact RET _ () _ _ _ _ dX5_stands_23 (by rw [h23]; exact cx_bn) h23 hS
  have J18 : ∀ (H : Heap) (locs : List Loc) (ls : Array Slot), ((nI t = o ∨ ¬ ((((T 10) t) >>> (o &&& 31)) &&& (1 : Int32)) = 0)) → cx_S D vwCl A s (cxW q cI cJ n T k M d C J g) H locs → lv_has ls 3 [(0, .ref (q 1)), (1, .int (nI t)), (2, .int o)] → W p l e ({ frames := 0, cells := 0, slots := 0, locals := 0 } : Room) s m args below meth c H locs 0 0 Q (F0 m 18 ls []) := by
    intro  H locs ls h18 hS hl
    refine lv_iconst (v := (1 : Int32)) hx hb dX5_stands_18 (by decide) ?_
    refine lv_goto (tgt := 23) hx hb dX5_stands_19 (by decide) ?_
    exact J23 (1 : Int32) _ _ _ (by first | exact cx_bt h18 | exact cx_bf (fun z => z.elim h2 (fun y => y h15))) hS (lv_sub hl [0, 1, 2] rfl)
  refine lv_icmp_eq (tgt := 18) hx hb dX5_stands_2 (by decide) (fun h2 => ?_) (fun h2 => ?_)
  · skip
    exact J18  _ _ _ (by first | exact Or.inl h2 | exact Or.inr h15) hS (lv_sub hl [0, 1, 2] rfl)
  · skip
    refine lv_aload_n hx hb dX5_stands_5 rfl (lv_at hl 0 rfl) ?_
    refine cx_get (own := RX5) (index := 42) (C := RX5) (T := TX5) (N := 12) (k := 10) (ci := 5) (v := .ref (q 17)) hx hb hts hown hE hS hinX5 1 rfl rfl (by decide) (List.mem_of_getElem? (i := 1) rfl) rfl dX5_stands_6 ?_
    refine lv_iload_n hx hb dX5_stands_9 rfl (lv_at hl 1 rfl) ?_
    refine cx_iald (f := (T 10)) (n := 20) (cA := cI) hx hb hE hS 17 0 rfl rfl (by omega) (by decide) dX5_stands_10 ?_
    refine lv_iload_n hx hb dX5_stands_11 rfl (lv_at hl 2 rfl) ?_
    refine lv_ishr hx hb dX5_stands_12 ?_
    refine lv_iconst (v := (1 : Int32)) hx hb dX5_stands_13 (by decide) ?_
    refine lv_iand hx hb dX5_stands_14 ?_
    refine lv_if_eq (tgt := 22) hx hb dX5_stands_15 (by decide) (fun h15 => ?_) (fun h15 => ?_)
    · skip
      refine lv_iconst (v := (0 : Int32)) hx hb dX5_stands_22 (by decide) ?_
      exact J23 (0 : Int32) _ _ _ (by first | exact cx_bt h18 | exact cx_bf (fun z => z.elim h2 (fun y => y h15))) hS (lv_sub hl [0, 1, 2] rfl)
    · skip
      exact J18  _ _ _ (by first | exact Or.inl h2 | exact Or.inr h15) hS (lv_sub hl [0, 1, 2] rfl)
set_option maxHeartbeats 4000000 in
set_option maxRecDepth 100000 in
theorem c_X5_stands_at_b (l : Launch) (D : va_G) (q : Nat → Nat) (cI cJ : ClassId) (n : Nat) (T : Nat → Nat → Int32) (k : Nat) (M : Nat → Nat → Int32) (d : Nat) (C : Nat → Nat → Int32) (J : Nat → Nat → Int32) (g : Nat → Int64) (t : Nat) (o : Nat) (ht : t < 20) (ho : o < 20) : cx_Mi l D vwCl [(cI, .int), (cJ, .long)] cx_NW yX5_stands wsX5_stands ({ frames := 0, cells := 0, slots := 0, locals := 0 } : Room) [.ref (q 1), .int (nI t), .int (nI o)] (cxW q cI cJ n T k M d C J g) (fun (r : Int32) (uw : Unit) => (r = 0 ∨ r = 1) ∧ (¬ r = 0 ↔ t = o ∨ bt (T 10 t) o = true)) (fun _ => (cxW q cI cJ n T k M d C J g)) := by
  refine cx_Mi.of (cc := cX5_stands) (maxL := 3) cx_NW_ok (by decide) rfl (Nat.le_of_ble_eq_true rfl) ?_
  intro p e s m args below meth c Q A ls hx hb hml hown hts hE RET hS hl
  have hl : lv_has ls 3 [(0, .ref (q 1)), (1, .int (nI t)), (2, .int (nI o))] := hl
  have hown : s.vm.findClass RX5 = some m.cls := hown
  have hinX5 : ∀ w ∈ u_ws RX5 TX5 12, w ∈ wsX5_stands := cx_mem [2, 3, 4, 5, 6, 7, 8, 9, 10, 11, 12, 13] (by decide +kernel)
  refine lv_iload_n hx hb dX5_stands_0 rfl (lv_at hl 1 rfl) ?_
  refine lv_iload_n hx hb dX5_stands_1 rfl (lv_at hl 2 rfl) ?_
  have J23 : ∀ (v23_s0 : Int32) (H : Heap) (locs : List Loc) (ls : Array Slot), ((v23_s0 = 0 ∨ v23_s0 = 1) ∧ (¬ v23_s0 = 0 ↔ t = o ∨ bt (T 10 t) o = true)) → cx_S D vwCl A s (cxW q cI cJ n T k M d C J g) H locs → lv_has ls 3 [(0, .ref (q 1)), (1, .int (nI t)), (2, .int (nI o))] → W p l e ({ frames := 0, cells := 0, slots := 0, locals := 0 } : Room) s m args below meth c H locs 0 0 Q (F0 m 23 ls [.int v23_s0]) := by
    intro v23_s0 H locs ls b23 hS hl
    exact RET _ () _ _ _ _ dX5_stands_23 (cx_nb b23.1) (by first | exact b23 | (try clear RET); (try clear hS); (try clear hl); (try clear hE); (try clear hts); (try clear hb); (try clear hx); (try clear hml); (try clear hown); (try clear hinX5); (try clear J23); have y10 : ¬ (1 : Int32) = 0 := (by decide); first | assumption | (grind)) hS
  have J18 : ∀ (H : Heap) (locs : List Loc) (ls : Array Slot), (t = o ∨ bt (T 10 t) o = true) → cx_S D vwCl A s (cxW q cI cJ n T k M d C J g) H locs → lv_has ls 3 [(0, .ref (q 1)), (1, .int (nI t)), (2, .int (nI o))] → W p l e ({ frames := 0, cells := 0, slots := 0, locals := 0 } : Room) s m args below meth c H locs 0 0 Q (F0 m 18 ls []) := by
    intro  H locs ls f18 hS hl
    refine lv_iconst (v := (1 : Int32)) hx hb dX5_stands_18 (by decide) ?_
    refine lv_goto (tgt := 23) hx hb dX5_stands_19 (by decide) ?_
    exact J23 (1 : Int32) _ _ _ (cx_e1 (by (try clear RET); (try clear hS); (try clear hl); (try clear hE); (try clear hts); (try clear hb); (try clear hx); (try clear hml); (try clear hown); (try clear hinX5); (try clear J23); (try clear J18); have y10 : ¬ (1 : Int32) = 0 := (by decide); first | assumption | (grind))) hS (lv_sub hl [0, 1, 2] rfl)
  refine lv_icmp_eq (tgt := 18) hx hb dX5_stands_2 (by decide) (fun h2 => ?_) (fun h2 => ?_)
  · skip
    have g2 : t = o := (nI_eq (a := t) (b := o) (by omega) (by omega)).mp h2
    exact J18  _ _ _ (by (try clear RET); (try clear hS); (try clear hl); (try clear hE); (try clear hts); (try clear hb); (try clear hx); (try clear hml); (try clear hown); (try clear hinX5); (try clear J23); (try clear J18); have y10 : ¬ (1 : Int32) = 0 := (by decide); first | assumption | (grind)) hS (lv_sub hl [0, 1, 2] rfl)
  · skip
    have g2 : ¬ (t = o) := fun z => h2 ((nI_eq (a := t) (b := o) (by omega) (by omega)).mpr z)
    refine lv_aload_n hx hb dX5_stands_5 rfl (lv_at hl 0 rfl) ?_
    refine cx_get (own := RX5) (index := 42) (C := RX5) (T := TX5) (N := 12) (k := 10) (ci := 5) (v := .ref (q 17)) hx hb hts hown hE hS hinX5 1 rfl rfl (by decide) (List.mem_of_getElem? (i := 1) rfl) rfl dX5_stands_6 ?_
    refine lv_iload_n hx hb dX5_stands_9 rfl (lv_at hl 1 rfl) ?_
    refine cx_iald (f := (T 10)) (n := 20) (cA := cI) hx hb hE hS 17 0 rfl rfl (by omega) (by decide) dX5_stands_10 ?_
    refine lv_iload_n hx hb dX5_stands_11 rfl (lv_at hl 2 rfl) ?_
    refine lv_ishr hx hb dX5_stands_12 ?_
    refine lv_iconst (v := (1 : Int32)) hx hb dX5_stands_13 (by decide) ?_
    refine lv_iand hx hb dX5_stands_14 ?_
    refine lv_if_eq (tgt := 22) hx hb dX5_stands_15 (by decide) (fun h15 => ?_) (fun h15 => ?_)
    · skip
      have y15 : ¬ bt ((T 10) t) o = true := fun z => (cx_hb ho).mpr z h15
      refine lv_iconst (v := (0 : Int32)) hx hb dX5_stands_22 (by decide) ?_
      exact J23 (0 : Int32) _ _ _ (cx_e0 (by (try clear RET); (try clear hS); (try clear hl); (try clear hE); (try clear hts); (try clear hb); (try clear hx); (try clear hml); (try clear hown); (try clear hinX5); (try clear J23); (try clear J18); have y10 : ¬ (1 : Int32) = 0 := (by decide); first | assumption | (grind))) hS (lv_sub hl [0, 1, 2] rfl)
    · skip
      have y15 := (cx_hb ho).mp h15
      exact J18  _ _ _ (by (try clear RET); (try clear hS); (try clear hl); (try clear hE); (try clear hts); (try clear hb); (try clear hx); (try clear hml); (try clear hown); (try clear hinX5); (try clear J23); (try clear J18); have y10 : ¬ (1 : Int32) = 0 := (by decide); first | assumption | (grind)) hS (lv_sub hl [0, 1, 2] rfl)
set_option maxHeartbeats 4000000 in
set_option maxRecDepth 100000 in
theorem c_X5_ofKind (l : Launch) (D : va_G) (q : Nat → Nat) (cI cJ : ClassId) (n : Nat) (T : Nat → Nat → Int32) (k : Nat) (M : Nat → Nat → Int32) (d : Nat) (C : Nat → Nat → Int32) (J : Nat → Nat → Int32) (g : Nat → Int64) (kd : Int32) (hn : n ≤ 20) : cx_Mi l D vwCl [(cI, .int), (cJ, .long)] cx_NW yX5_ofKind wsX5_ofKind ({ frames := 1, cells := 0, slots := 0, locals := 20 } : Room) [.ref (q 1), .int kd] (cxW q cI cJ n T k M d C J g) (fun (r : Int32) (uw : Unit) => ∀ u, u < 32 → (bt r u = true ↔ u < n ∧ T 0 u = kd)) (fun _ => (cxW q cI cJ n T k M d C J g)) := by
  refine cx_Mi.of (cc := cX5_ofKind) (maxL := 4) cx_NW_ok (by decide) rfl (Nat.le_of_ble_eq_true rfl) ?_
  intro p e s m args below meth c Q A ls hx hb hml hown hts hE RET hS hl
  have hl : lv_has ls 4 [(0, .ref (q 1)), (1, .int kd)] := hl
  have hown : s.vm.findClass RX5 = some m.cls := hown
  have hinX5 : ∀ w ∈ u_ws RX5 TX5 12, w ∈ wsX5_ofKind := cx_mem [6, 7, 8, 9, 10, 11, 12, 13, 14, 15, 16, 17] (by decide +kernel)
  refine lv_iconst (v := (0 : Int32)) hx hb dX5_ofKind_0 (by decide) ?_
  refine cx_topr (z := nI 0) (by decide) ?_
  refine lv_istore_n (lv' := [(2, .int (nI 0)), (0, .ref (q 1)), (1, .int kd)]) hx hb dX5_ofKind_1 rfl hl (by decide) rfl (fun ls hl => ?_)
  refine lv_iconst (v := (0 : Int32)) hx hb dX5_ofKind_2 (by decide) ?_
  refine cx_topr (z := nI 0) (by decide) ?_
  refine lv_istore_n (lv' := [(3, .int (nI 0)), (2, .int (nI 0)), (0, .ref (q 1)), (1, .int kd)]) hx hb dX5_ofKind_3 rfl hl (by decide) rfl (fun ls hl => ?_)
  have J4 : ∀ (N : Nat) (v4_l2 : Int32) (i4 : Nat) (H : Heap) (locs : List Loc) (ls : Array Slot), (n - i4 < N) → (i4 ≤ n) → (∀ u, u < 32 → (bt v4_l2 u = true ↔ u < i4 ∧ T 0 u = kd)) → cx_S D vwCl A s (cxW q cI cJ n T k M d C J g) H locs → lv_has ls 4 [(0, .ref (q 1)), (1, .int kd), (2, .int v4_l2), (3, .int (nI i4))] → W p l e ({ frames := 1, cells := 0, slots := 0, locals := 20 } : Room) s m args below meth c H locs 0 0 Q (F0 m 4 ls []) := by
    intro N4
    induction N4 with
    | zero => intro v4_l2 i4 H locs ls hN; exact absurd hN (by omega)
    | succ N4 ih4 =>
      intro v4_l2 i4 H locs ls hN4 hi4 hs hS hl
      refine lv_iload_n hx hb dX5_ofKind_4 rfl (lv_at hl 3 rfl) ?_
      refine lv_aload_n hx hb dX5_ofKind_5 rfl (lv_at hl 0 rfl) ?_
      refine cx_get (own := RX5) (index := 45) (C := RX5) (T := TX5) (N := 12) (k := 11) (ci := 5) (v := .int (nI n)) hx hb hts hown hE hS hinX5 1 rfl rfl (by decide) (List.mem_of_getElem? (i := 1) rfl) rfl dX5_ofKind_6 ?_
      refine lv_icmp_ge (tgt := 39) hx hb dX5_ofKind_9 (by decide) (fun h9 => ?_) (fun h9 => ?_)
      · skip
        have g9 : n ≤ i4 := (nI_leI (a := n) (b := i4) (by omega) (by omega)).mp h9
        refine lv_iload_n hx hb dX5_ofKind_39 rfl (lv_at hl 2 rfl) ?_
        exact RET _ () _ _ _ _ dX5_ofKind_40 rfl (by have e : n = i4 := (by omega); intro u hu; rw [e]; exact hs u hu) hS
      · skip
        have g9 : ¬ (n ≤ i4) := fun z => h9 ((nI_leI (a := n) (b := i4) (by omega) (by omega)).mpr z)
        refine lv_iload_n hx hb dX5_ofKind_12 rfl (lv_at hl 2 rfl) ?_
        refine lv_aload_n hx hb dX5_ofKind_13 rfl (lv_at hl 0 rfl) ?_
        refine cx_get (own := RX5) (index := 9) (C := RX5) (T := TX5) (N := 12) (k := 0) (ci := 5) (v := .ref (q 7)) hx hb hts hown hE hS hinX5 1 rfl rfl (by decide) (List.mem_of_getElem? (i := 2) rfl) rfl dX5_ofKind_14 ?_
        refine lv_iload_n hx hb dX5_ofKind_17 rfl (lv_at hl 3 rfl) ?_
        refine cx_iald (f := (T 0)) (n := 20) (cA := cI) hx hb hE hS 7 0 rfl rfl (by omega) (by decide) dX5_ofKind_18 ?_
        refine lv_iload_n hx hb dX5_ofKind_19 rfl (lv_at hl 1 rfl) ?_
        have J31 : ∀ (v31_s0 : Int32) (H : Heap) (locs : List Loc) (ls : Array Slot), ((T 0 i4 = kd ∧ v31_s0 = (1 : Int32) <<< (nI i4 &&& 31)) ∨ (¬ T 0 i4 = kd ∧ v31_s0 = 0)) → cx_S D vwCl A s (cxW q cI cJ n T k M d C J g) H locs → lv_has ls 4 [(0, .ref (q 1)), (1, .int kd), (2, .int v4_l2), (3, .int (nI i4))] → W p l e ({ frames := 1, cells := 0, slots := 0, locals := 20 } : Room) s m args below meth c H locs 0 0 Q (F0 m 31 ls [.int v31_s0, .int v4_l2]) := by
          intro v31_s0 H locs ls hj hS hl
          refine lv_ior hx hb dX5_ofKind_31 ?_
          refine lv_istore_n (lv' := [(2, .int (v4_l2 ||| v31_s0)), (0, .ref (q 1)), (1, .int kd), (3, .int (nI i4))]) hx hb dX5_ofKind_32 rfl hl (by decide) rfl (fun ls hl => ?_)
          refine lv_iinc (v := nI (i4 + 1)) (lv' := [(3, .int (nI (i4 + 1))), (2, .int (v4_l2 ||| v31_s0)), (0, .ref (q 1)), (1, .int kd)]) hx hb dX5_ofKind_33 hl (k := 3) rfl (cx_inc _) (by decide) rfl (fun ls hl => ?_)
          refine lv_goto (tgt := 4) hx hb dX5_ofKind_36 (by decide) ?_
          exact ih4 (v4_l2 ||| v31_s0) (i4 + 1) _ _ _ (by omega) (by omega) (by first | exact cx_set0 | exact cx_setS (Q := fun u => T 0 u = kd) (by omega) hs hj) hS (lv_sub hl [2, 3, 1, 0] rfl)
        refine lv_icmp_ne (tgt := 30) hx hb dX5_ofKind_20 (by decide) (fun h20 => ?_) (fun h20 => ?_)
        · skip
          refine lv_iconst (v := (0 : Int32)) hx hb dX5_ofKind_30 (by decide) ?_
          exact J31 (0 : Int32) _ _ _ (by first | exact Or.inl ⟨h20, rfl⟩ | exact Or.inr ⟨h20, rfl⟩ | exact Or.inl ⟨Decidable.not_not.mp h20, rfl⟩) hS (lv_sub hl [0, 1, 2, 3] rfl)
        · skip
          refine lv_iload_n hx hb dX5_ofKind_23 rfl (lv_at hl 3 rfl) ?_
          refine cx_cNi (As := [.int (nI i4)]) (rest := [.int v4_l2]) ⟨hx, hb, hml, hown, hts⟩ hE hS (c_X6_bit l D [(cI, .int), (cJ, .long)] (cxW q cI cJ n T k M d C J g) (nI i4) ) ⟨va_cnB (own := RX5) (index := 49) (host := "ClassRules") 1 hts gX5_ofKind_X6_bit_n49 rfl rfl rfl (hE.2.1 _ (List.mem_of_getElem? (i := 33) rfl)) (hts (.initialized RX6) (List.mem_of_getElem? (i := 4) rfl)) (by decide +kernel) ⟨Nat.le_of_ble_eq_true rfl, Nat.le_of_ble_eq_true rfl⟩, hts (.static yX6_bit) (List.mem_of_getElem? (i := 3) rfl), trivial⟩ rfl hl.1 rfl (Nat.le_of_ble_eq_true rfl) ⟨Nat.zero_le _, Nat.zero_le _⟩ dX5_ofKind_24 (fun r_24 u_24 H locs hp_24 hS => ?_)
          have hp_24 : r_24 = ((1 : Int32) <<< ((nI i4) &&& 31)) := hp_24
          subst hp_24
          refine lv_goto (tgt := 31) hx hb dX5_ofKind_27 (by decide) ?_
          exact J31 (((1 : Int32) <<< ((nI i4) &&& 31))) _ _ _ (by first | exact Or.inl ⟨h20, rfl⟩ | exact Or.inr ⟨h20, rfl⟩ | exact Or.inl ⟨Decidable.not_not.mp h20, rfl⟩) hS (lv_sub hl [0, 1, 2, 3] rfl)
  exact J4 (n - 0 + 1) (nI 0) 0 _ _ _ (Nat.lt_succ_self _) (by omega) (by first | exact cx_set0 | exact cx_setS (Q := fun u => T 0 u = kd) (by omega) hs hj) hS (lv_sub hl [2, 3, 1, 0] rfl)
set_option maxHeartbeats 4000000 in
set_option maxRecDepth 100000 in
theorem c_X5_withMark (l : Launch) (D : va_G) (q : Nat → Nat) (cI cJ : ClassId) (n : Nat) (T : Nat → Nat → Int32) (k : Nat) (M : Nat → Nat → Int32) (d : Nat) (C : Nat → Nat → Int32) (J : Nat → Nat → Int32) (g : Nat → Int64) (mk : Int32) (hn : n ≤ 20) : cx_Mi l D vwCl [(cI, .int), (cJ, .long)] cx_NW yX5_withMark wsX5_withMark ({ frames := 1, cells := 0, slots := 0, locals := 22 } : Room) [.ref (q 1), .int mk] (cxW q cI cJ n T k M d C J g) (fun (r : Int32) (uw : Unit) => ∀ u, u < 32 → (bt r u = true ↔ u < n ∧ cx_mk (T 1) u mk)) (fun _ => (cxW q cI cJ n T k M d C J g)) := by
  refine cx_Mi.of (cc := cX5_withMark) (maxL := 4) cx_NW_ok (by decide) rfl (Nat.le_of_ble_eq_true rfl) ?_
  intro p e s m args below meth c Q A ls hx hb hml hown hts hE RET hS hl
  have hl : lv_has ls 4 [(0, .ref (q 1)), (1, .int mk)] := hl
  have hown : s.vm.findClass RX5 = some m.cls := hown
  have hinX5 : ∀ w ∈ u_ws RX5 TX5 12, w ∈ wsX5_withMark := cx_mem [11, 12, 13, 14, 15, 16, 17, 18, 19, 20, 21, 22] (by decide +kernel)
  refine lv_iconst (v := (0 : Int32)) hx hb dX5_withMark_0 (by decide) ?_
  refine cx_topr (z := nI 0) (by decide) ?_
  refine lv_istore_n (lv' := [(2, .int (nI 0)), (0, .ref (q 1)), (1, .int mk)]) hx hb dX5_withMark_1 rfl hl (by decide) rfl (fun ls hl => ?_)
  refine lv_iconst (v := (0 : Int32)) hx hb dX5_withMark_2 (by decide) ?_
  refine cx_topr (z := nI 0) (by decide) ?_
  refine lv_istore_n (lv' := [(3, .int (nI 0)), (2, .int (nI 0)), (0, .ref (q 1)), (1, .int mk)]) hx hb dX5_withMark_3 rfl hl (by decide) rfl (fun ls hl => ?_)
  have J4 : ∀ (N : Nat) (v4_l2 : Int32) (i4 : Nat) (H : Heap) (locs : List Loc) (ls : Array Slot), (n - i4 < N) → (i4 ≤ n) → (∀ u, u < 32 → (bt v4_l2 u = true ↔ u < i4 ∧ cx_mk (T 1) u mk)) → cx_S D vwCl A s (cxW q cI cJ n T k M d C J g) H locs → lv_has ls 4 [(0, .ref (q 1)), (1, .int mk), (2, .int v4_l2), (3, .int (nI i4))] → W p l e ({ frames := 1, cells := 0, slots := 0, locals := 22 } : Room) s m args below meth c H locs 0 0 Q (F0 m 4 ls []) := by
    intro N4
    induction N4 with
    | zero => intro v4_l2 i4 H locs ls hN; exact absurd hN (by omega)
    | succ N4 ih4 =>
      intro v4_l2 i4 H locs ls hN4 hi4 hs hS hl
      refine lv_iload_n hx hb dX5_withMark_4 rfl (lv_at hl 3 rfl) ?_
      refine lv_aload_n hx hb dX5_withMark_5 rfl (lv_at hl 0 rfl) ?_
      refine cx_get (own := RX5) (index := 45) (C := RX5) (T := TX5) (N := 12) (k := 11) (ci := 5) (v := .int (nI n)) hx hb hts hown hE hS hinX5 1 rfl rfl (by decide) (List.mem_of_getElem? (i := 1) rfl) rfl dX5_withMark_6 ?_
      refine lv_icmp_ge (tgt := 38) hx hb dX5_withMark_9 (by decide) (fun h9 => ?_) (fun h9 => ?_)
      · skip
        have g9 : n ≤ i4 := (nI_leI (a := n) (b := i4) (by omega) (by omega)).mp h9
        refine lv_iload_n hx hb dX5_withMark_38 rfl (lv_at hl 2 rfl) ?_
        exact RET _ () _ _ _ _ dX5_withMark_39 rfl (by have e : n = i4 := (by omega); intro u hu; rw [e]; exact hs u hu) hS
      · skip
        have g9 : ¬ (n ≤ i4) := fun z => h9 ((nI_leI (a := n) (b := i4) (by omega) (by omega)).mpr z)
        refine lv_iload_n hx hb dX5_withMark_12 rfl (lv_at hl 2 rfl) ?_
        refine lv_aload_n hx hb dX5_withMark_13 rfl (lv_at hl 0 rfl) ?_
        refine lv_iload_n hx hb dX5_withMark_14 rfl (lv_at hl 3 rfl) ?_
        refine lv_iload_n hx hb dX5_withMark_15 rfl (lv_at hl 1 rfl) ?_
        refine cx_cVi (As := [.int (nI i4), .int mk]) (rest := [.int v4_l2]) ⟨hx, hb, hml, hown, hts⟩ hE hS (c_X5_marked l D q cI cJ n T k M d C J g i4 mk (by first | assumption | omega | rfl)) (cwV 2 hts gX5_withMark_X5_marked rfl rfl rfl (by decide +kernel) ⟨Nat.le_of_ble_eq_true rfl, Nat.le_of_ble_eq_true rfl⟩) 1 5 rfl rfl rfl hl.1 rfl (Nat.le_of_ble_eq_true rfl) ⟨Nat.zero_le _, Nat.zero_le _⟩ dX5_withMark_16 (fun r_16 u_16 H locs hp_16 hS => ?_)
        have hp_16 : (r_16 = 0 ∨ r_16 = 1) ∧ (¬ r_16 = 0 ↔ cx_mk ((T 1)) i4 mk) := hp_16
        have J30 : ∀ (v30_s0 : Int32) (H : Heap) (locs : List Loc) (ls : Array Slot), ((cx_mk (T 1) i4 mk ∧ v30_s0 = (1 : Int32) <<< (nI i4 &&& 31)) ∨ (¬ cx_mk (T 1) i4 mk ∧ v30_s0 = 0)) → cx_S D vwCl A s (cxW q cI cJ n T k M d C J g) H locs → lv_has ls 4 [(0, .ref (q 1)), (1, .int mk), (2, .int v4_l2), (3, .int (nI i4))] → W p l e ({ frames := 1, cells := 0, slots := 0, locals := 22 } : Room) s m args below meth c H locs 0 0 Q (F0 m 30 ls [.int v30_s0, .int v4_l2]) := by
          intro v30_s0 H locs ls hj hS hl
          refine lv_ior hx hb dX5_withMark_30 ?_
          refine lv_istore_n (lv' := [(2, .int (v4_l2 ||| v30_s0)), (0, .ref (q 1)), (1, .int mk), (3, .int (nI i4))]) hx hb dX5_withMark_31 rfl hl (by decide) rfl (fun ls hl => ?_)
          refine lv_iinc (v := nI (i4 + 1)) (lv' := [(3, .int (nI (i4 + 1))), (2, .int (v4_l2 ||| v30_s0)), (0, .ref (q 1)), (1, .int mk)]) hx hb dX5_withMark_32 hl (k := 3) rfl (cx_inc _) (by decide) rfl (fun ls hl => ?_)
          refine lv_goto (tgt := 4) hx hb dX5_withMark_35 (by decide) ?_
          exact ih4 (v4_l2 ||| v30_s0) (i4 + 1) _ _ _ (by omega) (by omega) (by first | exact cx_set0 | exact cx_setS (Q := fun u => cx_mk (T 1) u mk) (by omega) hs hj) hS (lv_sub hl [2, 3, 1, 0] rfl)
        refine lv_if_eq (tgt := 29) hx hb dX5_withMark_19 (by decide) (fun h19 => ?_) (fun h19 => ?_)
        · skip
          have g19 : ¬ (cx_mk ((T 1)) i4 mk) := fun z => hp_16.2.mpr z h19
          refine lv_iconst (v := (0 : Int32)) hx hb dX5_withMark_29 (by decide) ?_
          exact J30 (0 : Int32) _ _ _ (by first | exact Or.inl ⟨g19, rfl⟩ | exact Or.inr ⟨g19, rfl⟩) hS (lv_sub hl [0, 1, 2, 3] rfl)
        · skip
          have g19 : cx_mk ((T 1)) i4 mk := hp_16.2.mp h19
          refine lv_iload_n hx hb dX5_withMark_22 rfl (lv_at hl 3 rfl) ?_
          refine cx_cNi (As := [.int (nI i4)]) (rest := [.int v4_l2]) ⟨hx, hb, hml, hown, hts⟩ hE hS (c_X6_bit l D [(cI, .int), (cJ, .long)] (cxW q cI cJ n T k M d C J g) (nI i4) ) ⟨va_cnB (own := RX5) (index := 49) (host := "ClassRules") 1 hts gX5_withMark_X6_bit_n49 rfl rfl rfl (hE.2.1 _ (List.mem_of_getElem? (i := 33) rfl)) (hts (.initialized RX6) (List.mem_of_getElem? (i := 9) rfl)) (by decide +kernel) ⟨Nat.le_of_ble_eq_true rfl, Nat.le_of_ble_eq_true rfl⟩, hts (.static yX6_bit) (List.mem_of_getElem? (i := 8) rfl), trivial⟩ rfl hl.1 rfl (Nat.le_of_ble_eq_true rfl) ⟨Nat.zero_le _, Nat.zero_le _⟩ dX5_withMark_23 (fun r_23 u_23 H locs hp_23 hS => ?_)
          have hp_23 : r_23 = ((1 : Int32) <<< ((nI i4) &&& 31)) := hp_23
          subst hp_23
          refine lv_goto (tgt := 30) hx hb dX5_withMark_26 (by decide) ?_
          exact J30 (((1 : Int32) <<< ((nI i4) &&& 31))) _ _ _ (by first | exact Or.inl ⟨g19, rfl⟩ | exact Or.inr ⟨g19, rfl⟩) hS (lv_sub hl [0, 1, 2, 3] rfl)
  exact J4 (n - 0 + 1) (nI 0) 0 _ _ _ (Nat.lt_succ_self _) (by omega) (by first | exact cx_set0 | exact cx_setS (Q := fun u => cx_mk (T 1) u mk) (by omega) hs hj) hS (lv_sub hl [2, 3, 1, 0] rfl)
set_option maxHeartbeats 4000000 in
set_option maxRecDepth 100000 in
theorem c_X3_addMember (l : Launch) (D : va_G) (q : Nat → Nat) (cI cJ : ClassId) (n : Nat) (T : Nat → Nat → Int32) (k : Nat) (M : Nat → Nat → Int32) (d : Nat) (C : Nat → Nat → Int32) (J : Nat → Nat → Int32) (g : Nat → Int64) (ow : Int32) (nm : Int32) (pm : Int32) (mk : Int32) (ac : Int32) (rs : Int32) (hk : k < 80) : cx_Mi l D vwCl [(cI, .int), (cJ, .long)] cx_NW yX3_addMember wsX3_addMember ({ frames := 0, cells := 0, slots := 0, locals := 0 } : Room) [.ref (q 2), .int ow, .int nm, .int pm, .int mk, .int ac, .int rs] (cxW q cI cJ n T k M d C J g) (fun (r : Int32) (uw : Unit) => r = nI k) (fun _ => (cxW q cI cJ n T (k + 1) (cx_u (cx_u (cx_u (cx_u (cx_u (cx_u M 0 (upd (M 0) k ow)) 1 (upd (M 1) k nm)) 2 (upd (M 2) k pm)) 3 (upd (M 3) k mk)) 4 (upd (M 4) k ac)) 5 (upd (M 5) k rs)) d C J g)) := by
  refine cx_Mi.of (cc := cX3_addMember) (maxL := 8) cx_NW_ok (by decide) rfl (Nat.le_of_ble_eq_true rfl) ?_
  intro p e s m args below meth c Q A ls hx hb hml hown hts hE RET hS hl
  have hl : lv_has ls 8 [(0, .ref (q 2)), (1, .int ow), (2, .int nm), (3, .int pm), (4, .int mk), (5, .int ac), (6, .int rs)] := hl
  have hown : s.vm.findClass RX3 = some m.cls := hown
  have hinX3 : ∀ w ∈ u_ws RX3 TX3 8, w ∈ wsX3_addMember := cx_mem [8, 9, 10, 11, 12, 13, 14, 15] (by decide +kernel)
  refine lv_aload_n hx hb dX3_addMember_0 rfl (lv_at hl 0 rfl) ?_
  refine cx_get (own := RX3) (index := 30) (C := RX3) (T := TX3) (N := 8) (k := 7) (ci := 3) (v := .int (nI k)) hx hb hts hown hE hS hinX3 2 rfl rfl (by decide) (List.mem_of_getElem? (i := 1) rfl) rfl dX3_addMember_1 ?_
  refine lv_istore (lv' := [(7, .int (nI k)), (0, .ref (q 2)), (1, .int ow), (2, .int nm), (3, .int pm), (4, .int mk), (5, .int ac), (6, .int rs)]) hx hb dX3_addMember_4 hl (by decide) rfl (fun ls hl => ?_)
  refine lv_aload_n hx hb dX3_addMember_6 rfl (lv_at hl 1 rfl) ?_
  refine cx_get (own := RX3) (index := 9) (C := RX3) (T := TX3) (N := 8) (k := 1) (ci := 3) (v := .ref (q 18)) hx hb hts hown hE hS hinX3 2 rfl rfl (by decide) (List.mem_of_getElem? (i := 2) rfl) rfl dX3_addMember_7 ?_
  refine lv_iload hx hb dX3_addMember_10 (lv_at hl 0 rfl) ?_
  refine lv_iload_n hx hb dX3_addMember_12 rfl (lv_at hl 2 rfl) ?_
  refine cx_iast (k := k) (f := (M 0)) (n := 80) (cA := cI) (ws' := (cxW q cI cJ n T k (cx_u M 0 (upd (M 0) k ow)) d C J g)) hx hb hE hS 18 0 rfl rfl (by omega) (by decide) rfl dX3_addMember_13 (fun H locs hS => ?_)
  refine lv_aload_n hx hb dX3_addMember_14 rfl (lv_at hl 1 rfl) ?_
  refine cx_get (own := RX3) (index := 15) (C := RX3) (T := TX3) (N := 8) (k := 2) (ci := 3) (v := .ref (q 19)) hx hb hts hown hE hS hinX3 2 rfl rfl (by decide) (List.mem_of_getElem? (i := 3) rfl) rfl dX3_addMember_15 ?_
  refine lv_iload hx hb dX3_addMember_18 (lv_at hl 0 rfl) ?_
  refine lv_iload_n hx hb dX3_addMember_20 rfl (lv_at hl 3 rfl) ?_
  refine cx_iast (k := k) (f := (M 1)) (n := 80) (cA := cI) (ws' := (cxW q cI cJ n T k (cx_u (cx_u M 0 (upd (M 0) k ow)) 1 (upd (M 1) k nm)) d C J g)) hx hb hE hS 19 0 rfl rfl (by omega) (by decide) rfl dX3_addMember_21 (fun H locs hS => ?_)
  refine lv_aload_n hx hb dX3_addMember_22 rfl (lv_at hl 1 rfl) ?_
  refine cx_get (own := RX3) (index := 18) (C := RX3) (T := TX3) (N := 8) (k := 3) (ci := 3) (v := .ref (q 20)) hx hb hts hown hE hS hinX3 2 rfl rfl (by decide) (List.mem_of_getElem? (i := 4) rfl) rfl dX3_addMember_23 ?_
  refine lv_iload hx hb dX3_addMember_26 (lv_at hl 0 rfl) ?_
  refine lv_iload_n hx hb dX3_addMember_28 rfl (lv_at hl 4 rfl) ?_
  refine cx_iast (k := k) (f := (M 2)) (n := 80) (cA := cI) (ws' := (cxW q cI cJ n T k (cx_u (cx_u (cx_u M 0 (upd (M 0) k ow)) 1 (upd (M 1) k nm)) 2 (upd (M 2) k pm)) d C J g)) hx hb hE hS 20 0 rfl rfl (by omega) (by decide) rfl dX3_addMember_29 (fun H locs hS => ?_)
  refine lv_aload_n hx hb dX3_addMember_30 rfl (lv_at hl 1 rfl) ?_
  refine cx_get (own := RX3) (index := 21) (C := RX3) (T := TX3) (N := 8) (k := 4) (ci := 3) (v := .ref (q 21)) hx hb hts hown hE hS hinX3 2 rfl rfl (by decide) (List.mem_of_getElem? (i := 5) rfl) rfl dX3_addMember_31 ?_
  refine lv_iload hx hb dX3_addMember_34 (lv_at hl 0 rfl) ?_
  refine lv_iload hx hb dX3_addMember_36 (lv_at hl 5 rfl) ?_
  refine cx_iast (k := k) (f := (M 3)) (n := 80) (cA := cI) (ws' := (cxW q cI cJ n T k (cx_u (cx_u (cx_u (cx_u M 0 (upd (M 0) k ow)) 1 (upd (M 1) k nm)) 2 (upd (M 2) k pm)) 3 (upd (M 3) k mk)) d C J g)) hx hb hE hS 21 0 rfl rfl (by omega) (by decide) rfl dX3_addMember_38 (fun H locs hS => ?_)
  refine lv_aload_n hx hb dX3_addMember_39 rfl (lv_at hl 1 rfl) ?_
  refine cx_get (own := RX3) (index := 24) (C := RX3) (T := TX3) (N := 8) (k := 5) (ci := 3) (v := .ref (q 22)) hx hb hts hown hE hS hinX3 2 rfl rfl (by decide) (List.mem_of_getElem? (i := 6) rfl) rfl dX3_addMember_40 ?_
  refine lv_iload hx hb dX3_addMember_43 (lv_at hl 0 rfl) ?_
  refine lv_iload hx hb dX3_addMember_45 (lv_at hl 6 rfl) ?_
  refine cx_iast (k := k) (f := (M 4)) (n := 80) (cA := cI) (ws' := (cxW q cI cJ n T k (cx_u (cx_u (cx_u (cx_u (cx_u M 0 (upd (M 0) k ow)) 1 (upd (M 1) k nm)) 2 (upd (M 2) k pm)) 3 (upd (M 3) k mk)) 4 (upd (M 4) k ac)) d C J g)) hx hb hE hS 22 0 rfl rfl (by omega) (by decide) rfl dX3_addMember_47 (fun H locs hS => ?_)
  refine lv_aload_n hx hb dX3_addMember_48 rfl (lv_at hl 1 rfl) ?_
  refine cx_get (own := RX3) (index := 27) (C := RX3) (T := TX3) (N := 8) (k := 6) (ci := 3) (v := .ref (q 23)) hx hb hts hown hE hS hinX3 2 rfl rfl (by decide) (List.mem_of_getElem? (i := 7) rfl) rfl dX3_addMember_49 ?_
  refine lv_iload hx hb dX3_addMember_52 (lv_at hl 0 rfl) ?_
  refine lv_iload hx hb dX3_addMember_54 (lv_at hl 7 rfl) ?_
  refine cx_iast (k := k) (f := (M 5)) (n := 80) (cA := cI) (ws' := (cxW q cI cJ n T k (cx_u (cx_u (cx_u (cx_u (cx_u (cx_u M 0 (upd (M 0) k ow)) 1 (upd (M 1) k nm)) 2 (upd (M 2) k pm)) 3 (upd (M 3) k mk)) 4 (upd (M 4) k ac)) 5 (upd (M 5) k rs)) d C J g)) hx hb hE hS 23 0 rfl rfl (by omega) (by decide) rfl dX3_addMember_56 (fun H locs hS => ?_)
  refine lv_aload_n hx hb dX3_addMember_57 rfl (lv_at hl 1 rfl) ?_
  refine lv_dup hx hb dX3_addMember_58 rfl ?_
  refine cx_get (own := RX3) (index := 30) (C := RX3) (T := TX3) (N := 8) (k := 7) (ci := 3) (v := .int (nI k)) hx hb hts hown hE hS hinX3 2 rfl rfl (by decide) (List.mem_of_getElem? (i := 1) rfl) rfl dX3_addMember_59 ?_
  refine lv_iconst (v := (1 : Int32)) hx hb dX3_addMember_62 (by decide) ?_
  refine lv_iadd hx hb dX3_addMember_63 ?_
  refine cx_topr (z := nI (k + 1)) (nI_1 _) ?_
  refine cx_put (own := RX3) (index := 30) (C := RX3) (T := TX3) (N := 8) (k := 7) (ci := 3) (v := .int (nI (k + 1))) (ty := .int) (ws' := (cxW q cI cJ n T (k + 1) (cx_u (cx_u (cx_u (cx_u (cx_u (cx_u M 0 (upd (M 0) k ow)) 1 (upd (M 1) k nm)) 2 (upd (M 2) k pm)) 3 (upd (M 3) k mk)) 4 (upd (M 4) k ac)) 5 (upd (M 5) k rs)) d C J g)) hx hb hts hown hE hS hinX3 tyX3 tyX3_ok nmX3 2 rfl rfl (by decide) (List.mem_of_getElem? (i := 1) rfl) rfl (by decide +kernel) rfl rfl (Nat.le_of_ble_eq_true rfl) rfl dX3_addMember_64 (fun H locs hS => ?_)
  refine lv_iload hx hb dX3_addMember_67 (lv_at hl 0 rfl) ?_
  exact RET _ () _ _ _ _ dX3_addMember_69 rfl rfl hS
set_option maxHeartbeats 4000000 in
set_option maxRecDepth 100000 in
theorem c_X3_marked (l : Launch) (D : va_G) (q : Nat → Nat) (cI cJ : ClassId) (n : Nat) (T : Nat → Nat → Int32) (k : Nat) (M : Nat → Nat → Int32) (d : Nat) (C : Nat → Nat → Int32) (J : Nat → Nat → Int32) (g : Nat → Int64) (mm : Nat) (mk : Int32) (hm : mm < 80) : cx_Mi l D vwCl [(cI, .int), (cJ, .long)] cx_NW yX3_marked wsX3_marked ({ frames := 0, cells := 0, slots := 0, locals := 0 } : Room) [.ref (q 2), .int (nI mm), .int mk] (cxW q cI cJ n T k M d C J g) (fun (r : Int32) (uw : Unit) => (r = 0 ∨ r = 1) ∧ (¬ r = 0 ↔ cx_mk (M 3) mm mk)) (fun _ => (cxW q cI cJ n T k M d C J g)) := by
  refine cx_Mi.of (cc := cX3_marked) (maxL := 3) cx_NW_ok (by decide) rfl (Nat.le_of_ble_eq_true rfl) ?_
  intro p e s m args below meth c Q A ls hx hb hml hown hts hE RET hS hl
  have hl : lv_has ls 3 [(0, .ref (q 2)), (1, .int (nI mm)), (2, .int mk)] := hl
  have hown : s.vm.findClass RX3 = some m.cls := hown
  have hinX3 : ∀ w ∈ u_ws RX3 TX3 8, w ∈ wsX3_marked := cx_mem [2, 3, 4, 5, 6, 7, 8, 9] (by decide +kernel)
  refine lv_aload_n hx hb dX3_marked_0 rfl (lv_at hl 0 rfl) ?_
  refine cx_get (own := RX3) (index := 21) (C := RX3) (T := TX3) (N := 8) (k := 4) (ci := 3) (v := .ref (q 21)) hx hb hts hown hE hS hinX3 2 rfl rfl (by decide) (List.mem_of_getElem? (i := 1) rfl) rfl dX3_marked_1 ?_
  refine lv_iload_n hx hb dX3_marked_4 rfl (lv_at hl 1 rfl) ?_
  refine cx_iald (f := (M 3)) (n := 80) (cA := cI) hx hb hE hS 21 0 rfl rfl (by omega) (by decide) dX3_marked_5 ?_
  refine lv_iload_n hx hb dX3_marked_6 rfl (lv_at hl 2 rfl) ?_
  refine lv_iand hx hb dX3_marked_7 ?_
  have J16 : ∀ (v16_s0 : Int32) (H : Heap) (locs : List Loc) (ls : Array Slot), ((v16_s0 = 0 ∨ v16_s0 = 1) ∧ (¬ v16_s0 = 0 ↔ cx_mk (M 3) mm mk)) → cx_S D vwCl A s (cxW q cI cJ n T k M d C J g) H locs → lv_has ls 3 [(0, .ref (q 2)), (1, .int (nI mm)), (2, .int mk)] → W p l e ({ frames := 0, cells := 0, slots := 0, locals := 0 } : Room) s m args below meth c H locs 0 0 Q (F0 m 16 ls [.int v16_s0]) := by
    intro v16_s0 H locs ls b16 hS hl
    exact RET _ () _ _ _ _ dX3_marked_16 (cx_nb b16.1) (by first | exact b16 | (try clear RET); (try clear hS); (try clear hl); (try clear hE); (try clear hts); (try clear hb); (try clear hx); (try clear hml); (try clear hown); (try clear hinX3); (try clear J16); have y10 : ¬ (1 : Int32) = 0 := (by decide); first | assumption | (grind)) hS
  refine lv_if_eq (tgt := 15) hx hb dX3_marked_8 (by decide) (fun h8 => ?_) (fun h8 => ?_)
  · skip
    refine lv_iconst (v := (0 : Int32)) hx hb dX3_marked_15 (by decide) ?_
    exact J16 (0 : Int32) _ _ _ (cx_e0 (by (try clear RET); (try clear hS); (try clear hl); (try clear hE); (try clear hts); (try clear hb); (try clear hx); (try clear hml); (try clear hown); (try clear hinX3); (try clear J16); have y10 : ¬ (1 : Int32) = 0 := (by decide); first | assumption | (grind))) hS (lv_sub hl [0, 1, 2] rfl)
  · skip
    refine lv_iconst (v := (1 : Int32)) hx hb dX3_marked_11 (by decide) ?_
    refine lv_goto (tgt := 16) hx hb dX3_marked_12 (by decide) ?_
    exact J16 (1 : Int32) _ _ _ (cx_e1 (by (try clear RET); (try clear hS); (try clear hl); (try clear hE); (try clear hts); (try clear hb); (try clear hx); (try clear hml); (try clear hown); (try clear hinX3); (try clear J16); have y10 : ¬ (1 : Int32) = 0 := (by decide); first | assumption | (grind))) hS (lv_sub hl [0, 1, 2] rfl)
set_option maxHeartbeats 4000000 in
set_option maxRecDepth 100000 in
theorem c_X3_named (l : Launch) (D : va_G) (q : Nat → Nat) (cI cJ : ClassId) (n : Nat) (T : Nat → Nat → Int32) (k : Nat) (M : Nat → Nat → Int32) (d : Nat) (C : Nat → Nat → Int32) (J : Nat → Nat → Int32) (g : Nat → Int64) (mm : Nat) (nm : Int32) (pm : Int32) (hm : mm < 80) : cx_Mi l D vwCl [(cI, .int), (cJ, .long)] cx_NW yX3_named wsX3_named ({ frames := 0, cells := 0, slots := 0, locals := 0 } : Room) [.ref (q 2), .int (nI mm), .int nm, .int pm] (cxW q cI cJ n T k M d C J g) (fun (r : Int32) (uw : Unit) => (r = 0 ∨ r = 1) ∧ (¬ r = 0 ↔ cx_nmd M mm nm pm)) (fun _ => (cxW q cI cJ n T k M d C J g)) := by
  refine cx_Mi.of (cc := cX3_named) (maxL := 4) cx_NW_ok (by decide) rfl (Nat.le_of_ble_eq_true rfl) ?_
  intro p e s m args below meth c Q A ls hx hb hml hown hts hE RET hS hl
  have hl : lv_has ls 4 [(0, .ref (q 2)), (1, .int (nI mm)), (2, .int nm), (3, .int pm)] := hl
  have hown : s.vm.findClass RX3 = some m.cls := hown
  have hinX3 : ∀ w ∈ u_ws RX3 TX3 8, w ∈ wsX3_named := cx_mem [3, 4, 5, 6, 7, 8, 9, 10] (by decide +kernel)
  refine lv_aload_n hx hb dX3_named_0 rfl (lv_at hl 0 rfl) ?_
  refine cx_get (own := RX3) (index := 15) (C := RX3) (T := TX3) (N := 8) (k := 2) (ci := 3) (v := .ref (q 19)) hx hb hts hown hE hS hinX3 2 rfl rfl (by decide) (List.mem_of_getElem? (i := 1) rfl) rfl dX3_named_1 ?_
  refine lv_iload_n hx hb dX3_named_4 rfl (lv_at hl 1 rfl) ?_
  refine cx_iald (f := (M 1)) (n := 80) (cA := cI) hx hb hE hS 19 0 rfl rfl (by omega) (by decide) dX3_named_5 ?_
  refine lv_iload_n hx hb dX3_named_6 rfl (lv_at hl 2 rfl) ?_
  have J25 : ∀ (v25_s0 : Int32) (H : Heap) (locs : List Loc) (ls : Array Slot), ((v25_s0 = 0 ∨ v25_s0 = 1) ∧ (¬ v25_s0 = 0 ↔ cx_nmd M mm nm pm)) → cx_S D vwCl A s (cxW q cI cJ n T k M d C J g) H locs → lv_has ls 4 [(0, .ref (q 2)), (1, .int (nI mm)), (2, .int nm), (3, .int pm)] → W p l e ({ frames := 0, cells := 0, slots := 0, locals := 0 } : Room) s m args below meth c H locs 0 0 Q (F0 m 25 ls [.int v25_s0]) := by
    intro v25_s0 H locs ls b25 hS hl
    exact RET _ () _ _ _ _ dX3_named_25 (cx_nb b25.1) (by first | exact b25 | (try clear RET); (try clear hS); (try clear hl); (try clear hE); (try clear hts); (try clear hb); (try clear hx); (try clear hml); (try clear hown); (try clear hinX3); (try clear J25); have y10 : ¬ (1 : Int32) = 0 := (by decide); first | assumption | (grind)) hS
  have J24 : ∀ (H : Heap) (locs : List Loc) (ls : Array Slot), (¬ (cx_nmd M mm nm pm)) → cx_S D vwCl A s (cxW q cI cJ n T k M d C J g) H locs → lv_has ls 4 [(0, .ref (q 2)), (1, .int (nI mm)), (2, .int nm), (3, .int pm)] → W p l e ({ frames := 0, cells := 0, slots := 0, locals := 0 } : Room) s m args below meth c H locs 0 0 Q (F0 m 24 ls []) := by
    intro  H locs ls f24 hS hl
    refine lv_iconst (v := (0 : Int32)) hx hb dX3_named_24 (by decide) ?_
    exact J25 (0 : Int32) _ _ _ (cx_e0 (by (try clear RET); (try clear hS); (try clear hl); (try clear hE); (try clear hts); (try clear hb); (try clear hx); (try clear hml); (try clear hown); (try clear hinX3); (try clear J25); (try clear J24); have y10 : ¬ (1 : Int32) = 0 := (by decide); first | assumption | (grind))) hS (lv_sub hl [0, 1, 2, 3] rfl)
  refine lv_icmp_ne (tgt := 24) hx hb dX3_named_7 (by decide) (fun h7 => ?_) (fun h7 => ?_)
  · skip
    exact J24  _ _ _ (by (try clear RET); (try clear hS); (try clear hl); (try clear hE); (try clear hts); (try clear hb); (try clear hx); (try clear hml); (try clear hown); (try clear hinX3); (try clear J25); (try clear J24); have y10 : ¬ (1 : Int32) = 0 := (by decide); first | assumption | (grind)) hS (lv_sub hl [0, 1, 2, 3] rfl)
  · skip
    refine lv_aload_n hx hb dX3_named_10 rfl (lv_at hl 0 rfl) ?_
    refine cx_get (own := RX3) (index := 18) (C := RX3) (T := TX3) (N := 8) (k := 3) (ci := 3) (v := .ref (q 20)) hx hb hts hown hE hS hinX3 2 rfl rfl (by decide) (List.mem_of_getElem? (i := 2) rfl) rfl dX3_named_11 ?_
    refine lv_iload_n hx hb dX3_named_14 rfl (lv_at hl 1 rfl) ?_
    refine cx_iald (f := (M 2)) (n := 80) (cA := cI) hx hb hE hS 20 0 rfl rfl (by omega) (by decide) dX3_named_15 ?_
    refine lv_iload_n hx hb dX3_named_16 rfl (lv_at hl 3 rfl) ?_
    refine lv_icmp_ne (tgt := 24) hx hb dX3_named_17 (by decide) (fun h17 => ?_) (fun h17 => ?_)
    · skip
      exact J24  _ _ _ (by (try clear RET); (try clear hS); (try clear hl); (try clear hE); (try clear hts); (try clear hb); (try clear hx); (try clear hml); (try clear hown); (try clear hinX3); (try clear J25); (try clear J24); have y10 : ¬ (1 : Int32) = 0 := (by decide); first | assumption | (grind)) hS (lv_sub hl [0, 1, 2, 3] rfl)
    · skip
      refine lv_iconst (v := (1 : Int32)) hx hb dX3_named_20 (by decide) ?_
      refine lv_goto (tgt := 25) hx hb dX3_named_21 (by decide) ?_
      exact J25 (1 : Int32) _ _ _ (cx_e1 (by (try clear RET); (try clear hS); (try clear hl); (try clear hE); (try clear hts); (try clear hb); (try clear hx); (try clear hml); (try clear hown); (try clear hinX3); (try clear J25); (try clear J24); have y10 : ¬ (1 : Int32) = 0 := (by decide); first | assumption | (grind))) hS (lv_sub hl [0, 1, 2, 3] rfl)
set_option maxHeartbeats 4000000 in
set_option maxRecDepth 100000 in
theorem c_X3_alike (l : Launch) (D : va_G) (q : Nat → Nat) (cI cJ : ClassId) (n : Nat) (T : Nat → Nat → Int32) (k : Nat) (M : Nat → Nat → Int32) (d : Nat) (C : Nat → Nat → Int32) (J : Nat → Nat → Int32) (g : Nat → Int64) (mm : Nat) (oo : Nat) (hm : mm < 80) (ho : oo < 80) : cx_Mi l D vwCl [(cI, .int), (cJ, .long)] cx_NW yX3_alike wsX3_alike ({ frames := 1, cells := 0, slots := 0, locals := 23 } : Room) [.ref (q 2), .int (nI mm), .int (nI oo)] (cxW q cI cJ n T k M d C J g) (fun (r : Int32) (uw : Unit) => (r = 0 ∨ r = 1) ∧ (¬ r = 0 ↔ cx_lk M mm oo)) (fun _ => (cxW q cI cJ n T k M d C J g)) := by
  refine cx_Mi.of (cc := cX3_alike) (maxL := 3) cx_NW_ok (by decide) rfl (Nat.le_of_ble_eq_true rfl) ?_
  intro p e s m args below meth c Q A ls hx hb hml hown hts hE RET hS hl
  have hl : lv_has ls 3 [(0, .ref (q 2)), (1, .int (nI mm)), (2, .int (nI oo))] := hl
  have hown : s.vm.findClass RX3 = some m.cls := hown
  have hinX3 : ∀ w ∈ u_ws RX3 TX3 8, w ∈ wsX3_alike := cx_mem [8, 9, 10, 11, 12, 13, 14, 15] (by decide +kernel)
  refine lv_aload_n hx hb dX3_alike_0 rfl (lv_at hl 0 rfl) ?_
  refine lv_iload_n hx hb dX3_alike_1 rfl (lv_at hl 1 rfl) ?_
  refine lv_aload_n hx hb dX3_alike_2 rfl (lv_at hl 0 rfl) ?_
  refine cx_get (own := RX3) (index := 15) (C := RX3) (T := TX3) (N := 8) (k := 2) (ci := 3) (v := .ref (q 19)) hx hb hts hown hE hS hinX3 2 rfl rfl (by decide) (List.mem_of_getElem? (i := 1) rfl) rfl dX3_alike_3 ?_
  refine lv_iload_n hx hb dX3_alike_6 rfl (lv_at hl 2 rfl) ?_
  refine cx_iald (f := (M 1)) (n := 80) (cA := cI) hx hb hE hS 19 0 rfl rfl (by omega) (by decide) dX3_alike_7 ?_
  refine lv_aload_n hx hb dX3_alike_8 rfl (lv_at hl 0 rfl) ?_
  refine cx_get (own := RX3) (index := 18) (C := RX3) (T := TX3) (N := 8) (k := 3) (ci := 3) (v := .ref (q 20)) hx hb hts hown hE hS hinX3 2 rfl rfl (by decide) (List.mem_of_getElem? (i := 2) rfl) rfl dX3_alike_9 ?_
  refine lv_iload_n hx hb dX3_alike_12 rfl (lv_at hl 2 rfl) ?_
  refine cx_iald (f := (M 2)) (n := 80) (cA := cI) hx hb hE hS 20 0 rfl rfl (by omega) (by decide) dX3_alike_13 ?_
  refine cx_cVi (As := [.int (nI mm), .int ((M 1) oo), .int ((M 2) oo)]) (rest := []) ⟨hx, hb, hml, hown, hts⟩ hE hS (c_X3_named l D q cI cJ n T k M d C J g mm ((M 1) oo) ((M 2) oo) (by first | assumption | omega | rfl)) (cwV 3 hts gX3_alike_X3_named rfl rfl rfl (by decide +kernel) ⟨Nat.le_of_ble_eq_true rfl, Nat.le_of_ble_eq_true rfl⟩) 2 3 rfl rfl rfl hl.1 rfl (Nat.le_of_ble_eq_true rfl) ⟨Nat.zero_le _, Nat.zero_le _⟩ dX3_alike_14 (fun r_14 u_14 H locs hp_14 hS => ?_)
  have hp_14 : (r_14 = 0 ∨ r_14 = 1) ∧ (¬ r_14 = 0 ↔ cx_nmd M mm ((M 1) oo) ((M 2) oo)) := hp_14
  exact RET _ () _ _ _ _ dX3_alike_17 (cx_nb hp_14.1) (by first | exact hp_14 | (try clear RET); (try clear hS); (try clear hl); (try clear hE); (try clear hts); (try clear hb); (try clear hx); (try clear hml); (try clear hown); (try clear hinX3); have y10 : ¬ (1 : Int32) = 0 := (by decide); first | assumption | (grind)) hS
set_option maxHeartbeats 4000000 in
set_option maxRecDepth 100000 in
theorem c_X3_ofFace (l : Launch) (D : va_G) (q : Nat → Nat) (cI cJ : ClassId) (n : Nat) (T : Nat → Nat → Int32) (k : Nat) (M : Nat → Nat → Int32) (d : Nat) (C : Nat → Nat → Int32) (J : Nat → Nat → Int32) (g : Nat → Int64) (mm : Nat) (hm : mm < 80) (hO : cx_R (M 0) 20) : cx_Mi l D vwCl [(cI, .int), (cJ, .long)] cx_NW yX3_ofFace wsX3_ofFace ({ frames := 0, cells := 0, slots := 0, locals := 0 } : Room) [.ref (q 2), .int (nI mm)] (cxW q cI cJ n T k M d C J g) (fun (r : Int32) (uw : Unit) => (r = 0 ∨ r = 1) ∧ (¬ r = 0 ↔ cx_fc (T 0) M mm)) (fun _ => (cxW q cI cJ n T k M d C J g)) := by
  refine cx_Mi.of (cc := cX3_ofFace) (maxL := 2) cx_NW_ok (by decide) rfl (Nat.le_of_ble_eq_true rfl) ?_
  intro p e s m args below meth c Q A ls hx hb hml hown hts hE RET hS hl
  have hl : lv_has ls 2 [(0, .ref (q 2)), (1, .int (nI mm))] := hl
  have hown : s.vm.findClass RX3 = some m.cls := hown
  have hinX3 : ∀ w ∈ u_ws RX3 TX3 8, w ∈ wsX3_ofFace := cx_mem [3, 4, 5, 6, 7, 8, 9, 10] (by decide +kernel)
  have hinX5 : ∀ w ∈ u_ws RX5 TX5 12, w ∈ wsX3_ofFace := cx_mem [11, 12, 13, 14, 15, 16, 17, 18, 19, 20, 21, 22] (by decide +kernel)
  refine lv_aload_n hx hb dX3_ofFace_0 rfl (lv_at hl 0 rfl) ?_
  refine cx_get (own := RX3) (index := 34) (C := RX3) (T := TX3) (N := 8) (k := 0) (ci := 3) (v := .ref (q 1)) hx hb hts hown hE hS hinX3 2 rfl rfl (by decide) (List.mem_of_getElem? (i := 1) rfl) rfl dX3_ofFace_1 ?_
  refine cx_getN (own := RX3) (index := 42) (C := RX5) (T := TX5) (N := 12) (k := 0) (ci := 5) (host := "ClassRules") (v := .ref (q 7)) hx hb hts hown hE hS hinX5 1 rfl rfl (by decide) (List.mem_of_getElem? (i := 3) rfl) rfl dX3_ofFace_4 ?_
  refine lv_aload_n hx hb dX3_ofFace_7 rfl (lv_at hl 0 rfl) ?_
  refine cx_get (own := RX3) (index := 9) (C := RX3) (T := TX3) (N := 8) (k := 1) (ci := 3) (v := .ref (q 18)) hx hb hts hown hE hS hinX3 2 rfl rfl (by decide) (List.mem_of_getElem? (i := 2) rfl) rfl dX3_ofFace_8 ?_
  refine lv_iload_n hx hb dX3_ofFace_11 rfl (lv_at hl 1 rfl) ?_
  refine cx_iald (f := (M 0)) (n := 80) (cA := cI) hx hb hE hS 18 0 rfl rfl (by omega) (by decide) dX3_ofFace_12 ?_
  have ho12 := (hO mm).2
  refine cx_topr (z := nI (((M 0) mm).toNatClampNeg)) (hO mm).1 ?_
  refine cx_iald (f := (T 0)) (n := 20) (cA := cI) hx hb hE hS 7 0 rfl rfl (by omega) (by decide) dX3_ofFace_13 ?_
  refine lv_iconst (v := (1 : Int32)) hx hb dX3_ofFace_14 (by decide) ?_
  have J23 : ∀ (v23_s0 : Int32) (H : Heap) (locs : List Loc) (ls : Array Slot), ((v23_s0 = 0 ∨ v23_s0 = 1) ∧ (¬ v23_s0 = 0 ↔ cx_fc (T 0) M mm)) → cx_S D vwCl A s (cxW q cI cJ n T k M d C J g) H locs → lv_has ls 2 [(0, .ref (q 2)), (1, .int (nI mm))] → W p l e ({ frames := 0, cells := 0, slots := 0, locals := 0 } : Room) s m args below meth c H locs 0 0 Q (F0 m 23 ls [.int v23_s0]) := by
    intro v23_s0 H locs ls b23 hS hl
    exact RET _ () _ _ _ _ dX3_ofFace_23 (cx_nb b23.1) (by first | exact b23 | (try clear RET); (try clear hS); (try clear hl); (try clear hE); (try clear hts); (try clear hb); (try clear hx); (try clear hml); (try clear hown); (try clear hinX3); (try clear hinX5); (try clear J23); have y10 : ¬ (1 : Int32) = 0 := (by decide); first | assumption | (grind)) hS
  refine lv_icmp_ne (tgt := 22) hx hb dX3_ofFace_15 (by decide) (fun h15 => ?_) (fun h15 => ?_)
  · skip
    refine lv_iconst (v := (0 : Int32)) hx hb dX3_ofFace_22 (by decide) ?_
    exact J23 (0 : Int32) _ _ _ (cx_e0 (by (try clear RET); (try clear hS); (try clear hl); (try clear hE); (try clear hts); (try clear hb); (try clear hx); (try clear hml); (try clear hown); (try clear hinX3); (try clear hinX5); (try clear J23); have y10 : ¬ (1 : Int32) = 0 := (by decide); first | assumption | (grind))) hS (lv_sub hl [0, 1] rfl)
  · skip
    refine lv_iconst (v := (1 : Int32)) hx hb dX3_ofFace_18 (by decide) ?_
    refine lv_goto (tgt := 23) hx hb dX3_ofFace_19 (by decide) ?_
    exact J23 (1 : Int32) _ _ _ (cx_e1 (by (try clear RET); (try clear hS); (try clear hl); (try clear hE); (try clear hts); (try clear hb); (try clear hx); (try clear hml); (try clear hown); (try clear hinX3); (try clear hinX5); (try clear J23); have y10 : ¬ (1 : Int32) = 0 := (by decide); first | assumption | (grind))) hS (lv_sub hl [0, 1] rfl)
set_option maxHeartbeats 4000000 in
set_option maxRecDepth 100000 in
theorem c_X3_seenFrom (l : Launch) (D : va_G) (q : Nat → Nat) (cI cJ : ClassId) (n : Nat) (T : Nat → Nat → Int32) (k : Nat) (M : Nat → Nat → Int32) (d : Nat) (C : Nat → Nat → Int32) (J : Nat → Nat → Int32) (g : Nat → Int64) (mm : Nat) (t : Nat) (hm : mm < 80) (ht : t < 20) (hO : cx_R (M 0) 20) : cx_Mi l D vwCl [(cI, .int), (cJ, .long)] cx_NW yX3_seenFrom wsX3_seenFrom ({ frames := 0, cells := 0, slots := 0, locals := 0 } : Room) [.ref (q 2), .int (nI mm), .int (nI t)] (cxW q cI cJ n T k M d C J g) (fun (r : Int32) (uw : Unit) => (r = 0 ∨ r = 1) ∧ (¬ r = 0 ↔ cx_se (T 2) M mm t)) (fun _ => (cxW q cI cJ n T k M d C J g)) := by
  refine cx_Mi.of (cc := cX3_seenFrom) (maxL := 3) cx_NW_ok (by decide) rfl (Nat.le_of_ble_eq_true rfl) ?_
  intro p e s m args below meth c Q A ls hx hb hml hown hts hE RET hS hl
  have hl : lv_has ls 3 [(0, .ref (q 2)), (1, .int (nI mm)), (2, .int (nI t))] := hl
  have hown : s.vm.findClass RX3 = some m.cls := hown
  have hinX3 : ∀ w ∈ u_ws RX3 TX3 8, w ∈ wsX3_seenFrom := cx_mem [4, 5, 6, 7, 8, 9, 10, 11] (by decide +kernel)
  have hinX5 : ∀ w ∈ u_ws RX5 TX5 12, w ∈ wsX3_seenFrom := cx_mem [12, 13, 14, 15, 16, 17, 18, 19, 20, 21, 22, 23] (by decide +kernel)
  refine lv_aload_n hx hb dX3_seenFrom_0 rfl (lv_at hl 0 rfl) ?_
  refine cx_get (own := RX3) (index := 24) (C := RX3) (T := TX3) (N := 8) (k := 5) (ci := 3) (v := .ref (q 22)) hx hb hts hown hE hS hinX3 2 rfl rfl (by decide) (List.mem_of_getElem? (i := 1) rfl) rfl dX3_seenFrom_1 ?_
  refine lv_iload_n hx hb dX3_seenFrom_4 rfl (lv_at hl 1 rfl) ?_
  refine cx_iald (f := (M 4)) (n := 80) (cA := cI) hx hb hE hS 22 0 rfl rfl (by omega) (by decide) dX3_seenFrom_5 ?_
  refine lv_iconst (v := (1 : Int32)) hx hb dX3_seenFrom_6 (by decide) ?_
  refine lv_icmp_ne (tgt := 42) hx hb dX3_seenFrom_7 (by decide) (fun h7 => ?_) (fun h7 => ?_)
  · skip
    refine lv_aload_n hx hb dX3_seenFrom_42 rfl (lv_at hl 0 rfl) ?_
    refine cx_get (own := RX3) (index := 24) (C := RX3) (T := TX3) (N := 8) (k := 5) (ci := 3) (v := .ref (q 22)) hx hb hts hown hE hS hinX3 2 rfl rfl (by decide) (List.mem_of_getElem? (i := 1) rfl) rfl dX3_seenFrom_43 ?_
    refine lv_iload_n hx hb dX3_seenFrom_46 rfl (lv_at hl 1 rfl) ?_
    refine cx_iald (f := (M 4)) (n := 80) (cA := cI) hx hb hE hS 22 0 rfl rfl (by omega) (by decide) dX3_seenFrom_47 ?_
    have J56 : ∀ (v56_s0 : Int32) (H : Heap) (locs : List Loc) (ls : Array Slot), ((v56_s0 = 0 ∨ v56_s0 = 1) ∧ (¬ v56_s0 = 0 ↔ cx_se (T 2) M mm t)) → cx_S D vwCl A s (cxW q cI cJ n T k M d C J g) H locs → lv_has ls 3 [(0, .ref (q 2)), (1, .int (nI mm)), (2, .int (nI t))] → W p l e ({ frames := 0, cells := 0, slots := 0, locals := 0 } : Room) s m args below meth c H locs 0 0 Q (F0 m 56 ls [.int v56_s0]) := by
      intro v56_s0 H locs ls b56 hS hl
      exact RET _ () _ _ _ _ dX3_seenFrom_56 (cx_nb b56.1) (by first | exact b56 | (try clear RET); (try clear hS); (try clear hl); (try clear hE); (try clear hts); (try clear hb); (try clear hx); (try clear hml); (try clear hown); (try clear hinX3); (try clear hinX5); (try clear J56); have y10 : ¬ (1 : Int32) = 0 := (by decide); first | assumption | (grind)) hS
    refine lv_if_eq (tgt := 55) hx hb dX3_seenFrom_48 (by decide) (fun h48 => ?_) (fun h48 => ?_)
    · skip
      refine lv_iconst (v := (0 : Int32)) hx hb dX3_seenFrom_55 (by decide) ?_
      exact J56 (0 : Int32) _ _ _ (cx_e0 (by (try clear RET); (try clear hS); (try clear hl); (try clear hE); (try clear hts); (try clear hb); (try clear hx); (try clear hml); (try clear hown); (try clear hinX3); (try clear hinX5); (try clear J56); have y10 : ¬ (1 : Int32) = 0 := (by decide); first | assumption | (grind))) hS (lv_sub hl [0, 1, 2] rfl)
    · skip
      refine lv_iconst (v := (1 : Int32)) hx hb dX3_seenFrom_51 (by decide) ?_
      refine lv_goto (tgt := 56) hx hb dX3_seenFrom_52 (by decide) ?_
      exact J56 (1 : Int32) _ _ _ (cx_e1 (by (try clear RET); (try clear hS); (try clear hl); (try clear hE); (try clear hts); (try clear hb); (try clear hx); (try clear hml); (try clear hown); (try clear hinX3); (try clear hinX5); (try clear J56); have y10 : ¬ (1 : Int32) = 0 := (by decide); first | assumption | (grind))) hS (lv_sub hl [0, 1, 2] rfl)
  · skip
    refine lv_aload_n hx hb dX3_seenFrom_10 rfl (lv_at hl 0 rfl) ?_
    refine cx_get (own := RX3) (index := 34) (C := RX3) (T := TX3) (N := 8) (k := 0) (ci := 3) (v := .ref (q 1)) hx hb hts hown hE hS hinX3 2 rfl rfl (by decide) (List.mem_of_getElem? (i := 2) rfl) rfl dX3_seenFrom_11 ?_
    refine cx_getN (own := RX3) (index := 64) (C := RX5) (T := TX5) (N := 12) (k := 2) (ci := 5) (host := "ClassRules") (v := .ref (q 9)) hx hb hts hown hE hS hinX5 1 rfl rfl (by decide) (List.mem_of_getElem? (i := 7) rfl) rfl dX3_seenFrom_14 ?_
    refine lv_aload_n hx hb dX3_seenFrom_17 rfl (lv_at hl 0 rfl) ?_
    refine cx_get (own := RX3) (index := 9) (C := RX3) (T := TX3) (N := 8) (k := 1) (ci := 3) (v := .ref (q 18)) hx hb hts hown hE hS hinX3 2 rfl rfl (by decide) (List.mem_of_getElem? (i := 3) rfl) rfl dX3_seenFrom_18 ?_
    refine lv_iload_n hx hb dX3_seenFrom_21 rfl (lv_at hl 1 rfl) ?_
    refine cx_iald (f := (M 0)) (n := 80) (cA := cI) hx hb hE hS 18 0 rfl rfl (by omega) (by decide) dX3_seenFrom_22 ?_
    have ho22 := (hO mm).2
    refine cx_topr (z := nI (((M 0) mm).toNatClampNeg)) (hO mm).1 ?_
    refine cx_iald (f := (T 2)) (n := 20) (cA := cI) hx hb hE hS 9 0 rfl rfl (by omega) (by decide) dX3_seenFrom_23 ?_
    refine lv_aload_n hx hb dX3_seenFrom_24 rfl (lv_at hl 0 rfl) ?_
    refine cx_get (own := RX3) (index := 34) (C := RX3) (T := TX3) (N := 8) (k := 0) (ci := 3) (v := .ref (q 1)) hx hb hts hown hE hS hinX3 2 rfl rfl (by decide) (List.mem_of_getElem? (i := 2) rfl) rfl dX3_seenFrom_25 ?_
    refine cx_getN (own := RX3) (index := 64) (C := RX5) (T := TX5) (N := 12) (k := 2) (ci := 5) (host := "ClassRules") (v := .ref (q 9)) hx hb hts hown hE hS hinX5 1 rfl rfl (by decide) (List.mem_of_getElem? (i := 7) rfl) rfl dX3_seenFrom_28 ?_
    refine lv_iload_n hx hb dX3_seenFrom_31 rfl (lv_at hl 2 rfl) ?_
    refine cx_iald (f := (T 2)) (n := 20) (cA := cI) hx hb hE hS 9 0 rfl rfl (by omega) (by decide) dX3_seenFrom_32 ?_
    have J41 : ∀ (v41_s0 : Int32) (H : Heap) (locs : List Loc) (ls : Array Slot), ((v41_s0 = 0 ∨ v41_s0 = 1) ∧ (¬ v41_s0 = 0 ↔ cx_se (T 2) M mm t)) → cx_S D vwCl A s (cxW q cI cJ n T k M d C J g) H locs → lv_has ls 3 [(0, .ref (q 2)), (1, .int (nI mm)), (2, .int (nI t))] → W p l e ({ frames := 0, cells := 0, slots := 0, locals := 0 } : Room) s m args below meth c H locs 0 0 Q (F0 m 41 ls [.int v41_s0]) := by
      intro v41_s0 H locs ls b41 hS hl
      exact RET _ () _ _ _ _ dX3_seenFrom_41 (cx_nb b41.1) (by first | exact b41 | (try clear RET); (try clear hS); (try clear hl); (try clear hE); (try clear hts); (try clear hb); (try clear hx); (try clear hml); (try clear hown); (try clear hinX3); (try clear hinX5); (try clear J41); have y10 : ¬ (1 : Int32) = 0 := (by decide); first | assumption | (grind)) hS
    refine lv_icmp_ne (tgt := 40) hx hb dX3_seenFrom_33 (by decide) (fun h33 => ?_) (fun h33 => ?_)
    · skip
      refine lv_iconst (v := (0 : Int32)) hx hb dX3_seenFrom_40 (by decide) ?_
      exact J41 (0 : Int32) _ _ _ (cx_e0 (by (try clear RET); (try clear hS); (try clear hl); (try clear hE); (try clear hts); (try clear hb); (try clear hx); (try clear hml); (try clear hown); (try clear hinX3); (try clear hinX5); (try clear J41); have y10 : ¬ (1 : Int32) = 0 := (by decide); first | assumption | (grind))) hS (lv_sub hl [0, 1, 2] rfl)
    · skip
      refine lv_iconst (v := (1 : Int32)) hx hb dX3_seenFrom_36 (by decide) ?_
      refine lv_goto (tgt := 41) hx hb dX3_seenFrom_37 (by decide) ?_
      exact J41 (1 : Int32) _ _ _ (cx_e1 (by (try clear RET); (try clear hS); (try clear hl); (try clear hE); (try clear hts); (try clear hb); (try clear hx); (try clear hml); (try clear hown); (try clear hinX3); (try clear hinX5); (try clear J41); have y10 : ¬ (1 : Int32) = 0 := (by decide); first | assumption | (grind))) hS (lv_sub hl [0, 1, 2] rfl)
set_option maxHeartbeats 4000000 in
set_option maxRecDepth 100000 in
theorem c_X3_shared (l : Launch) (D : va_G) (q : Nat → Nat) (cI cJ : ClassId) (n : Nat) (T : Nat → Nat → Int32) (k : Nat) (M : Nat → Nat → Int32) (d : Nat) (C : Nat → Nat → Int32) (J : Nat → Nat → Int32) (g : Nat → Int64) (mm : Nat) (t : Nat) (hn : n ≤ 20) (hk : k ≤ 80) (hm : mm < k) (ht : t < n) (hO : cx_R (M 0) 20) (hOn : ∀ j, j < k → (M 0 j).toNatClampNeg < n) : cx_Mi l D vwCl [(cI, .int), (cJ, .long)] cx_NW yX3_shared wsX3_shared ({ frames := 1, cells := 0, slots := 0, locals := 22 } : Room) [.ref (q 2), .int (nI mm), .int (nI t)] (cxW q cI cJ n T k M d C J g) (fun (r : Int32) (uw : Unit) => (r = 0 ∨ r = 1) ∧ (¬ r = 0 ↔ cx_sh (T 0) (T 2) M (cx_Ac T n) mm t)) (fun _ => (cxW q cI cJ n T k M d C J g)) := by
  refine cx_Mi.of (cc := cX3_shared) (maxL := 4) cx_NW_ok (by decide) rfl (Nat.le_of_ble_eq_true rfl) ?_
  intro p e s m args below meth c Q A ls hx hb hml hown hts hE RET hS hl
  have hl : lv_has ls 4 [(0, .ref (q 2)), (1, .int (nI mm)), (2, .int (nI t))] := hl
  have hown : s.vm.findClass RX3 = some m.cls := hown
  have hinX3 : ∀ w ∈ u_ws RX3 TX3 8, w ∈ wsX3_shared := cx_mem [21, 22, 23, 24, 25, 26, 27, 28] (by decide +kernel)
  have hinX5 : ∀ w ∈ u_ws RX5 TX5 12, w ∈ wsX3_shared := cx_mem [29, 30, 31, 32, 33, 34, 35, 36, 37, 38, 39, 40] (by decide +kernel)
  have hom := hOn mm hm
  refine lv_aload_n hx hb dX3_shared_0 rfl (lv_at hl 0 rfl) ?_
  refine lv_iload_n hx hb dX3_shared_1 rfl (lv_at hl 1 rfl) ?_
  refine lv_iconst (v := nI 4) hx hb dX3_shared_2 (by decide) ?_
  refine cx_cVi (As := [.int (nI mm), .int (nI 4)]) (rest := []) ⟨hx, hb, hml, hown, hts⟩ hE hS (c_X3_marked l D q cI cJ n T k M d C J g mm (nI 4) (by first | assumption | omega | rfl)) (cwV 2 hts gX3_shared_X3_marked rfl rfl rfl (by decide +kernel) ⟨Nat.le_of_ble_eq_true rfl, Nat.le_of_ble_eq_true rfl⟩) 2 3 rfl rfl rfl hl.1 rfl (Nat.le_of_ble_eq_true rfl) ⟨Nat.zero_le _, Nat.zero_le _⟩ dX3_shared_3 (fun r_3 u_3 H locs hp_3 hS => ?_)
  have hp_3 : (r_3 = 0 ∨ r_3 = 1) ∧ (¬ r_3 = 0 ↔ cx_mk ((M 3)) mm (nI 4)) := hp_3
  have J22 : ∀ (v22_s0 : Int32) (H : Heap) (locs : List Loc) (ls : Array Slot), ((v22_s0 = 0 ∨ v22_s0 = 1) ∧ (¬ v22_s0 = 0 ↔ cx_mk (M 3) mm (nI 4) ∧ cx_fc (T 0) M mm)) → cx_S D vwCl A s (cxW q cI cJ n T k M d C J g) H locs → lv_has ls 4 [(0, .ref (q 2)), (1, .int (nI mm)), (2, .int (nI t))] → W p l e ({ frames := 1, cells := 0, slots := 0, locals := 22 } : Room) s m args below meth c H locs 0 0 Q (F0 m 22 ls [.int v22_s0]) := by
    intro v22_s0 H locs ls b22 hS hl
    refine lv_istore_n (lv' := [(3, .int v22_s0), (0, .ref (q 2)), (1, .int (nI mm)), (2, .int (nI t))]) hx hb dX3_shared_22 rfl hl (by decide) rfl (fun ls hl => ?_)
    refine lv_aload_n hx hb dX3_shared_23 rfl (lv_at hl 1 rfl) ?_
    refine cx_get (own := RX3) (index := 34) (C := RX3) (T := TX3) (N := 8) (k := 0) (ci := 3) (v := .ref (q 1)) hx hb hts hown hE hS hinX3 2 rfl rfl (by decide) (List.mem_of_getElem? (i := 1) rfl) rfl dX3_shared_24 ?_
    refine cx_getN (own := RX3) (index := 55) (C := RX5) (T := TX5) (N := 12) (k := 10) (ci := 5) (host := "ClassRules") (v := .ref (q 17)) hx hb hts hown hE hS hinX5 1 rfl rfl (by decide) (List.mem_of_getElem? (i := 16) rfl) rfl dX3_shared_27 ?_
    refine lv_iload_n hx hb dX3_shared_30 rfl (lv_at hl 3 rfl) ?_
    refine cx_iald (f := (T 10)) (n := 20) (cA := cI) hx hb hE hS 17 0 rfl rfl (by omega) (by decide) dX3_shared_31 ?_
    refine lv_aload_n hx hb dX3_shared_32 rfl (lv_at hl 1 rfl) ?_
    refine cx_get (own := RX3) (index := 9) (C := RX3) (T := TX3) (N := 8) (k := 1) (ci := 3) (v := .ref (q 18)) hx hb hts hown hE hS hinX3 2 rfl rfl (by decide) (List.mem_of_getElem? (i := 2) rfl) rfl dX3_shared_33 ?_
    refine lv_iload_n hx hb dX3_shared_36 rfl (lv_at hl 2 rfl) ?_
    refine cx_iald (f := (M 0)) (n := 80) (cA := cI) hx hb hE hS 18 0 rfl rfl (by omega) (by decide) dX3_shared_37 ?_
    have ho37 := (hO mm).2
    refine cx_topr (z := nI (((M 0) mm).toNatClampNeg)) (hO mm).1 ?_
    refine cx_cNi (As := [.int ((T 10) t), .int (nI (((M 0) mm).toNatClampNeg))]) (rest := []) ⟨hx, hb, hml, hown, hts⟩ hE hS (c_X6_holds_at_b l D [(cI, .int), (cJ, .long)] (cxW q cI cJ n T k M d C J g) ((T 10) t) (((M 0) mm).toNatClampNeg) (by first | assumption | omega | rfl)) ⟨va_cnB (own := RX3) (index := 58) (host := "ClassRules") 2 hts gX3_shared_X6_holds_n58 rfl rfl rfl (hE.2.1 _ (List.mem_of_getElem? (i := 38) rfl)) (hts (.initialized RX6) (List.mem_of_getElem? (i := 14) rfl)) (by decide +kernel) ⟨Nat.le_of_ble_eq_true rfl, Nat.le_of_ble_eq_true rfl⟩, hts (.static yX6_holds) (List.mem_of_getElem? (i := 13) rfl), trivial⟩ rfl hl.1 rfl (Nat.le_of_ble_eq_true rfl) ⟨Nat.zero_le _, Nat.zero_le _⟩ dX3_shared_38 (fun r_38 u_38 H locs hp_38 hS => ?_)
    have hp_38 : r_38 = cx_b (bt ((T 10) t) (((M 0) mm).toNatClampNeg) = true) := hp_38
    subst hp_38
    have J62 : ∀ (v62_s0 : Int32) (H : Heap) (locs : List Loc) (ls : Array Slot), ((v62_s0 = 0 ∨ v62_s0 = 1) ∧ (¬ v62_s0 = 0 ↔ cx_sh (T 0) (T 2) M (cx_Ac T n) mm t)) → cx_S D vwCl A s (cxW q cI cJ n T k M d C J g) H locs → lv_has ls 4 [(0, .ref (q 2)), (1, .int (nI mm)), (2, .int (nI t)), (3, .int v22_s0)] → W p l e ({ frames := 1, cells := 0, slots := 0, locals := 22 } : Room) s m args below meth c H locs 0 0 Q (F0 m 62 ls [.int v62_s0]) := by
      intro v62_s0 H locs ls b62 hS hl
      exact RET _ () _ _ _ _ dX3_shared_62 (cx_nb b62.1) (by first | exact b62 | (try clear RET); (try clear hS); (try clear hl); (try clear hE); (try clear hts); (try clear hb); (try clear hx); (try clear hml); (try clear hown); (try clear hinX3); (try clear hinX5); (try clear J22); (try clear J62); have y10 : ¬ (1 : Int32) = 0 := (by decide); first | assumption | (grind)) hS
    have J61 : ∀ (H : Heap) (locs : List Loc) (ls : Array Slot), (¬ (cx_sh (T 0) (T 2) M (cx_Ac T n) mm t)) → cx_S D vwCl A s (cxW q cI cJ n T k M d C J g) H locs → lv_has ls 4 [(0, .ref (q 2)), (1, .int (nI mm)), (2, .int (nI t)), (3, .int v22_s0)] → W p l e ({ frames := 1, cells := 0, slots := 0, locals := 22 } : Room) s m args below meth c H locs 0 0 Q (F0 m 61 ls []) := by
      intro  H locs ls f61 hS hl
      refine lv_iconst (v := (0 : Int32)) hx hb dX3_shared_61 (by decide) ?_
      exact J62 (0 : Int32) _ _ _ (cx_e0 (by (try clear RET); (try clear hS); (try clear hl); (try clear hE); (try clear hts); (try clear hb); (try clear hx); (try clear hml); (try clear hown); (try clear hinX3); (try clear hinX5); (try clear J22); (try clear J62); (try clear J61); have y10 : ¬ (1 : Int32) = 0 := (by decide); first | assumption | (grind))) hS (lv_sub hl [0, 1, 2, 3] rfl)
    refine lv_if_eq (tgt := 61) hx hb dX3_shared_41 (by decide) (fun h41 => ?_) (fun h41 => ?_)
    · skip
      have g41 := cx_b0 h41
      exact J61  _ _ _ (by (try clear RET); (try clear hS); (try clear hl); (try clear hE); (try clear hts); (try clear hb); (try clear hx); (try clear hml); (try clear hown); (try clear hinX3); (try clear hinX5); (try clear J22); (try clear J62); (try clear J61); have y10 : ¬ (1 : Int32) = 0 := (by decide); first | assumption | (grind)) hS (lv_sub hl [1, 2, 3, 0] rfl)
    · skip
      have g41 := cx_b1 h41
      refine lv_aload_n hx hb dX3_shared_44 rfl (lv_at hl 1 rfl) ?_
      refine lv_iload_n hx hb dX3_shared_45 rfl (lv_at hl 2 rfl) ?_
      refine lv_iload_n hx hb dX3_shared_46 rfl (lv_at hl 3 rfl) ?_
      refine cx_cVi (As := [.int (nI mm), .int (nI t)]) (rest := []) ⟨hx, hb, hml, hown, hts⟩ hE hS (c_X3_seenFrom l D q cI cJ n T k M d C J g mm t (by first | assumption | omega | rfl) (by first | assumption | omega | rfl) (by first | assumption | omega | rfl)) (cwV 2 hts gX3_shared_X3_seenFrom rfl rfl rfl (by decide +kernel) ⟨Nat.le_of_ble_eq_true rfl, Nat.le_of_ble_eq_true rfl⟩) 2 3 rfl rfl rfl hl.1 rfl (Nat.le_of_ble_eq_true rfl) ⟨Nat.zero_le _, Nat.zero_le _⟩ dX3_shared_47 (fun r_47 u_47 H locs hp_47 hS => ?_)
      have hp_47 : (r_47 = 0 ∨ r_47 = 1) ∧ (¬ r_47 = 0 ↔ cx_se ((T 2)) M mm t) := hp_47
      refine lv_if_eq (tgt := 61) hx hb dX3_shared_50 (by decide) (fun h50 => ?_) (fun h50 => ?_)
      · skip
        have g50 : ¬ (cx_se ((T 2)) M mm t) := fun z => hp_47.2.mpr z h50
        exact J61  _ _ _ (by (try clear RET); (try clear hS); (try clear hl); (try clear hE); (try clear hts); (try clear hb); (try clear hx); (try clear hml); (try clear hown); (try clear hinX3); (try clear hinX5); (try clear J22); (try clear J62); (try clear J61); have y10 : ¬ (1 : Int32) = 0 := (by decide); first | assumption | (grind)) hS (lv_sub hl [1, 2, 3, 0] rfl)
      · skip
        have g50 : cx_se ((T 2)) M mm t := hp_47.2.mp h50
        refine lv_iload_n hx hb dX3_shared_53 rfl (lv_at hl 0 rfl) ?_
        refine lv_if_ne (tgt := 61) hx hb dX3_shared_54 (by decide) (fun h54 => ?_) (fun h54 => ?_)
        · skip
          have g54 : cx_mk (M 3) mm (nI 4) ∧ cx_fc (T 0) M mm := b22.2.mp h54
          exact J61  _ _ _ (by (try clear RET); (try clear hS); (try clear hl); (try clear hE); (try clear hts); (try clear hb); (try clear hx); (try clear hml); (try clear hown); (try clear hinX3); (try clear hinX5); (try clear J22); (try clear J62); (try clear J61); have y10 : ¬ (1 : Int32) = 0 := (by decide); first | assumption | (grind)) hS (lv_sub hl [1, 2, 3, 0] rfl)
        · skip
          have g54 : ¬ (cx_mk (M 3) mm (nI 4) ∧ cx_fc (T 0) M mm) := fun z => b22.2.mpr z h54
          refine lv_iconst (v := (1 : Int32)) hx hb dX3_shared_57 (by decide) ?_
          refine lv_goto (tgt := 62) hx hb dX3_shared_58 (by decide) ?_
          exact J62 (1 : Int32) _ _ _ (cx_e1 (by (try clear RET); (try clear hS); (try clear hl); (try clear hE); (try clear hts); (try clear hb); (try clear hx); (try clear hml); (try clear hown); (try clear hinX3); (try clear hinX5); (try clear J22); (try clear J62); (try clear J61); have y10 : ¬ (1 : Int32) = 0 := (by decide); first | assumption | (grind))) hS (lv_sub hl [1, 2, 3, 0] rfl)
  have J21 : ∀ (H : Heap) (locs : List Loc) (ls : Array Slot), (¬ (cx_mk (M 3) mm (nI 4) ∧ cx_fc (T 0) M mm)) → cx_S D vwCl A s (cxW q cI cJ n T k M d C J g) H locs → lv_has ls 4 [(0, .ref (q 2)), (1, .int (nI mm)), (2, .int (nI t))] → W p l e ({ frames := 1, cells := 0, slots := 0, locals := 22 } : Room) s m args below meth c H locs 0 0 Q (F0 m 21 ls []) := by
    intro  H locs ls f21 hS hl
    refine lv_iconst (v := (0 : Int32)) hx hb dX3_shared_21 (by decide) ?_
    exact J22 (0 : Int32) _ _ _ (cx_e0 (by (try clear RET); (try clear hS); (try clear hl); (try clear hE); (try clear hts); (try clear hb); (try clear hx); (try clear hml); (try clear hown); (try clear hinX3); (try clear hinX5); (try clear J22); (try clear J21); have y10 : ¬ (1 : Int32) = 0 := (by decide); first | assumption | (grind))) hS (lv_sub hl [0, 1, 2] rfl)
  refine lv_if_eq (tgt := 21) hx hb dX3_shared_6 (by decide) (fun h6 => ?_) (fun h6 => ?_)
  · skip
    have g6 : ¬ (cx_mk ((M 3)) mm (nI 4)) := fun z => hp_3.2.mpr z h6
    exact J21  _ _ _ (by (try clear RET); (try clear hS); (try clear hl); (try clear hE); (try clear hts); (try clear hb); (try clear hx); (try clear hml); (try clear hown); (try clear hinX3); (try clear hinX5); (try clear J22); (try clear J21); have y10 : ¬ (1 : Int32) = 0 := (by decide); first | assumption | (grind)) hS (lv_sub hl [0, 1, 2] rfl)
  · skip
    have g6 : cx_mk ((M 3)) mm (nI 4) := hp_3.2.mp h6
    refine lv_aload_n hx hb dX3_shared_9 rfl (lv_at hl 0 rfl) ?_
    refine lv_iload_n hx hb dX3_shared_10 rfl (lv_at hl 1 rfl) ?_
    refine cx_cVi (As := [.int (nI mm)]) (rest := []) ⟨hx, hb, hml, hown, hts⟩ hE hS (c_X3_ofFace l D q cI cJ n T k M d C J g mm (by first | assumption | omega | rfl) (by first | assumption | omega | rfl)) (cwV 1 hts gX3_shared_X3_ofFace rfl rfl rfl (by decide +kernel) ⟨Nat.le_of_ble_eq_true rfl, Nat.le_of_ble_eq_true rfl⟩) 2 3 rfl rfl rfl hl.1 rfl (Nat.le_of_ble_eq_true rfl) ⟨Nat.zero_le _, Nat.zero_le _⟩ dX3_shared_11 (fun r_11 u_11 H locs hp_11 hS => ?_)
    have hp_11 : (r_11 = 0 ∨ r_11 = 1) ∧ (¬ r_11 = 0 ↔ cx_fc ((T 0)) M mm) := hp_11
    refine lv_if_eq (tgt := 21) hx hb dX3_shared_14 (by decide) (fun h14 => ?_) (fun h14 => ?_)
    · skip
      have g14 : ¬ (cx_fc ((T 0)) M mm) := fun z => hp_11.2.mpr z h14
      exact J21  _ _ _ (by (try clear RET); (try clear hS); (try clear hl); (try clear hE); (try clear hts); (try clear hb); (try clear hx); (try clear hml); (try clear hown); (try clear hinX3); (try clear hinX5); (try clear J22); (try clear J21); have y10 : ¬ (1 : Int32) = 0 := (by decide); first | assumption | (grind)) hS (lv_sub hl [0, 1, 2] rfl)
    · skip
      have g14 : cx_fc ((T 0)) M mm := hp_11.2.mp h14
      refine lv_iconst (v := (1 : Int32)) hx hb dX3_shared_17 (by decide) ?_
      refine lv_goto (tgt := 22) hx hb dX3_shared_18 (by decide) ?_
      exact J22 (1 : Int32) _ _ _ (cx_e1 (by (try clear RET); (try clear hS); (try clear hl); (try clear hE); (try clear hts); (try clear hb); (try clear hx); (try clear hml); (try clear hown); (try clear hinX3); (try clear hinX5); (try clear J22); (try clear J21); have y10 : ¬ (1 : Int32) = 0 := (by decide); first | assumption | (grind))) hS (lv_sub hl [0, 1, 2] rfl)
set_option maxHeartbeats 4000000 in
set_option maxRecDepth 100000 in
theorem c_X3_firstOfItsSort (l : Launch) (D : va_G) (q : Nat → Nat) (cI cJ : ClassId) (n : Nat) (T : Nat → Nat → Int32) (k : Nat) (M : Nat → Nat → Int32) (d : Nat) (C : Nat → Nat → Int32) (J : Nat → Nat → Int32) (g : Nat → Int64) (mm : Nat) (hm : mm < 80) : cx_Mi l D vwCl [(cI, .int), (cJ, .long)] cx_NW yX3_firstOfItsSort wsX3_firstOfItsSort ({ frames := 2, cells := 0, slots := 0, locals := 45 } : Room) [.ref (q 2), .int (nI mm)] (cxW q cI cJ n T k M d C J g) (fun (r : Int32) (uw : Unit) => (r = 0 ∨ r = 1) ∧ (¬ r = 0 ↔ ∀ j, j < mm → ¬ cx_lk M j mm)) (fun _ => (cxW q cI cJ n T k M d C J g)) := by
  refine cx_Mi.of (cc := cX3_firstOfItsSort) (maxL := 3) cx_NW_ok (by decide) rfl (Nat.le_of_ble_eq_true rfl) ?_
  intro p e s m args below meth c Q A ls hx hb hml hown hts hE RET hS hl
  have hl : lv_has ls 3 [(0, .ref (q 2)), (1, .int (nI mm))] := hl
  have hown : s.vm.findClass RX3 = some m.cls := hown
  refine lv_iconst (v := (0 : Int32)) hx hb dX3_firstOfItsSort_0 (by decide) ?_
  refine cx_topr (z := nI 0) (by decide) ?_
  refine lv_istore_n (lv' := [(2, .int (nI 0)), (0, .ref (q 2)), (1, .int (nI mm))]) hx hb dX3_firstOfItsSort_1 rfl hl (by decide) rfl (fun ls hl => ?_)
  have J2 : ∀ (N : Nat) (i2 : Nat) (H : Heap) (locs : List Loc) (ls : Array Slot), (mm - i2 < N) → (i2 ≤ mm) → (∀ j, j < i2 → ¬ cx_lk M j mm) → cx_S D vwCl A s (cxW q cI cJ n T k M d C J g) H locs → lv_has ls 3 [(0, .ref (q 2)), (1, .int (nI mm)), (2, .int (nI i2))] → W p l e ({ frames := 2, cells := 0, slots := 0, locals := 45 } : Room) s m args below meth c H locs 0 0 Q (F0 m 2 ls []) := by
    intro N2
    induction N2 with
    | zero => intro i2 H locs ls hN; exact absurd hN (by omega)
    | succ N2 ih2 =>
      intro i2 H locs ls hN2 hi2 hf hS hl
      refine lv_iload_n hx hb dX3_firstOfItsSort_2 rfl (lv_at hl 2 rfl) ?_
      refine lv_iload_n hx hb dX3_firstOfItsSort_3 rfl (lv_at hl 1 rfl) ?_
      refine lv_icmp_ge (tgt := 24) hx hb dX3_firstOfItsSort_4 (by decide) (fun h4 => ?_) (fun h4 => ?_)
      · skip
        have g4 : mm ≤ i2 := (nI_leI (a := mm) (b := i2) (by omega) (by omega)).mp h4
        refine lv_iconst (v := (1 : Int32)) hx hb dX3_firstOfItsSort_24 (by decide) ?_
        exact RET _ () _ _ _ _ dX3_firstOfItsSort_25 rfl (cx_e1 (fun j hj => hf j (by omega))) hS
      · skip
        have g4 : ¬ (mm ≤ i2) := fun z => h4 ((nI_leI (a := mm) (b := i2) (by omega) (by omega)).mpr z)
        refine lv_aload_n hx hb dX3_firstOfItsSort_7 rfl (lv_at hl 0 rfl) ?_
        refine lv_iload_n hx hb dX3_firstOfItsSort_8 rfl (lv_at hl 2 rfl) ?_
        refine lv_iload_n hx hb dX3_firstOfItsSort_9 rfl (lv_at hl 1 rfl) ?_
        refine cx_cVi (As := [.int (nI i2), .int (nI mm)]) (rest := []) ⟨hx, hb, hml, hown, hts⟩ hE hS (c_X3_alike l D q cI cJ n T k M d C J g i2 mm (by first | assumption | omega | rfl) (by first | assumption | omega | rfl)) (cwV 2 hts gX3_firstOfItsSort_X3_alike rfl rfl rfl (by decide +kernel) ⟨Nat.le_of_ble_eq_true rfl, Nat.le_of_ble_eq_true rfl⟩) 2 3 rfl rfl rfl hl.1 rfl (Nat.le_of_ble_eq_true rfl) ⟨Nat.zero_le _, Nat.zero_le _⟩ dX3_firstOfItsSort_10 (fun r_10 u_10 H locs hp_10 hS => ?_)
        have hp_10 : (r_10 = 0 ∨ r_10 = 1) ∧ (¬ r_10 = 0 ↔ cx_lk M i2 mm) := hp_10
        refine lv_if_eq (tgt := 18) hx hb dX3_firstOfItsSort_13 (by decide) (fun h13 => ?_) (fun h13 => ?_)
        · skip
          have g13 : ¬ (cx_lk M i2 mm) := fun z => hp_10.2.mpr z h13
          refine lv_iinc (v := nI (i2 + 1)) (lv' := [(2, .int (nI (i2 + 1))), (0, .ref (q 2)), (1, .int (nI mm))]) hx hb dX3_firstOfItsSort_18 hl (k := 2) rfl (cx_inc _) (by decide) rfl (fun ls hl => ?_)
          refine lv_goto (tgt := 2) hx hb dX3_firstOfItsSort_21 (by decide) ?_
          exact ih2 (i2 + 1) _ _ _ (by omega) (by omega) (by first | exact cx_all0 | exact cx_allS hf g13) hS (lv_sub hl [1, 2, 0] rfl)
        · skip
          have g13 : cx_lk M i2 mm := hp_10.2.mp h13
          refine lv_iconst (v := (0 : Int32)) hx hb dX3_firstOfItsSort_16 (by decide) ?_
          exact RET _ () _ _ _ _ dX3_firstOfItsSort_17 rfl (cx_e0 (fun z => z i2 (by omega) g13)) hS
  exact J2 (mm - 0 + 1) 0 _ _ _ (Nat.lt_succ_self _) (by omega) (by first | exact cx_all0 | exact cx_allS hf g13) hS (lv_sub hl [1, 2, 0] rfl)
