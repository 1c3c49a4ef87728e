set_option maxHeartbeats 4000000 in
set_option maxRecDepth 100000 in
/-- in(v, a, b) -/
theorem c_X7_in (l : Launch) (D : va_G) (tys : List (ClassId × FieldType)) (ws : va_W) (v : Int32) (a : Int32) (b : Int32) : cx_Mi l D vwCl tys cx_NW yX7_in wsX7_in ({ frames := 0, cells := 0, slots := 0, locals := 0 } : Room) [.int v, .int a, .int b] ws (fun (r : Int32) (uw : Unit) => r = cx_b (a ≤ v ∧ v ≤ b)) (fun _ => ws) := by
  refine cx_Mi.of (cc := cX7_in) (maxL := 3) cx_NW_ok (by decide) rfl (Nat.le_of_ble_eq_true rfl) ?_
  intro p e s m args below meth c Q A ls hx hb hml hown hts hE RET hS hl
  have hl : lv_has ls 3 [(0, .int v), (1, .int a), (2, .int b)] := hl
  have hown : s.vm.findClass RX7 = some m.cls := hown
  refine lv_iload_n hx hb dX7_in_0 rfl (lv_at hl 0 rfl) ?_
  refine lv_iload_n hx hb dX7_in_1 rfl (lv_at hl 1 rfl) ?_
  refine lv_icmp_lt (tgt := 14) hx hb dX7_in_2 (by decide) (fun h2 => ?_) (fun h2 => ?_)
  · skip
    refine lv_iconst (v := (0 : Int32)) hx hb dX7_in_14 (by decide) ?_
    exact RET _ () _ _ _ _ dX7_in_15 rfl (by first | exact cx_bt ⟨Int32.not_lt.mp h2, Int32.not_lt.mp h7⟩ | exact cx_bf (fun z => absurd z.2 (Int32.not_le.mpr h7)) | exact cx_bf (fun z => absurd z.1 (Int32.not_le.mpr h2))) hS
  · skip
    refine lv_iload_n hx hb dX7_in_5 rfl (lv_at hl 0 rfl) ?_
    refine lv_iload_n hx hb dX7_in_6 rfl (lv_at hl 2 rfl) ?_
    refine lv_icmp_gt (tgt := 14) hx hb dX7_in_7 (by decide) (fun h7 => ?_) (fun h7 => ?_)
    · skip
      refine lv_iconst (v := (0 : Int32)) hx hb dX7_in_14 (by decide) ?_
      exact RET _ () _ _ _ _ dX7_in_15 rfl (by first | exact cx_bt ⟨Int32.not_lt.mp h2, Int32.not_lt.mp h7⟩ | exact cx_bf (fun z => absurd z.2 (Int32.not_le.mpr h7)) | exact cx_bf (fun z => absurd z.1 (Int32.not_le.mpr h2))) hS
    · skip
      refine lv_iconst (v := (1 : Int32)) hx hb dX7_in_10 (by decide) ?_
      refine lv_goto (tgt := 15) hx hb dX7_in_11 (by decide) ?_
      exact RET _ () _ _ _ _ dX7_in_15 rfl (by first | exact cx_bt ⟨Int32.not_lt.mp h2, Int32.not_lt.mp h7⟩ | exact cx_bf (fun z => absurd z.2 (Int32.not_le.mpr h7)) | exact cx_bf (fun z => absurd z.1 (Int32.not_le.mpr h2))) hS
set_option maxHeartbeats 4000000 in
set_option maxRecDepth 100000 in
/-- isType(t) -/
theorem c_X7_isType (l : Launch) (D : va_G) (q : Nat → Nat) (cI cZ : ClassId) (n : Nat) (T : Nat → Nat → Int32) (k : Nat) (M : Nat → Nat → Int32) (d : Nat) (Z : Nat → Nat → Int32) (F : Nat → Nat → Int32) (t : Int32) (hn : n ≤ 20) : cx_Mi l D vwCl [(cI, .int), (cZ, .boolean)] cx_NW yX7_isType wsX7_isType ({ frames := 1, cells := 0, slots := 0, locals := 22 } : Room) [.ref (q 0), .int t] (cyW q cI cZ n T k M d Z F) (fun (r : Int32) (uw : Unit) => r = cx_b (0 ≤ t ∧ t < nI n)) (fun _ => (cyW q cI cZ n T k M d Z F)) := by
  refine cx_Mi.of (cc := cX7_isType) (maxL := 2) cx_NW_ok (by decide) rfl (Nat.le_of_ble_eq_true rfl) ?_
  intro p e s m args below meth c Q A ls hx hb hml hown hts hE RET hS hl
  have hl : lv_has ls 2 [(0, .ref (q 0)), (1, .int t)] := hl
  have hown : s.vm.findClass RX7 = some m.cls := hown
  have hinX7 : ∀ w ∈ u_ws RX7 TX7 22, w ∈ wsX7_isType := cx_mem [6, 7, 8, 9, 10, 11, 12, 13, 14, 15, 16, 17, 18, 19, 20, 21, 22, 23, 24, 25, 26, 27] (by decide +kernel)
  refine lv_iload_n hx hb dX7_isType_0 rfl (lv_at hl 1 rfl) ?_
  refine lv_iconst (v := (0 : Int32)) hx hb dX7_isType_1 (by decide) ?_
  refine lv_aload_n hx hb dX7_isType_2 rfl (lv_at hl 0 rfl) ?_
  refine cx_get (own := RX7) (index := 65) (C := RX7) (T := TX7) (N := 22) (k := 0) (ci := 7) (v := .int (nI n)) hx hb hts hown hE hS hinX7 0 rfl rfl (by decide) (List.mem_of_getElem? (i := 1) rfl) rfl dX7_isType_3 ?_
  refine lv_iconst (v := (1 : Int32)) hx hb dX7_isType_6 (by decide) ?_
  refine lv_isub hx hb dX7_isType_7 ?_
  refine cx_cSi (As := [.int t, .int (0 : Int32), .int ((nI n) - (1 : Int32))]) (rest := []) ⟨hx, hb, hml, hown, hts⟩ hE hS (c_X7_in l D [(cI, .int), (cZ, .boolean)] (cyW q cI cZ n T k M d Z F) t (0 : Int32) ((nI n) - (1 : Int32)) ) (va_cwS 3 hts gX7_isType_X7_in rfl rfl rfl (by decide +kernel) ⟨Nat.le_of_ble_eq_true rfl, Nat.le_of_ble_eq_true rfl⟩) rfl hl.1 rfl (Nat.le_of_ble_eq_true rfl) ⟨Nat.zero_le _, Nat.zero_le _⟩ dX7_isType_8 (fun r_8 u_8 H locs hp_8 hS => ?_)
  have hp_8 : r_8 = cx_b ((0 : Int32) ≤ t ∧ t ≤ ((nI n) - (1 : Int32))) := hp_8
  subst hp_8
  exact RET _ () _ _ _ _ dX7_isType_11 cx_bn (cx_bc (cx_m1 n (by omega) t)) hS
set_option maxHeartbeats 4000000 in
set_option maxRecDepth 100000 in
/-- told(a) of the reference -/
theorem c_X7_told (l : Launch) (D : va_G) (q : Nat → Nat) (cI cZ : ClassId) (n : Nat) (T : Nat → Nat → Int32) (k : Nat) (M : Nat → Nat → Int32) (d : Nat) (Z : Nat → Nat → Int32) (F : Nat → Nat → Int32) (a : Int32) : cx_Mi l D vwCl [(cI, .int), (cZ, .boolean)] cx_NW yX7_told wsX7_told ({ frames := 0, cells := 0, slots := 0, locals := 0 } : Room) [.ref (q 0), .int a] (cyW q cI cZ n T k M d Z F) (fun (r : Int32) (uw : Unit) => r = (if a = 0 then nI n else if a = 1 then nI k else (-1 : Int32))) (fun _ => (cyW q cI cZ n T k M d Z F)) := by
  refine cx_Mi.of (cc := cX7_told) (maxL := 2) cx_NW_ok (by decide) rfl (Nat.le_of_ble_eq_true rfl) ?_
  intro p e s m args below meth c Q A ls hx hb hml hown hts hE RET hS hl
  have hl : lv_has ls 2 [(0, .ref (q 0)), (1, .int a)] := hl
  have hown : s.vm.findClass RX7 = some m.cls := hown
  have hinX7 : ∀ w ∈ u_ws RX7 TX7 22, w ∈ wsX7_told := cx_mem [3, 4, 5, 6, 7, 8, 9, 10, 11, 12, 13, 14, 15, 16, 17, 18, 19, 20, 21, 22, 23, 24] (by decide +kernel)
  refine lv_iload_n hx hb dX7_told_0 rfl (lv_at hl 1 rfl) ?_
  refine lv_if_ne (tgt := 11) hx hb dX7_told_1 (by decide) (fun h1 => ?_) (fun h1 => ?_)
  · skip
    refine lv_iload_n hx hb dX7_told_11 rfl (lv_at hl 1 rfl) ?_
    refine lv_iconst (v := (1 : Int32)) hx hb dX7_told_12 (by decide) ?_
    refine lv_icmp_ne (tgt := 23) hx hb dX7_told_13 (by decide) (fun h13 => ?_) (fun h13 => ?_)
    · skip
      refine lv_iconst (v := (-1 : Int32)) hx hb dX7_told_23 (by decide) ?_
      exact RET _ () _ _ _ _ dX7_told_24 rfl (by first | rw [if_pos h1] | rw [if_neg h1, if_pos h13] | rw [if_neg h1, if_neg h13]) hS
    · skip
      refine lv_aload_n hx hb dX7_told_16 rfl (lv_at hl 0 rfl) ?_
      refine cx_get (own := RX7) (index := 81) (C := RX7) (T := TX7) (N := 22) (k := 9) (ci := 7) (v := .int (nI k)) hx hb hts hown hE hS hinX7 0 rfl rfl (by decide) (List.mem_of_getElem? (i := 2) rfl) rfl dX7_told_17 ?_
      refine lv_goto (tgt := 24) hx hb dX7_told_20 (by decide) ?_
      exact RET _ () _ _ _ _ dX7_told_24 rfl (by first | rw [if_pos h1] | rw [if_neg h1, if_pos h13] | rw [if_neg h1, if_neg h13]) hS
  · skip
    refine lv_aload_n hx hb dX7_told_4 rfl (lv_at hl 0 rfl) ?_
    refine cx_get (own := RX7) (index := 65) (C := RX7) (T := TX7) (N := 22) (k := 0) (ci := 7) (v := .int (nI n)) hx hb hts hown hE hS hinX7 0 rfl rfl (by decide) (List.mem_of_getElem? (i := 1) rfl) rfl dX7_told_5 ?_
    refine lv_goto (tgt := 24) hx hb dX7_told_8 (by decide) ?_
    exact RET _ () _ _ _ _ dX7_told_24 rfl (by first | rw [if_pos h1] | rw [if_neg h1, if_pos h13] | rw [if_neg h1, if_neg h13]) hS
set_option maxHeartbeats 4000000 in
set_option maxRecDepth 100000 in
/-- type(kd, mk, pk, pr) of the reference -/
theorem c_X7_type (l : Launch) (D : va_G) (q : Nat → Nat) (cI cZ : ClassId) (n : Nat) (T : Nat → Nat → Int32) (k : Nat) (M : Nat → Nat → Int32) (d : Nat) (Z : Nat → Nat → Int32) (F : Nat → Nat → Int32) (kd : Int32) (mk : Int32) (pk : Int32) (pr : Int32) (hn : n ≤ 20) : cx_Mi l D vwCl [(cI, .int), (cZ, .boolean)] cx_NW yX7_type wsX7_type ({ frames := 1, cells := 0, slots := 0, locals := 22 } : Room) [.ref (q 0), .int kd, .int mk, .int pk, .int pr] (cyW q cI cZ n T k M d Z F) (fun (r : Int32) (uw : (Nat) × (Nat → Nat → Int32) × (Nat → Nat → Int32)) => (¬ cx_okT kd mk pk pr ∧ r = (-1 : Int32) ∧ uw.1 = n ∧ uw.2.1 = T ∧ uw.2.2 = Z) ∨ (cx_okT kd mk pk pr ∧ ¬ n < 20 ∧ r = (-2 : Int32) ∧ uw.1 = n ∧ uw.2.1 = T ∧ uw.2.2 = Z) ∨ (cx_okT kd mk pk pr ∧ n < 20 ∧ r = nI n ∧ uw.1 = n + 1 ∧ uw.2.1 = cx_u (cx_u (cx_u (cx_u T 0 (upd (T 0) n kd)) 1 (upd (T 1) n mk)) 2 (upd (T 2) n pk)) 3 (upd (T 3) n pr) ∧ uw.2.2 = cx_u Z 3 (fun _ => (0 : Int32)))) (fun uw => (cyW q cI cZ uw.1 uw.2.1 k M d uw.2.2 F)) := by
  refine cx_Mi.of (cc := cX7_type) (maxL := 5) cx_NW_ok (by decide) rfl (Nat.le_of_ble_eq_true rfl) ?_
  intro p e s m args below meth c Q A ls hx hb hml hown hts hE RET hS hl
  have hl : lv_has ls 5 [(0, .ref (q 0)), (1, .int kd), (2, .int mk), (3, .int pk), (4, .int pr)] := hl
  have hown : s.vm.findClass RX7 = some m.cls := hown
  have hinX7 : ∀ w ∈ u_ws RX7 TX7 22, w ∈ wsX7_type := cx_mem [11, 12, 13, 14, 15, 16, 17, 18, 19, 20, 21, 22, 23, 24, 25, 26, 27, 28, 29, 30, 31, 32] (by decide +kernel)
  refine lv_iload_n hx hb dX7_type_0 rfl (lv_at hl 1 rfl) ?_
  refine lv_iconst (v := (0 : Int32)) hx hb dX7_type_1 (by decide) ?_
  refine lv_iconst (v := nI 3) hx hb dX7_type_2 (by decide) ?_
  refine cx_cSi (As := [.int kd, .int (0 : Int32), .int (nI 3)]) (rest := []) ⟨hx, hb, hml, hown, hts⟩ hE hS (c_X7_in l D [(cI, .int), (cZ, .boolean)] (cyW q cI cZ n T k M d Z F) kd (0 : Int32) (nI 3) ) (va_cwS 3 hts gX7_type_X7_in rfl rfl rfl (by decide +kernel) ⟨Nat.le_of_ble_eq_true rfl, Nat.le_of_ble_eq_true rfl⟩) rfl hl.1 rfl (Nat.le_of_ble_eq_true rfl) ⟨Nat.zero_le _, Nat.zero_le _⟩ dX7_type_3 (fun r_3 u_3 H locs hp_3 hS => ?_)
  have hp_3 : r_3 = cx_b ((0 : Int32) ≤ kd ∧ kd ≤ (nI 3)) := hp_3
  subst hp_3
  refine lv_if_eq (tgt := 39) hx hb dX7_type_6 (by decide) (fun h6 => ?_) (fun h6 => ?_)
  · skip
    have g6 := cx_b0 h6
    refine lv_iconst (v := (-1 : Int32)) hx hb dX7_type_39 (by decide) ?_
    exact RET _ (n, T, Z) _ _ _ _ dX7_type_40 rfl (by first | exact Or.inl ⟨fun z => g6 ⟨z.1.1, (cx_le3 _).mpr z.1.2⟩, rfl, rfl, rfl, rfl⟩ | exact Or.inl ⟨fun z => g16 ⟨z.2.1.1, (cx_le15 _).mpr z.2.1.2⟩, rfl, rfl, rfl, rfl⟩ | exact Or.inl ⟨fun z => g25 ⟨z.2.2.1.1, (cx_le3 _).mpr z.2.2.1.2⟩, rfl, rfl, rfl, rfl⟩ | exact Or.inl ⟨fun z => g36 ((cx_pr _).mpr z.2.2.2), rfl, rfl, rfl, rfl⟩) hS
  · skip
    have g6 := cx_b1 h6
    refine lv_iload_n hx hb dX7_type_9 rfl (lv_at hl 2 rfl) ?_
    refine lv_iconst (v := (0 : Int32)) hx hb dX7_type_10 (by decide) ?_
    refine lv_bipush (v := nI 15) hx hb dX7_type_11 (by decide) ?_
    refine cx_cSi (As := [.int mk, .int (0 : Int32), .int (nI 15)]) (rest := []) ⟨hx, hb, hml, hown, hts⟩ hE hS (c_X7_in l D [(cI, .int), (cZ, .boolean)] (cyW q cI cZ n T k M d Z F) mk (0 : Int32) (nI 15) ) (va_cwS 3 hts gX7_type_X7_in rfl rfl rfl (by decide +kernel) ⟨Nat.le_of_ble_eq_true rfl, Nat.le_of_ble_eq_true rfl⟩) rfl hl.1 rfl (Nat.le_of_ble_eq_true rfl) ⟨Nat.zero_le _, Nat.zero_le _⟩ dX7_type_13 (fun r_13 u_13 H locs hp_13 hS => ?_)
    have hp_13 : r_13 = cx_b ((0 : Int32) ≤ mk ∧ mk ≤ (nI 15)) := hp_13
    subst hp_13
    refine lv_if_eq (tgt := 39) hx hb dX7_type_16 (by decide) (fun h16 => ?_) (fun h16 => ?_)
    · skip
      have g16 := cx_b0 h16
      refine lv_iconst (v := (-1 : Int32)) hx hb dX7_type_39 (by decide) ?_
      exact RET _ (n, T, Z) _ _ _ _ dX7_type_40 rfl (by first | exact Or.inl ⟨fun z => g6 ⟨z.1.1, (cx_le3 _).mpr z.1.2⟩, rfl, rfl, rfl, rfl⟩ | exact Or.inl ⟨fun z => g16 ⟨z.2.1.1, (cx_le15 _).mpr z.2.1.2⟩, rfl, rfl, rfl, rfl⟩ | exact Or.inl ⟨fun z => g25 ⟨z.2.2.1.1, (cx_le3 _).mpr z.2.2.1.2⟩, rfl, rfl, rfl, rfl⟩ | exact Or.inl ⟨fun z => g36 ((cx_pr _).mpr z.2.2.2), rfl, rfl, rfl, rfl⟩) hS
    · skip
      have g16 := cx_b1 h16
      refine lv_iload_n hx hb dX7_type_19 rfl (lv_at hl 3 rfl) ?_
      refine lv_iconst (v := (0 : Int32)) hx hb dX7_type_20 (by decide) ?_
      refine lv_iconst (v := nI 3) hx hb dX7_type_21 (by decide) ?_
      refine cx_cSi (As := [.int pk, .int (0 : Int32), .int (nI 3)]) (rest := []) ⟨hx, hb, hml, hown, hts⟩ hE hS (c_X7_in l D [(cI, .int), (cZ, .boolean)] (cyW q cI cZ n T k M d Z F) pk (0 : Int32) (nI 3) ) (va_cwS 3 hts gX7_type_X7_in rfl rfl rfl (by decide +kernel) ⟨Nat.le_of_ble_eq_true rfl, Nat.le_of_ble_eq_true rfl⟩) rfl hl.1 rfl (Nat.le_of_ble_eq_true rfl) ⟨Nat.zero_le _, Nat.zero_le _⟩ dX7_type_22 (fun r_22 u_22 H locs hp_22 hS => ?_)
      have hp_22 : r_22 = cx_b ((0 : Int32) ≤ pk ∧ pk ≤ (nI 3)) := hp_22
      subst hp_22
      refine lv_if_eq (tgt := 39) hx hb dX7_type_25 (by decide) (fun h25 => ?_) (fun h25 => ?_)
      · skip
        have g25 := cx_b0 h25
        refine lv_iconst (v := (-1 : Int32)) hx hb dX7_type_39 (by decide) ?_
        exact RET _ (n, T, Z) _ _ _ _ dX7_type_40 rfl (by first | exact Or.inl ⟨fun z => g6 ⟨z.1.1, (cx_le3 _).mpr z.1.2⟩, rfl, rfl, rfl, rfl⟩ | exact Or.inl ⟨fun z => g16 ⟨z.2.1.1, (cx_le15 _).mpr z.2.1.2⟩, rfl, rfl, rfl, rfl⟩ | exact Or.inl ⟨fun z => g25 ⟨z.2.2.1.1, (cx_le3 _).mpr z.2.2.1.2⟩, rfl, rfl, rfl, rfl⟩ | exact Or.inl ⟨fun z => g36 ((cx_pr _).mpr z.2.2.2), rfl, rfl, rfl, rfl⟩) hS
      · skip
        have g25 := cx_b1 h25
        refine lv_iload hx hb dX7_type_28 (lv_at hl 4 rfl) ?_
        refine lv_iconst (v := (-1 : Int32)) hx hb dX7_type_30 (by decide) ?_
        refine lv_bipush (v := nI 19) hx hb dX7_type_31 (by decide) ?_
        refine cx_cSi (As := [.int pr, .int (-1 : Int32), .int (nI 19)]) (rest := []) ⟨hx, hb, hml, hown, hts⟩ hE hS (c_X7_in l D [(cI, .int), (cZ, .boolean)] (cyW q cI cZ n T k M d Z F) pr (-1 : Int32) (nI 19) ) (va_cwS 3 hts gX7_type_X7_in rfl rfl rfl (by decide +kernel) ⟨Nat.le_of_ble_eq_true rfl, Nat.le_of_ble_eq_true rfl⟩) rfl hl.1 rfl (Nat.le_of_ble_eq_true rfl) ⟨Nat.zero_le _, Nat.zero_le _⟩ dX7_type_33 (fun r_33 u_33 H locs hp_33 hS => ?_)
        have hp_33 : r_33 = cx_b ((-1 : Int32) ≤ pr ∧ pr ≤ (nI 19)) := hp_33
        subst hp_33
        refine lv_if_ne (tgt := 41) hx hb dX7_type_36 (by decide) (fun h36 => ?_) (fun h36 => ?_)
        · skip
          have g36 := cx_b1 h36
          refine lv_aload_n hx hb dX7_type_41 rfl (lv_at hl 0 rfl) ?_
          refine cx_get (own := RX7) (index := 65) (C := RX7) (T := TX7) (N := 22) (k := 0) (ci := 7) (v := .int (nI n)) hx hb hts hown hE hS hinX7 0 rfl rfl (by decide) (List.mem_of_getElem? (i := 1) rfl) rfl dX7_type_42 ?_
          refine lv_bipush (v := nI 20) hx hb dX7_type_45 (by decide) ?_
          refine lv_icmp_ne (tgt := 53) hx hb dX7_type_47 (by decide) (fun h47 => ?_) (fun h47 => ?_)
          · skip
            have g47 : ¬ (n = 20) := fun z => h47 ((nI_eq (a := n) (b := 20) (by omega) (by omega)).mpr z)
            refine lv_aload_n hx hb dX7_type_53 rfl (lv_at hl 0 rfl) ?_
            refine cx_get (own := RX7) (index := 7) (C := RX7) (T := TX7) (N := 22) (k := 1) (ci := 7) (v := .ref (q 1)) hx hb hts hown hE hS hinX7 0 rfl rfl (by decide) (List.mem_of_getElem? (i := 2) rfl) rfl dX7_type_54 ?_
            refine lv_aload_n hx hb dX7_type_57 rfl (lv_at hl 0 rfl) ?_
            refine cx_get (own := RX7) (index := 65) (C := RX7) (T := TX7) (N := 22) (k := 0) (ci := 7) (v := .int (nI n)) hx hb hts hown hE hS hinX7 0 rfl rfl (by decide) (List.mem_of_getElem? (i := 1) rfl) rfl dX7_type_58 ?_
            refine lv_iload_n hx hb dX7_type_61 rfl (lv_at hl 1 rfl) ?_
            refine cx_iast (k := n) (f := (T 0)) (n := 20) (cA := cI) (ws' := (cyW q cI cZ n (cx_u T 0 (upd (T 0) n kd)) k M d Z F)) hx hb hE hS 1 0 rfl rfl (by omega) (by decide) rfl dX7_type_62 (fun H locs hS => ?_)
            refine lv_aload_n hx hb dX7_type_63 rfl (lv_at hl 0 rfl) ?_
            refine cx_get (own := RX7) (index := 13) (C := RX7) (T := TX7) (N := 22) (k := 2) (ci := 7) (v := .ref (q 2)) hx hb hts hown hE hS hinX7 0 rfl rfl (by decide) (List.mem_of_getElem? (i := 3) rfl) rfl dX7_type_64 ?_
            refine lv_aload_n hx hb dX7_type_67 rfl (lv_at hl 0 rfl) ?_
            refine cx_get (own := RX7) (index := 65) (C := RX7) (T := TX7) (N := 22) (k := 0) (ci := 7) (v := .int (nI n)) hx hb hts hown hE hS hinX7 0 rfl rfl (by decide) (List.mem_of_getElem? (i := 1) rfl) rfl dX7_type_68 ?_
            refine lv_iload_n hx hb dX7_type_71 rfl (lv_at hl 2 rfl) ?_
            refine cx_iast (k := n) (f := (T 1)) (n := 20) (cA := cI) (ws' := (cyW q cI cZ n (cx_u (cx_u T 0 (upd (T 0) n kd)) 1 (upd (T 1) n mk)) k M d Z F)) hx hb hE hS 2 0 rfl rfl (by omega) (by decide) rfl dX7_type_72 (fun H locs hS => ?_)
            refine lv_aload_n hx hb dX7_type_73 rfl (lv_at hl 0 rfl) ?_
            refine cx_get (own := RX7) (index := 16) (C := RX7) (T := TX7) (N := 22) (k := 3) (ci := 7) (v := .ref (q 3)) hx hb hts hown hE hS hinX7 0 rfl rfl (by decide) (List.mem_of_getElem? (i := 4) rfl) rfl dX7_type_74 ?_
            refine lv_aload_n hx hb dX7_type_77 rfl (lv_at hl 0 rfl) ?_
            refine cx_get (own := RX7) (index := 65) (C := RX7) (T := TX7) (N := 22) (k := 0) (ci := 7) (v := .int (nI n)) hx hb hts hown hE hS hinX7 0 rfl rfl (by decide) (List.mem_of_getElem? (i := 1) rfl) rfl dX7_type_78 ?_
            refine lv_iload_n hx hb dX7_type_81 rfl (lv_at hl 3 rfl) ?_
            refine cx_iast (k := n) (f := (T 2)) (n := 20) (cA := cI) (ws' := (cyW q cI cZ n (cx_u (cx_u (cx_u T 0 (upd (T 0) n kd)) 1 (upd (T 1) n mk)) 2 (upd (T 2) n pk)) k M d Z F)) hx hb hE hS 3 0 rfl rfl (by omega) (by decide) rfl dX7_type_82 (fun H locs hS => ?_)
            refine lv_aload_n hx hb dX7_type_83 rfl (lv_at hl 0 rfl) ?_
            refine cx_get (own := RX7) (index := 19) (C := RX7) (T := TX7) (N := 22) (k := 4) (ci := 7) (v := .ref (q 4)) hx hb hts hown hE hS hinX7 0 rfl rfl (by decide) (List.mem_of_getElem? (i := 5) rfl) rfl dX7_type_84 ?_
            refine lv_aload_n hx hb dX7_type_87 rfl (lv_at hl 0 rfl) ?_
            refine cx_get (own := RX7) (index := 65) (C := RX7) (T := TX7) (N := 22) (k := 0) (ci := 7) (v := .int (nI n)) hx hb hts hown hE hS hinX7 0 rfl rfl (by decide) (List.mem_of_getElem? (i := 1) rfl) rfl dX7_type_88 ?_
            refine lv_iload hx hb dX7_type_91 (lv_at hl 4 rfl) ?_
            refine cx_iast (k := n) (f := (T 3)) (n := 20) (cA := cI) (ws' := (cyW q cI cZ n (cx_u (cx_u (cx_u (cx_u T 0 (upd (T 0) n kd)) 1 (upd (T 1) n mk)) 2 (upd (T 2) n pk)) 3 (upd (T 3) n pr)) k M d Z F)) hx hb hE hS 4 0 rfl rfl (by omega) (by decide) rfl dX7_type_93 (fun H locs hS => ?_)
            refine lv_aload_n hx hb dX7_type_94 rfl (lv_at hl 0 rfl) ?_
            refine lv_dup hx hb dX7_type_95 rfl ?_
            refine cx_get (own := RX7) (index := 65) (C := RX7) (T := TX7) (N := 22) (k := 0) (ci := 7) (v := .int (nI n)) hx hb hts hown hE hS hinX7 0 rfl rfl (by decide) (List.mem_of_getElem? (i := 1) rfl) rfl dX7_type_96 ?_
            refine lv_iconst (v := (1 : Int32)) hx hb dX7_type_99 (by decide) ?_
            refine lv_iadd hx hb dX7_type_100 ?_
            refine cx_topr (z := nI (n + 1)) (nI_1 _) ?_
            refine cx_put (own := RX7) (index := 65) (C := RX7) (T := TX7) (N := 22) (k := 0) (ci := 7) (v := .int (nI (n + 1))) (ty := .int) (ws' := (cyW q cI cZ (n + 1) (cx_u (cx_u (cx_u (cx_u T 0 (upd (T 0) n kd)) 1 (upd (T 1) n mk)) 2 (upd (T 2) n pk)) 3 (upd (T 3) n pr)) k M d Z F)) hx hb hts hown hE hS hinX7 tyX7 tyX7_ok nmX7 0 rfl rfl (by decide) (List.mem_of_getElem? (i := 1) rfl) rfl (by decide +kernel) rfl rfl (Nat.le_of_ble_eq_true rfl) rfl dX7_type_101 (fun H locs hS => ?_)
            refine lv_aload_n hx hb dX7_type_104 rfl (lv_at hl 0 rfl) ?_
            refine lv_iconst (v := (0 : Int32)) hx hb dX7_type_105 (by decide) ?_
            refine cx_put (own := RX7) (index := 73) (C := RX7) (T := TX7) (N := 22) (k := 17) (ci := 7) (v := .int (0 : Int32)) (ty := .boolean) (ws' := (cyW q cI cZ (n + 1) (cx_u (cx_u (cx_u (cx_u T 0 (upd (T 0) n kd)) 1 (upd (T 1) n mk)) 2 (upd (T 2) n pk)) 3 (upd (T 3) n pr)) k M d (cx_u Z 3 (fun _ => (0 : Int32))) F)) hx hb hts hown hE hS hinX7 tyX7 tyX7_ok nmX7 0 rfl rfl (by decide) (List.mem_of_getElem? (i := 6) rfl) rfl (by decide +kernel) rfl rfl (Nat.le_of_ble_eq_true rfl) rfl dX7_type_106 (fun H locs hS => ?_)
            refine lv_aload_n hx hb dX7_type_109 rfl (lv_at hl 0 rfl) ?_
            refine cx_get (own := RX7) (index := 65) (C := RX7) (T := TX7) (N := 22) (k := 0) (ci := 7) (v := .int (nI (n + 1))) hx hb hts hown hE hS hinX7 0 rfl rfl (by decide) (List.mem_of_getElem? (i := 1) rfl) rfl dX7_type_110 ?_
            refine lv_iconst (v := (1 : Int32)) hx hb dX7_type_113 (by decide) ?_
            refine lv_isub hx hb dX7_type_114 ?_
            refine cx_topr (z := nI n) (nI_pred n) ?_
            exact RET _ (n + 1, cx_u (cx_u (cx_u (cx_u T 0 (upd (T 0) n kd)) 1 (upd (T 1) n mk)) 2 (upd (T 2) n pk)) 3 (upd (T 3) n pr), cx_u Z 3 (fun _ => (0 : Int32))) _ _ _ _ dX7_type_115 rfl (Or.inr (Or.inr ⟨⟨⟨g6.1, (cx_le3 _).mp g6.2⟩, ⟨g16.1, (cx_le15 _).mp g16.2⟩, ⟨g25.1, (cx_le3 _).mp g25.2⟩, (cx_pr _).mp g36⟩, by omega, rfl, rfl, rfl, rfl⟩)) hS
          · skip
            have g47 : n = 20 := (nI_eq (a := n) (b := 20) (by omega) (by omega)).mp h47
            refine lv_bipush (v := (-2 : Int32)) hx hb dX7_type_50 (by decide) ?_
            exact RET _ (n, T, Z) _ _ _ _ dX7_type_52 rfl (Or.inr (Or.inl ⟨⟨⟨g6.1, (cx_le3 _).mp g6.2⟩, ⟨g16.1, (cx_le15 _).mp g16.2⟩, ⟨g25.1, (cx_le3 _).mp g25.2⟩, (cx_pr _).mp g36⟩, by omega, rfl, rfl, rfl, rfl⟩)) hS
        · skip
          have g36 := cx_b0 h36
          refine lv_iconst (v := (-1 : Int32)) hx hb dX7_type_39 (by decide) ?_
          exact RET _ (n, T, Z) _ _ _ _ dX7_type_40 rfl (by first | exact Or.inl ⟨fun z => g6 ⟨z.1.1, (cx_le3 _).mpr z.1.2⟩, rfl, rfl, rfl, rfl⟩ | exact Or.inl ⟨fun z => g16 ⟨z.2.1.1, (cx_le15 _).mpr z.2.1.2⟩, rfl, rfl, rfl, rfl⟩ | exact Or.inl ⟨fun z => g25 ⟨z.2.2.1.1, (cx_le3 _).mpr z.2.2.1.2⟩, rfl, rfl, rfl, rfl⟩ | exact Or.inl ⟨fun z => g36 ((cx_pr _).mpr z.2.2.2), rfl, rfl, rfl, rfl⟩) hS
set_option maxHeartbeats 4000000 in
set_option maxRecDepth 100000 in
theorem c_X7_marked (l : Launch) (D : va_G) (q : Nat → Nat) (cI cZ : ClassId) (n : Nat) (T : Nat → Nat → Int32) (k : Nat) (M : Nat → Nat → Int32) (d : Nat) (Z : Nat → Nat → Int32) (F : Nat → Nat → Int32) (t : Nat) (mk : Int32) (ht : t < 20) : cx_Mi l D vwCl [(cI, .int), (cZ, .boolean)] cx_NW yX7_marked wsX7_marked ({ frames := 0, cells := 0, slots := 0, locals := 0 } : Room) [.ref (q 0), .int (nI t), .int mk] (cyW q cI cZ n T k M d Z F) (fun (r : Int32) (uw : Unit) => (r = 0 ∨ r = 1) ∧ (¬ r = 0 ↔ cx_mk (T 1) t mk)) (fun _ => (cyW q cI cZ n T k M d Z F)) := by
  refine cx_Mi.of (cc := cX7_marked) (maxL := 3) cx_NW_ok (by decide) rfl (Nat.le_of_ble_eq_true rfl) ?_
  intro p e s m args below meth c Q A ls hx hb hml hown hts hE RET hS hl
  have hl : lv_has ls 3 [(0, .ref (q 0)), (1, .int (nI t)), (2, .int mk)] := hl
  have hown : s.vm.findClass RX7 = some m.cls := hown
  have hinX7 : ∀ w ∈ u_ws RX7 TX7 22, w ∈ wsX7_marked := cx_mem [2, 3, 4, 5, 6, 7, 8, 9, 10, 11, 12, 13, 14, 15, 16, 17, 18, 19, 20, 21, 22, 23] (by decide +kernel)
  refine lv_aload_n hx hb dX7_marked_0 rfl (lv_at hl 0 rfl) ?_
  refine cx_get (own := RX7) (index := 13) (C := RX7) (T := TX7) (N := 22) (k := 2) (ci := 7) (v := .ref (q 2)) hx hb hts hown hE hS hinX7 0 rfl rfl (by decide) (List.mem_of_getElem? (i := 1) rfl) rfl dX7_marked_1 ?_
  refine lv_iload_n hx hb dX7_marked_4 rfl (lv_at hl 1 rfl) ?_
  refine cx_iald (f := (T 1)) (n := 20) (cA := cI) hx hb hE hS 2 0 rfl rfl (by omega) (by decide) dX7_marked_5 ?_
  refine lv_iload_n hx hb dX7_marked_6 rfl (lv_at hl 2 rfl) ?_
  refine lv_iand hx hb dX7_marked_7 ?_
  have J16 : ∀ (v16_s0 : Int32) (H : Heap) (locs : List Loc) (ls : Array Slot), ((v16_s0 = 0 ∨ v16_s0 = 1) ∧ (¬ v16_s0 = 0 ↔ cx_mk (T 1) t mk)) → cx_S D vwCl A s (cyW q cI cZ n T k M d Z F) H locs → lv_has ls 3 [(0, .ref (q 0)), (1, .int (nI t)), (2, .int mk)] → W p l e ({ frames := 0, cells := 0, slots := 0, locals := 0 } : Room) s m args below meth c H locs 0 0 Q (F0 m 16 ls [.int v16_s0]) := by
    intro v16_s0 H locs ls b16 hS hl
    exact RET _ () _ _ _ _ dX7_marked_16 (cx_nb b16.1) (by first | exact b16 | (try clear RET); (try clear hS); (try clear hl); (try clear hE); (try clear hts); (try clear hb); (try clear hx); (try clear hml); (try clear hown); (try clear hinX7); (try clear J16); have y10 : ¬ (1 : Int32) = 0 := (by decide); first | assumption | (grind)) hS
  refine lv_if_eq (tgt := 15) hx hb dX7_marked_8 (by decide) (fun h8 => ?_) (fun h8 => ?_)
  · skip
    refine lv_iconst (v := (0 : Int32)) hx hb dX7_marked_15 (by decide) ?_
    exact J16 (0 : Int32) _ _ _ (cx_e0 (by (try clear RET); (try clear hS); (try clear hl); (try clear hE); (try clear hts); (try clear hb); (try clear hx); (try clear hml); (try clear hown); (try clear hinX7); (try clear J16); have y10 : ¬ (1 : Int32) = 0 := (by decide); first | assumption | (grind))) hS (lv_sub hl [0, 1, 2] rfl)
  · skip
    refine lv_iconst (v := (1 : Int32)) hx hb dX7_marked_11 (by decide) ?_
    refine lv_goto (tgt := 16) hx hb dX7_marked_12 (by decide) ?_
    exact J16 (1 : Int32) _ _ _ (cx_e1 (by (try clear RET); (try clear hS); (try clear hl); (try clear hE); (try clear hts); (try clear hb); (try clear hx); (try clear hml); (try clear hown); (try clear hinX7); (try clear J16); have y10 : ¬ (1 : Int32) = 0 := (by decide); first | assumption | (grind))) hS (lv_sub hl [0, 1, 2] rfl)
set_option maxHeartbeats 4000000 in
set_option maxRecDepth 100000 in
theorem c_X7_is_at_1 (l : Launch) (D : va_G) (q : Nat → Nat) (cI cZ : ClassId) (n : Nat) (T : Nat → Nat → Int32) (k : Nat) (M : Nat → Nat → Int32) (d : Nat) (Z : Nat → Nat → Int32) (F : Nat → Nat → Int32) (mm : Nat) (st : Int32) (mk : Int32) (hm : mm < 80) (hst : st = 1) : cx_Mi l D vwCl [(cI, .int), (cZ, .boolean)] cx_NW yX7_is wsX7_is ({ frames := 0, cells := 0, slots := 0, locals := 0 } : Room) [.ref (q 0), .int (nI mm), .int st, .int mk] (cyW q cI cZ n T k M d Z F) (fun (r : Int32) (uw : Unit) => (r = 0 ∨ r = 1) ∧ (¬ r = 0 ↔ cx_mk (M 3) mm mk)) (fun _ => (cyW q cI cZ n T k M d Z F)) := by
  refine cx_Mi.of (cc := cX7_is) (maxL := 4) cx_NW_ok (by decide) rfl (Nat.le_of_ble_eq_true rfl) ?_
  intro p e s m args below meth c Q A ls hx hb hml hown hts hE RET hS hl
  have hl : lv_has ls 4 [(0, .ref (q 0)), (1, .int (nI mm)), (2, .int st), (3, .int mk)] := hl
  have hown : s.vm.findClass RX7 = some m.cls := hown
  have hinX7 : ∀ w ∈ u_ws RX7 TX7 22, w ∈ wsX7_is := cx_mem [2, 3, 4, 5, 6, 7, 8, 9, 10, 11, 12, 13, 14, 15, 16, 17, 18, 19, 20, 21, 22, 23] (by decide +kernel)
  refine lv_aload_n hx hb dX7_is_0 rfl (lv_at hl 0 rfl) ?_
  refine cx_get (own := RX7) (index := 43) (C := RX7) (T := TX7) (N := 22) (k := 13) (ci := 7) (v := .ref (q 12)) hx hb hts hown hE hS hinX7 0 rfl rfl (by decide) (List.mem_of_getElem? (i := 1) rfl) rfl dX7_is_1 ?_
  refine lv_iload_n hx hb dX7_is_4 rfl (lv_at hl 1 rfl) ?_
  refine cx_iald (f := (M 3)) (n := 80) (cA := cI) hx hb hE hS 12 0 rfl rfl (by omega) (by decide) dX7_is_5 ?_
  refine lv_iload_n hx hb dX7_is_6 rfl (lv_at hl 3 rfl) ?_
  refine lv_iand hx hb dX7_is_7 ?_
  have J16 : ∀ (v16_s0 : Int32) (H : Heap) (locs : List Loc) (ls : Array Slot), ((v16_s0 = 0 ∨ v16_s0 = 1) ∧ (¬ v16_s0 = 0 ↔ cx_mk (M 3) mm mk)) → cx_S D vwCl A s (cyW q cI cZ n T k M d Z F) H locs → lv_has ls 4 [(0, .ref (q 0)), (1, .int (nI mm)), (2, .int st), (3, .int mk)] → W p l e ({ frames := 0, cells := 0, slots := 0, locals := 0 } : Room) s m args below meth c H locs 0 0 Q (F0 m 16 ls [.int v16_s0]) := by
    intro v16_s0 H locs ls b16 hS hl
    refine lv_iload_n hx hb dX7_is_16 rfl (lv_at hl 2 rfl) ?_
    have J25 : ∀ (v25_s0 : Int32) (H : Heap) (locs : List Loc) (ls : Array Slot), ((v25_s0 = 0 ∨ v25_s0 = 1) ∧ (¬ v25_s0 = 0 ↔ cx_mk (M 3) mm mk)) → cx_S D vwCl A s (cyW q cI cZ n T k M d Z F) H locs → lv_has ls 4 [(0, .ref (q 0)), (1, .int (nI mm)), (2, .int st), (3, .int mk)] → W p l e ({ frames := 0, cells := 0, slots := 0, locals := 0 } : Room) s m args below meth c H locs 0 0 Q (F0 m 25 ls [.int v25_s0]) := by
      intro v25_s0 H locs ls b25 hS hl
      exact RET _ () _ _ _ _ dX7_is_25 (cx_nb b25.1) (by first | exact b25 | (try clear RET); (try clear hS); (try clear hl); (try clear hE); (try clear hts); (try clear hb); (try clear hx); (try clear hml); (try clear hown); (try clear hinX7); (try clear J16); (try clear J25); have y10 : ¬ (1 : Int32) = 0 := (by decide); first | assumption | (grind)) hS
    refine lv_icmp_ne (tgt := 24) hx hb dX7_is_17 (by decide) (fun h17 => ?_) (fun h17 => ?_)
    · skip
      refine lv_iconst (v := (0 : Int32)) hx hb dX7_is_24 (by decide) ?_
      exact J25 (0 : Int32) _ _ _ (cx_e0 (by (try clear RET); (try clear hS); (try clear hl); (try clear hE); (try clear hts); (try clear hb); (try clear hx); (try clear hml); (try clear hown); (try clear hinX7); (try clear J16); (try clear J25); have y10 : ¬ (1 : Int32) = 0 := (by decide); first | assumption | (grind))) hS (lv_sub hl [0, 1, 2, 3] rfl)
    · skip
      refine lv_iconst (v := (1 : Int32)) hx hb dX7_is_20 (by decide) ?_
      refine lv_goto (tgt := 25) hx hb dX7_is_21 (by decide) ?_
      exact J25 (1 : Int32) _ _ _ (cx_e1 (by (try clear RET); (try clear hS); (try clear hl); (try clear hE); (try clear hts); (try clear hb); (try clear hx); (try clear hml); (try clear hown); (try clear hinX7); (try clear J16); (try clear J25); have y10 : ¬ (1 : Int32) = 0 := (by decide); first | assumption | (grind))) hS (lv_sub hl [0, 1, 2, 3] rfl)
  refine lv_if_eq (tgt := 15) hx hb dX7_is_8 (by decide) (fun h8 => ?_) (fun h8 => ?_)
  · skip
    refine lv_iconst (v := (0 : Int32)) hx hb dX7_is_15 (by decide) ?_
    exact J16 (0 : Int32) _ _ _ (cx_e0 (by (try clear RET); (try clear hS); (try clear hl); (try clear hE); (try clear hts); (try clear hb); (try clear hx); (try clear hml); (try clear hown); (try clear hinX7); (try clear J16); have y10 : ¬ (1 : Int32) = 0 := (by decide); first | assumption | (grind))) hS (lv_sub hl [0, 1, 2, 3] rfl)
  · skip
    refine lv_iconst (v := (1 : Int32)) hx hb dX7_is_11 (by decide) ?_
    refine lv_goto (tgt := 16) hx hb dX7_is_12 (by decide) ?_
    exact J16 (1 : Int32) _ _ _ (cx_e1 (by (try clear RET); (try clear hS); (try clear hl); (try clear hE); (try clear hts); (try clear hb); (try clear hx); (try clear hml); (try clear hown); (try clear hinX7); (try clear J16); have y10 : ¬ (1 : Int32) = 0 := (by decide); first | assumption | (grind))) hS (lv_sub hl [0, 1, 2, 3] rfl)
set_option maxHeartbeats 4000000 in
set_option maxRecDepth 100000 in
theorem c_X7_is_at_0 (l : Launch) (D : va_G) (q : Nat → Nat) (cI cZ : ClassId) (n : Nat) (T : Nat → Nat → Int32) (k : Nat) (M : Nat → Nat → Int32) (d : Nat) (Z : Nat → Nat → Int32) (F : Nat → Nat → Int32) (mm : Nat) (st : Int32) (mk : Int32) (hm : mm < 80) (hst : st = 0) : cx_Mi l D vwCl [(cI, .int), (cZ, .boolean)] cx_NW yX7_is wsX7_is ({ frames := 0, cells := 0, slots := 0, locals := 0 } : Room) [.ref (q 0), .int (nI mm), .int st, .int mk] (cyW q cI cZ n T k M d Z F) (fun (r : Int32) (uw : Unit) => (r = 0 ∨ r = 1) ∧ (¬ r = 0 ↔ ¬ cx_mk (M 3) mm mk)) (fun _ => (cyW q cI cZ n T k M d Z F)) := by
  refine cx_Mi.of (cc := cX7_is) (maxL := 4) cx_NW_ok (by decide) rfl (Nat.le_of_ble_eq_true rfl) ?_
  intro p e s m args below meth c Q A ls hx hb hml hown hts hE RET hS hl
  have hl : lv_has ls 4 [(0, .ref (q 0)), (1, .int (nI mm)), (2, .int st), (3, .int mk)] := hl
  have hown : s.vm.findClass RX7 = some m.cls := hown
  have hinX7 : ∀ w ∈ u_ws RX7 TX7 22, w ∈ wsX7_is := cx_mem [2, 3, 4, 5, 6, 7, 8, 9, 10, 11, 12, 13, 14, 15, 16, 17, 18, 19, 20, 21, 22, 23] (by decide +kernel)
  refine lv_aload_n hx hb dX7_is_0 rfl (lv_at hl 0 rfl) ?_
  refine cx_get (own := RX7) (index := 43) (C := RX7) (T := TX7) (N := 22) (k := 13) (ci := 7) (v := .ref (q 12)) hx hb hts hown hE hS hinX7 0 rfl rfl (by decide) (List.mem_of_getElem? (i := 1) rfl) rfl dX7_is_1 ?_
  refine lv_iload_n hx hb dX7_is_4 rfl (lv_at hl 1 rfl) ?_
  refine cx_iald (f := (M 3)) (n := 80) (cA := cI) hx hb hE hS 12 0 rfl rfl (by omega) (by decide) dX7_is_5 ?_
  refine lv_iload_n hx hb dX7_is_6 rfl (lv_at hl 3 rfl) ?_
  refine lv_iand hx hb dX7_is_7 ?_
  have J16 : ∀ (v16_s0 : Int32) (H : Heap) (locs : List Loc) (ls : Array Slot), ((v16_s0 = 0 ∨ v16_s0 = 1) ∧ (¬ v16_s0 = 0 ↔ cx_mk (M 3) mm mk)) → cx_S D vwCl A s (cyW q cI cZ n T k M d Z F) H locs → lv_has ls 4 [(0, .ref (q 0)), (1, .int (nI mm)), (2, .int st), (3, .int mk)] → W p l e ({ frames := 0, cells := 0, slots := 0, locals := 0 } : Room) s m args below meth c H locs 0 0 Q (F0 m 16 ls [.int v16_s0]) := by
    intro v16_s0 H locs ls b16 hS hl
    refine lv_iload_n hx hb dX7_is_16 rfl (lv_at hl 2 rfl) ?_
    have J25 : ∀ (v25_s0 : Int32) (H : Heap) (locs : List Loc) (ls : Array Slot), ((v25_s0 = 0 ∨ v25_s0 = 1) ∧ (¬ v25_s0 = 0 ↔ ¬ cx_mk (M 3) mm mk)) → cx_S D vwCl A s (cyW q cI cZ n T k M d Z F) H locs → lv_has ls 4 [(0, .ref (q 0)), (1, .int (nI mm)), (2, .int st), (3, .int mk)] → W p l e ({ frames := 0, cells := 0, slots := 0, locals := 0 } : Room) s m args below meth c H locs 0 0 Q (F0 m 25 ls [.int v25_s0]) := by
      intro v25_s0 H locs ls b25 hS hl
      exact RET _ () _ _ _ _ dX7_is_25 (cx_nb b25.1) (by first | exact b25 | (try clear RET); (try clear hS); (try clear hl); (try clear hE); (try clear hts); (try clear hb); (try clear hx); (try clear hml); (try clear hown); (try clear hinX7); (try clear J16); (try clear J25); have y10 : ¬ (1 : Int32) = 0 := (by decide); first | assumption | (grind)) hS
    refine lv_icmp_ne (tgt := 24) hx hb dX7_is_17 (by decide) (fun h17 => ?_) (fun h17 => ?_)
    · skip
      refine lv_iconst (v := (0 : Int32)) hx hb dX7_is_24 (by decide) ?_
      exact J25 (0 : Int32) _ _ _ (cx_e0 (by (try clear RET); (try clear hS); (try clear hl); (try clear hE); (try clear hts); (try clear hb); (try clear hx); (try clear hml); (try clear hown); (try clear hinX7); (try clear J16); (try clear J25); have y10 : ¬ (1 : Int32) = 0 := (by decide); first | assumption | (grind))) hS (lv_sub hl [0, 1, 2, 3] rfl)
    · skip
      refine lv_iconst (v := (1 : Int32)) hx hb dX7_is_20 (by decide) ?_
      refine lv_goto (tgt := 25) hx hb dX7_is_21 (by decide) ?_
      exact J25 (1 : Int32) _ _ _ (cx_e1 (by (try clear RET); (try clear hS); (try clear hl); (try clear hE); (try clear hts); (try clear hb); (try clear hx); (try clear hml); (try clear hown); (try clear hinX7); (try clear J16); (try clear J25); have y10 : ¬ (1 : Int32) = 0 := (by decide); first | assumption | (grind))) hS (lv_sub hl [0, 1, 2, 3] rfl)
  refine lv_if_eq (tgt := 15) hx hb dX7_is_8 (by decide) (fun h8 => ?_) (fun h8 => ?_)
  · skip
    refine lv_iconst (v := (0 : Int32)) hx hb dX7_is_15 (by decide) ?_
    exact J16 (0 : Int32) _ _ _ (cx_e0 (by (try clear RET); (try clear hS); (try clear hl); (try clear hE); (try clear hts); (try clear hb); (try clear hx); (try clear hml); (try clear hown); (try clear hinX7); (try clear J16); have y10 : ¬ (1 : Int32) = 0 := (by decide); first | assumption | (grind))) hS (lv_sub hl [0, 1, 2, 3] rfl)
  · skip
    refine lv_iconst (v := (1 : Int32)) hx hb dX7_is_11 (by decide) ?_
    refine lv_goto (tgt := 16) hx hb dX7_is_12 (by decide) ?_
    exact J16 (1 : Int32) _ _ _ (cx_e1 (by (try clear RET); (try clear hS); (try clear hl); (try clear hE); (try clear hts); (try clear hb); (try clear hx); (try clear hml); (try clear hown); (try clear hinX7); (try clear J16); have y10 : ¬ (1 : Int32) = 0 := (by decide); first | assumption | (grind))) hS (lv_sub hl [0, 1, 2, 3] rfl)
set_option maxHeartbeats 4000000 in
set_option maxRecDepth 100000 in
theorem c_X7_know (l : Launch) (D : va_G) (q : Nat → Nat) (cI cZ : ClassId) (n : Nat) (T : Nat → Nat → Int32) (k : Nat) (M : Nat → Nat → Int32) (d : Nat) (Z : Nat → Nat → Int32) (F : Nat → Nat → Int32) (hn : n ≤ 20) (hP : cx_P (T 3) 20) (hU : cx_R (T 4) 20) (hV : cx_R (T 5) 4) (hKN : cx_KN n T (Z 0) ((Z 3) 0)) : cx_Mv l D vwCl [(cI, .int), (cZ, .boolean)] cx_NW yX7_know wsX7_know ({ frames := 2, cells := 0, slots := 0, locals := 43 } : Room) [.ref (q 0)] (cyW q cI cZ n T k M d Z F) (fun (uw : (Nat → Int32) × (Int32)) => cx_KN n T uw.1 uw.2 ∧ ((∀ wa wu, wa < n → wu < n → (¬ uw.1 (20 * wa + wu) = 0 ↔ (cx_w3 n (cx_Er T n) n) wa wu)) ∧ ¬ uw.2 = 0)) (fun uw => (cyW q cI cZ n T k M d (cx_u (cx_u Z 0 uw.1) 3 (fun _ => uw.2)) F)) := by
  refine cx_Mv.of (cc := cX7_know) (maxL := 4) cx_NW_ok (by decide) rfl (Nat.le_of_ble_eq_true rfl) ?_
  intro p e s m args below meth c Q A ls hx hb hml hown hts hE RET hS hl
  have hl : lv_has ls 4 [(0, .ref (q 0))] := hl
  have hown : s.vm.findClass RX7 = some m.cls := hown
  have hinX7 : ∀ w ∈ u_ws RX7 TX7 22, w ∈ wsX7_know := cx_mem [15, 16, 17, 18, 19, 20, 21, 22, 23, 24, 25, 26, 27, 28, 29, 30, 31, 32, 33, 34, 35, 36] (by decide +kernel)
  refine lv_aload_n hx hb dX7_know_0 rfl (lv_at hl 0 rfl) ?_
  refine cx_get (own := RX7) (index := 73) (C := RX7) (T := TX7) (N := 22) (k := 17) (ci := 7) (v := .int ((Z 3) 0)) hx hb hts hown hE hS hinX7 0 rfl rfl (by decide) (List.mem_of_getElem? (i := 1) rfl) rfl dX7_know_1 ?_
  refine lv_if_eq (tgt := 8) hx hb dX7_know_4 (by decide) (fun h4 => ?_) (fun h4 => ?_)
  · skip
    refine lv_aload_n hx hb dX7_know_8 rfl (lv_at hl 0 rfl) ?_
    refine lv_iconst (v := (1 : Int32)) hx hb dX7_know_9 (by decide) ?_
    refine cx_put (own := RX7) (index := 73) (C := RX7) (T := TX7) (N := 22) (k := 17) (ci := 7) (v := .int (1 : Int32)) (ty := .boolean) (ws' := (cyW q cI cZ n T k M d (cx_u Z 3 (fun _ => (1 : Int32))) F)) hx hb hts hown hE hS hinX7 tyX7 tyX7_ok nmX7 0 rfl rfl (by decide) (List.mem_of_getElem? (i := 1) rfl) rfl (by decide +kernel) rfl rfl (Nat.le_of_ble_eq_true rfl) rfl dX7_know_10 (fun H locs hS => ?_)
    refine lv_iconst (v := (0 : Int32)) hx hb dX7_know_13 (by decide) ?_
    refine cx_topr (z := nI 0) (by decide) ?_
    refine lv_istore_n (lv' := [(1, .int (nI 0)), (0, .ref (q 0))]) hx hb dX7_know_14 rfl hl (by decide) rfl (fun ls hl => ?_)
    have J15 : ∀ (N : Nat) (i15 : Nat) (Z_0_15 : Nat → Int32) (H : Heap) (locs : List Loc) (ls : Array Slot), (400 - i15 < N) → (i15 ≤ 400) → (∀ j, j < i15 → Z_0_15 j = 0) → cx_S D vwCl A s (cyW q cI cZ n T k M d (cx_u (cx_u Z 3 (fun _ => (1 : Int32))) 0 Z_0_15) F) H locs → lv_has ls 4 [(0, .ref (q 0)), (1, .int (nI i15))] → W p l e ({ frames := 2, cells := 0, slots := 0, locals := 43 } : Room) s m args below meth c H locs 0 0 Q (F0 m 15 ls []) := by
      intro N15
      induction N15 with
      | zero => intro i15 Z_0_15 H locs ls hN; exact absurd hN (by omega)
      | succ N15 ih15 =>
        intro i15 Z_0_15 H locs ls hN15 hi15 hz hS hl
        refine lv_iload_n hx hb dX7_know_15 rfl (lv_at hl 1 rfl) ?_
        refine lv_sipush (v := nI 400) hx hb dX7_know_16 (by decide) ?_
        refine lv_icmp_ge (tgt := 35) hx hb dX7_know_19 (by decide) (fun h19 => ?_) (fun h19 => ?_)
        · skip
          have g19 : 400 ≤ i15 := (nI_leI (a := 400) (b := i15) (by omega) (by omega)).mp h19
          refine lv_iconst (v := (0 : Int32)) hx hb dX7_know_35 (by decide) ?_
          refine cx_topr (z := nI 0) (by decide) ?_
          refine lv_istore_n (lv' := [(1, .int (nI 0)), (0, .ref (q 0))]) hx hb dX7_know_36 rfl hl (by decide) rfl (fun ls hl => ?_)
          have J37 : ∀ (N : Nat) (i37 : Nat) (Z_0_37 : Nat → Int32) (H : Heap) (locs : List Loc) (ls : Array Slot), (n - i37 < N) → (i37 ≤ n) → (∀ a u, a < 20 → u < 20 → (¬ Z_0_37 (20 * a + u) = 0 ↔ (a < i37 ∧ cx_Er T n a u))) → cx_S D vwCl A s (cyW q cI cZ n T k M d (cx_u (cx_u Z 3 (fun _ => (1 : Int32))) 0 Z_0_37) F) H locs → lv_has ls 4 [(0, .ref (q 0)), (1, .int (nI i37))] → W p l e ({ frames := 2, cells := 0, slots := 0, locals := 43 } : Room) s m args below meth c H locs 0 0 Q (F0 m 37 ls []) := by
            intro N37
            induction N37 with
            | zero => intro i37 Z_0_37 H locs ls hN; exact absurd hN (by omega)
            | succ N37 ih37 =>
              intro i37 Z_0_37 H locs ls hN37 hi37 hy hS hl
              refine lv_iload_n hx hb dX7_know_37 rfl (lv_at hl 1 rfl) ?_
              refine lv_aload_n hx hb dX7_know_38 rfl (lv_at hl 0 rfl) ?_
              refine cx_get (own := RX7) (index := 65) (C := RX7) (T := TX7) (N := 22) (k := 0) (ci := 7) (v := .int (nI n)) hx hb hts hown hE hS hinX7 0 rfl rfl (by decide) (List.mem_of_getElem? (i := 3) rfl) rfl dX7_know_39 ?_
              refine lv_icmp_ge (tgt := 137) hx hb dX7_know_42 (by decide) (fun h42 => ?_) (fun h42 => ?_)
              · skip
                have g42 : n ≤ i37 := (nI_leI (a := n) (b := i37) (by omega) (by omega)).mp h42
                refine lv_iconst (v := (0 : Int32)) hx hb dX7_know_137 (by decide) ?_
                refine cx_topr (z := nI 0) (by decide) ?_
                refine lv_istore_n (lv' := [(1, .int (nI 0)), (0, .ref (q 0))]) hx hb dX7_know_138 rfl hl (by decide) rfl (fun ls hl => ?_)
                have J139 : ∀ (N : Nat) (i139 : Nat) (Z_0_139 : Nat → Int32) (H : Heap) (locs : List Loc) (ls : Array Slot), (n - i139 < N) → (i139 ≤ n) → (∀ wa wu, wa < n → wu < n → (¬ Z_0_139 (20 * wa + wu) = 0 ↔ (cx_w3 n (cx_Er T n) i139) wa wu)) → cx_S D vwCl A s (cyW q cI cZ n T k M d (cx_u (cx_u Z 3 (fun _ => (1 : Int32))) 0 Z_0_139) F) H locs → lv_has ls 4 [(0, .ref (q 0)), (1, .int (nI i139))] → W p l e ({ frames := 2, cells := 0, slots := 0, locals := 43 } : Room) s m args below meth c H locs 0 0 Q (F0 m 139 ls []) := by
                  intro N139
                  induction N139 with
                  | zero => intro i139 Z_0_139 H locs ls hN; exact absurd hN (by omega)
                  | succ N139 ih139 =>
                    intro i139 Z_0_139 H locs ls hN139 hi139 hw hS hl
                    refine lv_iload_n hx hb dX7_know_139 rfl (lv_at hl 1 rfl) ?_
                    refine lv_aload_n hx hb dX7_know_140 rfl (lv_at hl 0 rfl) ?_
                    refine cx_get (own := RX7) (index := 65) (C := RX7) (T := TX7) (N := 22) (k := 0) (ci := 7) (v := .int (nI n)) hx hb hts hown hE hS hinX7 0 rfl rfl (by decide) (List.mem_of_getElem? (i := 3) rfl) rfl dX7_know_141 ?_
                    refine lv_icmp_ge (tgt := 243) hx hb dX7_know_144 (by decide) (fun h144 => ?_) (fun h144 => ?_)
                    · skip
                      have g144 : n ≤ i139 := (nI_leI (a := n) (b := i139) (by omega) (by omega)).mp h144
                      have hfin : ∀ wa wu, wa < n → wu < n → (¬ Z_0_139 (20 * wa + wu) = 0 ↔ (cx_w3 n (cx_Er T n) n) wa wu) := by have e : i139 = n := (by omega); rw [e] at hw; exact hw
                      have hKNf : cx_KN n T Z_0_139 (1 : Int32) := Or.inr hfin
                      exact RET (Z_0_139, (1 : Int32)) _ _ _ _ dX7_know_243 (⟨(by first | assumption | exact hKN), ⟨hfin, (show ¬ (1 : Int32) = 0 by decide)⟩⟩) hS
                    · skip
                      have g144 : ¬ (n ≤ i139) := fun z => h144 ((nI_leI (a := n) (b := i139) (by omega) (by omega)).mpr z)
                      refine lv_iconst (v := (0 : Int32)) hx hb dX7_know_147 (by decide) ?_
                      refine cx_topr (z := nI 0) (by decide) ?_
                      refine lv_istore_n (lv' := [(2, .int (nI 0)), (0, .ref (q 0)), (1, .int (nI i139))]) hx hb dX7_know_148 rfl hl (by decide) rfl (fun ls hl => ?_)
                      have J149 : ∀ (N : Nat) (i149 : Nat) (Z_0_149 : Nat → Int32) (H : Heap) (locs : List Loc) (ls : Array Slot), (n - i149 < N) → (i149 ≤ n) → (∀ wa wu, wa < n → wu < n → (¬ Z_0_149 (20 * wa + wu) = 0 ↔ (cx_w2 (cx_w3 n (cx_Er T n) i139) i139 i149) wa wu)) → cx_S D vwCl A s (cyW q cI cZ n T k M d (cx_u (cx_u Z 3 (fun _ => (1 : Int32))) 0 Z_0_149) F) H locs → lv_has ls 4 [(0, .ref (q 0)), (1, .int (nI i139)), (2, .int (nI i149))] → W p l e ({ frames := 2, cells := 0, slots := 0, locals := 43 } : Room) s m args below meth c H locs 0 0 Q (F0 m 149 ls []) := by
                        intro N149
                        induction N149 with
                        | zero => intro i149 Z_0_149 H locs ls hN; exact absurd hN (by omega)
                        | succ N149 ih149 =>
                          intro i149 Z_0_149 H locs ls hN149 hi149 hw2 hS hl
                          refine lv_iload_n hx hb dX7_know_149 rfl (lv_at hl 2 rfl) ?_
                          refine lv_aload_n hx hb dX7_know_150 rfl (lv_at hl 0 rfl) ?_
                          refine cx_get (own := RX7) (index := 65) (C := RX7) (T := TX7) (N := 22) (k := 0) (ci := 7) (v := .int (nI n)) hx hb hts hown hE hS hinX7 0 rfl rfl (by decide) (List.mem_of_getElem? (i := 3) rfl) rfl dX7_know_151 ?_
                          refine lv_icmp_ge (tgt := 237) hx hb dX7_know_154 (by decide) (fun h154 => ?_) (fun h154 => ?_)
                          · skip
                            have g154 : n ≤ i149 := (nI_leI (a := n) (b := i149) (by omega) (by omega)).mp h154
                            have hw14 : ∀ wa wu, wa < n → wu < n → (¬ Z_0_149 (20 * wa + wu) = 0 ↔ (cx_w3 n (cx_Er T n) (i139 + 1)) wa wu) := by have e : i149 = n := (by omega); rw [e] at hw2; exact hw2
                            refine lv_iinc (v := nI (i139 + 1)) (lv' := [(1, .int (nI (i139 + 1))), (0, .ref (q 0)), (2, .int (nI i149))]) hx hb dX7_know_237 hl (k := 1) rfl (cx_inc _) (by decide) rfl (fun ls hl => ?_)
                            refine lv_goto (tgt := 139) hx hb dX7_know_240 (by decide) ?_
                            exact ih139 (i139 + 1) Z_0_149 _ _ _ (by omega) (by omega) (by first | exact hw14 | exact fun a u ha hu => by rw [hy a u (by omega) (by omega)]; exact ⟨fun z => z.2, fun z => ⟨by omega, z⟩⟩) hS (lv_sub hl [1, 0] rfl)
                          · skip
                            have g154 : ¬ (n ≤ i149) := fun z => h154 ((nI_leI (a := n) (b := i149) (by omega) (by omega)).mpr z)
                            refine lv_iconst (v := (0 : Int32)) hx hb dX7_know_157 (by decide) ?_
                            refine cx_topr (z := nI 0) (by decide) ?_
                            refine lv_istore_n (lv' := [(3, .int (nI 0)), (0, .ref (q 0)), (1, .int (nI i139)), (2, .int (nI i149))]) hx hb dX7_know_158 rfl hl (by decide) rfl (fun ls hl => ?_)
                            have J159 : ∀ (N : Nat) (i159 : Nat) (Z_0_159 : Nat → Int32) (H : Heap) (locs : List Loc) (ls : Array Slot), (n - i159 < N) → (i159 ≤ n) → (cx_k (cx_w2 (cx_w3 n (cx_Er T n) i139) i139 i149) i139 i149 i159 Z_0_159 n) → cx_S D vwCl A s (cyW q cI cZ n T k M d (cx_u (cx_u Z 3 (fun _ => (1 : Int32))) 0 Z_0_159) F) H locs → lv_has ls 4 [(0, .ref (q 0)), (1, .int (nI i139)), (2, .int (nI i149)), (3, .int (nI i159))] → W p l e ({ frames := 2, cells := 0, slots := 0, locals := 43 } : Room) s m args below meth c H locs 0 0 Q (F0 m 159 ls []) := by
                              intro N159
                              induction N159 with
                              | zero => intro i159 Z_0_159 H locs ls hN; exact absurd hN (by omega)
                              | succ N159 ih159 =>
                                intro i159 Z_0_159 H locs ls hN159 hi159 hk3 hS hl
                                refine lv_iload_n hx hb dX7_know_159 rfl (lv_at hl 3 rfl) ?_
                                refine lv_aload_n hx hb dX7_know_160 rfl (lv_at hl 0 rfl) ?_
                                refine cx_get (own := RX7) (index := 65) (C := RX7) (T := TX7) (N := 22) (k := 0) (ci := 7) (v := .int (nI n)) hx hb hts hown hE hS hinX7 0 rfl rfl (by decide) (List.mem_of_getElem? (i := 3) rfl) rfl dX7_know_161 ?_
                                have J231 : ∀ (H : Heap) (locs : List Loc) (ls : Array Slot), (∀ wa wu, wa < n → wu < n → (¬ Z_0_159 (20 * wa + wu) = 0 ↔ (cx_w2 (cx_w3 n (cx_Er T n) i139) i139 (i149 + 1)) wa wu)) → cx_S D vwCl A s (cyW q cI cZ n T k M d (cx_u (cx_u Z 3 (fun _ => (1 : Int32))) 0 Z_0_159) F) H locs → lv_has ls 4 [(0, .ref (q 0)), (1, .int (nI i139)), (2, .int (nI i149)), (3, .int (nI i159))] → W p l e ({ frames := 2, cells := 0, slots := 0, locals := 43 } : Room) s m args below meth c H locs 0 0 Q (F0 m 231 ls []) := by
                                  intro  H locs ls hw231 hS hl
                                  refine lv_iinc (v := nI (i149 + 1)) (lv' := [(2, .int (nI (i149 + 1))), (0, .ref (q 0)), (1, .int (nI i139)), (3, .int (nI i159))]) hx hb dX7_know_231 hl (k := 2) rfl (cx_inc _) (by decide) rfl (fun ls hl => ?_)
                                  refine lv_goto (tgt := 149) hx hb dX7_know_234 (by decide) ?_
                                  exact ih149 (i149 + 1) Z_0_159 _ _ _ (by omega) (by omega) (by first | exact hw231 | exact hw) hS (lv_sub hl [1, 2, 0] rfl)
                                refine lv_icmp_ge (tgt := 231) hx hb dX7_know_164 (by decide) (fun h164 => ?_) (fun h164 => ?_)
                                · skip
                                  have g164 : n ≤ i159 := (nI_leI (a := n) (b := i159) (by omega) (by omega)).mp h164
                                  exact J231  _ _ _ (by first | exact cx_k12 (by omega) hk3 | exact cx_k13 (by omega) (by omega) hk3 h178) hS (lv_sub hl [0, 1, 2, 3] rfl)
                                · skip
                                  have g164 : ¬ (n ≤ i159) := fun z => h164 ((nI_leI (a := n) (b := i159) (by omega) (by omega)).mpr z)
                                  refine lv_aload_n hx hb dX7_know_167 rfl (lv_at hl 0 rfl) ?_
                                  refine cx_get (own := RX7) (index := 52) (C := RX7) (T := TX7) (N := 22) (k := 16) (ci := 7) (v := .ref (q 15)) hx hb hts hown hE hS hinX7 0 rfl rfl (by decide) (List.mem_of_getElem? (i := 2) rfl) rfl dX7_know_168 ?_
                                  refine lv_bipush (v := nI 20) hx hb dX7_know_171 (by decide) ?_
                                  refine lv_iload_n hx hb dX7_know_173 rfl (lv_at hl 2 rfl) ?_
                                  refine lv_imul hx hb dX7_know_174 ?_
                                  refine cx_topr (z := nI (20 * i149)) (pk_mul _ _) ?_
                                  refine lv_iload_n hx hb dX7_know_175 rfl (lv_at hl 1 rfl) ?_
                                  refine lv_iadd hx hb dX7_know_176 ?_
                                  refine cx_topr (z := nI (20 * i149 + i139)) (nI_add _ _) ?_
                                  refine cx_zald (f := Z_0_159) (n := 400) (cA := cZ) hx hb hE hS 15 1 rfl rfl (by omega) (by decide) dX7_know_177 ?_
                                  refine lv_if_eq (tgt := 231) hx hb dX7_know_178 (by decide) (fun h178 => ?_) (fun h178 => ?_)
                                  · skip
                                    exact J231  _ _ _ (by first | exact cx_k12 (by omega) hk3 | exact cx_k13 (by omega) (by omega) hk3 h178) hS (lv_sub hl [0, 1, 2, 3] rfl)
                                  · skip
                                    refine lv_aload_n hx hb dX7_know_181 rfl (lv_at hl 0 rfl) ?_
                                    refine cx_get (own := RX7) (index := 52) (C := RX7) (T := TX7) (N := 22) (k := 16) (ci := 7) (v := .ref (q 15)) hx hb hts hown hE hS hinX7 0 rfl rfl (by decide) (List.mem_of_getElem? (i := 2) rfl) rfl dX7_know_182 ?_
                                    refine lv_bipush (v := nI 20) hx hb dX7_know_185 (by decide) ?_
                                    refine lv_iload_n hx hb dX7_know_187 rfl (lv_at hl 2 rfl) ?_
                                    refine lv_imul hx hb dX7_know_188 ?_
                                    refine cx_topr (z := nI (20 * i149)) (pk_mul _ _) ?_
                                    refine lv_iload_n hx hb dX7_know_189 rfl (lv_at hl 3 rfl) ?_
                                    refine lv_iadd hx hb dX7_know_190 ?_
                                    refine cx_topr (z := nI (20 * i149 + i159)) (nI_add _ _) ?_
                                    refine lv_aload_n hx hb dX7_know_191 rfl (lv_at hl 0 rfl) ?_
                                    refine cx_get (own := RX7) (index := 52) (C := RX7) (T := TX7) (N := 22) (k := 16) (ci := 7) (v := .ref (q 15)) hx hb hts hown hE hS hinX7 0 rfl rfl (by decide) (List.mem_of_getElem? (i := 2) rfl) rfl dX7_know_192 ?_
                                    refine lv_bipush (v := nI 20) hx hb dX7_know_195 (by decide) ?_
                                    refine lv_iload_n hx hb dX7_know_197 rfl (lv_at hl 2 rfl) ?_
                                    refine lv_imul hx hb dX7_know_198 ?_
                                    refine cx_topr (z := nI (20 * i149)) (pk_mul _ _) ?_
                                    refine lv_iload_n hx hb dX7_know_199 rfl (lv_at hl 3 rfl) ?_
                                    refine lv_iadd hx hb dX7_know_200 ?_
                                    refine cx_topr (z := nI (20 * i149 + i159)) (nI_add _ _) ?_
                                    refine cx_zald (f := Z_0_159) (n := 400) (cA := cZ) hx hb hE hS 15 1 rfl rfl (by omega) (by decide) dX7_know_201 ?_
                                    have J224 : ∀ (v224_s0 : Int32) (H : Heap) (locs : List Loc) (ls : Array Slot), (v224_s0 = 0 ∨ v224_s0 = 1) → (¬ v224_s0 = 0 ↔ (¬ Z_0_159 (20 * i149 + i159) = 0 ∨ ¬ Z_0_159 (20 * i139 + i159) = 0)) → cx_S D vwCl A s (cyW q cI cZ n T k M d (cx_u (cx_u Z 3 (fun _ => (1 : Int32))) 0 Z_0_159) F) H locs → lv_has ls 4 [(0, .ref (q 0)), (1, .int (nI i139)), (2, .int (nI i149)), (3, .int (nI i159))] → W p l e ({ frames := 2, cells := 0, slots := 0, locals := 43 } : Room) s m args below meth c H locs 0 0 Q (F0 m 224 ls [.int v224_s0, .int (nI (20 * i149 + i159)), .ref (q 15)]) := by
                                      intro v224_s0 H locs ls hv01 hv02 hS hl
                                      refine cx_zast (k := 20 * i149 + i159) (f := Z_0_159) (n := 400) (cA := cZ) (ws' := (cyW q cI cZ n T k M d (cx_u (cx_u Z 3 (fun _ => (1 : Int32))) 0 (upd Z_0_159 (20 * i149 + i159) (vp_nar .boolean v224_s0))) F)) hx hb hE hS 15 1 rfl rfl (by omega) (by decide) rfl dX7_know_224 (fun H locs hS => ?_)
                                      refine lv_iinc (v := nI (i159 + 1)) (lv' := [(3, .int (nI (i159 + 1))), (0, .ref (q 0)), (1, .int (nI i139)), (2, .int (nI i149))]) hx hb dX7_know_225 hl (k := 3) rfl (cx_inc _) (by decide) rfl (fun ls hl => ?_)
                                      refine lv_goto (tgt := 159) hx hb dX7_know_228 (by decide) ?_
                                      exact ih159 (i159 + 1) (upd Z_0_159 (20 * i149 + i159) (vp_nar .boolean v224_s0)) _ _ _ (by omega) (by omega) (by first | exact cx_k11 hn (by omega) (by omega) (by omega) hk3 h178 hv01 hv02 | exact cx_k10 hw2) hS (lv_sub hl [1, 2, 3, 0] rfl)
                                    have J219 : ∀ (H : Heap) (locs : List Loc) (ls : Array Slot), (¬ Z_0_159 (20 * i149 + i159) = 0 ∨ ¬ Z_0_159 (20 * i139 + i159) = 0) → cx_S D vwCl A s (cyW q cI cZ n T k M d (cx_u (cx_u Z 3 (fun _ => (1 : Int32))) 0 Z_0_159) F) H locs → lv_has ls 4 [(0, .ref (q 0)), (1, .int (nI i139)), (2, .int (nI i149)), (3, .int (nI i159))] → W p l e ({ frames := 2, cells := 0, slots := 0, locals := 43 } : Room) s m args below meth c H locs 0 0 Q (F0 m 219 ls [.int (nI (20 * i149 + i159)), .ref (q 15)]) := by
                                      intro  H locs ls h219 hS hl
                                      refine lv_iconst (v := (1 : Int32)) hx hb dX7_know_219 (by decide) ?_
                                      refine lv_goto (tgt := 224) hx hb dX7_know_220 (by decide) ?_
                                      exact J224 (1 : Int32) _ _ _ (by first | exact Or.inl rfl | exact Or.inr rfl) (by first | exact ⟨fun _ => h219, fun _ => by decide⟩ | exact ⟨fun z => absurd rfl z, fun z => z.elim (fun y => absurd h202 y) (fun y => absurd h216 y)⟩) hS (lv_sub hl [0, 1, 2, 3] rfl)
                                    refine lv_if_ne (tgt := 219) hx hb dX7_know_202 (by decide) (fun h202 => ?_) (fun h202 => ?_)
                                    · skip
                                      exact J219  _ _ _ (by first | exact Or.inl h202 | exact Or.inr h216) hS (lv_sub hl [0, 1, 2, 3] rfl)
                                    · skip
                                      refine lv_aload_n hx hb dX7_know_205 rfl (lv_at hl 0 rfl) ?_
                                      refine cx_get (own := RX7) (index := 52) (C := RX7) (T := TX7) (N := 22) (k := 16) (ci := 7) (v := .ref (q 15)) hx hb hts hown hE hS hinX7 0 rfl rfl (by decide) (List.mem_of_getElem? (i := 2) rfl) rfl dX7_know_206 ?_
                                      refine lv_bipush (v := nI 20) hx hb dX7_know_209 (by decide) ?_
                                      refine lv_iload_n hx hb dX7_know_211 rfl (lv_at hl 1 rfl) ?_
                                      refine lv_imul hx hb dX7_know_212 ?_
                                      refine cx_topr (z := nI (20 * i139)) (pk_mul _ _) ?_
                                      refine lv_iload_n hx hb dX7_know_213 rfl (lv_at hl 3 rfl) ?_
                                      refine lv_iadd hx hb dX7_know_214 ?_
                                      refine cx_topr (z := nI (20 * i139 + i159)) (nI_add _ _) ?_
                                      refine cx_zald (f := Z_0_159) (n := 400) (cA := cZ) hx hb hE hS 15 1 rfl rfl (by omega) (by decide) dX7_know_215 ?_
                                      refine lv_if_eq (tgt := 223) hx hb dX7_know_216 (by decide) (fun h216 => ?_) (fun h216 => ?_)
                                      · skip
                                        refine lv_iconst (v := (0 : Int32)) hx hb dX7_know_223 (by decide) ?_
                                        exact J224 (0 : Int32) _ _ _ (by first | exact Or.inl rfl | exact Or.inr rfl) (by first | exact ⟨fun _ => h219, fun _ => by decide⟩ | exact ⟨fun z => absurd rfl z, fun z => z.elim (fun y => absurd h202 y) (fun y => absurd h216 y)⟩) hS (lv_sub hl [0, 1, 2, 3] rfl)
                                      · skip
                                        exact J219  _ _ _ (by first | exact Or.inl h202 | exact Or.inr h216) hS (lv_sub hl [0, 1, 2, 3] rfl)
                            exact J159 (n - 0 + 1) 0 Z_0_149 _ _ _ (Nat.lt_succ_self _) (by omega) (by first | exact cx_k11 hn (by omega) (by omega) (by omega) hk3 h178 hv01 hv02 | exact cx_k10 hw2) hS (lv_sub hl [1, 2, 3, 0] rfl)
                      exact J149 (n - 0 + 1) 0 Z_0_139 _ _ _ (Nat.lt_succ_self _) (by omega) (by first | exact hw231 | exact hw) hS (lv_sub hl [1, 2, 0] rfl)
                exact J139 (n - 0 + 1) 0 Z_0_37 _ _ _ (Nat.lt_succ_self _) (by omega) (by first | exact hw14 | exact fun a u ha hu => by rw [hy a u (by omega) (by omega)]; exact ⟨fun z => z.2, fun z => ⟨by omega, z⟩⟩) hS (lv_sub hl [1, 0] rfl)
              · skip
                have g42 : ¬ (n ≤ i37) := fun z => h42 ((nI_leI (a := n) (b := i37) (by omega) (by omega)).mpr z)
                refine lv_aload_n hx hb dX7_know_45 rfl (lv_at hl 0 rfl) ?_
                refine lv_aload_n hx hb dX7_know_46 rfl (lv_at hl 0 rfl) ?_
                refine cx_get (own := RX7) (index := 19) (C := RX7) (T := TX7) (N := 22) (k := 4) (ci := 7) (v := .ref (q 4)) hx hb hts hown hE hS hinX7 0 rfl rfl (by decide) (List.mem_of_getElem? (i := 4) rfl) rfl dX7_know_47 ?_
                refine lv_iload_n hx hb dX7_know_50 rfl (lv_at hl 1 rfl) ?_
                refine cx_iald (f := (T 3)) (n := 20) (cA := cI) hx hb hE hS 4 0 rfl rfl (by omega) (by decide) dX7_know_51 ?_
                refine cx_cVi (As := [.int ((T 3) i37)]) (rest := []) ⟨hx, hb, hml, hown, hts⟩ hE hS (c_X7_isType l D q cI cZ n T k M d (cx_u (cx_u Z 3 (fun _ => (1 : Int32))) 0 Z_0_37) F ((T 3) i37) (by first | assumption | omega | rfl)) (cwV 1 hts gX7_know_X7_isType rfl rfl rfl (by decide +kernel) ⟨Nat.le_of_ble_eq_true rfl, Nat.le_of_ble_eq_true rfl⟩) 0 7 rfl rfl rfl hl.1 rfl (Nat.le_of_ble_eq_true rfl) ⟨Nat.zero_le _, Nat.zero_le _⟩ dX7_know_52 (fun r_52 u_52 H locs hp_52 hS => ?_)
                have hp_52 : r_52 = cx_b (0 ≤ ((T 3) i37) ∧ ((T 3) i37) < nI n) := hp_52
                subst hp_52
                have J75 : ∀ (Z_0_75 : Nat → Int32) (H : Heap) (locs : List Loc) (ls : Array Slot), (∀ a u, a < 20 → u < 20 → (¬ Z_0_75 (20 * a + u) = 0 ↔ (a < i37 ∧ cx_Er T n a u) ∨ (a = i37 ∧ cx_Eu T n a 0 u))) → cx_S D vwCl A s (cyW q cI cZ n T k M d (cx_u (cx_u Z 3 (fun _ => (1 : Int32))) 0 Z_0_75) F) H locs → lv_has ls 4 [(0, .ref (q 0)), (1, .int (nI i37))] → W p l e ({ frames := 2, cells := 0, slots := 0, locals := 43 } : Room) s m args below meth c H locs 0 0 Q (F0 m 75 ls []) := by
                  intro Z_0_75 H locs ls hy75 hS hl
                  refine lv_iconst (v := (0 : Int32)) hx hb dX7_know_75 (by decide) ?_
                  refine cx_topr (z := nI 0) (by decide) ?_
                  refine lv_istore_n (lv' := [(2, .int (nI 0)), (0, .ref (q 0)), (1, .int (nI i37))]) hx hb dX7_know_76 rfl hl (by decide) rfl (fun ls hl => ?_)
                  have J77 : ∀ (N : Nat) (i77 : Nat) (Z_0_77 : Nat → Int32) (H : Heap) (locs : List Loc) (ls : Array Slot), (((T 5) i37).toNatClampNeg - i77 < N) → (i77 ≤ ((T 5) i37).toNatClampNeg) → (∀ a u, a < 20 → u < 20 → (¬ Z_0_77 (20 * a + u) = 0 ↔ (a < i37 ∧ cx_Er T n a u) ∨ (a = i37 ∧ cx_Eu T n a i77 u))) → cx_S D vwCl A s (cyW q cI cZ n T k M d (cx_u (cx_u Z 3 (fun _ => (1 : Int32))) 0 Z_0_77) F) H locs → lv_has ls 4 [(0, .ref (q 0)), (1, .int (nI i37)), (2, .int (nI i77))] → W p l e ({ frames := 2, cells := 0, slots := 0, locals := 43 } : Room) s m args below meth c H locs 0 0 Q (F0 m 77 ls []) := by
                    intro N77
                    induction N77 with
                    | zero => intro i77 Z_0_77 H locs ls hN; exact absurd hN (by omega)
                    | succ N77 ih77 =>
                      intro i77 Z_0_77 H locs ls hN77 hi77 hy2 hS hl
                      refine lv_iload_n hx hb dX7_know_77 rfl (lv_at hl 2 rfl) ?_
                      refine lv_aload_n hx hb dX7_know_78 rfl (lv_at hl 0 rfl) ?_
                      refine cx_get (own := RX7) (index := 25) (C := RX7) (T := TX7) (N := 22) (k := 6) (ci := 7) (v := .ref (q 6)) hx hb hts hown hE hS hinX7 0 rfl rfl (by decide) (List.mem_of_getElem? (i := 5) rfl) rfl dX7_know_79 ?_
                      refine lv_iload_n hx hb dX7_know_82 rfl (lv_at hl 1 rfl) ?_
                      refine cx_iald (f := (T 5)) (n := 20) (cA := cI) hx hb hE hS 6 0 rfl rfl (by omega) (by decide) dX7_know_83 ?_
                      have ho83 := (hV i37).2
                      refine cx_topr (z := nI (((T 5) i37).toNatClampNeg)) (hV i37).1 ?_
                      refine lv_icmp_ge (tgt := 131) hx hb dX7_know_84 (by decide) (fun h84 => ?_) (fun h84 => ?_)
                      · skip
                        have g84 : (((T 5) i37).toNatClampNeg) ≤ i77 := (nI_leI (a := ((T 5) i37).toNatClampNeg) (b := i77) (by omega) (by omega)).mp h84
                        refine lv_iinc (v := nI (i37 + 1)) (lv' := [(1, .int (nI (i37 + 1))), (0, .ref (q 0)), (2, .int (nI i77))]) hx hb dX7_know_131 hl (k := 1) rfl (cx_inc _) (by decide) rfl (fun ls hl => ?_)
                        refine lv_goto (tgt := 37) hx hb dX7_know_134 (by decide) ?_
                        exact ih37 (i37 + 1) Z_0_77 _ _ _ (by omega) (by omega) (by first | exact cx_k7 (by omega) hy2 | exact cx_k2 (fun j hj => hz j (by omega))) hS (lv_sub hl [1, 0] rfl)
                      · skip
                        have g84 : ¬ ((((T 5) i37).toNatClampNeg) ≤ i77) := fun z => h84 ((nI_leI (a := ((T 5) i37).toNatClampNeg) (b := i77) (by omega) (by omega)).mpr z)
                        refine lv_aload_n hx hb dX7_know_87 rfl (lv_at hl 0 rfl) ?_
                        refine lv_aload_n hx hb dX7_know_88 rfl (lv_at hl 0 rfl) ?_
                        refine cx_get (own := RX7) (index := 22) (C := RX7) (T := TX7) (N := 22) (k := 5) (ci := 7) (v := .ref (q 5)) hx hb hts hown hE hS hinX7 0 rfl rfl (by decide) (List.mem_of_getElem? (i := 6) rfl) rfl dX7_know_89 ?_
                        refine lv_iconst (v := nI 3) hx hb dX7_know_92 (by decide) ?_
                        refine lv_iload_n hx hb dX7_know_93 rfl (lv_at hl 1 rfl) ?_
                        refine lv_imul hx hb dX7_know_94 ?_
                        refine cx_topr (z := nI (3 * i37)) (pk_mul _ _) ?_
                        refine lv_iload_n hx hb dX7_know_95 rfl (lv_at hl 2 rfl) ?_
                        refine lv_iadd hx hb dX7_know_96 ?_
                        refine cx_topr (z := nI (3 * i37 + i77)) (nI_add _ _) ?_
                        refine cx_iald (f := (T 4)) (n := 60) (cA := cI) hx hb hE hS 5 0 rfl rfl (by omega) (by decide) dX7_know_97 ?_
                        have ho97 := (hU (3 * i37 + i77)).2
                        refine cx_topr (z := nI (((T 4) (3 * i37 + i77)).toNatClampNeg)) (hU (3 * i37 + i77)).1 ?_
                        refine cx_cVi (As := [.int (nI (((T 4) (3 * i37 + i77)).toNatClampNeg))]) (rest := []) ⟨hx, hb, hml, hown, hts⟩ hE hS (c_X7_isType l D q cI cZ n T k M d (cx_u (cx_u Z 3 (fun _ => (1 : Int32))) 0 Z_0_77) F (nI (((T 4) (3 * i37 + i77)).toNatClampNeg)) (by first | assumption | omega | rfl)) (cwV 1 hts gX7_know_X7_isType rfl rfl rfl (by decide +kernel) ⟨Nat.le_of_ble_eq_true rfl, Nat.le_of_ble_eq_true rfl⟩) 0 7 rfl rfl rfl hl.1 rfl (Nat.le_of_ble_eq_true rfl) ⟨Nat.zero_le _, Nat.zero_le _⟩ dX7_know_98 (fun r_98 u_98 H locs hp_98 hS => ?_)
                        have hp_98 : r_98 = cx_b (0 ≤ (nI (((T 4) (3 * i37 + i77)).toNatClampNeg)) ∧ (nI (((T 4) (3 * i37 + i77)).toNatClampNeg)) < nI n) := hp_98
                        subst hp_98
                        have J125 : ∀ (Z_0_125 : Nat → Int32) (H : Heap) (locs : List Loc) (ls : Array Slot), (∀ a u, a < 20 → u < 20 → (¬ Z_0_125 (20 * a + u) = 0 ↔ (a < i37 ∧ cx_Er T n a u) ∨ (a = i37 ∧ cx_Eu T n a (i77 + 1) u))) → cx_S D vwCl A s (cyW q cI cZ n T k M d (cx_u (cx_u Z 3 (fun _ => (1 : Int32))) 0 Z_0_125) F) H locs → lv_has ls 4 [(0, .ref (q 0)), (1, .int (nI i37)), (2, .int (nI i77))] → W p l e ({ frames := 2, cells := 0, slots := 0, locals := 43 } : Room) s m args below meth c H locs 0 0 Q (F0 m 125 ls []) := by
                          intro Z_0_125 H locs ls hy125 hS hl
                          refine lv_iinc (v := nI (i77 + 1)) (lv' := [(2, .int (nI (i77 + 1))), (0, .ref (q 0)), (1, .int (nI i37))]) hx hb dX7_know_125 hl (k := 2) rfl (cx_inc _) (by decide) rfl (fun ls hl => ?_)
                          refine lv_goto (tgt := 77) hx hb dX7_know_128 (by decide) ?_
                          exact ih77 (i77 + 1) Z_0_125 _ _ _ (by omega) (by omega) (by first | assumption | exact hy75 | exact hy125) hS (lv_sub hl [1, 2, 0] rfl)
                        refine lv_if_eq (tgt := 125) hx hb dX7_know_101 (by decide) (fun h101 => ?_) (fun h101 => ?_)
                        · skip
                          have g101 := cx_b0 h101
                          have hu101 := hU (3 * i37 + i77)
                          exact J125 Z_0_77 _ _ _ (by first | exact cx_k5 hn hu101 hy2 g101 | exact cx_k6 hn (by omega) hu101 hy2 g101) hS (lv_sub hl [0, 1, 2] rfl)
                        · skip
                          have g101 := cx_b1 h101
                          have hu101 := hU (3 * i37 + i77)
                          refine lv_aload_n hx hb dX7_know_104 rfl (lv_at hl 0 rfl) ?_
                          refine cx_get (own := RX7) (index := 52) (C := RX7) (T := TX7) (N := 22) (k := 16) (ci := 7) (v := .ref (q 15)) hx hb hts hown hE hS hinX7 0 rfl rfl (by decide) (List.mem_of_getElem? (i := 2) rfl) rfl dX7_know_105 ?_
                          refine lv_bipush (v := nI 20) hx hb dX7_know_108 (by decide) ?_
                          refine lv_iload_n hx hb dX7_know_110 rfl (lv_at hl 1 rfl) ?_
                          refine lv_imul hx hb dX7_know_111 ?_
                          refine cx_topr (z := nI (20 * i37)) (pk_mul _ _) ?_
                          refine lv_aload_n hx hb dX7_know_112 rfl (lv_at hl 0 rfl) ?_
                          refine cx_get (own := RX7) (index := 22) (C := RX7) (T := TX7) (N := 22) (k := 5) (ci := 7) (v := .ref (q 5)) hx hb hts hown hE hS hinX7 0 rfl rfl (by decide) (List.mem_of_getElem? (i := 6) rfl) rfl dX7_know_113 ?_
                          refine lv_iconst (v := nI 3) hx hb dX7_know_116 (by decide) ?_
                          refine lv_iload_n hx hb dX7_know_117 rfl (lv_at hl 1 rfl) ?_
                          refine lv_imul hx hb dX7_know_118 ?_
                          refine cx_topr (z := nI (3 * i37)) (pk_mul _ _) ?_
                          refine lv_iload_n hx hb dX7_know_119 rfl (lv_at hl 2 rfl) ?_
                          refine lv_iadd hx hb dX7_know_120 ?_
                          refine cx_topr (z := nI (3 * i37 + i77)) (nI_add _ _) ?_
                          refine cx_iald (f := (T 4)) (n := 60) (cA := cI) hx hb hE hS 5 0 rfl rfl (by omega) (by decide) dX7_know_121 ?_
                          have ho121 := (hU (3 * i37 + i77)).2
                          refine cx_topr (z := nI (((T 4) (3 * i37 + i77)).toNatClampNeg)) (hU (3 * i37 + i77)).1 ?_
                          refine lv_iadd hx hb dX7_know_122 ?_
                          refine cx_topr (z := nI (20 * i37 + ((T 4) (3 * i37 + i77)).toNatClampNeg)) (nI_add _ _) ?_
                          refine lv_iconst (v := (1 : Int32)) hx hb dX7_know_123 (by decide) ?_
                          refine cx_zast (k := 20 * i37 + ((T 4) (3 * i37 + i77)).toNatClampNeg) (f := Z_0_77) (n := 400) (cA := cZ) (ws' := (cyW q cI cZ n T k M d (cx_u (cx_u Z 3 (fun _ => (1 : Int32))) 0 (upd Z_0_77 (20 * i37 + ((T 4) (3 * i37 + i77)).toNatClampNeg) (vp_nar .boolean (1 : Int32)))) F)) hx hb hE hS 15 1 rfl rfl (by omega) (by decide) rfl dX7_know_124 (fun H locs hS => ?_)
                          exact J125 (upd Z_0_77 (20 * i37 + ((T 4) (3 * i37 + i77)).toNatClampNeg) (vp_nar .boolean (1 : Int32))) _ _ _ (by first | exact cx_k5 hn hu101 hy2 g101 | exact cx_k6 hn (by omega) hu101 hy2 g101) hS (lv_sub hl [0, 1, 2] rfl)
                  exact J77 (((T 5) i37).toNatClampNeg - 0 + 1) 0 Z_0_75 _ _ _ (Nat.lt_succ_self _) (by omega) (by first | assumption | exact hy75 | exact hy125) hS (lv_sub hl [1, 2, 0] rfl)
                refine lv_if_eq (tgt := 75) hx hb dX7_know_55 (by decide) (fun h55 => ?_) (fun h55 => ?_)
                · skip
                  have g55 := cx_b0 h55
                  exact J75 Z_0_37 _ _ _ (by first | exact cx_k3 hn hy g55 | exact cx_k4 hn (by omega) hy g55) hS (lv_sub hl [0, 1] rfl)
                · skip
                  have g55 := cx_b1 h55
                  have hq55 := (cx_ixT (by omega) g55).2
                  refine lv_aload_n hx hb dX7_know_58 rfl (lv_at hl 0 rfl) ?_
                  refine cx_get (own := RX7) (index := 52) (C := RX7) (T := TX7) (N := 22) (k := 16) (ci := 7) (v := .ref (q 15)) hx hb hts hown hE hS hinX7 0 rfl rfl (by decide) (List.mem_of_getElem? (i := 2) rfl) rfl dX7_know_59 ?_
                  refine lv_bipush (v := nI 20) hx hb dX7_know_62 (by decide) ?_
                  refine lv_iload_n hx hb dX7_know_64 rfl (lv_at hl 1 rfl) ?_
                  refine lv_imul hx hb dX7_know_65 ?_
                  refine cx_topr (z := nI (20 * i37)) (pk_mul _ _) ?_
                  refine lv_aload_n hx hb dX7_know_66 rfl (lv_at hl 0 rfl) ?_
                  refine cx_get (own := RX7) (index := 19) (C := RX7) (T := TX7) (N := 22) (k := 4) (ci := 7) (v := .ref (q 4)) hx hb hts hown hE hS hinX7 0 rfl rfl (by decide) (List.mem_of_getElem? (i := 4) rfl) rfl dX7_know_67 ?_
                  refine lv_iload_n hx hb dX7_know_70 rfl (lv_at hl 1 rfl) ?_
                  refine cx_iald (f := (T 3)) (n := 20) (cA := cI) hx hb hE hS 4 0 rfl rfl (by omega) (by decide) dX7_know_71 ?_
                  refine cx_topr (z := nI (((T 3) i37).toNatClampNeg)) (cx_ixT (by omega) g55).1 ?_
                  refine lv_iadd hx hb dX7_know_72 ?_
                  refine cx_topr (z := nI (20 * i37 + ((T 3) i37).toNatClampNeg)) (nI_add _ _) ?_
                  refine lv_iconst (v := (1 : Int32)) hx hb dX7_know_73 (by decide) ?_
                  refine cx_zast (k := 20 * i37 + ((T 3) i37).toNatClampNeg) (f := Z_0_37) (n := 400) (cA := cZ) (ws' := (cyW q cI cZ n T k M d (cx_u (cx_u Z 3 (fun _ => (1 : Int32))) 0 (upd Z_0_37 (20 * i37 + ((T 3) i37).toNatClampNeg) (vp_nar .boolean (1 : Int32)))) F)) hx hb hE hS 15 1 rfl rfl (by omega) (by decide) rfl dX7_know_74 (fun H locs hS => ?_)
                  exact J75 (upd Z_0_37 (20 * i37 + ((T 3) i37).toNatClampNeg) (vp_nar .boolean (1 : Int32))) _ _ _ (by first | exact cx_k3 hn hy g55 | exact cx_k4 hn (by omega) hy g55) hS (lv_sub hl [0, 1] rfl)
          exact J37 (n - 0 + 1) 0 Z_0_15 _ _ _ (Nat.lt_succ_self _) (by omega) (by first | exact cx_k7 (by omega) hy2 | exact cx_k2 (fun j hj => hz j (by omega))) hS (lv_sub hl [1, 0] rfl)
        · skip
          have g19 : ¬ (400 ≤ i15) := fun z => h19 ((nI_leI (a := 400) (b := i15) (by omega) (by omega)).mpr z)
          refine lv_aload_n hx hb dX7_know_22 rfl (lv_at hl 0 rfl) ?_
          refine cx_get (own := RX7) (index := 52) (C := RX7) (T := TX7) (N := 22) (k := 16) (ci := 7) (v := .ref (q 15)) hx hb hts hown hE hS hinX7 0 rfl rfl (by decide) (List.mem_of_getElem? (i := 2) rfl) rfl dX7_know_23 ?_
          refine lv_iload_n hx hb dX7_know_26 rfl (lv_at hl 1 rfl) ?_
          refine lv_iconst (v := (0 : Int32)) hx hb dX7_know_27 (by decide) ?_
          refine cx_zast (k := i15) (f := Z_0_15) (n := 400) (cA := cZ) (ws' := (cyW q cI cZ n T k M d (cx_u (cx_u Z 3 (fun _ => (1 : Int32))) 0 (upd Z_0_15 i15 (vp_nar .boolean (0 : Int32)))) F)) hx hb hE hS 15 1 rfl rfl (by omega) (by decide) rfl dX7_know_28 (fun H locs hS => ?_)
          refine lv_iinc (v := nI (i15 + 1)) (lv' := [(1, .int (nI (i15 + 1))), (0, .ref (q 0))]) hx hb dX7_know_29 hl (k := 1) rfl (cx_inc _) (by decide) rfl (fun ls hl => ?_)
          refine lv_goto (tgt := 15) hx hb dX7_know_32 (by decide) ?_
          exact ih15 (i15 + 1) (upd Z_0_15 i15 (vp_nar .boolean (0 : Int32))) _ _ _ (by omega) (by omega) (by first | exact fun j hj => absurd hj (by omega) | exact cx_k1 hz) hS (lv_sub hl [1, 0] rfl)
    exact J15 (400 - 0 + 1) 0 (Z 0) _ _ _ (Nat.lt_succ_self _) (by omega) (by first | exact fun j hj => absurd hj (by omega) | exact cx_k1 hz) hS (lv_sub hl [1, 0] rfl)
  · skip
    exact RET (Z 0, (Z 3) 0) _ _ _ _ dX7_know_7 (⟨(by first | assumption | exact hKN), ⟨hKN.resolve_left h4, h4⟩⟩) hS
set_option maxHeartbeats 4000000 in
set_option maxRecDepth 100000 in
theorem c_X7_isOf (l : Launch) (D : va_G) (q : Nat → Nat) (cI cZ : ClassId) (n : Nat) (T : Nat → Nat → Int32) (k : Nat) (M : Nat → Nat → Int32) (d : Nat) (Z : Nat → Nat → Int32) (F : Nat → Nat → Int32) (t : Nat) (u : Nat) (hn : n ≤ 20) (hP : cx_P (T 3) 20) (hU : cx_R (T 4) 20) (hV : cx_R (T 5) 4) (hKN : cx_KN n T (Z 0) ((Z 3) 0)) (ht : t < n) (hu : u < n) : cx_Mi l D vwCl [(cI, .int), (cZ, .boolean)] cx_NW yX7_isOf wsX7_isOf ({ frames := 3, cells := 0, slots := 0, locals := 66 } : Room) [.ref (q 0), .int (nI t), .int (nI u)] (cyW q cI cZ n T k M d Z F) (fun (r : Int32) (uw : (Nat → Int32) × (Int32)) => cx_KN n T uw.1 uw.2 ∧ (((r = 0 ∨ r = 1) ∧ (¬ r = 0 ↔ cx_is (cx_Ar T n) t u)) ∧ ((∀ wa wu, wa < n → wu < n → (¬ uw.1 (20 * wa + wu) = 0 ↔ (cx_w3 n (cx_Er T n) n) wa wu)) ∧ ¬ uw.2 = 0))) (fun uw => (cyW q cI cZ n T k M d (cx_u (cx_u Z 0 uw.1) 3 (fun _ => uw.2)) F)) := by
  refine cx_Mi.of (cc := cX7_isOf) (maxL := 3) cx_NW_ok (by decide) rfl (Nat.le_of_ble_eq_true rfl) ?_
  intro p e s m args below meth c Q A ls hx hb hml hown hts hE RET hS hl
  have hl : lv_has ls 3 [(0, .ref (q 0)), (1, .int (nI t)), (2, .int (nI u))] := hl
  have hown : s.vm.findClass RX7 = some m.cls := hown
  have hinX7 : ∀ w ∈ u_ws RX7 TX7 22, w ∈ wsX7_isOf := cx_mem [19, 20, 21, 22, 23, 24, 25, 26, 27, 28, 29, 30, 31, 32, 33, 34, 35, 36, 37, 38, 39, 40] (by decide +kernel)
  refine lv_aload_n hx hb dX7_isOf_0 rfl (lv_at hl 0 rfl) ?_
  refine cx_cVv (As := []) (rest := []) ⟨hx, hb, hml, hown, hts⟩ hE hS (c_X7_know l D q cI cZ n T k M d Z F  (by first | assumption | omega | rfl) (by first | assumption | omega | rfl) (by first | assumption | omega | rfl) (by first | assumption | omega | rfl) (by first | assumption | omega | rfl)) (cwV 0 hts gX7_isOf_X7_know rfl rfl rfl (by decide +kernel) ⟨Nat.le_of_ble_eq_true rfl, Nat.le_of_ble_eq_true rfl⟩) 0 7 rfl rfl rfl hl.1 rfl (Nat.le_of_ble_eq_true rfl) ⟨Nat.zero_le _, Nat.zero_le _⟩ dX7_isOf_1 (fun u_1 H locs hp_1 hS => ?_)
  obtain ⟨za_1, kn_1⟩ := u_1
  have hS : cx_S D vwCl A s (cyW q cI cZ n T k M d (cx_u (cx_u Z 0 za_1) 3 (fun _ => kn_1)) F) H locs := hS
  obtain ⟨hKN_1, hp_1⟩ := hp_1
  have hKN_1 : cx_KN n T za_1 kn_1 := hKN_1
  have hp_1 : (∀ wa wu, wa < n → wu < n → (¬ za_1 (20 * wa + wu) = 0 ↔ (cx_w3 n (cx_Er T n) n) wa wu)) ∧ ¬ kn_1 = 0 := hp_1
  refine lv_iload_n hx hb dX7_isOf_4 rfl (lv_at hl 1 rfl) ?_
  refine lv_iload_n hx hb dX7_isOf_5 rfl (lv_at hl 2 rfl) ?_
  have J28 : ∀ (v28_s0 : Int32) (H : Heap) (locs : List Loc) (ls : Array Slot), ((v28_s0 = 0 ∨ v28_s0 = 1) ∧ (¬ v28_s0 = 0 ↔ cx_is (cx_Ar T n) t u)) → cx_S D vwCl A s (cyW q cI cZ n T k M d (cx_u (cx_u Z 0 za_1) 3 (fun _ => kn_1)) F) H locs → lv_has ls 3 [(0, .ref (q 0)), (1, .int (nI t)), (2, .int (nI u))] → W p l e ({ frames := 3, cells := 0, slots := 0, locals := 66 } : Room) s m args below meth c H locs 0 0 Q (F0 m 28 ls [.int v28_s0]) := by
    intro v28_s0 H locs ls b28 hS hl
    exact RET _ (za_1, kn_1) _ _ _ _ dX7_isOf_28 (cx_nb b28.1) (⟨(by first | assumption | exact hKN), ⟨(by first | exact b28 | (try clear RET); (try clear hS); (try clear hl); (try clear hE); (try clear hts); (try clear hb); (try clear hx); (try clear hml); (try clear hown); (try clear hinX7); (try clear J28); have y10 : ¬ (1 : Int32) = 0 := (by decide); first | assumption | (grind)), hp_1⟩⟩) hS
  have J23 : ∀ (H : Heap) (locs : List Loc) (ls : Array Slot), (cx_is (cx_Ar T n) t u) → cx_S D vwCl A s (cyW q cI cZ n T k M d (cx_u (cx_u Z 0 za_1) 3 (fun _ => kn_1)) F) H locs → lv_has ls 3 [(0, .ref (q 0)), (1, .int (nI t)), (2, .int (nI u))] → W p l e ({ frames := 3, cells := 0, slots := 0, locals := 66 } : Room) s m args below meth c H locs 0 0 Q (F0 m 23 ls []) := by
    intro  H locs ls f23 hS hl
    refine lv_iconst (v := (1 : Int32)) hx hb dX7_isOf_23 (by decide) ?_
    refine lv_goto (tgt := 28) hx hb dX7_isOf_24 (by decide) ?_
    exact J28 (1 : Int32) _ _ _ (cx_e1 (by (try clear RET); (try clear hS); (try clear hl); (try clear hE); (try clear hts); (try clear hb); (try clear hx); (try clear hml); (try clear hown); (try clear hinX7); (try clear J28); (try clear J23); have y10 : ¬ (1 : Int32) = 0 := (by decide); first | assumption | (grind))) hS (lv_sub hl [0, 1, 2] rfl)
  refine lv_icmp_eq (tgt := 23) hx hb dX7_isOf_6 (by decide) (fun h6 => ?_) (fun h6 => ?_)
  · skip
    have g6 : t = u := (nI_eq (a := t) (b := u) (by omega) (by omega)).mp h6
    exact J23  _ _ _ (by (try clear RET); (try clear hS); (try clear hl); (try clear hE); (try clear hts); (try clear hb); (try clear hx); (try clear hml); (try clear hown); (try clear hinX7); (try clear J28); (try clear J23); have y10 : ¬ (1 : Int32) = 0 := (by decide); first | assumption | (grind)) hS (lv_sub hl [0, 1, 2] rfl)
  · skip
    have g6 : ¬ (t = u) := fun z => h6 ((nI_eq (a := t) (b := u) (by omega) (by omega)).mpr z)
    refine lv_aload_n hx hb dX7_isOf_9 rfl (lv_at hl 0 rfl) ?_
    refine cx_get (own := RX7) (index := 52) (C := RX7) (T := TX7) (N := 22) (k := 16) (ci := 7) (v := .ref (q 15)) hx hb hts hown hE hS hinX7 0 rfl rfl (by decide) (List.mem_of_getElem? (i := 1) rfl) rfl dX7_isOf_10 ?_
    refine lv_bipush (v := nI 20) hx hb dX7_isOf_13 (by decide) ?_
    refine lv_iload_n hx hb dX7_isOf_15 rfl (lv_at hl 1 rfl) ?_
    refine lv_imul hx hb dX7_isOf_16 ?_
    refine cx_topr (z := nI (20 * t)) (pk_mul _ _) ?_
    refine lv_iload_n hx hb dX7_isOf_17 rfl (lv_at hl 2 rfl) ?_
    refine lv_iadd hx hb dX7_isOf_18 ?_
    refine cx_topr (z := nI (20 * t + u)) (nI_add _ _) ?_
    refine cx_zald (f := za_1) (n := 400) (cA := cZ) hx hb hE hS 15 1 rfl rfl (by omega) (by decide) dX7_isOf_19 ?_
    refine lv_if_eq (tgt := 27) hx hb dX7_isOf_20 (by decide) (fun h20 => ?_) (fun h20 => ?_)
    · skip
      have y20 : ¬ cx_Ar T n t u := fun z => (hp_1.1 _ _ ht hu).mpr z.2.2 h20
      refine lv_iconst (v := (0 : Int32)) hx hb dX7_isOf_27 (by decide) ?_
      exact J28 (0 : Int32) _ _ _ (cx_e0 (by (try clear RET); (try clear hS); (try clear hl); (try clear hE); (try clear hts); (try clear hb); (try clear hx); (try clear hml); (try clear hown); (try clear hinX7); (try clear J28); (try clear J23); have y10 : ¬ (1 : Int32) = 0 := (by decide); first | assumption | (grind))) hS (lv_sub hl [0, 1, 2] rfl)
    · skip
      have y20 : cx_Ar T n t u := ⟨ht, hu, (hp_1.1 _ _ ht hu).mp h20⟩
      exact J23  _ _ _ (by (try clear RET); (try clear hS); (try clear hl); (try clear hE); (try clear hts); (try clear hb); (try clear hx); (try clear hml); (try clear hown); (try clear hinX7); (try clear J28); (try clear J23); have y10 : ¬ (1 : Int32) = 0 := (by decide); first | assumption | (grind)) hS (lv_sub hl [0, 1, 2] rfl)
set_option maxHeartbeats 4000000 in
set_option maxRecDepth 100000 in
theorem c_X7_areLike (l : Launch) (D : va_G) (q : Nat → Nat) (cI cZ : ClassId) (n : Nat) (T : Nat → Nat → Int32) (k : Nat) (M : Nat → Nat → Int32) (d : Nat) (Z : Nat → Nat → Int32) (F : Nat → Nat → Int32) (mm : Nat) (oo : Nat) (hm : mm < 80) (ho : oo < 80) : cx_Mi l D vwCl [(cI, .int), (cZ, .boolean)] cx_NW yX7_areLike wsX7_areLike ({ frames := 0, cells := 0, slots := 0, locals := 0 } : Room) [.ref (q 0), .int (nI mm), .int (nI oo)] (cyW q cI cZ n T k M d Z F) (fun (r : Int32) (uw : Unit) => (r = 0 ∨ r = 1) ∧ (¬ r = 0 ↔ cx_lk M mm oo)) (fun _ => (cyW q cI cZ n T k M d Z F)) := by
  refine cx_Mi.of (cc := cX7_areLike) (maxL := 3) cx_NW_ok (by decide) rfl (Nat.le_of_ble_eq_true rfl) ?_
  intro p e s m args below meth c Q A ls hx hb hml hown hts hE RET hS hl
  have hl : lv_has ls 3 [(0, .ref (q 0)), (1, .int (nI mm)), (2, .int (nI oo))] := hl
  have hown : s.vm.findClass RX7 = some m.cls := hown
  have hinX7 : ∀ w ∈ u_ws RX7 TX7 22, w ∈ wsX7_areLike := cx_mem [3, 4, 5, 6, 7, 8, 9, 10, 11, 12, 13, 14, 15, 16, 17, 18, 19, 20, 21, 22, 23, 24] (by decide +kernel)
  refine lv_aload_n hx hb dX7_areLike_0 rfl (lv_at hl 0 rfl) ?_
  refine cx_get (own := RX7) (index := 37) (C := RX7) (T := TX7) (N := 22) (k := 11) (ci := 7) (v := .ref (q 10)) hx hb hts hown hE hS hinX7 0 rfl rfl (by decide) (List.mem_of_getElem? (i := 1) rfl) rfl dX7_areLike_1 ?_
  refine lv_iload_n hx hb dX7_areLike_4 rfl (lv_at hl 1 rfl) ?_
  refine cx_iald (f := (M 1)) (n := 80) (cA := cI) hx hb hE hS 10 0 rfl rfl (by omega) (by decide) dX7_areLike_5 ?_
  refine lv_aload_n hx hb dX7_areLike_6 rfl (lv_at hl 0 rfl) ?_
  refine cx_get (own := RX7) (index := 37) (C := RX7) (T := TX7) (N := 22) (k := 11) (ci := 7) (v := .ref (q 10)) hx hb hts hown hE hS hinX7 0 rfl rfl (by decide) (List.mem_of_getElem? (i := 1) rfl) rfl dX7_areLike_7 ?_
  refine lv_iload_n hx hb dX7_areLike_10 rfl (lv_at hl 2 rfl) ?_
  refine cx_iald (f := (M 1)) (n := 80) (cA := cI) hx hb hE hS 10 0 rfl rfl (by omega) (by decide) dX7_areLike_11 ?_
  have J35 : ∀ (v35_s0 : Int32) (H : Heap) (locs : List Loc) (ls : Array Slot), ((v35_s0 = 0 ∨ v35_s0 = 1) ∧ (¬ v35_s0 = 0 ↔ cx_lk M mm oo)) → cx_S D vwCl A s (cyW q cI cZ n T k M d Z F) H locs → lv_has ls 3 [(0, .ref (q 0)), (1, .int (nI mm)), (2, .int (nI oo))] → W p l e ({ frames := 0, cells := 0, slots := 0, locals := 0 } : Room) s m args below meth c H locs 0 0 Q (F0 m 35 ls [.int v35_s0]) := by
    intro v35_s0 H locs ls b35 hS hl
    exact RET _ () _ _ _ _ dX7_areLike_35 (cx_nb b35.1) (by first | exact b35 | (try clear RET); (try clear hS); (try clear hl); (try clear hE); (try clear hts); (try clear hb); (try clear hx); (try clear hml); (try clear hown); (try clear hinX7); (try clear J35); have y10 : ¬ (1 : Int32) = 0 := (by decide); first | assumption | (grind)) hS
  have J34 : ∀ (H : Heap) (locs : List Loc) (ls : Array Slot), (¬ (cx_lk M mm oo)) → cx_S D vwCl A s (cyW q cI cZ n T k M d Z F) H locs → lv_has ls 3 [(0, .ref (q 0)), (1, .int (nI mm)), (2, .int (nI oo))] → W p l e ({ frames := 0, cells := 0, slots := 0, locals := 0 } : Room) s m args below meth c H locs 0 0 Q (F0 m 34 ls []) := by
    intro  H locs ls f34 hS hl
    refine lv_iconst (v := (0 : Int32)) hx hb dX7_areLike_34 (by decide) ?_
    exact J35 (0 : Int32) _ _ _ (cx_e0 (by (try clear RET); (try clear hS); (try clear hl); (try clear hE); (try clear hts); (try clear hb); (try clear hx); (try clear hml); (try clear hown); (try clear hinX7); (try clear J35); (try clear J34); have y10 : ¬ (1 : Int32) = 0 := (by decide); first | assumption | (grind))) hS (lv_sub hl [0, 1, 2] rfl)
  refine lv_icmp_ne (tgt := 34) hx hb dX7_areLike_12 (by decide) (fun h12 => ?_) (fun h12 => ?_)
  · skip
    exact J34  _ _ _ (by (try clear RET); (try clear hS); (try clear hl); (try clear hE); (try clear hts); (try clear hb); (try clear hx); (try clear hml); (try clear hown); (try clear hinX7); (try clear J35); (try clear J34); have y10 : ¬ (1 : Int32) = 0 := (by decide); first | assumption | (grind)) hS (lv_sub hl [0, 1, 2] rfl)
  · skip
    refine lv_aload_n hx hb dX7_areLike_15 rfl (lv_at hl 0 rfl) ?_
    refine cx_get (own := RX7) (index := 40) (C := RX7) (T := TX7) (N := 22) (k := 12) (ci := 7) (v := .ref (q 11)) hx hb hts hown hE hS hinX7 0 rfl rfl (by decide) (List.mem_of_getElem? (i := 2) rfl) rfl dX7_areLike_16 ?_
    refine lv_iload_n hx hb dX7_areLike_19 rfl (lv_at hl 1 rfl) ?_
    refine cx_iald (f := (M 2)) (n := 80) (cA := cI) hx hb hE hS 11 0 rfl rfl (by omega) (by decide) dX7_areLike_20 ?_
    refine lv_aload_n hx hb dX7_areLike_21 rfl (lv_at hl 0 rfl) ?_
    refine cx_get (own := RX7) (index := 40) (C := RX7) (T := TX7) (N := 22) (k := 12) (ci := 7) (v := .ref (q 11)) hx hb hts hown hE hS hinX7 0 rfl rfl (by decide) (List.mem_of_getElem? (i := 2) rfl) rfl dX7_areLike_22 ?_
    refine lv_iload_n hx hb dX7_areLike_25 rfl (lv_at hl 2 rfl) ?_
    refine cx_iald (f := (M 2)) (n := 80) (cA := cI) hx hb hE hS 11 0 rfl rfl (by omega) (by decide) dX7_areLike_26 ?_
    refine lv_icmp_ne (tgt := 34) hx hb dX7_areLike_27 (by decide) (fun h27 => ?_) (fun h27 => ?_)
    · skip
      exact J34  _ _ _ (by (try clear RET); (try clear hS); (try clear hl); (try clear hE); (try clear hts); (try clear hb); (try clear hx); (try clear hml); (try clear hown); (try clear hinX7); (try clear J35); (try clear J34); have y10 : ¬ (1 : Int32) = 0 := (by decide); first | assumption | (grind)) hS (lv_sub hl [0, 1, 2] rfl)
    · skip
      refine lv_iconst (v := (1 : Int32)) hx hb dX7_areLike_30 (by decide) ?_
      refine lv_goto (tgt := 35) hx hb dX7_areLike_31 (by decide) ?_
      exact J35 (1 : Int32) _ _ _ (cx_e1 (by (try clear RET); (try clear hS); (try clear hl); (try clear hE); (try clear hts); (try clear hb); (try clear hx); (try clear hml); (try clear hown); (try clear hinX7); (try clear J35); (try clear J34); have y10 : ¬ (1 : Int32) = 0 := (by decide); first | assumption | (grind))) hS (lv_sub hl [0, 1, 2] rfl)
set_option maxHeartbeats 4000000 in
set_option maxRecDepth 100000 in
theorem c_X7_isShared (l : Launch) (D : va_G) (q : Nat → Nat) (cI cZ : ClassId) (n : Nat) (T : Nat → Nat → Int32) (k : Nat) (M : Nat → Nat → Int32) (d : Nat) (Z : Nat → Nat → Int32) (F : Nat → Nat → Int32) (mm : Nat) (t : Nat) (hn : n ≤ 20) (hP : cx_P (T 3) 20) (hU : cx_R (T 4) 20) (hV : cx_R (T 5) 4) (hKN : cx_KN n T (Z 0) ((Z 3) 0)) (hO : cx_R (M 0) 20) (hk : k ≤ 80) (hOn : ∀ j, j < k → (M 0 j).toNatClampNeg < n) (hX : cx_R (M 4) 4) (hm : mm < k) (ht : t < n) : cx_Mi l D vwCl [(cI, .int), (cZ, .boolean)] cx_NW yX7_isShared wsX7_isShared ({ frames := 3, cells := 0, slots := 0, locals := 66 } : Room) [.ref (q 0), .int (nI mm), .int (nI t)] (cyW q cI cZ n T k M d Z F) (fun (r : Int32) (uw : (Nat → Int32) × (Int32)) => cx_KN n T uw.1 uw.2 ∧ ((r = 0 ∨ r = 1) ∧ (¬ r = 0 ↔ cx_sh (T 0) (T 2) M (cx_Ar T n) mm t))) (fun uw => (cyW q cI cZ n T k M d (cx_u (cx_u Z 0 uw.1) 3 (fun _ => uw.2)) F)) := by
  refine cx_Mi.of (cc := cX7_isShared) (maxL := 4) cx_NW_ok (by decide) rfl (Nat.le_of_ble_eq_true rfl) ?_
  intro p e s m args below meth c Q A ls hx hb hml hown hts hE RET hS hl
  have hl : lv_has ls 4 [(0, .ref (q 0)), (1, .int (nI mm)), (2, .int (nI t))] := hl
  have hown : s.vm.findClass RX7 = some m.cls := hown
  have hinX7 : ∀ w ∈ u_ws RX7 TX7 22, w ∈ wsX7_isShared := cx_mem [28, 29, 30, 31, 32, 33, 34, 35, 36, 37, 38, 39, 40, 41, 42, 43, 44, 45, 46, 47, 48, 49] (by decide +kernel)
  have hom := hOn mm hm
  have yac := cx_ac (hX mm)
  refine lv_aload_n hx hb dX7_isShared_0 rfl (lv_at hl 0 rfl) ?_
  refine cx_cVv (As := []) (rest := []) ⟨hx, hb, hml, hown, hts⟩ hE hS (c_X7_know l D q cI cZ n T k M d Z F  (by first | assumption | omega | rfl) (by first | assumption | omega | rfl) (by first | assumption | omega | rfl) (by first | assumption | omega | rfl) (by first | assumption | omega | rfl)) (cwV 0 hts gX7_isShared_X7_know rfl rfl rfl (by decide +kernel) ⟨Nat.le_of_ble_eq_true rfl, Nat.le_of_ble_eq_true rfl⟩) 0 7 rfl rfl rfl hl.1 rfl (Nat.le_of_ble_eq_true rfl) ⟨Nat.zero_le _, Nat.zero_le _⟩ dX7_isShared_1 (fun u_1 H locs hp_1 hS => ?_)
  obtain ⟨za_1, kn_1⟩ := u_1
  have hS : cx_S D vwCl A s (cyW q cI cZ n T k M d (cx_u (cx_u Z 0 za_1) 3 (fun _ => kn_1)) F) H locs := hS
  obtain ⟨hKN_1, hp_1⟩ := hp_1
  have hKN_1 : cx_KN n T za_1 kn_1 := hKN_1
  have hp_1 : (∀ wa wu, wa < n → wu < n → (¬ za_1 (20 * wa + wu) = 0 ↔ (cx_w3 n (cx_Er T n) n) wa wu)) ∧ ¬ kn_1 = 0 := hp_1
  refine lv_aload_n hx hb dX7_isShared_4 rfl (lv_at hl 0 rfl) ?_
  refine cx_get (own := RX7) (index := 46) (C := RX7) (T := TX7) (N := 22) (k := 14) (ci := 7) (v := .ref (q 13)) hx hb hts hown hE hS hinX7 0 rfl rfl (by decide) (List.mem_of_getElem? (i := 1) rfl) rfl dX7_isShared_5 ?_
  refine lv_iload_n hx hb dX7_isShared_8 rfl (lv_at hl 1 rfl) ?_
  refine cx_iald (f := (M 4)) (n := 80) (cA := cI) hx hb hE hS 13 0 rfl rfl (by omega) (by decide) dX7_isShared_9 ?_
  refine lv_iconst (v := (1 : Int32)) hx hb dX7_isShared_10 (by decide) ?_
  have J49 : ∀ (v49_s0 : Int32) (H : Heap) (locs : List Loc) (ls : Array Slot), ((v49_s0 = 0 ∨ v49_s0 = 1) ∧ (¬ v49_s0 = 0 ↔ cx_se (T 2) M mm t)) → cx_S D vwCl A s (cyW q cI cZ n T k M d (cx_u (cx_u Z 0 za_1) 3 (fun _ => kn_1)) F) H locs → lv_has ls 4 [(0, .ref (q 0)), (1, .int (nI mm)), (2, .int (nI t))] → W p l e ({ frames := 3, cells := 0, slots := 0, locals := 66 } : Room) s m args below meth c H locs 0 0 Q (F0 m 49 ls [.int v49_s0]) := by
    intro v49_s0 H locs ls b49 hS hl
    refine lv_istore_n (lv' := [(3, .int v49_s0), (0, .ref (q 0)), (1, .int (nI mm)), (2, .int (nI t))]) hx hb dX7_isShared_49 rfl hl (by decide) rfl (fun ls hl => ?_)
    refine lv_aload_n hx hb dX7_isShared_50 rfl (lv_at hl 1 rfl) ?_
    refine cx_get (own := RX7) (index := 52) (C := RX7) (T := TX7) (N := 22) (k := 16) (ci := 7) (v := .ref (q 15)) hx hb hts hown hE hS hinX7 0 rfl rfl (by decide) (List.mem_of_getElem? (i := 4) rfl) rfl dX7_isShared_51 ?_
    refine lv_bipush (v := nI 20) hx hb dX7_isShared_54 (by decide) ?_
    refine lv_iload_n hx hb dX7_isShared_56 rfl (lv_at hl 3 rfl) ?_
    refine lv_imul hx hb dX7_isShared_57 ?_
    refine cx_topr (z := nI (20 * t)) (pk_mul _ _) ?_
    refine lv_aload_n hx hb dX7_isShared_58 rfl (lv_at hl 1 rfl) ?_
    refine cx_get (own := RX7) (index := 34) (C := RX7) (T := TX7) (N := 22) (k := 10) (ci := 7) (v := .ref (q 9)) hx hb hts hown hE hS hinX7 0 rfl rfl (by decide) (List.mem_of_getElem? (i := 3) rfl) rfl dX7_isShared_59 ?_
    refine lv_iload_n hx hb dX7_isShared_62 rfl (lv_at hl 2 rfl) ?_
    refine cx_iald (f := (M 0)) (n := 80) (cA := cI) hx hb hE hS 9 0 rfl rfl (by omega) (by decide) dX7_isShared_63 ?_
    have ho63 := (hO mm).2
    refine cx_topr (z := nI (((M 0) mm).toNatClampNeg)) (hO mm).1 ?_
    refine lv_iadd hx hb dX7_isShared_64 ?_
    refine cx_topr (z := nI (20 * t + ((M 0) mm).toNatClampNeg)) (nI_add _ _) ?_
    refine cx_zald (f := za_1) (n := 400) (cA := cZ) hx hb hE hS 15 1 rfl rfl (by omega) (by decide) dX7_isShared_65 ?_
    have J103 : ∀ (v103_s0 : Int32) (H : Heap) (locs : List Loc) (ls : Array Slot), ((v103_s0 = 0 ∨ v103_s0 = 1) ∧ (¬ v103_s0 = 0 ↔ cx_sh (T 0) (T 2) M (cx_Ar T n) mm t)) → cx_S D vwCl A s (cyW q cI cZ n T k M d (cx_u (cx_u Z 0 za_1) 3 (fun _ => kn_1)) F) H locs → lv_has ls 4 [(0, .ref (q 0)), (1, .int (nI mm)), (2, .int (nI t)), (3, .int v49_s0)] → W p l e ({ frames := 3, cells := 0, slots := 0, locals := 66 } : Room) s m args below meth c H locs 0 0 Q (F0 m 103 ls [.int v103_s0]) := by
      intro v103_s0 H locs ls b103 hS hl
      exact RET _ (za_1, kn_1) _ _ _ _ dX7_isShared_103 (cx_nb b103.1) (⟨(by first | assumption | exact hKN), (by first | exact b103 | (try clear RET); (try clear hS); (try clear hl); (try clear hE); (try clear hts); (try clear hb); (try clear hx); (try clear hml); (try clear hown); (try clear hinX7); (try clear J49); (try clear J103); have y10 : ¬ (1 : Int32) = 0 := (by decide); first | assumption | (grind))⟩) hS
    have J102 : ∀ (H : Heap) (locs : List Loc) (ls : Array Slot), (¬ (cx_sh (T 0) (T 2) M (cx_Ar T n) mm t)) → cx_S D vwCl A s (cyW q cI cZ n T k M d (cx_u (cx_u Z 0 za_1) 3 (fun _ => kn_1)) F) H locs → lv_has ls 4 [(0, .ref (q 0)), (1, .int (nI mm)), (2, .int (nI t)), (3, .int v49_s0)] → W p l e ({ frames := 3, cells := 0, slots := 0, locals := 66 } : Room) s m args below meth c H locs 0 0 Q (F0 m 102 ls []) := by
      intro  H locs ls f102 hS hl
      refine lv_iconst (v := (0 : Int32)) hx hb dX7_isShared_102 (by decide) ?_
      exact J103 (0 : Int32) _ _ _ (cx_e0 (by (try clear RET); (try clear hS); (try clear hl); (try clear hE); (try clear hts); (try clear hb); (try clear hx); (try clear hml); (try clear hown); (try clear hinX7); (try clear J49); (try clear J103); (try clear J102); have y10 : ¬ (1 : Int32) = 0 := (by decide); first | assumption | (grind))) hS (lv_sub hl [0, 1, 2, 3] rfl)
    refine lv_if_eq (tgt := 102) hx hb dX7_isShared_66 (by decide) (fun h66 => ?_) (fun h66 => ?_)
    · skip
      have y66 : ¬ cx_Ar T n t (((M 0) mm).toNatClampNeg) := fun z => (hp_1.1 _ _ ht hom).mpr z.2.2 h66
      exact J102  _ _ _ (by (try clear RET); (try clear hS); (try clear hl); (try clear hE); (try clear hts); (try clear hb); (try clear hx); (try clear hml); (try clear hown); (try clear hinX7); (try clear J49); (try clear J103); (try clear J102); have y10 : ¬ (1 : Int32) = 0 := (by decide); first | assumption | (grind)) hS (lv_sub hl [1, 2, 3, 0] rfl)
    · skip
      have y66 : cx_Ar T n t (((M 0) mm).toNatClampNeg) := ⟨ht, hom, (hp_1.1 _ _ ht hom).mp h66⟩
      refine lv_iload_n hx hb dX7_isShared_69 rfl (lv_at hl 0 rfl) ?_
      refine lv_if_eq (tgt := 102) hx hb dX7_isShared_70 (by decide) (fun h70 => ?_) (fun h70 => ?_)
      · skip
        have g70 : ¬ (cx_se (T 2) M mm t) := fun z => b49.2.mpr z h70
        exact J102  _ _ _ (by (try clear RET); (try clear hS); (try clear hl); (try clear hE); (try clear hts); (try clear hb); (try clear hx); (try clear hml); (try clear hown); (try clear hinX7); (try clear J49); (try clear J103); (try clear J102); have y10 : ¬ (1 : Int32) = 0 := (by decide); first | assumption | (grind)) hS (lv_sub hl [1, 2, 3, 0] rfl)
      · skip
        have g70 : cx_se (T 2) M mm t := b49.2.mp h70
        refine lv_aload_n hx hb dX7_isShared_73 rfl (lv_at hl 1 rfl) ?_
        refine lv_iload_n hx hb dX7_isShared_74 rfl (lv_at hl 2 rfl) ?_
        refine lv_iconst (v := (1 : Int32)) hx hb dX7_isShared_75 (by decide) ?_
        refine lv_iconst (v := nI 4) hx hb dX7_isShared_76 (by decide) ?_
        refine cx_cVi (As := [.int (nI mm), .int (1 : Int32), .int (nI 4)]) (rest := []) ⟨hx, hb, hml, hown, hts⟩ hE hS (c_X7_is_at_1 l D q cI cZ n T k M d (cx_u (cx_u Z 0 za_1) 3 (fun _ => kn_1)) F mm (1 : Int32) (nI 4) (by first | assumption | omega | rfl) (by first | assumption | omega | rfl)) (cwV 3 hts gX7_isShared_X7_is rfl rfl rfl (by decide +kernel) ⟨Nat.le_of_ble_eq_true rfl, Nat.le_of_ble_eq_true rfl⟩) 0 7 rfl rfl rfl hl.1 rfl (Nat.le_of_ble_eq_true rfl) ⟨Nat.zero_le _, Nat.zero_le _⟩ dX7_isShared_77 (fun r_77 u_77 H locs hp_77 hS => ?_)
        have hp_77 : (r_77 = 0 ∨ r_77 = 1) ∧ (¬ r_77 = 0 ↔ cx_mk ((M 3)) mm (nI 4)) := hp_77
        have J98 : ∀ (H : Heap) (locs : List Loc) (ls : Array Slot), (cx_sh (T 0) (T 2) M (cx_Ar T n) mm t) → cx_S D vwCl A s (cyW q cI cZ n T k M d (cx_u (cx_u Z 0 za_1) 3 (fun _ => kn_1)) F) H locs → lv_has ls 4 [(0, .ref (q 0)), (1, .int (nI mm)), (2, .int (nI t)), (3, .int v49_s0)] → W p l e ({ frames := 3, cells := 0, slots := 0, locals := 66 } : Room) s m args below meth c H locs 0 0 Q (F0 m 98 ls []) := by
          intro  H locs ls f98 hS hl
          refine lv_iconst (v := (1 : Int32)) hx hb dX7_isShared_98 (by decide) ?_
          refine lv_goto (tgt := 103) hx hb dX7_isShared_99 (by decide) ?_
          exact J103 (1 : Int32) _ _ _ (cx_e1 (by (try clear RET); (try clear hS); (try clear hl); (try clear hE); (try clear hts); (try clear hb); (try clear hx); (try clear hml); (try clear hown); (try clear hinX7); (try clear J49); (try clear J103); (try clear J102); (try clear J98); have y10 : ¬ (1 : Int32) = 0 := (by decide); first | assumption | (grind))) hS (lv_sub hl [0, 1, 2, 3] rfl)
        refine lv_if_eq (tgt := 98) hx hb dX7_isShared_80 (by decide) (fun h80 => ?_) (fun h80 => ?_)
        · skip
          have g80 : ¬ (cx_mk ((M 3)) mm (nI 4)) := fun z => hp_77.2.mpr z h80
          exact J98  _ _ _ (by (try clear RET); (try clear hS); (try clear hl); (try clear hE); (try clear hts); (try clear hb); (try clear hx); (try clear hml); (try clear hown); (try clear hinX7); (try clear J49); (try clear J103); (try clear J102); (try clear J98); have y10 : ¬ (1 : Int32) = 0 := (by decide); first | assumption | (grind)) hS (lv_sub hl [1, 2, 3, 0] rfl)
        · skip
          have g80 : cx_mk ((M 3)) mm (nI 4) := hp_77.2.mp h80
          refine lv_aload_n hx hb dX7_isShared_83 rfl (lv_at hl 1 rfl) ?_
          refine cx_get (own := RX7) (index := 7) (C := RX7) (T := TX7) (N := 22) (k := 1) (ci := 7) (v := .ref (q 1)) hx hb hts hown hE hS hinX7 0 rfl rfl (by decide) (List.mem_of_getElem? (i := 5) rfl) rfl dX7_isShared_84 ?_
          refine lv_aload_n hx hb dX7_isShared_87 rfl (lv_at hl 1 rfl) ?_
          refine cx_get (own := RX7) (index := 34) (C := RX7) (T := TX7) (N := 22) (k := 10) (ci := 7) (v := .ref (q 9)) hx hb hts hown hE hS hinX7 0 rfl rfl (by decide) (List.mem_of_getElem? (i := 3) rfl) rfl dX7_isShared_88 ?_
          refine lv_iload_n hx hb dX7_isShared_91 rfl (lv_at hl 2 rfl) ?_
          refine cx_iald (f := (M 0)) (n := 80) (cA := cI) hx hb hE hS 9 0 rfl rfl (by omega) (by decide) dX7_isShared_92 ?_
          have ho92 := (hO mm).2
          refine cx_topr (z := nI (((M 0) mm).toNatClampNeg)) (hO mm).1 ?_
          refine cx_iald (f := (T 0)) (n := 20) (cA := cI) hx hb hE hS 1 0 rfl rfl (by omega) (by decide) dX7_isShared_93 ?_
          refine lv_iconst (v := (1 : Int32)) hx hb dX7_isShared_94 (by decide) ?_
          refine lv_icmp_eq (tgt := 102) hx hb dX7_isShared_95 (by decide) (fun h95 => ?_) (fun h95 => ?_)
          · skip
            exact J102  _ _ _ (by (try clear RET); (try clear hS); (try clear hl); (try clear hE); (try clear hts); (try clear hb); (try clear hx); (try clear hml); (try clear hown); (try clear hinX7); (try clear J49); (try clear J103); (try clear J102); (try clear J98); have y10 : ¬ (1 : Int32) = 0 := (by decide); first | assumption | (grind)) hS (lv_sub hl [1, 2, 3, 0] rfl)
          · skip
            exact J98  _ _ _ (by (try clear RET); (try clear hS); (try clear hl); (try clear hE); (try clear hts); (try clear hb); (try clear hx); (try clear hml); (try clear hown); (try clear hinX7); (try clear J49); (try clear J103); (try clear J102); (try clear J98); have y10 : ¬ (1 : Int32) = 0 := (by decide); first | assumption | (grind)) hS (lv_sub hl [1, 2, 3, 0] rfl)
  have J44 : ∀ (H : Heap) (locs : List Loc) (ls : Array Slot), (cx_se (T 2) M mm t) → cx_S D vwCl A s (cyW q cI cZ n T k M d (cx_u (cx_u Z 0 za_1) 3 (fun _ => kn_1)) F) H locs → lv_has ls 4 [(0, .ref (q 0)), (1, .int (nI mm)), (2, .int (nI t))] → W p l e ({ frames := 3, cells := 0, slots := 0, locals := 66 } : Room) s m args below meth c H locs 0 0 Q (F0 m 44 ls []) := by
    intro  H locs ls f44 hS hl
    refine lv_iconst (v := (1 : Int32)) hx hb dX7_isShared_44 (by decide) ?_
    refine lv_goto (tgt := 49) hx hb dX7_isShared_45 (by decide) ?_
    exact J49 (1 : Int32) _ _ _ (cx_e1 (by (try clear RET); (try clear hS); (try clear hl); (try clear hE); (try clear hts); (try clear hb); (try clear hx); (try clear hml); (try clear hown); (try clear hinX7); (try clear J49); (try clear J44); have y10 : ¬ (1 : Int32) = 0 := (by decide); first | assumption | (grind))) hS (lv_sub hl [0, 1, 2] rfl)
  refine lv_icmp_gt (tgt := 44) hx hb dX7_isShared_11 (by decide) (fun h11 => ?_) (fun h11 => ?_)
  · skip
    exact J44  _ _ _ (by (try clear RET); (try clear hS); (try clear hl); (try clear hE); (try clear hts); (try clear hb); (try clear hx); (try clear hml); (try clear hown); (try clear hinX7); (try clear J49); (try clear J44); have y10 : ¬ (1 : Int32) = 0 := (by decide); first | assumption | (grind)) hS (lv_sub hl [0, 1, 2] rfl)
  · skip
    refine lv_aload_n hx hb dX7_isShared_14 rfl (lv_at hl 0 rfl) ?_
    refine cx_get (own := RX7) (index := 46) (C := RX7) (T := TX7) (N := 22) (k := 14) (ci := 7) (v := .ref (q 13)) hx hb hts hown hE hS hinX7 0 rfl rfl (by decide) (List.mem_of_getElem? (i := 1) rfl) rfl dX7_isShared_15 ?_
    refine lv_iload_n hx hb dX7_isShared_18 rfl (lv_at hl 1 rfl) ?_
    refine cx_iald (f := (M 4)) (n := 80) (cA := cI) hx hb hE hS 13 0 rfl rfl (by omega) (by decide) dX7_isShared_19 ?_
    refine lv_iconst (v := (1 : Int32)) hx hb dX7_isShared_20 (by decide) ?_
    have J48 : ∀ (H : Heap) (locs : List Loc) (ls : Array Slot), (¬ (cx_se (T 2) M mm t)) → cx_S D vwCl A s (cyW q cI cZ n T k M d (cx_u (cx_u Z 0 za_1) 3 (fun _ => kn_1)) F) H locs → lv_has ls 4 [(0, .ref (q 0)), (1, .int (nI mm)), (2, .int (nI t))] → W p l e ({ frames := 3, cells := 0, slots := 0, locals := 66 } : Room) s m args below meth c H locs 0 0 Q (F0 m 48 ls []) := by
      intro  H locs ls f48 hS hl
      refine lv_iconst (v := (0 : Int32)) hx hb dX7_isShared_48 (by decide) ?_
      exact J49 (0 : Int32) _ _ _ (cx_e0 (by (try clear RET); (try clear hS); (try clear hl); (try clear hE); (try clear hts); (try clear hb); (try clear hx); (try clear hml); (try clear hown); (try clear hinX7); (try clear J49); (try clear J44); (try clear J48); have y10 : ¬ (1 : Int32) = 0 := (by decide); first | assumption | (grind))) hS (lv_sub hl [0, 1, 2] rfl)
    refine lv_icmp_ne (tgt := 48) hx hb dX7_isShared_21 (by decide) (fun h21 => ?_) (fun h21 => ?_)
    · skip
      exact J48  _ _ _ (by (try clear RET); (try clear hS); (try clear hl); (try clear hE); (try clear hts); (try clear hb); (try clear hx); (try clear hml); (try clear hown); (try clear hinX7); (try clear J49); (try clear J44); (try clear J48); have y10 : ¬ (1 : Int32) = 0 := (by decide); first | assumption | (grind)) hS (lv_sub hl [0, 1, 2] rfl)
    · skip
      refine lv_aload_n hx hb dX7_isShared_24 rfl (lv_at hl 0 rfl) ?_
      refine cx_get (own := RX7) (index := 16) (C := RX7) (T := TX7) (N := 22) (k := 3) (ci := 7) (v := .ref (q 3)) hx hb hts hown hE hS hinX7 0 rfl rfl (by decide) (List.mem_of_getElem? (i := 2) rfl) rfl dX7_isShared_25 ?_
      refine lv_aload_n hx hb dX7_isShared_28 rfl (lv_at hl 0 rfl) ?_
      refine cx_get (own := RX7) (index := 34) (C := RX7) (T := TX7) (N := 22) (k := 10) (ci := 7) (v := .ref (q 9)) hx hb hts hown hE hS hinX7 0 rfl rfl (by decide) (List.mem_of_getElem? (i := 3) rfl) rfl dX7_isShared_29 ?_
      refine lv_iload_n hx hb dX7_isShared_32 rfl (lv_at hl 1 rfl) ?_
      refine cx_iald (f := (M 0)) (n := 80) (cA := cI) hx hb hE hS 9 0 rfl rfl (by omega) (by decide) dX7_isShared_33 ?_
      have ho33 := (hO mm).2
      refine cx_topr (z := nI (((M 0) mm).toNatClampNeg)) (hO mm).1 ?_
      refine cx_iald (f := (T 2)) (n := 20) (cA := cI) hx hb hE hS 3 0 rfl rfl (by omega) (by decide) dX7_isShared_34 ?_
      refine lv_aload_n hx hb dX7_isShared_35 rfl (lv_at hl 0 rfl) ?_
      refine cx_get (own := RX7) (index := 16) (C := RX7) (T := TX7) (N := 22) (k := 3) (ci := 7) (v := .ref (q 3)) hx hb hts hown hE hS hinX7 0 rfl rfl (by decide) (List.mem_of_getElem? (i := 2) rfl) rfl dX7_isShared_36 ?_
      refine lv_iload_n hx hb dX7_isShared_39 rfl (lv_at hl 2 rfl) ?_
      refine cx_iald (f := (T 2)) (n := 20) (cA := cI) hx hb hE hS 3 0 rfl rfl (by omega) (by decide) dX7_isShared_40 ?_
      refine lv_icmp_ne (tgt := 48) hx hb dX7_isShared_41 (by decide) (fun h41 => ?_) (fun h41 => ?_)
      · skip
        exact J48  _ _ _ (by (try clear RET); (try clear hS); (try clear hl); (try clear hE); (try clear hts); (try clear hb); (try clear hx); (try clear hml); (try clear hown); (try clear hinX7); (try clear J49); (try clear J44); (try clear J48); have y10 : ¬ (1 : Int32) = 0 := (by decide); first | assumption | (grind)) hS (lv_sub hl [0, 1, 2] rfl)
      · skip
        exact J44  _ _ _ (by (try clear RET); (try clear hS); (try clear hl); (try clear hE); (try clear hts); (try clear hb); (try clear hx); (try clear hml); (try clear hown); (try clear hinX7); (try clear J49); (try clear J44); (try clear J48); have y10 : ¬ (1 : Int32) = 0 := (by decide); first | assumption | (grind)) hS (lv_sub hl [0, 1, 2] rfl)
